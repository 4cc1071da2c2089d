/-! gathering keeps a state well-formed, takes no loan away that another one gathers; the fuel is enough -/
theorem tb_or (m a i : Nat) : (m ||| 1 <<< a).testBit i = (m.testBit i || decide (a = i)) := by
  rw [Nat.testBit_or, Nat.one_shiftLeft, Nat.testBit_two_pow]
theorem tb_or_self (m a : Nat) : (m ||| 1 <<< a).testBit a = true := by
  rw [tb_or, decide_eq_true rfl, Bool.or_true]
theorem tb_or_of {m a i : Nat} (h : m.testBit i = true) : (m ||| 1 <<< a).testBit i = true := by
  rw [tb_or, h, Bool.true_or]
def pc6 (m : Nat) : Nat := (m.testBit 0).toNat + (m.testBit 1).toNat + (m.testBit 2).toNat + (m.testBit 3).toNat + (m.testBit 4).toNat + (m.testBit 5).toNat
theorem pc6_or : ∀ m, m < 64 → ∀ a, a < 6 → m.testBit a = false → pc6 (m ||| 1 <<< a) = pc6 m + 1 ∧ m ||| 1 <<< a < 64 := by decide +kernel
theorem pc6_full : ∀ m, m < 64 → pc6 m = 6 → ∀ a, a < 6 → m.testBit a = true := by decide +kernel
theorem pc6_le : ∀ m, m < 64 → pc6 m ≤ 6 := by decide +kernel
/-- what a gathering of the borrower must keep -/
def gCall (B : Int) (M : Nat) (call : zs → Int → zs) : Prop := ∀ (s : zs) (b : Int), WF B s → 0 ≤ b ∧ b ≤ 5 → M.testBit b.toNat = false → WF B (call s b) ∧ gSub M s (call s b)
theorem gBack_ok {B : Int} {m : Nat} {s : zs} {x : Int} (h : WF B s) (hx : 0 ≤ x ∧ x < s 132) (hm : m.testBit (s (136 + 5 * x + 1).toNat).toNat = false) : WF B (gBack s x) ∧ gSub m s (gBack s x) := by
  unfold gBack
  by_cases hc : sCan s x
  · rw [if_pos hc]
    exact ⟨WF_give h hx hc, gSub_give h hx hm⟩
  · rw [if_neg hc]
    exact ⟨h, gSub.refl m s⟩
/-- the row of the loan x behind the borrower's gathering -/
theorem gRow {B : Int} {M : Nat} {s s1 : zs} {x : Int} (h1 : WF B s1) (hg : gSub M s s1) (hx : 0 ≤ x ∧ x < s 132) (hm : M.testBit (s (136 + 5 * x + 1).toNat).toNat = true) : (0 ≤ sPlace s1 (s (136 + 5 * x + 0).toNat) ∧ sPlace s1 (s (136 + 5 * x + 0).toNat) < s1 132) ∧ ∀ w : Int, 0 ≤ w ∧ w ≤ 4 → s1 (136 + 5 * sPlace s1 (s (136 + 5 * x + 0).toNat) + w).toNat = s (136 + 5 * x + w).toNat := by
  obtain ⟨y, a1, a2, a3⟩ := hg.2.2.2.2.2 x hx.1 hx.2 hm
  have e := sPlc_of h1.o ⟨a1, a2⟩
  rw [a3 0 (by omega)] at e
  rw [e]
  exact ⟨⟨a1, a2⟩, a3⟩
theorem gOne_ok {B : Int} {m : Nat} {a : Int} {call : zs → Int → zs} {s : zs} {x : Int} (h : WF B s) (hx : 0 ≤ x ∧ x < s 132) (ha : s (136 + 5 * x + 1).toNat = a) (hm : m.testBit a.toNat = false) (hc : gCall B (m ||| 1 <<< a.toNat) call) : WF B (gOne call (m ||| 1 <<< a.toNat) s x) ∧ gSub m s (gOne call (m ||| 1 <<< a.toNat) s x) := by
  have key : ∀ s1 : zs, WF B s1 → gSub (m ||| 1 <<< a.toNat) s s1 → WF B (gBack s1 (sPlace s1 (s (136 + 5 * x + 0).toNat))) ∧ gSub m s (gBack s1 (sPlace s1 (s (136 + 5 * x + 0).toNat))) := by
    intro s1 h1 hg
    obtain ⟨b1, b2⟩ := gRow h1 hg hx (by rw [ha]; exact tb_or_self _ _)
    obtain ⟨c1, c2⟩ := gBack_ok (m := m) h1 b1 (by rw [b2 1 (by omega), ha]; exact hm)
    exact ⟨c1, (hg.less (fun i q => tb_or_of q)).trans c2⟩
  unfold gOne
  obtain ⟨-, -, a2, -, -⟩ := h.l x hx.1 hx.2
  by_cases e : s (6 * s (136 + 5 * x + 3).toNat + s (136 + 5 * x + 2).toNat).toNat < s (136 + 5 * x + 4).toNat ∧ (m ||| 1 <<< a.toNat).testBit (s (136 + 5 * x + 2).toNat).toNat = false
  · simp only [if_pos e]
    obtain ⟨d1, d2⟩ := hc s _ h a2 e.2
    exact key _ d1 d2
  · simp only [if_neg e]
    exact key s h (gSub.refl _ _)
theorem sLatest_ok {s : zs} {a c k : Int} (h : sLatest s a c k ≠ -5) (hn : 0 ≤ s 132) : (0 ≤ sLatest s a c k ∧ sLatest s a c k < s 132) ∧ s (136 + 5 * sLatest s a c k + 1).toNat = a ∧ s (136 + 5 * sLatest s a c k + 3).toNat = c ∧ s (136 + 5 * sLatest s a c k + 0).toNat < k := by
  rcases sLat_le (s := s) (a := a) (c := c) (k := k) (s 132).toNat with q | ⟨q1, q2, q3, q4, q5⟩
  · exact absurd q h
  · exact ⟨⟨q1, by unfold sLatest; omega⟩, q3, q4, q5⟩
theorem gIn_ok {B : Int} {m : Nat} {a c : Int} {call : zs → Int → zs} (hm : m.testBit a.toNat = false) (hc : gCall B (m ||| 1 <<< a.toNat) call) : ∀ (n : Nat) (k : Int) (s : zs), WF B s → WF B (gIn call (m ||| 1 <<< a.toNat) a c n k s) ∧ gSub m s (gIn call (m ||| 1 <<< a.toNat) a c n k s) := by
  intro n
  induction n with
  | zero => intro k s h; exact ⟨h, gSub.refl _ _⟩
  | succ n ih =>
    intro k s h
    unfold gIn
    by_cases e : sLatest s a c k = -5
    · rw [if_pos e]
      exact ⟨h, gSub.refl _ _⟩
    · rw [if_neg e]
      obtain ⟨b1, b2, b3, b4⟩ := sLatest_ok e h.n.1
      obtain ⟨c1, c2⟩ := gOne_ok h b1 b2 hm hc
      obtain ⟨d1, d2⟩ := ih (s (136 + 5 * sLatest s a c k + 0).toNat) _ c1
      exact ⟨d1, c2.trans d2⟩
theorem gat_ok {B : Int} {c : Int} : ∀ (n m : Nat) (s : zs) (a : Int), WF B s → m.testBit a.toNat = false → WF B (gat c n m s a) ∧ gSub m s (gat c n m s a) := by
  intro n
  induction n with
  | zero => intro m s a h _; exact ⟨h, gSub.refl _ _⟩
  | succ n ih =>
    intro m s a h hm
    exact gIn_ok hm (fun s' b h' _ hb' => ih _ s' b h' hb') 40 1000 s h
theorem gat_call {B : Int} {c : Int} (n m : Nat) : gCall B m (fun s' b => gat c n m s' b) := fun s' b h' _ hb' => gat_ok n m s' b h' hb'
/-- every row with a number below k lies below j -/
def gLim (s : zs) (k j : Int) : Prop := ∀ x : Int, 0 ≤ x → x < s 132 → s (136 + 5 * x + 0).toNat < k → x < j
theorem gLim_next {B : Int} {m : Nat} {s s' : zs} {x : Int} (h : WF B s) (hx : 0 ≤ x ∧ x < s 132) (hg : gSub m s s') : gLim s' (s (136 + 5 * x + 0).toNat) x := by
  intro y hy0 hy1 hy2
  obtain ⟨z, a1, a2, a3⟩ := hg.2.2.2.2.1 y hy0 hy1
  rw [a3 0 (by omega)] at hy2
  have := (mono_le (f := fun z => s (136 + 5 * z + 0).toNat) (n := s 132) h.o (by omega : (0 : Int) ≤ z) a2 hx.1 hx.2).mp hy2
  omega
theorem gLim_none {s : zs} {a c k : Int} (hn : 0 ≤ s 132) (h : gLim s k 0) : sLatest s a c k = -5 := by
  by_cases e : sLatest s a c k = -5
  · exact e
  · obtain ⟨b1, b2, b3, b4⟩ := sLatest_ok e hn
    have := h _ b1.1 b1.2 b4
    omega
/-- more fuel changes nothing -/
theorem gIn_fuel {B : Int} {m : Nat} {a c : Int} {call : zs → Int → zs} (hm : m.testBit a.toNat = false) (hc : gCall B (m ||| 1 <<< a.toNat) call) : ∀ (n n' : Nat) (k : Int) (s : zs), WF B s → gLim s k n → n ≤ n' → gIn call (m ||| 1 <<< a.toNat) a c n' k s = gIn call (m ||| 1 <<< a.toNat) a c n k s := by
  intro n
  induction n with
  | zero =>
    intro n' k s h hl _
    cases n' with
    | zero => rfl
    | succ n' => unfold gIn; rw [if_pos (gLim_none h.n.1 hl)]
  | succ n ih =>
    intro n' k s h hl hn
    obtain ⟨n2, e2⟩ : ∃ n2, n' = n2 + 1 := ⟨n' - 1, by omega⟩
    rw [e2]
    unfold gIn
    by_cases e : sLatest s a c k = -5
    · rw [if_pos e, if_pos e]
    · rw [if_neg e, if_neg e]
      obtain ⟨b1, b2, b3, b4⟩ := sLatest_ok e h.n.1
      obtain ⟨c1, c2⟩ := gOne_ok h b1 b2 hm hc
      have hlim := gLim_next h b1 c2
      have hj := hl _ b1.1 b1.2 b4
      refine ih n2 _ _ c1 (fun x h0 h1 h2 => ?_) (by omega)
      have := hlim x h0 h1 h2
      omega
theorem gIn_le {B : Int} {m : Nat} {a c : Int} {call : zs → Int → zs} (hm : m.testBit a.toNat = false) (hc : gCall B (m ||| 1 <<< a.toNat) call) {n n' : Nat} {k : Int} {s : zs} (h : WF B s) (hl : gLim s k n) (hl' : gLim s k n') : gIn call (m ||| 1 <<< a.toNat) a c n' k s = gIn call (m ||| 1 <<< a.toNat) a c n k s := by
  rcases Nat.le_total n n' with q | q
  · exact gIn_fuel hm hc n n' k s h hl q
  · exact (gIn_fuel hm hc n' n k s h hl' q).symm
