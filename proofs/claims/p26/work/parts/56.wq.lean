/-! p26: what holds of every state besides: who holds on holds a part, nobody lends to himself; every act keeps it -/
def WQ (s : zs) : Prop := (∀ a c : Int, 0 ≤ a ∧ a ≤ 5 → 0 ≤ c ∧ c ≤ 5 → s (36 + 6 * c + a).toNat = 1 → 1 ≤ s (6 * c + a).toNat) ∧ ∀ x : Int, 0 ≤ x → x < s 132 → s (136 + 5 * x + 1).toNat ≠ s (136 + 5 * x + 2).toNat
theorem WQ_give {B : Int} {s : zs} {x : Int} (h : WF B s) (q : WQ s) (hx : 0 ≤ x ∧ x < s 132) (hcan : sCan s x) : WQ (sGive s x) := by
  obtain ⟨c1, -, -, -⟩ := sGive_cnt h.l hx h.n
  have n2 := h.n.2.1
  obtain ⟨-, a1, a2, a3, a4⟩ := h.l x hx.1 hx.2
  refine ⟨fun a c ha hc e => ?_, fun y y0 y1 => ?_⟩
  · rw [sGive_off h.l hx n2 (by omega) (by omega)] at e
    have e2 := q.1 a c ha hc e
    rw [sGive_held h.l h.h h.s hx hcan ha hc]
    unfold lterm
    by_cases e3 : s (136 + 5 * x + 3).toNat = c
    · rw [if_pos e3]
      by_cases e4 : s (136 + 5 * x + 2).toNat = a
      · have e5 := hcan.2
        rw [e3, e4, e] at e5
        exact absurd e5 (by decide)
      · rw [if_neg e4]
        split <;> omega
    · rw [if_neg e3]
      omega
  · rw [c1] at y1
    rw [sGive_row h.l hx n2 y0 y1 (by omega), sGive_row h.l hx n2 y0 y1 (by omega)]
    exact q.2 _ (by split <;> omega) (by split <;> omega)
/-- what a loan given back keeps, gathering keeps -/
def gP (B : Int) (P : zs → Prop) : Prop := ∀ (s : zs) (x : Int), WF B s → 0 ≤ x ∧ x < s 132 → sCan s x → P s → P (sGive s x)
theorem gBack_P {B : Int} {P : zs → Prop} (g : gP B P) {s : zs} {x : Int} (h : WF B s) (hx : 0 ≤ x ∧ x < s 132) (hp : P s) : P (gBack s x) := by
  unfold gBack
  by_cases hc : sCan s x
  · rw [if_pos hc]
    exact g s x h hx hc hp
  · rw [if_neg hc]
    exact hp
theorem gOne_P {B : Int} {P : zs → Prop} (g : gP B P) {m : Nat} {a : Int} {call : zs → Int → zs} {s : zs} {x : Int} (h : WF B s) (hx : 0 ≤ x ∧ x < s 132) (ha : s (136 + 5 * x + 1).toNat = a) (hc : gCall B (m ||| 1 <<< a.toNat) call) (hcP : ∀ (s' : zs) (b : Int), WF B s' → 0 ≤ b ∧ b ≤ 5 → (m ||| 1 <<< a.toNat).testBit b.toNat = false → P s' → P (call s' b)) (hp : P s) : P (gOne call (m ||| 1 <<< a.toNat) s x) := by
  have key : ∀ s1 : zs, WF B s1 → gSub (m ||| 1 <<< a.toNat) s s1 → P s1 → P (gBack s1 (sPlace s1 (s (136 + 5 * x + 0).toNat))) := by
    intro s1 h1 hg hp1
    obtain ⟨b1, b2⟩ := gRow h1 hg hx (by rw [ha]; exact tb_or_self _ _)
    exact gBack_P g h1 b1 hp1
  unfold gOne
  obtain ⟨-, -, a2, -, -⟩ := h.l x hx.1 hx.2
  by_cases e : s (6 * s (136 + 5 * x + 3).toNat + s (136 + 5 * x + 2).toNat).toNat < s (136 + 5 * x + 4).toNat ∧ (m ||| 1 <<< a.toNat).testBit (s (136 + 5 * x + 2).toNat).toNat = false
  · simp only [if_pos e]
    obtain ⟨d1, d2⟩ := hc s _ h a2 e.2
    exact key _ d1 d2 (hcP s _ h a2 e.2 hp)
  · simp only [if_neg e]
    exact key s h (gSub.refl _ _) hp
theorem gIn_P {B : Int} {P : zs → Prop} (g : gP B P) {m : Nat} {a c : Int} {call : zs → Int → zs} (hm : m.testBit a.toNat = false) (hc : gCall B (m ||| 1 <<< a.toNat) call) (hcP : ∀ (s' : zs) (b : Int), WF B s' → 0 ≤ b ∧ b ≤ 5 → (m ||| 1 <<< a.toNat).testBit b.toNat = false → P s' → P (call s' b)) : ∀ (n : Nat) (k : Int) (s : zs), WF B s → P s → P (gIn call (m ||| 1 <<< a.toNat) a c n k s) := by
  intro n
  induction n with
  | zero => intro k s _ hp; exact hp
  | succ n ih =>
    intro k s h hp
    unfold gIn
    by_cases e : sLatest s a c k = -5
    · rw [if_pos e]
      exact hp
    · rw [if_neg e]
      obtain ⟨b1, b2, b3, b4⟩ := sLatest_ok e h.n.1
      exact ih _ _ (gOne_ok h b1 b2 hm hc).1 (gOne_P g h b1 b2 hc hcP hp)
theorem gat_P {B c : Int} {P : zs → Prop} (g : gP B P) : ∀ (n m : Nat) (s : zs) (a : Int), WF B s → m.testBit a.toNat = false → P s → P (gat c n m s a) := by
  intro n
  induction n with
  | zero => intro m s a _ _ hp; exact hp
  | succ n ih =>
    intro m s a h hm hp
    exact gIn_P g hm (fun s' b h' _ hb' => gat_ok n _ s' b h' hb') (fun s' b h' _ hb' hp' => ih _ s' b h' hb' hp') 40 1000 s h hp
theorem WQ_gat {B : Int} {s : zs} {a c : Int} (h : WF B s) (q : WQ s) : WQ (gat c 6 0 s a) :=
  gat_P (B := B) (P := WQ) (fun s x h hx hc hp => WQ_give h hp hx hc) 6 0 s a h (Nat.zero_testBit _) q
theorem WQ_lend {B : Int} {s : zs} {a b c p : Int} (h : WF B s) (q : WQ s) (hn : s 132 < 40 ∧ s 133 < 1000) (ha : 0 ≤ a ∧ a ≤ 5) (hb : 0 ≤ b ∧ b ≤ 5) (hc : 0 ≤ c ∧ c ≤ 5) (hp : 1 ≤ p ∧ p ≤ 64) (hle : p ≤ s (6 * c + a).toNat) (hab : a ≠ b) (hho : s (36 + 6 * c + a).toNat ≠ 1) : WQ (sLend s a b c p) := by
  have n := h.n
  unfold WFn at n
  have hn1 : 0 ≤ s 132 ∧ s 132 < 40 := ⟨n.1, hn.1⟩
  obtain ⟨c1, c2⟩ := sLend_cnt (p := p) hn1 ⟨by omega, by omega⟩ ha hb hc
  obtain ⟨w0, w1, w2, w3, w4⟩ := sLend_new (p := p) hn1 ha hb hc
  refine ⟨fun a' c' ha' hc' e => ?_, fun y y0 y1 => ?_⟩
  · rw [sLend_off hn1 ha hb hc (by omega) (by omega)] at e
    have e2 := q.1 a' c' ha' hc' e
    rw [sLend_held hn1 h.h h.s ha hb hc hp hle ha' hc']
    by_cases e3 : c' = c
    · rw [if_pos e3]
      by_cases e4 : a' = a
      · rw [e3, e4] at e
        exact absurd e hho
      · rw [if_neg e4]
        split <;> omega
    · rw [if_neg e3]
      omega
  · rw [c1] at y1
    by_cases e : y = s 132
    · rw [e, w1, w2]
      exact hab
    · rw [sLend_row hn1 ha hb hc ⟨y0, by omega⟩ (by omega), sLend_row hn1 ha hb hc ⟨y0, by omega⟩ (by omega)]
      exact q.2 y y0 (by omega)
theorem WQ_of {s s' : zs} (q : WQ s) (hr : ∀ j : Nat, j < 72 ∨ (132 ≤ j ∧ j ≠ 134) → s' j = s j) : WQ s' := by
  refine ⟨fun a c ha hc e => ?_, fun x x0 x1 => ?_⟩
  · rw [hr (36 + 6 * c + a).toNat (by omega)] at e
    rw [hr (6 * c + a).toNat (by omega)]
    exact q.1 a c ha hc e
  · rw [hr 132 (by decide)] at x1
    rw [hr (136 + 5 * x + 1).toNat (by omega), hr (136 + 5 * x + 2).toNat (by omega)]
    exact q.2 x x0 x1
theorem WQ_hold {s : zs} {a c v : Int} (q : WQ s) (ha : 0 ≤ a ∧ a ≤ 5) (hc : 0 ≤ c ∧ c ≤ 5) (hv : v = 1 → 1 ≤ s (6 * c + a).toNat) : WQ (sHold s a c v) := by
  have off : ∀ j : Nat, j ≠ (36 + 6 * c + a).toNat → sHold s a c v j = s j := fun j hj => su_ne _ _ hj
  refine ⟨fun a' c' ha' hc' e => ?_, fun x x0 x1 => ?_⟩
  · rw [off (6 * c' + a').toNat (by omega)]
    by_cases k : (36 + 6 * c' + a').toNat = (36 + 6 * c + a).toNat
    · rw [k] at e
      unfold sHold at e
      rw [su_same] at e
      rw [show (6 * c' + a').toNat = (6 * c + a).toNat by omega]
      exact hv e
    · rw [off _ k] at e
      exact q.1 a' c' ha' hc' e
  · rw [off 132 (by omega)] at x1
    rw [off (136 + 5 * x + 1).toNat (by omega), off (136 + 5 * x + 2).toNat (by omega)]
    exact q.2 x x0 x1
theorem WQ_owner {B : Int} {s : zs} {c t : Int} (h : WF B s) (q : WQ s) (hc : 0 ≤ c ∧ c ≤ 5) (ht : 0 ≤ t ∧ t ≤ 5) (hn : sCnt s c (s 132).toNat = 0) (hho : s (36 + 6 * c + s (126 + c).toNat).toNat ≠ 1) : WQ (sOwner s c t) := by
  have ho := (h.v c hc).2.2
  have off : ∀ j : Nat, 36 ≤ j → j ≠ (126 + c).toNat → sOwner s c t j = s j := by
    intro j h1 h2
    unfold sOwner
    rw [su_ne _ _ (by omega), su_ne _ _ (by omega), su_ne _ _ h2]
  refine ⟨fun a' c' ha' hc' e => ?_, fun x x0 x1 => ?_⟩
  · rw [off _ (by omega) (by omega)] at e
    have e2 := q.1 a' c' ha' hc' e
    rw [sOwner_held (a := 0) h hc ht hn ha' hc']
    by_cases e3 : c' = c
    · rw [if_pos e3]
      rw [e3, held_alone h ha' hc hn] at e2
      by_cases e4 : s (126 + c).toNat = a'
      · rw [e3, ← e4] at e
        exact absurd e hho
      · rw [if_neg e4] at e2
        exact absurd e2 (by decide)
    · rw [if_neg e3]
      exact e2
  · rw [off 132 (by omega) (by omega)] at x1
    rw [off (136 + 5 * x + 1).toNat (by omega) (by omega), off (136 + 5 * x + 2).toNat (by omega) (by omega)]
    exact q.2 x x0 x1
