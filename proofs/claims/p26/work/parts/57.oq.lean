/-! p26: what every act answers and leaves -/
def oQ (s : zs) (op : Int × zs) : Prop := -5 ≤ op.1 ∧ WQ op.2 ∧ ∀ c : Int, 0 ≤ c ∧ c ≤ 5 → op.2 (120 + c).toNat = s (120 + c).toNat
theorem oQ_err {s : zs} {e : Int} (q : WQ s) (he : -5 ≤ e) : oQ s (e, s) := ⟨he, q, fun _ _ => rfl⟩
theorem sFault_ge (s : zs) (a b c p : Int) : -5 ≤ sFault s a b c p := by
  unfold sFault
  repeat' split
  all_goals decide
theorem oQ_lend {B : Int} {s : zs} {a b c p : Int} (h : WF B s) (q : WQ s) : oQ s (opLend s a b c p) := by
  unfold opLend
  by_cases k : sFault s a b c p < 0
  · rw [if_pos k]
    exact oQ_err q (sFault_ge s a b c p)
  · rw [if_neg k]
    obtain ⟨c1, c2, c3, c4, c5, c6, c7, c8, c9⟩ := sFault_ok k
    have n := h.n
    unfold WFn at n
    exact ⟨by show -5 ≤ s 133; omega, WQ_lend h q (by omega) c1 c2 c3 c4 c6 c5 c7, fun c' hc' => sLend_off (by omega) c1 c2 c3 (by omega) (by omega)⟩
theorem oQ_half {B : Int} {s : zs} {a b c : Int} (h : WF B s) (q : WQ s) : oQ s (opHalf s a b c) := by
  unfold opHalf
  by_cases c1 : 0 ≤ a ∧ a ≤ 5
  · rw [if_neg (fun q => q c1)]
    by_cases c2 : 0 ≤ b ∧ b ≤ 5
    · rw [if_neg (fun q => q c2)]
      by_cases c3 : 0 ≤ c ∧ c ≤ 5
      · rw [if_neg (fun q => q c3)]
        have hb := sHalf_bd h c1 c3
        have n := h.n
        unfold WFn at n
        by_cases c4 : a = b
        · rw [if_pos c4]; exact oQ_err q (by decide)
        · rw [if_neg c4]
          by_cases c5 : sHalf s a c < 1
          · rw [if_pos c5]; exact oQ_err q (by decide)
          · rw [if_neg c5]
            by_cases c6 : s (36 + 6 * c + a).toNat = 1
            · rw [if_pos c6]; exact oQ_err q (by decide)
            · rw [if_neg c6]
              by_cases c7 : s 132 = 40 ∨ s 133 = 1000
              · rw [if_pos c7]; exact oQ_err q (by decide)
              · rw [if_neg c7]
                exact ⟨by show -5 ≤ sHalf s a c; omega, WQ_lend h q (by omega) c1 c2 c3 (by omega) hb.2.2 c4 c6, fun c' hc' => sLend_off (by omega) c1 c2 c3 (by omega) (by omega)⟩
      · rw [if_pos c3]; exact oQ_err q (by decide)
    · rw [if_pos c2]; exact oQ_err q (by decide)
  · rw [if_pos c1]; exact oQ_err q (by decide)
theorem oQ_give {B : Int} {s : zs} {n : Int} (h : WF B s) (q : WQ s) : oQ s (opGive s n) := by
  unfold opGive
  by_cases c1 : sPlace s n = -5
  · rw [if_pos c1]; exact oQ_err q (by decide)
  · rw [if_neg c1]
    by_cases c2 : sCan s (sPlace s n)
    · rw [if_pos c2]
      have hx := sPlace_ok c1 h.n.1
      obtain ⟨-, a1, a2, a3, a4⟩ := h.l _ hx.1 hx.2
      have w := (WF_give h hx c2).h _ _ a1 a3
      refine ⟨?_, WQ_give h q hx c2, fun c' hc' => sGive_off h.l hx h.n.2.1 (by omega) (by omega)⟩
      show -5 ≤ sGive s (sPlace s n) (6 * s (136 + 5 * sPlace s n + 3).toNat + s (136 + 5 * sPlace s n + 1).toNat).toNat
      omega
    · rw [if_neg c2]; exact oQ_err q (by decide)
theorem oQ_gather {B : Int} {s : zs} {a c : Int} (h : WF B s) (q : WQ s) : oQ s (opGather s a c) := by
  unfold opGather
  by_cases c1 : 0 ≤ a ∧ a ≤ 5
  · rw [if_neg (fun q => q c1)]
    by_cases c2 : 0 ≤ c ∧ c ≤ 5
    · rw [if_neg (fun q => q c2)]
      obtain ⟨g1, g2⟩ := gat_ok (B := B) (c := c) 6 0 s a h (Nat.zero_testBit _)
      by_cases c3 : gat c 6 0 s a 135 = s 135
      · rw [if_pos c3]; exact oQ_err q (by decide)
      · rw [if_neg c3]
        have w := (g1.h a c c1 c2).1
        refine ⟨?_, WQ_gat h q, fun c' hc' => g2.2.2.2.1 _ (by omega) (by omega)⟩
        show -5 ≤ gat c 6 0 s a (6 * c + a).toNat
        omega
    · rw [if_pos c2]; exact oQ_err q (by decide)
  · rw [if_pos c1]; exact oQ_err q (by decide)
theorem oQ_hold {B : Int} {s : zs} {a c v : Int} (h : WF B s) (q : WQ s) : oQ s (opHold s a c v) := by
  unfold opHold
  by_cases c1 : (0 ≤ a ∧ a ≤ 5) ∧ 0 ≤ c ∧ c ≤ 5
  · rw [if_neg (fun q => q c1)]
    by_cases c2 : v = 1 ∧ s (6 * c + a).toNat = 0
    · rw [if_pos c2]; exact oQ_err q (by decide)
    · rw [if_neg c2]
      by_cases c3 : s (36 + 6 * c + a).toNat = v
      · rw [if_pos c3]; exact oQ_err q (by decide)
      · rw [if_neg c3]
        have w := (h.v c c1.2).1
        have w2 := (h.h a c c1.1 c1.2).1
        refine ⟨?_, WQ_hold q c1.1 c1.2 (fun e => ?_), fun c' hc' => su_ne _ _ (by omega)⟩
        · show -5 ≤ s (114 + c).toNat
          omega
        · have : ¬ s (6 * c + a).toNat = 0 := fun z => c2 ⟨e, z⟩
          omega
  · rw [if_pos c1]; exact oQ_err q (by decide)
theorem oQ_claim {B : Int} {s : zs} {a c v : Int} (h : WF B s) (q : WQ s) : oQ s (opClaim s a c v) := by
  unfold opClaim
  by_cases c1 : (0 ≤ a ∧ a ≤ 5) ∧ 0 ≤ c ∧ c ≤ 5
  · rw [if_neg (fun q => q c1)]
    have hn := (h.c c c1.2).1
    by_cases c2 : v = (if sPlC s a c = -5 then 0 else 1)
    · rw [if_pos c2]; exact oQ_err q (by decide)
    · rw [if_neg c2]
      by_cases c3 : v = 0
      · rw [if_pos c3]
        by_cases c4 : sPlC s a c = -5
        · rw [if_pos c4] at c2; exact absurd c3 c2
        · have p := sPlC_in c4
          have off : ∀ j : Nat, j < 72 ∨ 114 ≤ j → sDrop s c (sPlC s a c) j = s j := fun j hj => sDrop_off c1.2 p.1 hn (by omega) (by omega)
          refine ⟨?_, WQ_of q (fun j hj => off j (by omega)), fun c' hc' => off _ (by omega)⟩
          show -5 ≤ s (108 + c).toNat - 1
          omega
      · rw [if_neg c3]
        have off : ∀ j : Nat, j < 72 ∨ 114 ≤ j → s (108 + c).toNat ≤ 5 → sClaim s a c j = s j := by
          intro j hj h5
          unfold sClaim sAdd
          rw [su_ne _ _ (by omega), su_ne _ _ (by omega)]
        have off2 : ∀ j : Nat, j < 72 ∨ 114 ≤ j → sClaim s a c j = s j := by
          intro j hj
          unfold sClaim sAdd
          rw [su_ne _ _ (by omega), su_ne _ _ (by omega)]
        refine ⟨?_, WQ_of q (fun j hj => off2 j (by omega)), fun c' hc' => off2 _ (by omega)⟩
        show -5 ≤ s (108 + c).toNat + 1
        omega
  · rw [if_pos c1]; exact oQ_err q (by decide)
theorem oQ_hand {B : Int} {s : zs} {c t : Int} (h : WF B s) (q : WQ s) : oQ s (opHand s c t) := by
  unfold opHand
  by_cases c1 : 0 ≤ c ∧ c ≤ 5
  · rw [if_neg (fun q => q c1)]
    by_cases c2 : 0 ≤ t ∧ t ≤ 5
    · rw [if_neg (fun q => q c2)]
      have p := sCnt_pos (s := s) (c := c) (s 132).toNat
      have ho := (h.v c c1).2.2
      by_cases c3 : 0 < sCnt s c (s 132).toNat
      · rw [if_pos c3]; exact oQ_err q (by decide)
      · rw [if_neg c3]
        by_cases c4 : s (36 + 6 * c + s (126 + c).toNat).toNat = 1
        · rw [if_pos c4]; exact oQ_err q (by decide)
        · rw [if_neg c4]
          by_cases c5 : t = s (126 + c).toNat
          · rw [if_pos c5]; exact oQ_err q (by decide)
          · rw [if_neg c5]
            refine ⟨?_, WQ_owner h q c1 c2 (by omega) c4, fun c' hc' => ?_⟩
            · show -5 ≤ s (126 + c).toNat
              omega
            · show sOwner s c t (120 + c').toNat = _
              unfold sOwner
              rw [su_ne _ _ (by omega), su_ne _ _ (by omega), su_ne _ _ (by omega)]
    · rw [if_pos c2]; exact oQ_err q (by decide)
  · rw [if_pos c1]; exact oQ_err q (by decide)
theorem wQ_write {B : Int} {s : zs} {a c v : Int} (h : WF B s) (hB : B ≤ 100000) (q : WQ s) (hc : 0 ≤ c ∧ c ≤ 5) : -5 ≤ (opWrite s a c v).1 ∧ WQ (opWrite s a c v).2 ∧ (0 ≤ (opWrite s a c v).1 → (opWrite s a c v).2 (120 + c).toNat = s (120 + c).toNat + 1) := by
  have err : ∀ e : Int, -5 ≤ e → e < 0 → -5 ≤ (e, s).1 ∧ WQ (e, s).2 ∧ (0 ≤ (e, s).1 → (e, s).2 (120 + c).toNat = s (120 + c).toNat + 1) := fun e h1 h2 => ⟨h1, q, fun z => absurd (show 0 ≤ e from z) (by omega)⟩
  unfold opWrite
  by_cases c1 : (0 ≤ a ∧ a ≤ 5) ∧ 0 ≤ c ∧ c ≤ 5
  · rw [if_neg (fun q => q c1)]
    by_cases c2 : 0 ≤ v ∧ v ≤ 999
    · rw [if_neg (fun q => q c2)]
      by_cases c3 : s (6 * c + a).toNat < 64
      · rw [if_pos c3]; exact err _ (by decide) (by decide)
      · rw [if_neg c3]
        have hx := h.v c hc
        have e120 : sWrite s c v (120 + c).toNat = s (120 + c).toNat + 1 := by
          unfold sWrite sAdd
          rw [su_ne _ _ (by omega), su_same, su_ne _ _ (by omega), zwr_eq (by omega) (by omega)]
        refine ⟨?_, WQ_of q (fun j hj => ?_), fun _ => e120⟩
        · show -5 ≤ sWrite s c v (120 + c).toNat
          omega
        · show sWrite s c v j = s j
          unfold sWrite sAdd
          rw [su_ne _ _ (by omega), su_ne _ _ (by omega), su_ne _ _ (by omega)]
    · rw [if_pos c2]; exact err _ (by decide) (by decide)
  · rw [if_pos c1]; exact err _ (by decide) (by decide)
theorem oQ_serve {B : Int} {s : zs} {c : Int} (h : WF B s) (q : WQ s) : oQ s (opServe s c) := by
  unfold opServe
  by_cases c1 : 0 ≤ c ∧ c ≤ 5
  · simp only [if_neg (fun q : ¬ (0 ≤ c ∧ c ≤ 5) => q c1)]
    by_cases c2 : s (108 + c).toNat = 0
    · simp only [if_pos c2]; exact oQ_err q (by decide)
    · simp only [if_neg c2]
      have ho := (h.v c c1).2.2
      obtain ⟨g1, g2⟩ := gat_ok (B := B) (c := c) 6 0 s (s (126 + c).toNat) h (Nat.zero_testBit _)
      have gq := WQ_gat (c := c) (a := s (126 + c).toNat) h q
      generalize gat c 6 0 s (s (126 + c).toNat) = s1 at g1 g2 gq ⊢
      have e8 : s1 (108 + c).toNat = s (108 + c).toNat := g2.2.2.2.1 _ (by omega) (by omega)
      have e120 : ∀ c' : Int, 0 ≤ c' ∧ c' ≤ 5 → s1 (120 + c').toNat = s (120 + c').toNat := fun c' hc' => g2.2.2.2.1 _ (by omega) (by omega)
      have hc1 := g1.c c c1
      have hf := hc1.2.1 0 (by omega) (by omega)
      by_cases c3 : s1 (6 * c + s (126 + c).toNat).toNat = 64 ∧ s1 (36 + 6 * c + s (126 + c).toNat).toNat = 0
      · rw [if_neg (fun q => q c3)]
        by_cases c4 : s1 (72 + 6 * c + 0).toNat = s (126 + c).toNat
        · rw [if_pos c4]
          have off : ∀ j : Nat, j < 72 ∨ 114 ≤ j → sDrop s1 c 0 j = s1 j := fun j hj => sDrop_off c1 (by omega) hc1.1 (by omega) (by omega)
          refine ⟨?_, WQ_of gq (fun j hj => off j (by omega)), fun c' hc' => by rw [← e120 c' hc']; exact off _ (by omega)⟩
          show -5 ≤ s1 (72 + 6 * c + 0).toNat
          omega
        · rw [if_neg c4]
          by_cases c5 : s1 132 = 40 ∨ s1 133 = 1000
          · rw [if_pos c5]; exact oQ_err q (by decide)
          · rw [if_neg c5]
            have n := g1.n
            unfold WFn at n
            have w := WQ_lend (a := s (126 + c).toNat) (b := s1 (72 + 6 * c + 0).toNat) (c := c) (p := 64) g1 gq (by omega) ho hf c1 (by omega) (by omega) (fun z => c4 z.symm) (by omega)
            have l8 : sLend s1 (s (126 + c).toNat) (s1 (72 + 6 * c + 0).toNat) c 64 (108 + c).toNat = s1 (108 + c).toNat := sLend_off (by omega) ho hf c1 (by omega) (by omega)
            have off : ∀ j : Nat, j < 72 ∨ 114 ≤ j → sDrop (sLend s1 (s (126 + c).toNat) (s1 (72 + 6 * c + 0).toNat) c 64) c 0 j = sLend s1 (s (126 + c).toNat) (s1 (72 + 6 * c + 0).toNat) c 64 j := fun j hj => sDrop_off c1 (by omega) (by rw [l8]; exact hc1.1) (by omega) (by omega)
            refine ⟨?_, WQ_of w (fun j hj => off j (by omega)), fun c' hc' => ?_⟩
            · show -5 ≤ s1 (72 + 6 * c + 0).toNat
              omega
            · show sDrop (sLend s1 (s (126 + c).toNat) (s1 (72 + 6 * c + 0).toNat) c 64) c 0 (120 + c').toNat = _
              rw [off _ (by omega), ← e120 c' hc']
              exact sLend_off (by omega) ho hf c1 (by omega) (by omega)
      · rw [if_pos c3]
        by_cases c4 : s1 135 = s 135
        · rw [if_pos c4]; exact oQ_err q (by decide)
        · rw [if_neg c4]
          exact ⟨by show (-5 : Int) ≤ 9; decide, gq, e120⟩
  · simp only [if_pos c1]; exact oQ_err q (by decide)
/-- a claim that is served is the first, and has the whole -/
theorem serve_first {B : Int} {s : zs} {c : Int} (h : WF B s) (hc : 0 ≤ c ∧ c ≤ 5) : 0 ≤ (opServe s c).1 → (opServe s c).1 < 9 → s (108 + c).toNat ≠ 0 ∧ (opServe s c).1 = s (72 + 6 * c).toNat ∧ (0 ≤ (opServe s c).1 ∧ (opServe s c).1 ≤ 5) ∧ (opServe s c).2 (6 * c + (opServe s c).1).toNat = 64 := by
  unfold opServe
  simp only [if_neg (fun q : ¬ (0 ≤ c ∧ c ≤ 5) => q hc)]
  by_cases c2 : s (108 + c).toNat = 0
  · simp only [if_pos c2]; intro z; exact absurd z (by decide)
  · simp only [if_neg c2]
    have ho := (h.v c hc).2.2
    obtain ⟨g1, g2⟩ := gat_ok (B := B) (c := c) 6 0 s (s (126 + c).toNat) h (Nat.zero_testBit _)
    generalize gat c 6 0 s (s (126 + c).toNat) = s1 at g1 g2 ⊢
    have e8 : s1 (108 + c).toNat = s (108 + c).toNat := g2.2.2.2.1 _ (by omega) (by omega)
    have e72 : s1 (72 + 6 * c + 0).toNat = s (72 + 6 * c).toNat := by
      rw [g2.2.2.2.1 _ (by omega) (by omega)]
      congr 1
      omega
    have hc1 := g1.c c hc
    have hf := hc1.2.1 0 (by omega) (by omega)
    by_cases c3 : s1 (6 * c + s (126 + c).toNat).toNat = 64 ∧ s1 (36 + 6 * c + s (126 + c).toNat).toNat = 0
    · rw [if_neg (fun q => q c3)]
      by_cases c4 : s1 (72 + 6 * c + 0).toNat = s (126 + c).toNat
      · rw [if_pos c4]
        intro _ _
        refine ⟨c2, e72, hf, ?_⟩
        show sDrop s1 c 0 (6 * c + s1 (72 + 6 * c + 0).toNat).toNat = 64
        rw [sDrop_off hc (by omega) hc1.1 (by omega) (by omega), c4]
        exact c3.1
      · rw [if_neg c4]
        by_cases c5 : s1 132 = 40 ∨ s1 133 = 1000
        · rw [if_pos c5]; intro z; exact absurd (show (0 : Int) ≤ -3 from z) (by decide)
        · rw [if_neg c5]
          intro _ _
          have n := g1.n
          unfold WFn at n
          have l8 : sLend s1 (s (126 + c).toNat) (s1 (72 + 6 * c + 0).toNat) c 64 (108 + c).toNat = s1 (108 + c).toNat := sLend_off (by omega) ho hf hc (by omega) (by omega)
          have w := WF_lend (a := s (126 + c).toNat) (b := s1 (72 + 6 * c + 0).toNat) (c := c) (p := 64) g1 (by omega) ho hf hc (by omega) (by omega)
          have w2 := WF_held w.h w.s hf hc
          have w3 := sLend_held (a := s (126 + c).toNat) (b := s1 (72 + 6 * c + 0).toNat) (c := c) (p := 64) (by omega) g1.h g1.s ho hf hc (by omega) (by omega) hf hc
          rw [if_pos rfl, if_pos rfl, if_neg c4] at w3
          have w4 := (g1.h _ _ hf hc).1
          refine ⟨c2, e72, hf, ?_⟩
          show sDrop (sLend s1 (s (126 + c).toNat) (s1 (72 + 6 * c + 0).toNat) c 64) c 0 (6 * c + s1 (72 + 6 * c + 0).toNat).toNat = 64
          rw [sDrop_off hc (by omega) (by rw [l8]; exact hc1.1) (by omega) (by omega)]
          omega
    · rw [if_pos c3]
      by_cases c4 : s1 135 = s 135
      · rw [if_pos c4]; intro z; exact absurd (show (0 : Int) ≤ -5 from z) (by decide)
      · rw [if_neg c4]; intro _ z; exact absurd (show (9 : Int) < 9 from z) (by decide)
