/-! the reference's gathering: its stack against the recursion -/
def gFr (t : Nat) (h h' : zH) : Prop := (∀ i : Nat, i < t → h' 135 i = h 135 i ∧ h' 136 i = h 136 i ∧ h' 137 i = h 137 i) ∧ (∀ k : Nat, k ≠ 128 → k ≠ 129 → k ≠ 135 → k ≠ 136 → k ≠ 137 → h' k = h k) ∧ ∀ i : Nat, i ≠ 14 → h' 128 i = h 128 i
theorem gFr.trans {t : Nat} {h h1 h2 : zH} (a : gFr t h h1) (b : gFr t h1 h2) : gFr t h h2 := by
  refine ⟨fun i hi => ?_, fun k e1 e2 e3 e4 e5 => by rw [b.2.1 k e1 e2 e3 e4 e5, a.2.1 k e1 e2 e3 e4 e5], fun i hi => by rw [b.2.2 i hi, a.2.2 i hi]⟩
  obtain ⟨p1, p2, p3⟩ := a.1 i hi
  obtain ⟨q1, q2, q3⟩ := b.1 i hi
  exact ⟨by rw [q1, p1], by rw [q2, p2], by rw [q3, p3]⟩
theorem gFr.le {t t' : Nat} {h h' : zH} (a : gFr t h h') (ht : t' ≤ t) : gFr t' h h' := ⟨fun i hi => a.1 i (by omega), a.2⟩
theorem g161 {B : Int} {Post : Option zA → zH → Prop} {Γ : zCx} {h : zH} {v1 v2 v3 v5 v6 : Int} {t : Nat} (hW : WF B (h 129)) (hy : 0 ≤ v5 ∧ v5 < h 129 132) (ht : t ≤ 6)
    (K : ∀ h2 : zH, h2 129 = gBack (h 129) v5 → h2 136 t = h 129 (136 + 5 * v5 + 0).toNat → h2 137 t = 0 → h2 128 14 = h 128 14 → h2 135 = h 135 → gFr t h h2 → (fun (d : Nat) => zV RX7 cX7_gathers 9 (some .int) d Post Γ 19 [(0, zR 128), (1, zI v1), (2, zI v2), (3, zI v3)] [] h2) 3) : (fun (d : Nat) => zV RX7 cX7_gathers 9 (some .int) d Post Γ 161 [(0, zR 128), (1, zI v1), (2, zI v2), (3, zI v3), (4, zI (t : Int)), (5, zI v5), (6, zI v6)] [zI 0] h) 3 := by
  have n2 := hW.n.2.1
  obtain ⟨a0, a1, a2, a3, a4⟩ := hW.l v5 hy.1 hy.2
  refine k_X7_gathers_161 (by decide) ⟨by omega, by omega, by omega, by omega, by omega, ?_⟩
  rintro _ rfl
  refine ⟨by omega, by omega, Or.inl rfl, ?_⟩
  intro h10 e10
  have q129 : h10 129 = h 129 := by rw [e10, zu_nekr _ _ _ (by decide), zu_nekr _ _ _ (by decide)]
  have q136 : h10 136 t = h 129 (136 + 5 * v5 + 0).toNat := by rw [e10, zu_nek _ _ _ _ (by decide), Int.toNat_natCast, zu_same]
  have q137 : h10 137 t = 0 := by rw [e10, Int.toNat_natCast, zu_same]
  have q128 : h10 128 = h 128 := by rw [e10, zu_nekr _ _ _ (by decide), zu_nekr _ _ _ (by decide)]
  have q135 : h10 135 = h 135 := by rw [e10, zu_nekr _ _ _ (by decide), zu_nekr _ _ _ (by decide)]
  have qfr : gFr t h h10 := by
    refine ⟨fun i hi => ⟨by rw [q135], ?_, ?_⟩, fun k e1 e2 e3 e4 e5 => by rw [e10, zu_nekr _ _ _ e5, zu_nekr _ _ _ e4], fun i _ => by rw [q128]⟩
    · rw [e10, zu_nek _ _ _ _ (by decide), Int.toNat_natCast, zu_nej _ _ _ (by omega)]
    · rw [e10, Int.toNat_natCast, zu_nej _ _ _ (by omega), zu_nek _ _ _ _ (by decide)]
  refine ⟨fun _ => ?_, fun c => absurd rfl c⟩
  refine ⟨_, _, by decide, c_X7_canGive (h := h10) (a1 := v5) ⟨hy.1, by omega⟩ (by rw [q129]; exact a2) (by rw [q129]; exact a3), ?_⟩
  rintro _ _ ⟨⟨x, rfl, hx⟩, rfl⟩
  rw [q129] at hx
  refine ⟨_, rfl, fun c => ?_, fun c => ?_⟩
  · have hn : ¬ sCan (h 129) v5 := by
      rcases hx with ⟨-, z⟩ | ⟨z, -⟩
      · exact z
      · omega
    exact K h10 (by rw [q129]; unfold gBack; rw [if_neg hn]) q136 q137 (by rw [q128]) q135 qfr
  · have hn : sCan (h 129) v5 := by
      rcases hx with ⟨z, -⟩ | ⟨-, z⟩
      · omega
      · exact z
    refine ⟨_, _, by decide, c_X7_gives (h := h10) (a1 := v5) (by rw [q129]; exact hy) (by rw [q129]; exact n2) (by rw [q129]; exact a1) (by rw [q129]; exact a2) (by rw [q129]; exact a3), ?_⟩
    rintro _ _ ⟨rfl, rfl⟩
    refine ⟨_, rfl, ?_⟩
    refine K _ (by rw [zrow_get, q129]; unfold gBack; rw [if_pos hn]) (by rw [zrow_ne _ _ (by decide)]; exact q136) (by rw [zrow_ne _ _ (by decide)]; exact q137) (by rw [zrow_ne _ _ (by decide), q128]) (by rw [zrow_ne _ _ (by decide)]; exact q135) (qfr.trans ⟨fun i hi => ⟨by rw [zrow_ne _ _ (by decide)], by rw [zrow_ne _ _ (by decide)], by rw [zrow_ne _ _ (by decide)]⟩, fun k e1 e2 e3 e4 e5 => zrow_ne _ _ e2, fun i _ => by rw [zrow_ne _ _ (by decide)]⟩)
/-- the mask is the stack's agents -/
def gMask (h : zH) (m t : Nat) : Prop := m < 64 ∧ pc6 m = t ∧ ∀ b : Int, 0 ≤ b ∧ b ≤ 5 → (m.testBit b.toNat = true ↔ ∃ i : Nat, i < t ∧ h 135 i = b)
theorem gMask_push {h : zH} {m t : Nat} {a : Int} (hM : gMask h m t) (ha : 0 ≤ a ∧ a ≤ 5) (hm : m.testBit a.toNat = false) (ht : h 135 t = a) : gMask h (m ||| 1 <<< a.toNat) (t + 1) := by
  obtain ⟨m1, m2, m3⟩ := hM
  obtain ⟨p1, p2⟩ := pc6_or m m1 a.toNat (by omega) hm
  refine ⟨p2, by rw [p1, m2], fun b hb => ?_⟩
  rw [tb_or, Bool.or_eq_true, decide_eq_true_eq, m3 b hb]
  constructor
  · rintro (⟨i, h1, h2⟩ | e)
    · exact ⟨i, by omega, h2⟩
    · exact ⟨t, by omega, by rw [ht]; omega⟩
  · rintro ⟨i, h1, h2⟩
    by_cases e : i = t
    · rw [e, ht] at h2
      exact Or.inr (by rw [h2])
    · exact Or.inl ⟨i, by omega, h2⟩
theorem gF {B c : Int} {Post : Option zA → zH → Prop} {Γ : zCx} {v1 v3 : Int} (hc : 0 ≤ c ∧ c ≤ 5) : ∀ (n j t : Nat) (h : zH) (m : Nat) (a : Int), n + t = 5 → WF B (h 129) → h 128 14 = (t : Int) + 1 → gMask h m t → h 135 t = a → 0 ≤ a ∧ a ≤ 5 → m.testBit a.toNat = false → h 137 t = 0 → gLim (h 129) (h 136 t) j →
    (∀ h' : zH, WF B (h' 129) → h' 129 = gIn (fun s' b => gat c n (m ||| 1 <<< a.toNat) s' b) (m ||| 1 <<< a.toNat) a c j (h 136 t) (h 129) → h' 128 14 = (t : Int) → gFr t h h' → (fun (d : Nat) => zV RX7 cX7_gathers 9 (some .int) d Post Γ 19 [(0, zR 128), (1, zI v1), (2, zI c), (3, zI v3)] [] h') 3) → (fun (d : Nat) => zV RX7 cX7_gathers 9 (some .int) d Post Γ 19 [(0, zR 128), (1, zI v1), (2, zI c), (3, zI v3)] [] h) 3 := by
  intro n
  induction n using Nat.strongRecOn with
  | _ n ihn =>
  intro j
  -- the end of a frame
  have hend : ∀ (t : Nat) (h : zH) (m : Nat) (a : Int) (j : Nat), n + t = 5 → WF B (h 129) → h 128 14 = (t : Int) + 1 → h 135 t = a → h 137 t = 0 → sLatest (h 129) a c (h 136 t) = -5 → (∀ h' : zH, WF B (h' 129) → h' 129 = gIn (fun s' b => gat c n (m ||| 1 <<< a.toNat) s' b) (m ||| 1 <<< a.toNat) a c j (h 136 t) (h 129) → h' 128 14 = (t : Int) → gFr t h h' → (fun (d : Nat) => zV RX7 cX7_gathers 9 (some .int) d Post Γ 19 [(0, zR 128), (1, zI v1), (2, zI c), (3, zI v3)] [] h') 3) → (fun (d : Nat) => zV RX7 cX7_gathers 9 (some .int) d Post Γ 19 [(0, zR 128), (1, zI v1), (2, zI c), (3, zI v3)] [] h) 3 := by
    intro t h m a j hnt hW hdeep ha hw e K
    refine k_X7_gathers_19 (by decide) ⟨fun c0 => by omega, fun c0 => ?_⟩
    intro x1 e1
    rw [hdeep, zwr_eq (by omega) (by omega)] at e1
    have e2 : x1 = (t : Int) := by omega
    rw [e2, Int.toNat_natCast]
    refine ⟨by omega, by omega, fun _ => ⟨by omega, by omega, by omega, by omega, ?_⟩, fun c1 => absurd hw c1⟩
    refine ⟨_, _, by decide, c_X7_latest ⟨hW.n.1, hW.n.2.1⟩, ?_⟩
    rintro _ _ ⟨rfl, rfl⟩
    refine ⟨_, rfl, ?_⟩
    rw [ha, e]
    refine k_X7_gathers_77 (by decide) ⟨fun c0 => absurd rfl c0, fun _ => ?_⟩
    intro h21 e21
    rw [hdeep, zwr_eq (by omega) (by omega)] at e21
    refine K h21 (by rw [e21, zu_nekr _ _ _ (by decide)]; exact hW) ?_ (by rw [e21, zu_same]; omega) ?_
    · rw [e21, zu_nekr _ _ _ (by decide)]
      cases j with
      | zero => rfl
      | succ j => unfold gIn; rw [if_pos e]
    · refine ⟨fun i hi => ?_, fun k e1 e2 e3 e4 e5 => by rw [e21, zu_nekr _ _ _ e1], fun i hi => by rw [e21, zu_nej _ _ _ hi]⟩
      rw [e21, zu_nekr _ _ _ (by decide), zu_nekr _ _ _ (by decide), zu_nekr _ _ _ (by decide)]
      exact ⟨rfl, rfl, rfl⟩
  induction j with
  | zero =>
    intro t h m a hnt hW hdeep hM ha hab hma hw hlim K
    exact hend t h m a 0 hnt hW hdeep ha hw (gLim_none hW.n.1 hlim) K
  | succ j ihj =>
    intro t h m a hnt hW hdeep hM ha hab hma hw hlim K
    by_cases e : sLatest (h 129) a c (h 136 t) = -5
    · exact hend t h m a (j + 1) hnt hW hdeep ha hw e K
    obtain ⟨x1, x2, x3, x4⟩ := sLatest_ok e hW.n.1
    have n2 := hW.n.2.1
    obtain ⟨a0, a1, a2, a3, a4⟩ := hW.l _ x1.1 x1.2
    have hM2 := gMask_push hM hab hma ha
    have hcall := gat_call (B := B) (c := c) n (m ||| 1 <<< a.toNat)
    have hg1 := gOne_ok hW x1 x2 hma hcall
    -- behind the loan
    have hnext : ∀ h2 : zH, h2 129 = gOne (fun s' b => gat c n (m ||| 1 <<< a.toNat) s' b) (m ||| 1 <<< a.toNat) (h 129) (sLatest (h 129) a c (h 136 t)) → h2 136 t = h 129 (136 + 5 * sLatest (h 129) a c (h 136 t) + 0).toNat → h2 137 t = 0 → h2 128 14 = (t : Int) + 1 → (∀ i : Nat, i ≤ t → h2 135 i = h 135 i) → gFr t h h2 → (fun (d : Nat) => zV RX7 cX7_gathers 9 (some .int) d Post Γ 19 [(0, zR 128), (1, zI v1), (2, zI c), (3, zI v3)] [] h2) 3 := by
      intro h2 p1 p2 p3 p4 p5 p6
      have hlt := hlim _ x1.1 x1.2 x4
      refine ihj t h2 m a hnt (by rw [p1]; exact hg1.1) p4 ⟨hM.1, hM.2.1, fun b hb => ?_⟩ (by rw [p5 t (by omega)]; exact ha) hab hma p3 ?_ ?_
      · rw [hM.2.2 b hb]
        constructor
        · rintro ⟨i, q1, q2⟩
          exact ⟨i, q1, by rw [p5 i (by omega)]; exact q2⟩
        · rintro ⟨i, q1, q2⟩
          exact ⟨i, q1, by rw [← p5 i (by omega)]; exact q2⟩
      · rw [p1, p2]
        intro y y0 y1 y2
        have := gLim_next hW x1 hg1.2 y y0 y1 y2
        omega
      · intro h' q1 q2 q3 q4
        refine K h' q1 ?_ q3 (p6.trans q4)
        rw [q2, p1, p2]
        conv => rhs; unfold gIn
        rw [if_neg e]
    refine k_X7_gathers_19 (by decide) ⟨fun c0 => by omega, fun c0 => ?_⟩
    intro z1 ez1
    rw [hdeep, zwr_eq (by omega) (by omega)] at ez1
    have ez2 : z1 = (t : Int) := by omega
    rw [ez2, Int.toNat_natCast]
    refine ⟨by omega, by omega, fun _ => ⟨by omega, by omega, by omega, by omega, ?_⟩, fun c1 => absurd hw c1⟩
    refine ⟨_, _, by decide, c_X7_latest ⟨hW.n.1, hW.n.2.1⟩, ?_⟩
    rintro _ _ ⟨rfl, rfl⟩
    refine ⟨_, rfl, ?_⟩
    rw [ha]
    -- not called: the loan is given back, if it can be
    have hno : ¬ (h 129 (6 * h 129 (136 + 5 * sLatest (h 129) a c (h 136 t) + 3).toNat + h 129 (136 + 5 * sLatest (h 129) a c (h 136 t) + 2).toNat).toNat < h 129 (136 + 5 * sLatest (h 129) a c (h 136 t) + 4).toNat ∧ (m ||| 1 <<< a.toNat).testBit (h 129 (136 + 5 * sLatest (h 129) a c (h 136 t) + 2).toNat).toNat = false) → (fun (d : Nat) => zV RX7 cX7_gathers 9 (some .int) d Post Γ 160 [(0, zR 128), (1, zI v1), (2, zI c), (3, zI v3), (4, zI (t : Int)), (5, zI (sLatest (h 129) a c (h 136 t))), (6, zI (h 129 (136 + 5 * sLatest (h 129) a c (h 136 t) + 2).toNat))] [] h) 3 := by
      intro hcn
      refine k_X7_gathers_160 (by decide) ?_
      refine g161 hW x1 (by omega) (fun h2 p1 p2 p3 p4 p5 p6 => ?_)
      refine hnext h2 ?_ p2 p3 (by rw [p4]; exact hdeep) (fun i _ => by rw [p5]) p6
      rw [p1]
      unfold gOne
      simp only [if_neg hcn]
      rw [sPlc_of hW.o x1]
    refine k_X7_gathers_77 (by decide) ⟨fun _ => ⟨by omega, by omega, by omega, ?_⟩, fun c1 => absurd c1 e⟩
    intro x5 e5
    rw [Int.toNat_natCast, e5]
    refine ⟨by omega, by omega, fun c1 => absurd hw c1, fun _ => ⟨a2, hc, by omega, by omega, by omega, by omega, by omega, fun c2 => ?_, fun c2 => ?_⟩⟩
    · refine hno (fun q => ?_)
      have := q.1
      rw [x3] at this
      omega
    · refine ⟨_, _, by decide, c_X7_isGathering (by rw [hdeep]; omega), ?_⟩
      rintro _ _ ⟨⟨x20, rfl, i1, i2⟩, rfl⟩
      refine ⟨_, rfl, fun c3 => ?_, fun c3 => ?_⟩
      · refine hno (fun q => ?_)
        obtain ⟨i, q1, q2⟩ := i2.mp (by omega)
        have := (hM2.2.2 _ a2).mpr ⟨i, by omega, q2⟩
        rw [q.2] at this
        cases this
      · have htb : (m ||| 1 <<< a.toNat).testBit (h 129 (136 + 5 * sLatest (h 129) a c (h 136 t) + 2).toNat).toNat = false := by
          rw [← Bool.not_eq_true]
          intro q
          obtain ⟨i, q1, q2⟩ := (hM2.2.2 _ a2).mp q
          have := i2.mpr ⟨i, by omega, q2⟩
          omega
        have hn1 : 1 ≤ n := by
          by_cases q : 1 ≤ n
          · exact q
          · have := pc6_full _ hM2.1 (by rw [hM2.2.1]; omega) (h 129 (136 + 5 * sLatest (h 129) a c (h 136 t) + 2).toNat).toNat (by omega)
            rw [htb] at this
            cases this
        obtain ⟨n1, en1⟩ : ∃ n1, n = n1 + 1 := ⟨n - 1, by omega⟩
        refine k_X7_gathers_161 (by decide) ⟨by omega, by omega, by omega, by omega, by omega, ?_⟩
        rw [Int.toNat_natCast]
        intro h6 e6
        refine ⟨by omega, by omega, Or.inr rfl, ?_⟩
        intro h10 e10
        have q129 : h10 129 = h 129 := by rw [e10, e6, zu_nekr _ _ _ (by decide), zu_nekr _ _ _ (by decide)]
        have q128 : h10 128 = h 128 := by rw [e10, e6, zu_nekr _ _ _ (by decide), zu_nekr _ _ _ (by decide)]
        have q135 : h10 135 = h 135 := by rw [e10, e6, zu_nekr _ _ _ (by decide), zu_nekr _ _ _ (by decide)]
        refine ⟨fun c4 => absurd c4 (by decide), fun _ => ?_⟩
        refine ⟨_, _, by decide, c_X7_enter (h := h10) (by rw [q128, hdeep]; omega), ?_⟩
        rintro _ h28 ⟨rfl, e28⟩
        rw [q128, hdeep, show ((t : Int) + 1).toNat = t + 1 by omega] at e28
        have r129 : h28 129 = h 129 := by rw [e28, zu_nekr _ _ _ (by decide), zu_nekr _ _ _ (by decide), zu_nekr _ _ _ (by decide), zu_nekr _ _ _ (by decide), q129]
        have r135 : ∀ i : Nat, i ≤ t → h28 135 i = h 135 i := fun i hi => by rw [e28, zu_nek _ _ _ _ (by decide), zu_nek _ _ _ _ (by decide), zu_nek _ _ _ _ (by decide), zu_nej _ _ _ (by omega), q135]
        have r136 : h28 136 t = h 129 (136 + 5 * sLatest (h 129) a c (h 136 t) + 0).toNat := by rw [e28, zu_nek _ _ _ _ (by decide), zu_nek _ _ _ _ (by decide), zu_nej _ _ _ (by omega), zu_nek _ _ _ _ (by decide), e10, zu_nek _ _ _ _ (by decide), e6, zu_same]
        have r137 : h28 137 t = 1 := by rw [e28, zu_nek _ _ _ _ (by decide), zu_nej _ _ _ (by omega), zu_nek _ _ _ _ (by decide), zu_nek _ _ _ _ (by decide), e10, zu_same]
        have rfr : gFr t h h28 := by
          refine ⟨fun i hi => ⟨r135 i (by omega), ?_, ?_⟩, fun k e1 e2 e3 e4 e5 => ?_, fun i hi => ?_⟩
          · rw [e28, zu_nek _ _ _ _ (by decide), zu_nek _ _ _ _ (by decide), zu_nej _ _ _ (by omega), zu_nek _ _ _ _ (by decide), e10, zu_nek _ _ _ _ (by decide), e6, zu_nej _ _ _ (by omega)]
          · rw [e28, zu_nek _ _ _ _ (by decide), zu_nej _ _ _ (by omega), zu_nek _ _ _ _ (by decide), zu_nek _ _ _ _ (by decide), e10, zu_nej _ _ _ (by omega), e6, zu_nek _ _ _ _ (by decide)]
          · rw [e28, zu_nekr _ _ _ e1, zu_nekr _ _ _ e5, zu_nekr _ _ _ e4, zu_nekr _ _ _ e3, e10, zu_nekr _ _ _ e5, e6, zu_nekr _ _ _ e4]
          · rw [e28, zu_nej _ _ _ hi, zu_nek _ _ _ _ (by decide), zu_nek _ _ _ _ (by decide), zu_nek _ _ _ _ (by decide), q128]
        have t136 : h28 136 (t + 1) = 1000 := by rw [e28, zu_nek _ _ _ _ (by decide), zu_nek _ _ _ _ (by decide), zu_same]
        refine ⟨rfl, ihn n1 (by omega) 40 (t + 1) h28 (m ||| 1 <<< a.toNat) (h 129 (136 + 5 * sLatest (h 129) a c (h 136 t) + 2).toNat) (by omega) (by rw [r129]; exact hW) (by rw [e28, zu_same]; omega) ⟨hM2.1, hM2.2.1, fun b hb => ?_⟩ (by rw [e28, zu_nek _ _ _ _ (by decide), zu_nek _ _ _ _ (by decide), zu_nek _ _ _ _ (by decide), zu_same]) a2 htb (by rw [e28, zu_nek _ _ _ _ (by decide), zu_same]) (fun y y0 y1 _ => by rw [r129] at y1; omega) ?_⟩
        · rw [hM2.2.2 b hb]
          constructor
          · rintro ⟨i, z1, z2⟩
            exact ⟨i, z1, by rw [r135 i (by omega)]; exact z2⟩
          · rintro ⟨i, z1, z2⟩
            exact ⟨i, z1, by rw [← r135 i (by omega)]; exact z2⟩
        · intro h3 w1 w2 w3 w4
          have w129 : h3 129 = gat c n (m ||| 1 <<< a.toNat) (h 129) (h 129 (136 + 5 * sLatest (h 129) a c (h 136 t) + 2).toNat) := by
            rw [w2, r129, t136, en1]
            rfl
          have wsub : gSub (m ||| 1 <<< a.toNat) (h 129) (gat c n (m ||| 1 <<< a.toNat) (h 129) (h 129 (136 + 5 * sLatest (h 129) a c (h 136 t) + 2).toNat)) := (hcall (h 129) _ hW a2 htb).2
          obtain ⟨y1, y2⟩ := gRow (B := B) (by rw [← w129]; exact w1) wsub x1 (by rw [x2]; exact tb_or_self _ _)
          rw [← w129] at y1 y2
          have u135 := (w4.1 t (by omega)).1
          have u136 := (w4.1 t (by omega)).2.1
          have u137 := (w4.1 t (by omega)).2.2
          rw [r135 t (by omega)] at u135
          rw [r136] at u136
          rw [r137] at u137
          refine k_X7_gathers_19 (by decide) ⟨fun c0 => by omega, fun c0 => ?_⟩
          intro z3 ez3
          rw [w3, zwr_eq (by omega) (by omega)] at ez3
          have ez4 : z3 = (t : Int) := by omega
          rw [ez4, Int.toNat_natCast]
          refine ⟨by omega, by omega, fun c1 => by omega, fun _ => ⟨by omega, by omega, ?_⟩⟩
          refine ⟨_, _, by decide, c_X7_placeOf ⟨w1.n.1, w1.n.2.1⟩, ?_⟩
          rintro _ _ ⟨rfl, rfl⟩
          refine ⟨_, rfl, ?_⟩
          rw [u136]
          have w40 := w1.n.2.1
          refine k_X7_gathers_77 (by decide) ⟨fun _ => ⟨by omega, by omega, by omega, ?_⟩, fun c1 => by omega⟩
          intro x6 e6b
          refine ⟨by omega, by omega, fun _ => ?_, fun c1 => by rw [Int.toNat_natCast] at c1; omega⟩
          refine k_X7_gathers_160 (by decide) ?_
          refine g161 w1 y1 (by omega) (fun h2 p1 p2 p3 p4 p5 p6 => ?_)
          refine hnext h2 ?_ ?_ p3 (by rw [p4, w3]; omega) (fun i hi => by rw [p5, (w4.1 i (by omega)).1, r135 i hi]) (rfr.trans ((w4.le (by omega)).trans p6))
          · rw [p1, w129]
            unfold gOne
            have hcy : h 129 (6 * h 129 (136 + 5 * sLatest (h 129) a c (h 136 t) + 3).toNat + h 129 (136 + 5 * sLatest (h 129) a c (h 136 t) + 2).toNat).toNat < h 129 (136 + 5 * sLatest (h 129) a c (h 136 t) + 4).toNat := by
              rw [x3]
              omega
            simp only [if_pos (And.intro hcy htb)]
          · rw [p2, y2 0 (by omega)]
theorem c_X7_gathers {B : Int} {h : zH} {a1 a2 : Int} (hW : WF B (h 129)) (h1 : 0 ≤ a1 ∧ a1 ≤ 5) (h2 : 0 ≤ a2 ∧ a2 ≤ 5) : zSp 3 mX7_gathers [zR 128, zI a1, zI a2] h (fun r h' => r = some (zI (gat a2 6 0 (h 129) a1 135 - h 129 135)) ∧ h' 129 = gat a2 6 0 (h 129) a1 ∧ h' 128 14 = 0 ∧ gFr 0 h h') := by
  refine zSp_of (by decide +kernel) (Nat.le_of_ble_eq_true rfl) rfl (fun Γ => k_X7_gathers_0  (by decide) ?_)
  rintro _ rfl
  intro g2 eg2
  refine ⟨_, _, by decide, c_X7_enter (h := g2) (by rw [eg2, zu_same]; decide), ?_⟩
  rintro _ g6 ⟨rfl, eg6⟩
  rw [eg2, zu_same] at eg6
  have q129 : g6 129 = h 129 := by rw [eg6, zu_nekr _ _ _ (by decide), zu_nekr _ _ _ (by decide), zu_nekr _ _ _ (by decide), zu_nekr _ _ _ (by decide), zu_nekr _ _ _ (by decide)]
  have q136 : g6 136 0 = 1000 := by rw [eg6, zu_nek _ _ _ _ (by decide), zu_nek _ _ _ _ (by decide)]; exact zu_same _ _ _ _
  have n2 := hW.n.2.1
  refine ⟨rfl, gF (B := B) h2 5 40 0 g6 0 a1 rfl (by rw [q129]; exact hW) (by rw [eg6, zu_same]; rfl) ⟨by decide, by decide, fun b _ => ⟨fun q => (by rw [Nat.zero_testBit] at q; cases q), fun ⟨i, q, _⟩ => absurd q (by omega)⟩⟩ (by rw [eg6, zu_nek _ _ _ _ (by decide), zu_nek _ _ _ _ (by decide), zu_nek _ _ _ _ (by decide)]; exact zu_same _ _ _ _) h1 (Nat.zero_testBit _) (by rw [eg6, zu_nek _ _ _ _ (by decide)]; exact zu_same _ _ _ _) (fun y y0 y1 _ => by rw [q129] at y1; omega) ?_⟩
  intro h' w1 w2 w3 w4
  have w129 : h' 129 = gat a2 6 0 (h 129) a1 := by
    rw [w2, q129, q136]
    rfl
  refine k_X7_gathers_19 (by decide) ⟨fun _ => ?_, fun c0 => by omega⟩
  obtain ⟨g1, g2b⟩ := gat_ok (B := B) (c := a2) 6 0 (h 129) a1 hW (Nat.zero_testBit _)
  have b1 := g1.n
  have b2 := hW.n
  have b3 := g2b.2.1
  refine ⟨?_, w129, by rw [w3]; rfl, ⟨fun i hi => absurd hi (by omega), fun k e1 e2 e3 e4 e5 => ?_, fun i hi => ?_⟩⟩
  · rw [w129, zwr_eq (by unfold WFn at b1 b2; omega) (by unfold WFn at b1 b2; omega)]
  · rw [w4.2.1 k e1 e2 e3 e4 e5, eg6, zu_nekr _ _ _ e1, zu_nekr _ _ _ e5, zu_nekr _ _ _ e4, zu_nekr _ _ _ e3, zu_nekr _ _ _ e1]
  · rw [w4.2.2 i hi, eg6, zu_nej _ _ _ hi, zu_nek _ _ _ _ (by decide), zu_nek _ _ _ _ (by decide), zu_nek _ _ _ _ (by decide), zu_nej _ _ _ hi]
