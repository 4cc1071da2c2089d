/-! perform, the reference's -/
def mD (h h' : zH) : Prop := (∀ k : Nat, k ≠ 128 → k ≠ 129 → k ≠ 135 → k ≠ 136 → k ≠ 137 → h' k = h k) ∧ ∀ i : Nat, i ≠ 14 → h' 128 i = h 128 i
theorem mD.rfl' {h : zH} : mD h h := ⟨fun _ _ _ _ _ _ => rfl, fun _ _ => rfl⟩
theorem mD_129 {h : zH} {f : zs} : mD h (zrow h 129 f) := ⟨fun k _ k2 _ _ _ => zrow_ne _ _ k2, fun i _ => by rw [zrow_ne _ _ (by decide)]⟩
theorem c_X7_does_84 {B : Int} {Post : Option zA → zH → Prop} {Γ : zCx} {h : zH} {t : zs} {w : Int} (hW : WF B (h 129)) (hB : B ≤ 100000) (hT : tOK t) (h2 : h 138 2 = t 2) (h4 : h 138 4 = t 4) (hw : w = if (opDo (h 129) t).1 < 0 then (opDo (h 129) t).1 else 0) (hp : ∀ h' : zH, h' 129 = (opDo (h 129) t).2 → mD h h' → Post (some (zI w)) h') : (fun (d : Nat) => zV RX7 cX7_does 6 (some .int) d Post Γ 84 [(0, zR 128), (1, zI (t 0)), (2, zI (t 1)), (3, zI (t 3))] [zI w] h) 5 := by
  have n := hW.n
  unfold WFn at n
  refine k_X7_does_84 (by decide) ⟨fun c => ?_, fun c => ?_⟩
  · have ok : ¬ (opDo (h 129) t).1 < 0 := by
      intro q; rw [if_pos q] at hw; omega
    rw [if_neg ok] at hw
    rw [hw] at hp
    refine ⟨fun c1 => ⟨fun c2 => ⟨fun c3 => ?_, fun c3 => ?_⟩, fun c2 => ?_⟩, fun c1 => ?_⟩
    · have e : opDo (h 129) t = (0, gat (t 3) 6 0 (h 129) (t 1)) := by
        unfold opDo
        rw [if_neg c1, if_neg c2, if_neg c3]
      rw [e] at hp
      obtain ⟨ta, tc⟩ := hT.2 (by have := hT.1; omega)
      refine ⟨3, _, by decide, c_X7_gathers hW ta tc, ?_⟩
      rintro _ h1 ⟨rfl, e1, -, f1⟩
      exact ⟨_, rfl, hp h1 e1 ⟨f1.2.1, f1.2.2⟩⟩
    · have e : opDo (h 129) t = opWrite (h 129) (t 1) (t 3) (t 4) := by
        unfold opDo
        rw [if_neg c1, if_neg c2, if_pos c3]
      rw [e] at hp ok
      have cc : (0 ≤ t 1 ∧ t 1 ≤ 5) ∧ 0 ≤ t 3 ∧ t 3 ≤ 5 := by
        by_cases q : (0 ≤ t 1 ∧ t 1 ≤ 5) ∧ 0 ≤ t 3 ∧ t 3 ≤ 5
        · exact q
        · unfold opWrite at ok; rw [if_pos q] at ok; exact absurd (show (-1 : Int) < 0 by decide) ok
      have ev : (opWrite (h 129) (t 1) (t 3) (t 4)).2 = sWrite (h 129) (t 3) (t 4) := by
        unfold opWrite at ok ⊢
        rw [if_neg (fun q => q cc)] at ok ⊢
        by_cases c5 : 0 ≤ t 4 ∧ t 4 ≤ 999
        · rw [if_neg (fun q => q c5)] at ok ⊢
          by_cases c6 : h 129 (6 * t 3 + t 1).toNat < 64
          · rw [if_pos c6] at ok; exact absurd (show (-4 : Int) < 0 by decide) ok
          · rw [if_neg c6]
        · rw [if_pos c5] at ok; exact absurd (show (-2 : Int) < 0 by decide) ok
      rw [ev] at hp
      rw [h4]
      refine ⟨1, _, by decide, c_X7_writes cc.2, ?_⟩
      rintro _ _ ⟨rfl, rfl⟩
      exact ⟨_, rfl, hp _ (zrow_get _ _ _) mD_129⟩
    · have e : opDo (h 129) t = opGive (h 129) (t 1) := by
        unfold opDo
        rw [if_neg c1, if_pos c2]
      rw [e] at hp ok
      have cp : ¬ sPlace (h 129) (t 1) = -5 := by
        intro q; unfold opGive at ok; rw [if_pos q] at ok; exact absurd (show (-1 : Int) < 0 by decide) ok
      have ev : (opGive (h 129) (t 1)).2 = sGive (h 129) (sPlace (h 129) (t 1)) := by
        unfold opGive at ok ⊢
        rw [if_neg cp] at ok ⊢
        by_cases c5 : sCan (h 129) (sPlace (h 129) (t 1))
        · rw [if_pos c5]
        · rw [if_neg c5] at ok; exact absurd (show (-4 : Int) < 0 by decide) ok
      rw [ev] at hp
      have p := sPlace_ok cp n.1
      have l := hW.l _ p.1 p.2
      refine ⟨2, _, by decide, c_X7_placeOf (by omega), ?_⟩
      rintro _ _ ⟨rfl, rfl⟩
      refine ⟨_, rfl, 2, _, by decide, c_X7_gives p (by omega) l.2.1 l.2.2.1 l.2.2.2.1, ?_⟩
      rintro _ _ ⟨rfl, rfl⟩
      exact ⟨_, rfl, hp _ (zrow_get _ _ _) mD_129⟩
    · have e : opDo (h 129) t = opLend (h 129) (t 1) (t 2) (t 3) (t 4) := by
        unfold opDo
        rw [if_pos c1]
      rw [e] at hp ok
      have cf : ¬ sFault (h 129) (t 1) (t 2) (t 3) (t 4) < 0 := by
        intro q; unfold opLend at ok; rw [if_pos q] at ok; exact ok q
      have ev : (opLend (h 129) (t 1) (t 2) (t 3) (t 4)).2 = sLend (h 129) (t 1) (t 2) (t 3) (t 4) := by
        unfold opLend; rw [if_neg cf]
      rw [ev] at hp
      obtain ⟨d1, d2, d3, d4, d5, d6, d7, d8, d9⟩ := sFault_ok cf
      rw [h2, h4]
      refine ⟨2, _, by decide, c_X7_lends d1 d2 d3 (by omega), ?_⟩
      rintro _ _ ⟨rfl, rfl⟩
      exact ⟨_, rfl, hp _ (zrow_get _ _ _) mD_129⟩
  · have bad : (opDo (h 129) t).1 < 0 := by
      by_cases q : (opDo (h 129) t).1 < 0
      · exact q
      · rw [if_neg q] at hw; omega
    have es : (opDo (h 129) t).2 = h 129 := by
      unfold opDo at bad ⊢
      by_cases c1 : t 0 = 108
      · rw [if_pos c1] at bad ⊢
        unfold opLend at bad ⊢
        by_cases q : sFault (h 129) (t 1) (t 2) (t 3) (t 4) < 0
        · rw [if_pos q]
        · rw [if_neg q] at bad; exact absurd bad (by show ¬ h 129 133 < 0; omega)
      · rw [if_neg c1] at bad ⊢
        by_cases c2 : t 0 = 98
        · rw [if_pos c2] at bad ⊢
          unfold opGive at bad ⊢
          by_cases q : sPlace (h 129) (t 1) = -5
          · rw [if_pos q]
          · rw [if_neg q] at bad ⊢
            by_cases c5 : sCan (h 129) (sPlace (h 129) (t 1))
            · rw [if_pos c5] at bad
              have p := sPlace_ok q n.1
              have l := hW.l _ p.1 p.2
              have := ((WF_give hW p c5).h _ _ l.2.1 l.2.2.2.1).1
              exact absurd bad (by show ¬ sGive (h 129) (sPlace (h 129) (t 1)) _ < 0; omega)
            · rw [if_neg c5]
        · rw [if_neg c2] at bad ⊢
          by_cases c3 : t 0 = 119
          · rw [if_pos c3] at bad ⊢
            unfold opWrite at bad ⊢
            by_cases q : (0 ≤ t 1 ∧ t 1 ≤ 5) ∧ 0 ≤ t 3 ∧ t 3 ≤ 5
            · rw [if_neg (fun z => z q)] at bad ⊢
              by_cases c5 : 0 ≤ t 4 ∧ t 4 ≤ 999
              · rw [if_neg (fun z => z c5)] at bad ⊢
                by_cases c6 : h 129 (6 * t 3 + t 1).toNat < 64
                · rw [if_pos c6]
                · rw [if_neg c6] at bad
                  have := ((WF_write hW hB q.2 c5).v _ q.2).2.1.1
                  exact absurd bad (by show ¬ sWrite (h 129) (t 3) (t 4) _ < 0; omega)
              · rw [if_pos c5]
            · rw [if_pos q]
          · rw [if_neg c3] at bad; exact absurd (show (0 : Int) < 0 from bad) (by decide)
    exact hp h es.symm mD.rfl'
theorem c_X7_does {B : Int} {h : zH} {t : zs} (hW : WF B (h 129)) (hB : B ≤ 100000) (hT : tOK t) (hS : ∀ i : Nat, i < 5 → h 138 i = t i) : zSp 5 mX7_does [zR 128] h (fun q h' => q = some (zI (if (opDo (h 129) t).1 < 0 then (opDo (h 129) t).1 else 0)) ∧ h' 129 = (opDo (h 129) t).2 ∧ mD h h') := by
  refine zSp_of (by decide +kernel) (Nat.le_of_ble_eq_true rfl) rfl (fun Γ => k_X7_does_0  (by decide) ?_)
  have n := hW.n
  unfold WFn at n
  intro x1 e1 x2 e2 x3 e3
  rw [hS 0 (by decide)] at e1
  rw [hS 1 (by decide)] at e2
  rw [hS 3 (by decide)] at e3
  rw [e1, e2, e3, hS 4 (by decide), hS 2 (by decide)]
  have fin : ∀ w : Int, w = (if (opDo (h 129) t).1 < 0 then (opDo (h 129) t).1 else 0) → (fun (d : Nat) => ∀ Post : Option zA → zH → Prop, Post = (fun q h' => q = some (zI (if (opDo (h 129) t).1 < 0 then (opDo (h 129) t).1 else 0)) ∧ h' 129 = (opDo (h 129) t).2 ∧ mD h h') → zV RX7 cX7_does 6 (some .int) d Post Γ 84 [(0, zR 128), (1, zI (t 0)), (2, zI (t 1)), (3, zI (t 3))] [zI w] h) 5 := by
    intro w ew Post eP
    exact c_X7_does_84 hW hB hT (hS 2 (by decide)) (hS 4 (by decide)) ew (fun h' a b => by rw [eP]; exact ⟨by rw [ew], a, b⟩)
  refine ⟨fun c1 => ⟨fun c2 => ⟨fun c3 => ?_, fun c3 => ?_⟩, fun c2 => ?_⟩, fun c1 => ?_⟩
  · refine fin 0 ?_ _ rfl
    have e : opDo (h 129) t = (0, gat (t 3) 6 0 (h 129) (t 1)) := by
      unfold opDo
      rw [if_neg c1, if_neg c2, if_neg c3]
    rw [e]; rfl
  · refine ⟨4, _, by decide, c_X7_writeFault, ?_⟩
    rintro _ _ ⟨rfl, rfl⟩
    refine ⟨_, rfl, fin _ ?_ _ rfl⟩
    have e : opDo (h 129) t = opWrite (h 129) (t 1) (t 3) (t 4) := by
      unfold opDo
      rw [if_neg c1, if_neg c2, if_pos c3]
    rw [e]
    unfold opWrite
    by_cases q : (0 ≤ t 1 ∧ t 1 ≤ 5) ∧ 0 ≤ t 3 ∧ t 3 ≤ 5
    · simp only [if_neg (fun z : ¬ ((0 ≤ t 1 ∧ t 1 ≤ 5) ∧ 0 ≤ t 3 ∧ t 3 ≤ 5) => z q)]
      by_cases c5 : 0 ≤ t 4 ∧ t 4 ≤ 999
      · simp only [if_neg (fun z : ¬ (0 ≤ t 4 ∧ t 4 ≤ 999) => z c5)]
        by_cases c6 : h 129 (6 * t 3 + t 1).toNat < 64
        · simp only [if_pos c6]; rfl
        · simp only [if_neg c6]
          have := ((WF_write hW hB q.2 c5).v _ q.2).2.1.1
          rw [if_neg (by omega)]
      · simp only [if_pos c5]; rfl
    · simp only [if_pos q]; rfl
  · refine ⟨3, _, by decide, c_X7_backFault (by omega) (fun x x0 x1 => ⟨(hW.l x x0 x1).2.2.1, (hW.l x x0 x1).2.2.2.1⟩), ?_⟩
    rintro _ _ ⟨⟨x, rfl, hx⟩, rfl⟩
    refine ⟨_, rfl, fin _ ?_ _ rfl⟩
    have e : opDo (h 129) t = opGive (h 129) (t 1) := by
      unfold opDo
      rw [if_neg c1, if_pos c2]
    rw [e]
    unfold opGive
    rcases hx with ⟨q, ex⟩ | ⟨q, ⟨q2, ex⟩ | ⟨q2, ex⟩⟩
    · rw [if_pos q, ex]; rfl
    · rw [if_neg q, if_neg q2, ex]; rfl
    · have p := sPlace_ok q n.1
      have l := hW.l _ p.1 p.2
      have := ((WF_give hW p q2).h _ _ l.2.1 l.2.2.2.1).1
      rw [if_neg q, if_pos q2, ex]
      exact (if_neg (by show ¬ sGive (h 129) (sPlace (h 129) (t 1)) _ < 0; omega)).symm
  · refine ⟨3, _, by decide, c_X7_lendFault, ?_⟩
    rintro _ _ ⟨rfl, rfl⟩
    refine ⟨_, rfl, fin _ ?_ _ rfl⟩
    have e : opDo (h 129) t = opLend (h 129) (t 1) (t 2) (t 3) (t 4) := by
      unfold opDo
      rw [if_pos c1]
    rw [e]
    unfold opLend
    by_cases q : sFault (h 129) (t 1) (t 2) (t 3) (t 4) < 0
    · rw [if_pos q]; exact (if_pos q).symm
    · rw [if_neg q, sFault_0 q]
      exact (if_neg (by show ¬ h 129 133 < 0; omega)).symm
def mGo (h h' : zH) : Prop := (∀ k : Nat, k ≠ 128 → k ≠ 129 → k ≠ 135 → k ≠ 136 → k ≠ 137 → k ≠ 138 → h' k = h k) ∧ ∀ i : Nat, i ≠ 14 → i ≠ 15 → i ≠ 16 → i ≠ 18 → h' 128 i = h 128 i
theorem mGo.trans {h h1 h2 : zH} (a : mGo h h1) (b : mGo h1 h2) : mGo h h2 := ⟨fun k k1 k2 k3 k4 k5 k6 => (b.1 k k1 k2 k3 k4 k5 k6).trans (a.1 k k1 k2 k3 k4 k5 k6), fun i i1 i2 i3 i4 => (b.2 i i1 i2 i3 i4).trans (a.2 i i1 i2 i3 i4)⟩
theorem mO.go {h h' : zH} (f : mO h h') : mGo h h' := ⟨fun k k1 _ _ _ _ k6 => f.1 k k1 k6, fun i _ i2 i3 _ => f.2 i i2 i3⟩
theorem mD.go {h h' : zH} (f : mD h h') : mGo h h' := ⟨fun k k1 k2 k3 k4 k5 _ => f.1 k k1 k2 k3 k4 k5, fun i i1 _ _ _ => f.2 i i1⟩
theorem mGo_18 {h : zH} {v : Int} : mGo h (zu h 128 18 v) := ⟨fun k k1 _ _ _ _ _ => zu_nekr _ _ _ k1, fun i _ _ _ i4 => zu_nej _ _ _ i4⟩
theorem mGo.m {h h' : zH} (f : mGo h h') : mF h h' := ⟨fun k hk => f.1 k (by omega) (by omega) (by omega) (by omega) (by omega) (by omega), f.2⟩
theorem mT_go {T : zs} {len : Nat} {h h' : zH} (t : mT T len h) (f : mGo h h') : mT T len h' := ⟨by rw [f.2 8 (by decide) (by decide) (by decide) (by decide)]; exact t.1, t.2.1, fun j hj => by rw [f.1 134 (by decide) (by decide) (by decide) (by decide) (by decide) (by decide)]; exact t.2.2.1 j hj, t.2.2.2⟩
theorem mZ_18 {z : zZ} {h : zH} {v : Int} (hz : mZ z h) : mZ z (zu h 128 18 v) := ⟨by rw [zu_nej _ _ _ (by decide)]; exact hz.1, by rw [zu_nej _ _ _ (by decide)]; exact hz.2.1, hz.2.2⟩
theorem mZ_d {z : zZ} {h h' : zH} (hz : mZ z h) (f : mD h h') : mZ z h' := ⟨by rw [f.2 15 (by decide)]; exact hz.1, by rw [f.2 16 (by decide)]; exact hz.2.1, hz.2.2⟩
theorem mZ_w {z : zZ} {h : zH} (hz : mZ z h) : h 128 16 = 0 ↔ z.1 = false := by
  have := hz.2.1
  cases q : z.1
  · rw [q] at this; exact ⟨fun _ => rfl, fun _ => this⟩
  · rw [q] at this
    exact ⟨fun w => by rw [w] at this; exact absurd this (by decide), fun w => by cases w⟩
/-- the end of a turn -/
theorem c_X7_go_40 {Post : Option zA → zH → Prop} {Γ : zCx} {T : zs} {len k : Nat} {v w : Int} {h : zH} (ht : mT T len h) (hz : mZ (ze T len k) h) (k20 : k ≤ 20)
    (p0 : ¬ w = 0 → Post (some (zI (k : Int))) (zu h 128 18 w))
    (p1 : w = 0 → (ze T len k).1 = true → ∀ h' : zH, mZ (ze T len k) h' → mGo h h' → h' 128 18 = 0 → h' 129 = h 129 → Post (some (zI ((k + 1 : Nat) : Int))) h')
    (p2 : w = 0 → (ze T len k).1 = false → len ≤ (ze T len k).2 → ∀ h' : zH, mZ (ze T len k) h' → mGo h h' → h' 128 18 = 0 → h' 129 = h 129 → Post (some (zI ((k + 1 : Nat) : Int))) h')
    (p3 : w = 0 → (ze T len k).1 = false → (ze T len k).2 < len → (zz T len (k + 1)).1 = true → ∀ h' : zH, mZ (zz T len (k + 1)) h' → mGo h h' → h' 128 18 = 0 → h' 129 = h 129 → Post (some (zI ((k + 1 : Nat) : Int))) h')
    (p4 : w = 0 → gd T len k → ∀ h' : zH, mZ (zz T len (k + 1)) h' → mGo h h' → h' 128 18 = 0 → h' 129 = h 129 → (fun (d : Nat) => zV RX7 cX7_go 5 (some .int) d Post Γ 19 [(0, zR 128), (1, zI v), (2, zI ((k + 1 : Nat) : Int)), (3, zI 1)] [] h') 6) : (fun (d : Nat) => zV RX7 cX7_go 5 (some .int) d Post Γ 40 [(0, zR 128), (1, zI v), (2, zI (k : Int)), (3, zI 1)] [zI w, zR 128] h) 6 := by
  have stop : ∀ (x : Int) (h' : zH), Post (some (zI x)) h' → (fun (d : Nat) => zV RX7 cX7_go 5 (some .int) d Post Γ 87 [(0, zR 128), (1, zI v), (2, zI x), (3, zI 1)] [] h') 6 := fun x h' q => k_X7_go_87 (by decide) (k_X7_go_88 (by decide) ⟨fun _ => k_X7_go_19 (by decide) ⟨fun _ => q, fun c => absurd rfl c⟩, fun c => absurd rfl c⟩)
  have z18 : mZ (ze T len k) (zu h 128 18 w) := mZ_18 hz
  have ww := mZ_w z18
  refine k_X7_go_40 (by decide) ?_
  rintro _ rfl
  rw [zu_same]
  refine ⟨fun c => ?_, fun c => ?_⟩
  · refine k_X7_go_56 (by decide) ?_
    intro x ex
    rw [zwr_eq (by omega) (by omega), show (k : Int) + 0 = (k : Int) by omega] at ex
    rw [ex, zu_same]
    exact ⟨fun _ => stop _ _ (p0 c), fun _ => ⟨fun _ => stop _ _ (p0 c), fun q => absurd q c⟩⟩
  · have g : mGo h (zu h 128 18 w) := mGo_18
    have e18 : (zu h 128 18 w) 128 18 = 0 := by rw [zu_same]; exact c
    have e129 : (zu h 128 18 w) 129 = h 129 := zu_nekr _ _ _ (by decide)
    refine k_X7_go_56 (by decide) ?_
    intro x ex
    rw [zstep ex (by omega), zu_same]
    refine ⟨fun c1 => stop _ _ ?_, fun c1 => ⟨fun q => absurd c q, fun _ => ⟨fun c2 => stop _ _ ?_, fun c2 => ?_⟩⟩⟩
    · refine p1 c ?_ _ z18 g e18 e129
      cases q : (ze T len k).1
      · exact absurd (ww.mpr q) c1
      · rfl
    · have t8 := (mT_go ht g).1
      have z15 := z18.1
      rw [t8, z15] at c2
      exact p2 c (ww.mp c1) (by omega) _ z18 g e18 e129
    · have t8 := (mT_go ht g).1
      have z15 := z18.1
      rw [t8, z15] at c2
      refine k_X7_go_88 (by decide) ⟨fun q => absurd q (by decide), fun _ => ?_⟩
      refine ⟨2, _, by decide, c_X7_sign (lo := 44) (hi := 44) (mT_go ht g) z18 (by decide), ?_⟩
      rintro _ h1 ⟨rfl, z1, f1⟩
      have z1 : mZ (zz T len (k + 1)) h1 := z1
      have f129 : h1 129 = h 129 := by rw [f1.1.1 129 (by decide) (by decide)]; exact e129
      have f18 : h1 128 18 = 0 := by rw [f1.1.2 18 (by decide) (by decide)]; exact e18
      have w1 := mZ_w z1
      refine ⟨_, rfl, fun c3 => k_X7_go_19 (by decide) ⟨fun _ => ?_, fun q => absurd rfl q⟩, fun c3 => ?_⟩
      · refine p3 c (ww.mp c1) (by omega) ?_ h1 z1 (g.trans f1.1.go) f18 f129
        cases q : (zz T len (k + 1)).1
        · exact absurd (w1.mpr q) c3
        · rfl
      · exact p4 c ⟨ww.mp c1, by omega, w1.mp c3⟩ h1 z1 (g.trans f1.1.go) f18 f129
theorem gd_uniq {T : zs} {len k k' : Nat} (a : ∀ j : Nat, j < k → gd T len j) (b : ¬ gd T len k) (a' : ∀ j : Nat, j < k' → gd T len j) (b' : ¬ gd T len k') : k = k' := by
  have c1 : ¬ k < k' := fun q => b (a' k q)
  have c2 : ¬ k' < k := fun q => b' (a k' q)
  omega
theorem c_X7_go_f_l {Post : Option zA → zH → Prop} {Γ : zCx} {T : zs} {len : Nat} {h0 : zH}
    (K1 : ∀ m : Nat, okP T len m → ∀ h' : zH, h' 128 16 = 0 → mGo h0 h' → h' 129 = h0 129 → Post (some (zI (m : Int))) h')
    (K2 : ∀ q : Nat, fltP T len q → ∀ (x : Int) (h' : zH), ¬ h' 128 16 = 0 → h' 128 15 = (q : Int) → mGo h0 h' → h' 129 = h0 129 → Post (some (zI x)) h') :
    ∀ (n k : Nat) (h : zH), n + k = 21 → mT T len h → mGo h0 h → h 129 = h0 129 → (∀ j : Nat, j < k → gd T len j) → mZ (zz T len k) h → (fun (d : Nat) => zV RX7 cX7_go 5 (some .int) d Post Γ 19 [(0, zR 128), (1, zI 0), (2, zI (k : Int)), (3, zI 1)] [] h) 6 := by
  intro n
  induction n with
  | zero =>
    intro k h hn t f e hg hz
    have := zz_20 (T := T) t.2.1 (gd_zz hg)
    omega
  | succ n ih =>
    intro k h hn t f e hg hz
    have k20 := zz_20 (T := T) t.2.1 (gd_zz hg)
    refine k_X7_go_19 (by decide) ⟨fun q => absurd q (by decide), fun _ => ?_⟩
    refine ⟨4, _, by decide, c_X7_order t hz, ?_⟩
    rintro _ h1 ⟨rfl, z1, f1, -⟩
    have z1 : mZ (ze T len k) h1 := z1
    have e1 : h1 129 = h0 129 := by rw [f1.1 129 (by decide) (by decide)]; exact e
    have g1 : mGo h0 h1 := f.trans f1.go
    refine ⟨rfl, fun _ => ?_, fun q => absurd rfl q⟩
    refine c_X7_go_40 (mT_o t f1) z1 k20 (fun q => absurd rfl q) (fun _ c h' zz' gg e18 e9 => ?_) (fun _ c c2 h' zz' gg e18 e9 => ?_) (fun _ c c2 c3 h' zz' gg e18 e9 => ?_) (fun _ c h' zz' gg e18 e9 => ?_)
    · refine K2 (ze T len k).2 ⟨k, hg, rfl, Or.inl c⟩ _ h' (fun q => ?_) zz'.1 (g1.trans gg) (by rw [e9, e1])
      have := (mZ_w zz').mp q
      rw [c] at this; cases this
    · exact K1 (k + 1) ⟨k, rfl, hg, c, c2⟩ h' ((mZ_w zz').mpr c) (g1.trans gg) (by rw [e9, e1])
    · have p15 := zz'.1
      have ep : (zz T len (k + 1)).2 = (ze T len k).2 := by
        show (xS T len 44 44 (ze T len k)).2 = _
        have q3 : (xS T len 44 44 (ze T len k)).1 = true := c3
        unfold xS at q3 ⊢
        by_cases w : (ze T len k).1 = false ∧ 44 ≤ sg T len (ze T len k).2 ∧ sg T len (ze T len k).2 ≤ 44
        · rw [if_pos w] at q3; cases q3
        · rw [if_neg w]
      rw [ep] at p15
      refine K2 (ze T len k).2 ⟨k, hg, rfl, Or.inr ⟨c, c2, c3⟩⟩ _ h' (fun q => ?_) p15 (g1.trans gg) (by rw [e9, e1])
      have := (mZ_w zz').mp q
      rw [c3] at this; cases this
    · refine ih (k + 1) h' (by omega) (mT_go (mT_o t f1) gg) (g1.trans gg) (by rw [e9, e1]) (fun j hj => ?_) zz'
      by_cases q : j = k
      · rw [q]; exact c
      · exact hg j (by omega)
theorem c_X7_go_t_l {B : Int} {Post : Option zA → zH → Prop} {Γ : zCx} {T : zs} {len m : Nat} {s : zs} {h0 : zH} (hW : WF B s) (hB : B ≤ 90000) (hm : okP T len m)
    (K1 : runO s (tA T len) m → ∀ h' : zH, h' 128 18 = 0 → mGo h0 h' → h' 129 = rS s (tA T len) m → Post (some (zI (m : Int))) h')
    (K2 : ∀ (k : Nat) (e : Int), runF s (tA T len) m k e → ∀ h' : zH, h' 128 18 = e → mGo h0 h' → WFz (h' 129) → Post (some (zI (k : Int))) h') :
    ∀ (n k : Nat) (h : zH), n + k = m → k < m → mT T len h → mGo h0 h → h 129 = rS s (tA T len) k → (∀ j : Nat, j < k → 0 ≤ (opDo (rS s (tA T len) j) (tA T len j)).1) → (∀ j : Nat, j < k → gd T len j) → mZ (zz T len k) h → (fun (d : Nat) => zV RX7 cX7_go 5 (some .int) d Post Γ 19 [(0, zR 128), (1, zI 1), (2, zI (k : Int)), (3, zI 1)] [] h) 6 := by
  intro n
  induction n with
  | zero => intro k h hn hk; omega
  | succ n ih =>
    intro k h hn hk t f e hj hg hz
    have k20 := zz_20 (T := T) t.2.1 (gd_zz hg)
    obtain ⟨m21, m1, ha⟩ := okP_acts t.2.1 hm
    have wk := WF_rS (A := tA T len) hW hB k (by omega)
    refine k_X7_go_19 (by decide) ⟨fun q => absurd q (by decide), fun _ => ?_⟩
    refine ⟨4, _, by decide, c_X7_order t hz, ?_⟩
    rintro _ h1 ⟨rfl, z1, f1, t1⟩
    have z1 : mZ (ze T len k) h1 := z1
    have e1 : h1 129 = rS s (tA T len) k := by rw [f1.1 129 (by decide) (by decide)]; exact e
    have g1 : mGo h0 h1 := f.trans f1.go
    refine ⟨rfl, fun q => absurd q (by decide), fun _ => ?_⟩
    refine ⟨5, _, by decide, c_X7_does (B := B + k) (t := tA T len k) (by rw [e1]; exact wk) (by omega) (ha k hk).2 t1, ?_⟩
    rintro _ h2 ⟨rfl, e2, f2⟩
    rw [e1] at e2
    rw [e1]
    have e2' : h2 129 = rS s (tA T len) (k + 1) := e2
    have g2 : mGo h0 h2 := g1.trans f2.go
    refine ⟨_, rfl, ?_⟩
    have ekm : (ze T len k).1 = false := (ha k hk).1
    refine c_X7_go_40 (mT_go (mT_o t f1) f2.go) (mZ_d z1 f2) k20 (fun q => ?_) (fun _ c => ?_) (fun q c c2 h' zz' gg e18 e9 => ?_) (fun _ c c2 c3 => ?_) (fun q c h' zz' gg e18 e9 => ?_)
    · by_cases c : (opDo (rS s (tA T len) k) (tA T len k)).1 < 0
      · rw [if_pos c]
        refine K2 k _ ⟨hk, hj, rfl, c⟩ _ (zu_same _ _ _ _) (g2.trans mGo_18) ?_
        rw [zu_nekr _ _ _ (by decide), e2']
        exact (WF_rS (A := tA T len) hW hB (k + 1) (by omega)).z
      · rw [if_neg c] at q; exact absurd rfl q
    · rw [ekm] at c; cases c
    · obtain ⟨k0, e0, hg0, c0, l0⟩ := hm
      have ek : k = k0 := gd_uniq hg (fun w => by have := w.2.1; omega) hg0 (fun w => by have := w.2.1; omega)
      have em : m = k + 1 := by omega
      rw [← em]
      have ok : 0 ≤ (opDo (rS s (tA T len) k) (tA T len k)).1 := by
        by_cases w : (opDo (rS s (tA T len) k) (tA T len k)).1 < 0
        · rw [if_pos w] at q; omega
        · omega
      refine K1 (fun j hj2 => ?_) h' e18 (g2.trans gg) (by rw [e9, e2', em])
      by_cases w : j = k
      · rw [w]; exact ok
      · exact hj j (by omega)
    · obtain ⟨k0, e0, hg0, c0, l0⟩ := hm
      have ek : k = k0 := gd_uniq hg (fun w => by have := w.2.2; rw [c3] at this; cases this) hg0 (fun w => by have := w.2.1; omega)
      rw [ek] at c2
      omega
    · have ok : 0 ≤ (opDo (rS s (tA T len) k) (tA T len k)).1 := by
        by_cases w : (opDo (rS s (tA T len) k) (tA T len k)).1 < 0
        · rw [if_pos w] at q; omega
        · omega
      have km : k + 1 < m := by
        obtain ⟨k0, e0, hg0, c0, l0⟩ := hm
        by_cases w : k = k0
        · have := c.2.1; rw [w] at this; omega
        · omega
      refine ih (k + 1) h' (by omega) km (mT_go (mT_go (mT_o t f1) f2.go) gg) (g2.trans gg) (by rw [e9, e2']) (fun j hj2 => ?_) (fun j hj2 => ?_) zz'
      · by_cases w : j = k
        · rw [w]; exact ok
        · exact hj j (by omega)
      · by_cases w : j = k
        · rw [w]; exact c
        · exact hg j (by omega)
