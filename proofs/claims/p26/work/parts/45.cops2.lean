/-! acts on a state, on: writing, holding on, claims, owners -/
def opWrite (s : zs) (a c v : Int) : Int × zs := if ¬ ((0 ≤ a ∧ a ≤ 5) ∧ 0 ≤ c ∧ c ≤ 5) then (-1, s) else if ¬ (0 ≤ v ∧ v ≤ 999) then (-2, s) else if s (6 * c + a).toNat < 64 then (-4, s) else (sWrite s c v (120 + c).toNat, sWrite s c v)
theorem WF_opWrite {B : Int} {s : zs} {a c v : Int} (h : WF B s) (hB : B ≤ 100000) : WF (B + 1) (opWrite s a c v).2 := by
  unfold opWrite
  by_cases c1 : (0 ≤ a ∧ a ≤ 5) ∧ 0 ≤ c ∧ c ≤ 5
  · rw [if_neg (fun q => q c1)]
    by_cases c2 : 0 ≤ v ∧ v ≤ 999
    · rw [if_neg (fun q => q c2)]
      split
      · exact WF_up h (by omega)
      · exact WF_write h hB c1.2 c2
    · rw [if_pos c2]; exact WF_up h (by omega)
  · rw [if_pos c1]; exact WF_up h (by omega)
theorem Rep_write {s : zs} {h : zH} {b : Nat} {c v : Int} (r : Rep s h b) (hc : 0 ≤ c ∧ c ≤ 5) (hW : WFn s) (hc6 : WFc s) : Rep (sWrite s c v) (zu (zu (zu h (b + 1) c.toNat v) (b + 2) c.toNat (zwr (s (120 + c).toNat + 1))) b 7 (zwr (s 134 + 1))) b := by
  have off : ∀ j : Nat, j ≠ 134 → j ≠ (114 + c).toNat → j ≠ (120 + c).toNat → sWrite s c v j = s j := by
    intro j h1 h2 h3
    unfold sWrite sAdd
    rw [su_ne _ _ h1, su_ne _ _ h3, su_ne _ _ h2]
  have e120 : sWrite s c v (120 + c).toNat = zwr (s (120 + c).toNat + 1) := by
    unfold sWrite sAdd
    rw [su_ne _ _ (by omega), su_same, su_ne _ _ (by omega)]
  have e114 : sWrite s c v (114 + c).toNat = v := by
    unfold sWrite sAdd
    rw [su_ne _ _ (by omega), su_ne _ _ (by omega), su_same]
  have e134 : sWrite s c v 134 = zwr (s 134 + 1) := by
    unfold sWrite sAdd
    rw [su_same, su_ne _ _ (by omega), su_ne _ _ (by omega)]
  obtain ⟨w1, w2, -⟩ := hW
  refine ⟨fun c' hc' => ?_, fun a' c' ha' hc' => ?_, fun c' hc' => ?_, fun c' k hc' k0 k1 => ?_, ?_, fun z z0 z1 => ?_⟩
  · obtain ⟨v1, v2, v3, v4⟩ := r.v c' hc'
    refine ⟨?_, ?_, ?_, ?_⟩
    · rw [zu_nek _ _ _ _ (by omega), zu_nek _ _ _ _ (by omega)]
      by_cases e : c' = c
      · rw [e, e114, zu_same]
      · rw [zu_nej _ _ _ (by omega), off (114 + c').toNat (by omega) (by omega) (by omega)]
        exact v1
    · rw [zu_nek _ _ _ _ (by omega)]
      by_cases e : c' = c
      · rw [e, e120, zu_same]
      · rw [zu_nej _ _ _ (by omega), zu_nek _ _ _ _ (by omega), off (120 + c').toNat (by omega) (by omega) (by omega)]
        exact v2
    · rw [zu_nek _ _ _ _ (by omega), zu_nek _ _ _ _ (by omega), zu_nek _ _ _ _ (by omega), off (126 + c').toNat (by omega) (by omega) (by omega)]
      exact v3
    · rw [zu_nek _ _ _ _ (by omega), zu_nek _ _ _ _ (by omega), zu_nek _ _ _ _ (by omega), off (108 + c').toNat (by omega) (by omega) (by omega)]
      exact v4
  · rw [zu_nek _ _ _ _ (by omega), zu_nek _ _ _ _ (by omega), zu_nek _ _ _ _ (by omega), off _ (by omega) (by omega) (by omega)]
    exact r.h a' c' ha' hc'
  · rw [zu_nek _ _ _ _ (by omega), zu_nek _ _ _ _ (by omega), zu_nek _ _ _ _ (by omega)]
    refine ⟨(r.b c' hc').1, fun a' ha' => ?_⟩
    rw [off _ (by omega) (by omega) (by omega)]
    exact (r.b c' hc').2 a' ha'
  · have q := (hc6 c' hc').1
    rw [off _ (by omega) (by omega) (by omega)] at k1
    rw [zu_nek _ _ _ _ (by omega), zu_nek _ _ _ _ (by omega), zu_nek _ _ _ _ (by omega), off _ (by omega) (by omega) (by omega)]
    exact r.c c' k hc' k0 k1
  · refine ⟨by rw [zu_same, e134], ?_, ?_, ?_⟩
    · rw [zu_nek _ _ _ _ (by omega), zu_nek _ _ _ _ (by omega), zu_nek _ _ _ _ (by omega), off _ (by omega) (by omega) (by omega)]; exact r.n.2.1
    · rw [zu_nek _ _ _ _ (by omega), zu_nek _ _ _ _ (by omega), zu_nek _ _ _ _ (by omega), off _ (by omega) (by omega) (by omega)]; exact r.n.2.2.1
    · rw [zu_nek _ _ _ _ (by omega), zu_nek _ _ _ _ (by omega), zu_nek _ _ _ _ (by omega), off _ (by omega) (by omega) (by omega)]; exact r.n.2.2.2
  · rw [off 132 (by omega) (by omega) (by omega)] at z1
    rw [off (136 + 5 * z + 0).toNat (by omega) (by omega) (by omega), off (136 + 5 * z + 1).toNat (by omega) (by omega) (by omega), off (136 + 5 * z + 2).toNat (by omega) (by omega) (by omega), off (136 + 5 * z + 3).toNat (by omega) (by omega) (by omega), off (136 + 5 * z + 4).toNat (by omega) (by omega) (by omega)]
    simp (disch := omega) only [zu_nek]
    exact r.l z z0 z1
theorem c_X4_writeValue {B : Int} {h : zH} {b : Nat} {s : zs} {a1 a2 a3 : Int} (hb : zSt b) (r : Rep s h b) (hW : WF B s) : zSp 2 mX4_writeValue [zR b, zI a1, zI a2, zI a3] h (fun q h' => q = some (zI (opWrite s a1 a2 a3).1) ∧ Rep (opWrite s a1 a2 a3).2 h' b ∧ zFr b h h') := by
  refine zSp_of (by decide +kernel) (Nat.le_of_ble_eq_true rfl) rfl (fun Γ => k_X4_writeValue_0 hb (by decide) ?_)
  unfold opWrite
  refine ⟨fun c => ?_, fun c => ⟨fun c2 => ⟨fun c3 => ?_, fun c3 => ⟨fun c4 => ⟨c, c2, ?_⟩, fun c4 => ?_⟩⟩, fun c2 => ?_⟩⟩
  · rw [if_pos (fun q => c q.1)]; exact ⟨rfl, r, fun _ _ => rfl⟩
  · rw [if_neg (fun q => q ⟨c, c2⟩), if_pos (by omega)]; exact ⟨rfl, r, fun _ _ => rfl⟩
  · have b0 := WF_held hW.h hW.s c c2
    obtain ⟨v1, v2, v3, v4⟩ := r.v a2 c2
    rw [r.h a1 a2 c c2, if_neg (fun q => q ⟨c, c2⟩), if_neg (by omega)]
    refine ⟨fun c5 => ⟨by omega, by omega, ?_⟩, fun c5 => ?_⟩
    · rintro _ rfl
      refine ⟨by omega, by omega, by omega, by omega, ?_⟩
      rw [zu_nek _ _ _ _ (by omega), v2]
      rintro _ rfl
      rw [zu_nek _ _ _ _ (by omega), zu_nek _ _ _ _ (by omega), show h b 7 = s 134 from r.n.1]
      rintro _ rfl
      refine ⟨by omega, by omega, ?_⟩
      rw [if_neg (by omega)]
      refine ⟨?_, Rep_write r c2 hW.n hW.c, fun k hk => by rw [zu_nekr _ _ _ (by omega), zu_nekr _ _ _ (by omega), zu_nekr _ _ _ (by omega)]⟩
      rw [((Rep_write (v := a3) r c2 hW.n hW.c).v a2 c2).2.1]
    · rw [if_pos (by omega)]; exact ⟨rfl, r, fun _ _ => rfl⟩
  · rw [if_neg (fun q => q ⟨c, c2⟩), if_pos (by omega)]; exact ⟨rfl, r, fun _ _ => rfl⟩
  · rw [if_pos (fun q => c2 q.2)]; exact ⟨rfl, r, fun _ _ => rfl⟩
def opHold (s : zs) (a c v : Int) : Int × zs := if ¬ ((0 ≤ a ∧ a ≤ 5) ∧ 0 ≤ c ∧ c ≤ 5) then (-1, s) else if v = 1 ∧ s (6 * c + a).toNat = 0 then (-4, s) else if s (36 + 6 * c + a).toNat = v then (-5, s) else (s (114 + c).toNat, sHold s a c v)
theorem WF_opHold {B : Int} {s : zs} {a c v : Int} (h : WF B s) (hv : v = 0 ∨ v = 1) : WF B (opHold s a c v).2 := by
  unfold opHold
  by_cases c1 : (0 ≤ a ∧ a ≤ 5) ∧ 0 ≤ c ∧ c ≤ 5
  · rw [if_neg (fun q => q c1)]
    repeat' split
    all_goals first | exact h | exact WF_hold h c1.1 c1.2 hv
  · rw [if_pos c1]; exact h
theorem zxorbit : ∀ v, v < 64 → ∀ a, a < 6 → (0 ≤ zxor (v : Nat) (zshl 1 (a : Nat)) ∧ zxor (v : Nat) (zshl 1 (a : Nat)) < 64) ∧ ∀ a', a' < 6 → (zxor (v : Nat) (zshl 1 (a : Nat))).toNat.testBit a' = (Nat.testBit v a' != decide (a = a')) := by decide +kernel
theorem Rep_sethold {s : zs} {h : zH} {b : Nat} {a c v : Int} (r : Rep s h b) (ha : 0 ≤ a ∧ a ≤ 5) (hc : 0 ≤ c ∧ c ≤ 5) (hW : WFn s) (hc6 : WFc s) (hh : WFh s) (hv : v = 0 ∨ v = 1) (hne : ¬ s (36 + 6 * c + a).toNat = v) : Rep (sHold s a c v) (zu h (b + 5) c.toNat (zxor (h (b + 5) c.toNat) (zshl 1 a))) b := by
  have off : ∀ j : Nat, j ≠ (36 + 6 * c + a).toNat → sHold s a c v j = s j := fun j hj => su_ne _ _ hj
  obtain ⟨w1, w2, -⟩ := hW
  refine ⟨fun c' hc' => ?_, fun a' c' ha' hc' => ?_, fun c' hc' => ?_, fun c' k hc' k0 k1 => ?_, ?_, fun z z0 z1 => ?_⟩
  · rw [zu_nek _ _ _ _ (by omega), zu_nek _ _ _ _ (by omega), zu_nek _ _ _ _ (by omega), zu_nek _ _ _ _ (by omega), off _ (by omega), off _ (by omega), off _ (by omega), off _ (by omega)]
    exact r.v c' hc'
  · rw [zu_nek _ _ _ _ (by omega), off _ (by omega)]
    exact r.h a' c' ha' hc'
  · have q0 := r.b c hc
    have q1 := zxorbit (h (b + 5) c.toNat).toNat (by omega) a.toNat (by omega)
    rw [show (((h (b + 5) c.toNat).toNat : Nat) : Int) = h (b + 5) c.toNat by omega, show ((a.toNat : Nat) : Int) = a by omega] at q1
    by_cases e : c' = c
    · rw [e, zu_same]
      refine ⟨q1.1, fun a' ha' => ?_⟩
      rw [q1.2 a'.toNat (by omega)]
      by_cases e2 : a' = a
      · rw [e2]
        unfold sHold
        rw [su_same]
        have q2 := q0.2 a ha
        have q3 := (hh a c ha hc).2
        rw [decide_eq_true rfl]
        cases hb : (h (b + 5) c.toNat).toNat.testBit a.toNat
        · rw [hb] at q2
          have : ¬ s (36 + 6 * c + a).toNat = 1 := fun z => by have := q2.mpr z; cases this
          exact ⟨fun _ => by omega, fun _ => rfl⟩
        · rw [hb] at q2
          have : s (36 + 6 * c + a).toNat = 1 := q2.mp rfl
          exact ⟨fun z => (by cases z), fun z => (by omega)⟩
      · rw [off _ (by omega), decide_eq_false (fun z => e2 (by omega)), ← q0.2 a' ha']
        cases (h (b + 5) c.toNat).toNat.testBit a'.toNat <;> exact Iff.rfl
    · rw [zu_nej _ _ _ (by omega)]
      refine ⟨(r.b c' hc').1, fun a' ha' => ?_⟩
      rw [off _ (by omega)]
      exact (r.b c' hc').2 a' ha'
  · have q := (hc6 c' hc').1
    rw [off _ (by omega)] at k1
    rw [zu_nek _ _ _ _ (by omega), off _ (by omega)]
    exact r.c c' k hc' k0 k1
  · unfold RepN
    rw [zu_nek _ _ _ _ (by omega), zu_nek _ _ _ _ (by omega), zu_nek _ _ _ _ (by omega), zu_nek _ _ _ _ (by omega), off _ (by omega), off _ (by omega), off _ (by omega), off _ (by omega)]
    exact r.n
  · rw [off 132 (by omega)] at z1
    rw [off (136 + 5 * z + 0).toNat (by omega), off (136 + 5 * z + 1).toNat (by omega), off (136 + 5 * z + 2).toNat (by omega), off (136 + 5 * z + 3).toNat (by omega), off (136 + 5 * z + 4).toNat (by omega)]
    simp (disch := omega) only [zu_nek]
    exact r.l z z0 z1
theorem c_X4_setHolding_32 {B : Int} {Post : Option zA → zH → Prop} {Γ : zCx} {h : zH} {b : Nat} {s : zs} {a1 a2 a3 : Int} (hb : zSt b) (r : Rep s h b) (hW : WF B s) (h1 : 0 ≤ a1 ∧ a1 ≤ 5) (h2 : 0 ≤ a2 ∧ a2 ≤ 5) (hv : a3 = 0 ∨ a3 = 1) (p1 : s (36 + 6 * a2 + a1).toNat = a3 → Post (some (zI (-5))) h) (p2 : ¬ s (36 + 6 * a2 + a1).toNat = a3 → ∀ h' : zH, Rep (sHold s a1 a2 a3) h' b → zFr b h h' → Post (some (zI (s (114 + a2).toNat))) h') : (fun (d : Nat) => zV RX4 cX4_setHolding 4 (some .int) d Post Γ 32 [(0, zR b), (1, zI a1), (2, zI a2), (3, zI a3)] [] h) 2 := by
  have q3 := (hW.h a1 a2 h1 h2).2
  have hbit := Rep_hold r h1 h2
  have key : a3 = (if ¬ zand (h (b + 5) a2.toNat) (zshl 1 a1) = 0 then 1 else 0) ↔ s (36 + 6 * a2 + a1).toNat = a3 := by
    by_cases e : ¬ zand (h (b + 5) a2.toNat) (zshl 1 a1) = 0
    · rw [if_pos e, hbit.mp e]
      omega
    · rw [if_neg e]
      have : ¬ s (36 + 6 * a2 + a1).toNat = 1 := fun z => e (hbit.mpr z)
      omega
  refine k_X4_setHolding_32 hb (by decide) ⟨h1, h2, fun c => ⟨by omega, by omega, by omega, by omega, ?_⟩, fun c => p1 (key.mp c)⟩
  rintro _ rfl
  have hne : ¬ s (36 + 6 * a2 + a1).toNat = a3 := fun z => c (key.mpr z)
  refine ⟨by omega, by omega, ?_⟩
  rw [zu_nek _ _ _ _ (by omega), (r.v a2 h2).1]
  exact p2 hne _ (Rep_sethold r h1 h2 hW.n hW.c hW.h hv hne) (fun k hk => by rw [zu_nekr _ _ _ (by omega)])
theorem c_X4_setHolding {B : Int} {h : zH} {b : Nat} {s : zs} {a1 a2 a3 : Int} (hb : zSt b) (r : Rep s h b) (hW : WF B s) (hv : a3 = 0 ∨ a3 = 1) : zSp 2 mX4_setHolding [zR b, zI a1, zI a2, zI a3] h (fun q h' => q = some (zI (opHold s a1 a2 a3).1) ∧ Rep (opHold s a1 a2 a3).2 h' b ∧ zFr b h h') := by
  refine zSp_of (by decide +kernel) (Nat.le_of_ble_eq_true rfl) rfl (fun Γ => k_X4_setHolding_0 hb (by decide) ?_)
  unfold opHold
  refine ⟨fun c => ?_, fun c => ⟨fun c2 => ?_, fun c2 => ?_⟩⟩
  · rw [if_pos (fun q => c q.1)]; exact ⟨rfl, r, fun _ _ => rfl⟩
  · rw [if_neg (fun q => q ⟨c, c2⟩), r.h a1 a2 c c2]
    refine ⟨fun c3 => ?_, fun c3 => ⟨c, c2, fun c4 => ?_, fun c4 => ?_⟩⟩
    · rw [if_neg (by omega)]
      refine c_X4_setHolding_32 hb r hW c c2 hv (fun q => ?_) (fun q h' r' f' => ?_)
      · rw [if_pos q]; exact ⟨rfl, r, fun _ _ => rfl⟩
      · rw [if_neg q]; exact ⟨rfl, r', f'⟩
    · rw [if_neg (fun q => c4 q.2)]
      refine c_X4_setHolding_32 hb r hW c c2 hv (fun q => ?_) (fun q h' r' f' => ?_)
      · rw [if_pos q]; exact ⟨rfl, r, fun _ _ => rfl⟩
      · rw [if_neg q]; exact ⟨rfl, r', f'⟩
    · rw [if_pos ⟨by omega, c4⟩]; exact ⟨rfl, r, fun _ _ => rfl⟩
  · rw [if_pos (fun q => c2 q.2)]; exact ⟨rfl, r, fun _ _ => rfl⟩
