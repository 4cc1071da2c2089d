/-! handing a cell over -/
theorem sCnt_pos {s : zs} {c : Int} (n : Nat) : 0 ≤ sCnt s c n ∧ sCnt s c n ≤ n := by
  induction n with
  | zero => exact ⟨Int.le_refl _, Int.le_refl _⟩
  | succ n ih =>
    unfold sCnt
    split <;> omega
theorem lsum_none {s : zs} {c : Int} : ∀ n : Nat, sCnt s c n = 0 → ∀ a : Int, lsum s a c n = 0 := by
  intro n
  induction n with
  | zero => intro _ _; rfl
  | succ n ih =>
    intro h a
    have p := sCnt_pos (s := s) (c := c) n
    unfold sCnt at h
    unfold lsum lterm
    by_cases e : s (136 + 5 * (n : Int) + 3).toNat = c
    · rw [if_pos e] at h; omega
    · rw [if_neg e] at h
      rw [if_neg e, ih (by omega) a]
      rfl
theorem held_alone {B : Int} {s : zs} {a c : Int} (h : WF B s) (ha : 0 ≤ a ∧ a ≤ 5) (hc : 0 ≤ c ∧ c ≤ 5) (hn : sCnt s c (s 132).toNat = 0) : s (6 * c + a).toNat = if s (126 + c).toNat = a then 64 else 0 := by
  rw [h.k a c ha hc, lsum_none _ hn a]
  omega
def sOwner (s : zs) (c t : Int) : zs := su (su (su s (126 + c).toNat t) (6 * c + s (126 + c).toNat).toNat 0) (6 * c + t).toNat 64
theorem sOwner_held {B : Int} {s : zs} {a c t a' c' : Int} (h : WF B s) (hc : 0 ≤ c ∧ c ≤ 5) (ht : 0 ≤ t ∧ t ≤ 5) (hn : sCnt s c (s 132).toNat = 0) (ha' : 0 ≤ a' ∧ a' ≤ 5) (hc' : 0 ≤ c' ∧ c' ≤ 5) : sOwner s c t (6 * c' + a').toNat = if c' = c then (if a' = t then 64 else 0) else s (6 * c' + a').toNat := by
  have ho := (h.v c hc).2.2
  unfold sOwner
  by_cases e : c' = c
  · rw [if_pos e, e]
    by_cases e2 : a' = t
    · rw [if_pos e2, e2, su_same]
    · rw [if_neg e2, su_ne _ _ (by omega)]
      by_cases e3 : a' = s (126 + c).toNat
      · rw [e3, su_same]
      · rw [su_ne _ _ (by omega), su_ne _ _ (by omega), held_alone h ha' hc hn, if_neg (fun q => e3 q.symm)]
  · rw [if_neg e, su_ne _ _ (by omega), su_ne _ _ (by omega), su_ne _ _ (by omega)]
theorem WF_owner {B : Int} {s : zs} {c t : Int} (h : WF B s) (hc : 0 ≤ c ∧ c ≤ 5) (ht : 0 ≤ t ∧ t ≤ 5) (hn : sCnt s c (s 132).toNat = 0) : WF B (sOwner s c t) := by
  have ho := (h.v c hc).2.2
  have off : ∀ j : Nat, 36 ≤ j → j ≠ (126 + c).toNat → sOwner s c t j = s j := by
    intro j h1 h2
    unfold sOwner
    rw [su_ne _ _ (by omega), su_ne _ _ (by omega), su_ne _ _ h2]
  have eo : sOwner s c t (126 + c).toNat = t := by
    unfold sOwner
    rw [su_ne _ _ (by omega), su_ne _ _ (by omega), su_same]
  have held := fun {a' c' : Int} (ha' : 0 ≤ a' ∧ a' ≤ 5) (hc' : 0 ≤ c' ∧ c' ≤ 5) => sOwner_held (a := 0) h hc ht hn ha' hc'
  have n := h.n
  unfold WFn at n
  refine ⟨?_, ?_, ?_, ?_, ?_, ?_, ?_, ?_, ?_⟩
  · unfold WFn
    rw [off 132 (by omega) (by omega), off 133 (by omega) (by omega), off 135 (by omega) (by omega)]
    exact h.n
  · intro x x0 x1
    rw [off 132 (by omega) (by omega)] at x1
    rw [off _ (by omega) (by omega), off _ (by omega) (by omega), off _ (by omega) (by omega), off _ (by omega) (by omega), off _ (by omega) (by omega), off _ (by omega) (by omega)]
    exact h.l x x0 x1
  · intro x y x0 xy y1
    rw [off 132 (by omega) (by omega)] at y1
    rw [off _ (by omega) (by omega), off _ (by omega) (by omega)]
    exact h.o x y x0 xy y1
  · intro a' c' ha' hc'
    rw [held ha' hc', off _ (by omega) (by omega)]
    have b0 := h.h a' c' ha' hc'
    refine ⟨?_, b0.2⟩
    repeat' split
    all_goals omega
  · intro c' hc'
    by_cases e : c' = c
    · unfold sum6
      rw [held (by omega) hc', held (by omega) hc', held (by omega) hc', held (by omega) hc', held (by omega) hc', held (by omega) hc']
      simp only [if_pos e]
      rcases (show t = 0 ∨ t = 1 ∨ t = 2 ∨ t = 3 ∨ t = 4 ∨ t = 5 by omega) with q | q | q | q | q | q <;> rw [q] <;> decide
    · rw [← h.s c' hc']
      unfold sum6
      rw [held (by omega) hc', held (by omega) hc', held (by omega) hc', held (by omega) hc', held (by omega) hc', held (by omega) hc']
      simp only [if_neg e]
  · intro a' c' ha' hc'
    rw [held ha' hc', off 132 (by omega) (by omega), lsum_congr (s := s) (s' := sOwner s c t) (s 132).toNat (fun x w x0 x1 h1 h4 => off _ (by omega) (by omega))]
    by_cases e : c' = c
    · rw [if_pos e, e, eo, lsum_none _ hn a']
      have q : (a' = t) = (t = a') := propext eq_comm
      simp only [q]
      omega
    · rw [if_neg e, off (126 + c').toNat (by omega) (by omega)]
      exact h.k a' c' ha' hc'
  · intro c' hc'
    rw [off (114 + c').toNat (by omega) (by omega), off (120 + c').toNat (by omega) (by omega)]
    refine ⟨(h.v c' hc').1, (h.v c' hc').2.1, ?_⟩
    by_cases e : c' = c
    · rw [e, eo]; exact ht
    · rw [off _ (by omega) (by omega)]; exact (h.v c' hc').2.2
  · intro c' hc'
    have hc2 := h.c c' hc'
    rw [off _ (by omega) (by omega)]
    refine ⟨hc2.1, fun k hk0 hk1 => ?_, fun k k' hk0 hk1 hk2 => ?_⟩
    · rw [off _ (by omega) (by omega)]
      exact hc2.2.1 k hk0 hk1
    · rw [off _ (by omega) (by omega), off _ (by omega) (by omega)]
      exact hc2.2.2 k k' hk0 hk1 hk2
  · intro j hj
    rw [off j (by omega) (by omega)]
    exact h.z j hj
def opHand (s : zs) (c t : Int) : Int × zs := if ¬ (0 ≤ c ∧ c ≤ 5) then (-1, s) else if ¬ (0 ≤ t ∧ t ≤ 5) then (-1, s) else if 0 < sCnt s c (s 132).toNat then (-4, s) else if s (36 + 6 * c + s (126 + c).toNat).toNat = 1 then (-4, s) else if t = s (126 + c).toNat then (-5, s) else (s (126 + c).toNat, sOwner s c t)
theorem WF_opHand {B : Int} {s : zs} {c t : Int} (h : WF B s) : WF B (opHand s c t).2 := by
  unfold opHand
  by_cases c1 : 0 ≤ c ∧ c ≤ 5
  · rw [if_neg (fun q => q c1)]
    by_cases c2 : 0 ≤ t ∧ t ≤ 5
    · rw [if_neg (fun q => q c2)]
      have p := sCnt_pos (s := s) (c := c) (s 132).toNat
      repeat' split
      all_goals first | exact h | exact WF_owner h c1 c2 (by omega)
    · rw [if_pos c2]; exact h
  · rw [if_pos c1]; exact h
theorem c_X3_countOf_l {Post : Option zA → zH → Prop} {Γ : zCx} {h : zH} {b : Nat} {s : zs} {v1 : Int} (hb : zSt b) (r : Rep s h b) (hW : WFn s) (hp : Post (some (zI (sCnt s v1 (s 132).toNat))) h) : ∀ n m : Nat, n + m = (s 132).toNat → (fun (d : Nat) => zV RX3 cX3_countOf 4 (some .int) d Post Γ 4 [(0, zR (b + 9)), (1, zI v1), (2, zI (sCnt s v1 m)), (3, zI (m : Int))] [] h) 1 := by
  obtain ⟨w1, w2, -⟩ := hW
  have hn := r.n.2.1
  intro n
  induction n with
  | zero =>
    intro m hm
    refine k_X3_countOf_4 hb (by decide) ⟨fun c => ?_, fun c => absurd c (by omega)⟩
    rw [show (s 132).toNat = m by omega] at hp
    exact hp
  | succ n ih =>
    intro m hm
    have p := sCnt_pos (s := s) (c := v1) m
    have hl := (r.l (m : Int) (by omega) (by omega)).2.2.2.1
    refine k_X3_countOf_4 hb (by decide) ⟨fun c => absurd c (by omega), fun c => ⟨by omega, by omega, fun c2 => ?_, fun c2 => ?_⟩⟩
    · intro x e
      have := ih (m + 1) (by omega)
      unfold sCnt at this
      rw [if_neg (by rw [← hl]; exact c2)] at this
      rw [zstep e (by omega)]
      rw [show sCnt s v1 m + 0 = sCnt s v1 m by omega] at this
      exact this
    · intro y ey x e
      have := ih (m + 1) (by omega)
      unfold sCnt at this
      rw [if_pos (by rw [← hl]; exact c2)] at this
      rw [zstep e (by omega), ey, zwr_eq (by omega) (by omega)]
      exact this
theorem c_X3_countOf {h : zH} {b : Nat} {s : zs} {a1 : Int} (hb : zSt b) (r : Rep s h b) (hW : WFn s) : zSp 1 mX3_countOf [zR (b + 9), zI a1] h (fun q h' => q = some (zI (sCnt s a1 (s 132).toNat)) ∧ h = h') := by
  refine zSp_of (by decide +kernel) (Nat.le_of_ble_eq_true rfl) rfl (fun Γ => k_X3_countOf_0 hb (by decide) ?_)
  exact c_X3_countOf_l hb r hW ⟨rfl, rfl⟩ (s 132).toNat 0 (by omega)
theorem c_X4_changeOwner {B : Int} {h : zH} {b : Nat} {s : zs} {a1 a2 : Int} (hb : zSt b) (r : Rep s h b) (hW : WF B s) : zSp 2 mX4_changeOwner [zR b, zI a1, zI a2] h (fun q h' => q = some (zI (opHand s a1 a2).1) ∧ Rep (opHand s a1 a2).2 h' b ∧ zFr b h h') := by
  refine zSp_of (by decide +kernel) (Nat.le_of_ble_eq_true rfl) rfl (fun Γ => k_X4_changeOwner_0 hb (by decide) ?_)
  unfold opHand
  refine ⟨fun c => ?_, fun c => ⟨fun c2 => ⟨by omega, by omega, ?_⟩, fun c2 => ?_⟩⟩
  · rw [if_pos c]; exact ⟨rfl, r, fun _ _ => rfl⟩
  · rw [if_neg (fun q => q c), if_neg (fun q => q c2)]
    have ho := (hW.v a1 c).2.2
    have e3 := (r.v a1 c).2.2.1
    have p := sCnt_pos (s := s) (c := a1) (s 132).toNat
    intro x3 ex
    rw [e3] at ex
    rw [ex]
    refine ⟨_, _, by decide, c_X3_countOf hb r hW.n, ?_⟩
    rintro _ _ ⟨rfl, rfl⟩
    refine ⟨_, rfl, fun c3 => ?_, fun c3 => ⟨ho, c, fun c4 => ⟨fun c5 => ?_, fun c5 => ?_⟩, fun c4 => ?_⟩⟩
    · rw [if_pos c3]; exact ⟨rfl, r, fun _ _ => rfl⟩
    · have c6 : ¬ s (36 + 6 * a1 + s (126 + a1).toNat).toNat = 1 := fun q => c4 ((Rep_hold r ho c).mpr q)
      rw [if_neg c3, if_neg c6, if_neg c5]
      refine ⟨_, _, by decide, c_X4_moveParts hb ho c2 c, ?_⟩
      rintro _ _ ⟨rfl, rfl⟩
      refine ⟨rfl, by omega, by omega, ?_⟩
      rintro _ rfl
      have hn : sCnt s a1 (s 132).toNat = 0 := by omega
      have n := hW.n
      unfold WFn at n
      have off : ∀ j : Nat, 36 ≤ j → j ≠ (126 + a1).toNat → sOwner s a1 a2 j = s j := by
        intro j h1 h2
        unfold sOwner
        rw [su_ne _ _ (by omega), su_ne _ _ (by omega), su_ne _ _ h2]
      have eo : sOwner s a1 a2 (126 + a1).toNat = a2 := by
        unfold sOwner
        rw [su_ne _ _ (by omega), su_ne _ _ (by omega), su_same]
      refine ⟨rfl, show Rep (sOwner s a1 a2) _ b from ⟨fun c' hc' => ?_, fun a' c' ha' hc' => ?_, fun c' hc' => ?_, fun c' k hc' k0 k1 => ?_, ?_, fun x x0 x1 => ?_⟩, fun k hk => by rw [zu_nekr _ _ _ (by omega), zrow_ne _ _ (by omega)]⟩
      · obtain ⟨v1, v2, v3, v4⟩ := r.v c' hc'
        rw [zu_nekr (k' := b + 1) _ _ _ (by omega), zu_nekr (k' := b + 2) _ _ _ (by omega), zu_nekr (k' := b + 8) _ _ _ (by omega), zrow_ne (k' := b + 1) _ _ (by omega), zrow_ne (k' := b + 2) _ _ (by omega), zrow_ne (k' := b + 8) _ _ (by omega), off (114 + c').toNat (by omega) (by omega), off (120 + c').toNat (by omega) (by omega), off (108 + c').toNat (by omega) (by omega)]
        refine ⟨v1, v2, ?_, v4⟩
        by_cases e : c' = a1
        · rw [e, eo, zu_same]
        · rw [zu_nej _ _ _ (by omega), zrow_ne _ _ (by omega), off _ (by omega) (by omega)]
          exact v3
      · rw [zu_nekr _ _ _ (by omega), zrow_get, sOwner_held (a := 0) hW c c2 hn ha' hc']
        have f1 := r.h _ _ ho c
        have f2 := r.h _ _ c2 c
        have g1 := held_alone hW ho c hn
        have g2 := held_alone hW c2 c hn
        rw [if_pos rfl] at g1
        rw [if_neg (fun q => c5 q.symm)] at g2
        rw [g1] at f1
        rw [g2] at f2
        rw [sMove_at ho c2 c ha' hc' (by omega) (by rw [f1]; omega) (by rw [f2]; omega), r.h a' c' ha' hc']
        by_cases e : c' = a1
        · rw [if_pos e, if_pos e, e, held_alone hW ha' c hn]
          by_cases e2 : a' = a2
          · rw [if_pos e2]; omega
          · rw [if_neg e2]; omega
        · rw [if_neg e, if_neg e]
          omega
      · rw [zu_nekr _ _ _ (by omega), zrow_ne _ _ (by omega)]
        refine ⟨(r.b c' hc').1, fun a' ha' => ?_⟩
        rw [off _ (by omega) (by omega)]
        exact (r.b c' hc').2 a' ha'
      · have hc6 := (hW.c c' hc').1
        rw [off _ (by omega) (by omega)] at k1
        rw [zu_nekr _ _ _ (by omega), zrow_ne _ _ (by omega), off _ (by omega) (by omega)]
        exact r.c c' k hc' k0 k1
      · unfold RepN
        rw [zu_nekr (k' := b) _ _ _ (by omega), zu_nekr (k' := b + 9) _ _ _ (by omega), zrow_ne (k' := b) _ _ (by omega), zrow_ne (k' := b + 9) _ _ (by omega), off 134 (by omega) (by omega), off 132 (by omega) (by omega), off 133 (by omega) (by omega), off 135 (by omega) (by omega)]
        exact r.n
      · rw [off 132 (by omega) (by omega)] at x1
        rw [off (136 + 5 * x + 0).toNat (by omega) (by omega), off (136 + 5 * x + 1).toNat (by omega) (by omega), off (136 + 5 * x + 2).toNat (by omega) (by omega), off (136 + 5 * x + 3).toNat (by omega) (by omega), off (136 + 5 * x + 4).toNat (by omega) (by omega)]
        rw [zu_nekr (k' := b + 10) _ _ _ (by omega), zu_nekr (k' := b + 11) _ _ _ (by omega), zu_nekr (k' := b + 12) _ _ _ (by omega), zu_nekr (k' := b + 13) _ _ _ (by omega), zu_nekr (k' := b + 14) _ _ _ (by omega)]
        rw [zrow_ne (k' := b + 10) _ _ (by omega), zrow_ne (k' := b + 11) _ _ (by omega), zrow_ne (k' := b + 12) _ _ (by omega), zrow_ne (k' := b + 13) _ _ (by omega), zrow_ne (k' := b + 14) _ _ (by omega)]
        exact r.l x x0 x1
    · by_cases c6 : s (36 + 6 * a1 + s (126 + a1).toNat).toNat = 1
      · exact absurd ((Rep_hold r ho c).mpr c6) c4
      · rw [if_neg c3, if_neg c6, if_pos c5]; exact ⟨rfl, r, fun _ _ => rfl⟩
    · have c6 := (Rep_hold r ho c).mp c4
      rw [if_neg c3, if_pos c6]; exact ⟨rfl, r, fun _ _ => rfl⟩
  · rw [if_neg (fun q => q c), if_pos c2]; exact ⟨rfl, r, fun _ _ => rfl⟩
