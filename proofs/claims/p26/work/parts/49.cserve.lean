/-! serving and handing over -/
theorem sDrop_congr {s t : zs} {c k : Int} (hc : 0 ≤ c ∧ c ≤ 5) (hk : 0 ≤ k) (e : ∀ j : Nat, 72 ≤ j → j < 114 → t j = s j) {j : Nat} (h1 : 72 ≤ j) (h2 : j < 114) (hn : 1 ≤ s (108 + c).toNat ∧ s (108 + c).toNat ≤ 6) : sDrop t c k j = sDrop s c k j := by
  unfold sDrop sShC sSub su
  rw [e (108 + c).toNat (by omega) (by omega), zwr_eq (by omega) (by omega)]
  by_cases q : 72 + 6 * c + k ≤ (j : Int) ∧ (j : Int) < 72 + 6 * c + (s (108 + c).toNat - 1)
  · rw [if_pos q, if_pos q, e _ (by omega) (by omega)]
  · rw [if_neg q, if_neg q, e _ h1 h2]
theorem sAdd_congr {s t : zs} {i j : Nat} {p : Int} (hi : t i = s i) (hj : t j = s j) : sAdd t i p j = sAdd s i p j := by unfold sAdd su; rw [hi, hj]
theorem sSub_congr {s t : zs} {i j : Nat} {p : Int} (hi : t i = s i) (hj : t j = s j) : sSub t i p j = sSub s i p j := by unfold sSub su; rw [hi, hj]
theorem sPut_congr {s t : zs} {j : Nat} {x n a b c p : Int} (hj : t j = s j) : sPut t x n a b c p j = sPut s x n a b c p j := by unfold sPut su; rw [hj]
theorem sLend_congr {s t : zs} {a b c p : Int} (ht : ∀ j : Nat, j < 72 ∨ 114 ≤ j → t j = s j) (ha : 0 ≤ a ∧ a ≤ 5) (hb : 0 ≤ b ∧ b ≤ 5) (hc : 0 ≤ c ∧ c ≤ 5) {j : Nat} (hj : j < 72 ∨ 114 ≤ j) : sLend t a b c p j = sLend s a b c p j := by
  unfold sLend
  rw [ht 132 (by omega), ht 133 (by omega)]
  have h1 : ∀ j : Nat, j < 72 ∨ 114 ≤ j → sPut t (s 132) (s 133) a b c p j = sPut s (s 132) (s 133) a b c p j := fun j hj => sPut_congr (ht j hj)
  have h2 : ∀ j : Nat, j < 72 ∨ 114 ≤ j → sMove (sPut t (s 132) (s 133) a b c p) a b c p j = sMove (sPut s (s 132) (s 133) a b c p) a b c p j := by
    intro j hj
    unfold sMove
    exact sAdd_congr (sSub_congr (h1 _ (by omega)) (h1 _ (by omega))) (sSub_congr (h1 _ (by omega)) (h1 _ hj))
  exact sAdd_congr (sAdd_congr (h2 _ (by omega)) (h2 _ (by omega))) (sAdd_congr (h2 _ (by omega)) (h2 _ hj))
theorem sDrop_lend {s : zs} {a b c p : Int} (hn : 0 ≤ s 132 ∧ s 132 < 40) (ha : 0 ≤ a ∧ a ≤ 5) (hb : 0 ≤ b ∧ b ≤ 5) (hc : 0 ≤ c ∧ c ≤ 5) (h8 : 1 ≤ s (108 + c).toNat ∧ s (108 + c).toNat ≤ 6) : sDrop (sLend s a b c p) c 0 = sLend (sDrop s c 0) a b c p := by
  have off8 : ∀ j : Nat, 36 ≤ j → j < 132 → sLend s a b c p j = s j := fun j h1 h2 => sLend_off hn ha hb hc h1 (by omega)
  have ht : ∀ j : Nat, j < 72 ∨ 114 ≤ j → sDrop s c 0 j = s j := fun j hj => sDrop_off hc (by omega) (by omega) (by omega) (by omega)
  have e8 : sLend s a b c p (108 + c).toNat = s (108 + c).toNat := off8 _ (by omega) (by omega)
  funext j
  by_cases q : 72 ≤ j ∧ j < 114
  · rw [sDrop_congr hc (by omega) (fun j h1 h2 => off8 j (by omega) (by omega)) q.1 q.2 h8]
    exact (sLend_off (by rw [ht 132 (by omega)]; exact hn) ha hb hc (by omega) (by omega)).symm
  · rw [sDrop_off hc (by omega) (by rw [e8]; omega) (by rw [e8]; omega) (by omega)]
    exact (sLend_congr ht ha hb hc (by omega)).symm
noncomputable def opServe (s : zs) (c : Int) : Int × zs :=
  let o := s (126 + c).toNat
  let s1 := gat c 6 0 s o
  let f := s1 (72 + 6 * c + 0).toNat
  if ¬ (0 ≤ c ∧ c ≤ 5) then (-1, s) else if s (108 + c).toNat = 0 then (-4, s) else if ¬ (s1 (6 * c + o).toNat = 64 ∧ s1 (36 + 6 * c + o).toNat = 0) then (if s1 135 = s 135 then (-5, s) else (9, s1)) else if f = o then (f, sDrop s1 c 0) else if s1 132 = 40 ∨ s1 133 = 1000 then (-3, s) else (f, sDrop (sLend s1 o f c 64) c 0)
theorem WF_opServe {B : Int} {s : zs} {c : Int} (h : WF B s) : WF B (opServe s c).2 := by
  unfold opServe
  by_cases c1 : 0 ≤ c ∧ c ≤ 5
  · simp only [if_neg (fun q : ¬ (0 ≤ c ∧ c ≤ 5) => q c1)]
    by_cases c2 : s (108 + c).toNat = 0
    · simp only [if_pos c2]; exact h
    · simp only [if_neg c2]
      have ho := (h.v c c1).2.2
      obtain ⟨g1, g2⟩ := gat_ok (B := B) (c := c) 6 0 s (s (126 + c).toNat) h (Nat.zero_testBit _)
      generalize gat c 6 0 s (s (126 + c).toNat) = s1 at g1 g2 ⊢
      have e8 : s1 (108 + c).toNat = s (108 + c).toNat := g2.2.2.2.1 _ (by omega) (by omega)
      have hc1 := g1.c c c1
      have hf := hc1.2.1 0 (by omega) (by omega)
      by_cases c3 : s1 (6 * c + s (126 + c).toNat).toNat = 64 ∧ s1 (36 + 6 * c + s (126 + c).toNat).toNat = 0
      · rw [if_neg (fun q => q c3)]
        by_cases c4 : s1 (72 + 6 * c + 0).toNat = s (126 + c).toNat
        · rw [if_pos c4]; exact WF_drop g1 c1 (by omega)
        · rw [if_neg c4]
          by_cases c5 : s1 132 = 40 ∨ s1 133 = 1000
          · rw [if_pos c5]; exact h
          · rw [if_neg c5]
            have n := g1.n
            unfold WFn at n
            have w := WF_lend (a := s (126 + c).toNat) (b := s1 (72 + 6 * c + 0).toNat) (c := c) (p := 64) g1 (by omega) ho hf c1 (by omega) (by omega)
            refine WF_drop w c1 ?_
            rw [sLend_off (by omega) ho hf c1 (by omega) (by omega)]
            omega
      · rw [if_pos c3]
        split
        · exact h
        · exact g1
  · simp only [if_pos c1]; exact h
theorem c_X4_grantFirstClaim {B : Int} {h : zH} {b : Nat} {s : zs} {c : Int} (hb : zSt b) (r : Rep s h b) (hW : WF B s) (hc : 0 ≤ c ∧ c ≤ 5) (h8 : 1 ≤ s (108 + c).toNat) (hw : s (6 * c + s (126 + c).toNat).toNat = 64) (hh : s (36 + 6 * c + s (126 + c).toNat).toNat = 0) : zSp 3 mX4_grantFirstClaim [zR b, zI c] h (fun q h' =>
    q = some (zI (if s (72 + 6 * c + 0).toNat = s (126 + c).toNat then s (72 + 6 * c + 0).toNat else if s 132 = 40 ∨ s 133 = 1000 then -3 else s (72 + 6 * c + 0).toNat)) ∧ Rep (if s (72 + 6 * c + 0).toNat = s (126 + c).toNat then sDrop s c 0 else if s 132 = 40 ∨ s 133 = 1000 then s else sDrop (sLend s (s (126 + c).toNat) (s (72 + 6 * c + 0).toNat) c 64) c 0) h' b ∧ zFr b h h') := by
  refine zSp_of (by decide +kernel) (Nat.le_of_ble_eq_true rfl) rfl (fun Γ => k_X4_grantFirstClaim_0 hb (by decide) ?_)
  have hn := (hW.c c hc).1
  have hf := (hW.c c hc).2.1 0 (by omega) (by omega)
  obtain ⟨v1, v2, v3, v4⟩ := r.v c hc
  have ho := (hW.v c hc).2.2
  have e7 := r.c c 0 hc (by omega) (by omega)
  refine ⟨hc, ?_⟩
  rw [v4, if_neg (by omega), v3, show (6 * c).toNat = (6 * c + 0).toNat by omega, e7]
  intro x2 e2
  rw [e2]
  refine ⟨by omega, by omega, fun c1 => ?_, fun c1 => ⟨by omega, by omega, ?_⟩⟩
  · rw [if_pos c1, if_pos c1]
    refine ⟨_, _, by decide, c_X0_remove hb hc (by omega) (by omega), ?_⟩
    rintro _ _ ⟨rfl, rfl⟩
    exact ⟨rfl, rfl, Rep_drop r hW hc (by omega), fun k hk => by rw [zrow_ne _ _ (by omega), zu_nekr _ _ _ (by omega)]⟩
  · rw [if_neg c1, if_neg c1]
    refine ⟨_, _, by decide, c_X4_makeLoan hb r hW, ?_⟩
    rintro _ h1 ⟨rfl, r1, f1⟩
    refine ⟨_, rfl, ?_⟩
    have n := hW.n
    unfold WFn at n
    have key : sFault s (s (126 + c).toNat) (s (72 + 6 * c + 0).toNat) c 64 = if s 132 = 40 ∨ s 133 = 1000 then -3 else 0 := by
      unfold sFault
      rw [if_neg (fun q => q ho), if_neg (fun q => q hf), if_neg (fun q => q hc), if_neg (by omega), if_neg (fun q => c1 q.symm), if_neg (by omega), if_neg (by omega)]
    by_cases c5 : s 132 = 40 ∨ s 133 = 1000
    · rw [if_pos c5] at key
      rw [opLend_err key (by decide)] at r1 ⊢
      rw [if_pos c5, if_pos c5]
      exact ⟨fun q => absurd q (show ¬ (0 : Int) ≤ -3 by decide), fun _ => ⟨rfl, r1, f1⟩⟩
    · rw [if_neg c5] at key
      have eo : opLend s (s (126 + c).toNat) (s (72 + 6 * c + 0).toNat) c 64 = (s 133, sLend s (s (126 + c).toNat) (s (72 + 6 * c + 0).toNat) c 64) := by unfold opLend; rw [if_neg (by omega)]
      rw [eo] at r1 ⊢
      rw [if_neg c5, if_neg c5]
      have w := WF_lend (a := s (126 + c).toNat) (b := s (72 + 6 * c + 0).toNat) (c := c) (p := 64) hW (by omega) ho hf hc (by omega) (by omega)
      have e8 : sLend s (s (126 + c).toNat) (s (72 + 6 * c + 0).toNat) c 64 (108 + c).toNat = s (108 + c).toNat := sLend_off (by omega) ho hf hc (by omega) (by omega)
      have z8 := (r1.v c hc).2.2.2
      refine ⟨fun _ => ?_, fun q => absurd (show 0 ≤ s 133 by omega) q⟩
      refine ⟨_, _, by decide, c_X0_remove (h := h1) hb hc (by rw [z8]; show 0 ≤ (0 : Int) ∧ 0 < sLend _ _ _ _ _ _; rw [e8]; omega) (by rw [z8]; show sLend _ _ _ _ _ _ ≤ 6; rw [e8]; omega), ?_⟩
      rintro _ _ ⟨rfl, rfl⟩
      exact ⟨rfl, rfl, Rep_drop r1 w hc (by rw [e8]; omega), f1.trans (fun k hk => by rw [zrow_ne _ _ (by omega), zu_nekr _ _ _ (by omega)])⟩
theorem c_X6_serveClaims {B : Int} {h : zH} {s : zs} {c : Int} (r : Rep s h 1) (hW : WF B s) : zSp 18 mX6_serveClaims [zR 0, zI c] h (fun q h' => q = some (zI (opServe s c).1) ∧ (0 ≤ (opServe s c).1 → Rep (opServe s c).2 h' 1) ∧ zFg 1 h h') := by
  refine zSp_of (by decide +kernel) (Nat.le_of_ble_eq_true rfl) rfl (fun Γ => k_X6_serveClaims_0  (by decide) ?_)
  unfold opServe
  refine ⟨fun c1 => ⟨c1, fun c2 => ⟨by omega, by omega, ?_⟩, fun c2 => ?_⟩, fun c1 => ?_⟩
  · obtain ⟨v1, v2, v3, v4⟩ := r.v c c1
    have ho := (hW.v c c1).2.2
    rw [show h 4 = h (1 + 3) from rfl, v3]
    rw [show h 9 = h (1 + 8) from rfl, v4] at c2
    intro x4 e4
    rw [e4]
    simp only [if_neg (fun q : ¬ (0 ≤ c ∧ c ≤ 5) => q c1), if_neg c2]
    refine ⟨17, _, by decide, c_X1_run zSt_1 r hW ho c1, ?_⟩
    rintro _ h1 ⟨rfl, r1, f1⟩
    obtain ⟨g1, g2⟩ := gat_ok (B := B) (c := c) 6 0 s (s (126 + c).toNat) hW (Nat.zero_testBit _)
    generalize gat c 6 0 s (s (126 + c).toNat) = s1 at g1 g2 r1 ⊢
    have e8 : s1 (108 + c).toNat = s (108 + c).toNat := g2.2.2.2.1 _ (by omega) (by omega)
    have e126 : s1 (126 + c).toNat = s (126 + c).toNat := g2.2.2.2.1 _ (by omega) (by omega)
    have hc1 := g1.c c c1
    have hbit := Rep_hold r1 ho c1
    have hho := (g1.h _ c ho c1).2
    refine ⟨_, rfl, ho, c1, ?_⟩
    rw [show h1 5 = h1 (1 + 4) from rfl, r1.h _ c ho c1, show h1 6 = h1 (1 + 5) from rfl]
    refine ⟨fun c3 => ⟨fun c4 => ?_, fun c4 => ?_⟩, fun c3 => ⟨ho, c1, fun c4 => ⟨fun c5 => ?_, fun c5 => ?_⟩, fun c4 => ?_⟩⟩
    · rw [if_pos (fun q => c3 q.1), if_neg (by omega)]
      exact ⟨rfl, fun _ => r1, f1⟩
    · rw [if_pos (fun q => c3 q.1), if_pos (by omega)]
      exact ⟨rfl, fun q => absurd q (show ¬ (0 : Int) ≤ -5 by decide), f1⟩
    · have := hbit.mp c4
      rw [if_pos (fun q => by have := q.2; omega), if_neg (by omega)]
      exact ⟨rfl, fun _ => r1, f1⟩
    · have := hbit.mp c4
      rw [if_pos (fun q => by have := q.2; omega), if_pos (by omega)]
      exact ⟨rfl, fun q => absurd q (show ¬ (0 : Int) ≤ -5 by decide), f1⟩
    · have c5 : ¬ s1 (36 + 6 * c + s (126 + c).toNat).toNat = 1 := fun q => c4 (hbit.mpr q)
      have c6 : s1 (36 + 6 * c + s (126 + c).toNat).toNat = 0 := by omega
      refine ⟨3, _, by decide, c_X4_grantFirstClaim zSt_1 r1 g1 c1 (by omega) (by rw [e126]; exact c3) (by rw [e126]; exact c6), ?_⟩
      rintro _ h2 ⟨rfl, r2, f2⟩
      rw [e126] at r2 ⊢
      refine ⟨_, rfl, ?_⟩
      rw [if_neg (fun q : ¬ (s1 (6 * c + s (126 + c).toNat).toNat = 64 ∧ s1 (36 + 6 * c + s (126 + c).toNat).toNat = 0) => q ⟨c3, c6⟩)]
      by_cases q1 : s1 (72 + 6 * c + 0).toNat = s (126 + c).toNat
      · rw [if_pos q1, if_pos q1]
        rw [if_pos q1] at r2
        exact ⟨rfl, fun _ => r2, f1.trans f2.g⟩
      · rw [if_neg q1, if_neg q1]
        rw [if_neg q1] at r2
        by_cases q2 : s1 132 = 40 ∨ s1 133 = 1000
        · rw [if_pos q2, if_pos q2]
          exact ⟨rfl, fun q => absurd q (show ¬ (0 : Int) ≤ -3 by decide), f1.trans f2.g⟩
        · rw [if_neg q2, if_neg q2]
          rw [if_neg q2] at r2
          exact ⟨rfl, fun _ => r2, f1.trans f2.g⟩
  · rw [show h 9 = h (1 + 8) from rfl, (r.v c c1).2.2.2] at c2
    simp only [if_neg (fun q : ¬ (0 ≤ c ∧ c ≤ 5) => q c1), if_pos c2]
    exact ⟨by trivial, fun _ => r, fun _ _ _ => rfl⟩
  · simp only [if_pos c1]
    exact ⟨by trivial, fun _ => r, fun _ _ _ => rfl⟩
