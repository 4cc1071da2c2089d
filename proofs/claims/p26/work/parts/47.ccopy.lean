/-! the class's copies, history, gathering from outside -/
theorem zcp0 (h : zH) {ks kd n j : Nat} (h2 : j < n) : zcp h ks 0 kd 0 n kd j = h ks j := by
  rw [zcp_in _ (by omega) (by omega)]
  congr 1
  omega
theorem c_X0_copyFrom {h : zH} {b b1 : Nat} (hb : zSt b) (hb1 : zSt b1) (hne : b ≠ b1) : zSp 1 mX0_copyFrom [zR (b + 6), zR (b1 + 6)] h (fun q h' => q = none ∧ (∀ j : Nat, j < 36 → h' (b + 7) j = h (b1 + 7) j) ∧ (∀ j : Nat, j < 6 → h' (b + 8) j = h (b1 + 8) j) ∧ ∀ k : Nat, k ≠ b + 7 → k ≠ b + 8 → h' k = h k) := by
  refine zSp_of (by decide +kernel) (Nat.le_of_ble_eq_true rfl) rfl (fun Γ => k_X0_copyFrom_0 hb hb1 (by decide) ?_)
  have hs := zSt_sep hb hb1 hne
  rintro _ rfl
  rintro _ rfl
  refine ⟨rfl, fun j hj => ?_, fun j hj => ?_, fun k k1 k2 => ?_⟩
  · rw [zcp_ne _ (by omega), zcp0 _ hj]
  · rw [zcp0 _ hj, zcp_ne _ (by omega)]
  · rw [zcp_ne _ k2, zcp_ne _ k1]
theorem c_X3_copyFrom {h : zH} {b b1 : Nat} (hb : zSt b) (hb1 : zSt b1) (hne : b ≠ b1) (hn : 0 ≤ h (b1 + 9) 5 ∧ h (b1 + 9) 5 ≤ 40) : zSp 1 mX3_copyFrom [zR (b + 9), zR (b1 + 9)] h (fun q h' => q = none ∧ (h' (b + 9) 5 = h (b1 + 9) 5 ∧ h' (b + 9) 6 = h (b1 + 9) 6 ∧ h' (b + 9) 7 = h (b1 + 9) 7) ∧ (∀ w : Nat, 10 ≤ w → w ≤ 14 → ∀ j : Nat, j < (h (b1 + 9) 5).toNat → h' (b + w) j = h (b1 + w) j) ∧ ∀ k : Nat, (k < b + 9 ∨ b + 15 ≤ k) → h' k = h k) := by
  refine zSp_of (by decide +kernel) (Nat.le_of_ble_eq_true rfl) rfl (fun Γ => k_X3_copyFrom_0 hb hb1 (by decide) ?_)
  have hs := zSt_sep hb hb1 hne
  rintro _ rfl
  rw [zu_nek _ _ _ _ (by omega)]
  rintro _ rfl
  rw [zu_nek _ _ _ _ (by omega), zu_nek _ _ _ _ (by omega)]
  intro h3 e3
  have q5 : h3 (b + 9) 5 = h (b1 + 9) 5 := by rw [e3, zu_nej _ _ _ (by decide), zu_nej _ _ _ (by decide), zu_same]
  rw [q5]
  refine ⟨by omega, by omega, by omega, ?_⟩
  intro h7 e7
  have q7 : h7 (b + 9) = h3 (b + 9) := by rw [e7, zcp_ne _ (by omega)]
  rw [q7, q5]
  refine ⟨by omega, by omega, by omega, ?_⟩
  intro h11 e11
  have q11 : h11 (b + 9) = h3 (b + 9) := by rw [e11, zcp_ne _ (by omega), q7]
  rw [q11, q5]
  refine ⟨by omega, by omega, by omega, ?_⟩
  intro h15 e15
  have q15 : h15 (b + 9) = h3 (b + 9) := by rw [e15, zcp_ne _ (by omega), q11]
  rw [q15, q5]
  refine ⟨by omega, by omega, by omega, ?_⟩
  intro h19 e19
  have q19 : h19 (b + 9) = h3 (b + 9) := by rw [e19, zcp_ne _ (by omega), q15]
  rw [q19, q5]
  refine ⟨by omega, by omega, by omega, ?_⟩
  intro h23 e23
  have q23 : h23 (b + 9) = h3 (b + 9) := by rw [e23, zcp_ne _ (by omega), q19]
  have z3 : ∀ k : Nat, k ≠ b + 9 → h3 k = h k := fun k hk => by rw [e3, zu_nekr _ _ _ hk, zu_nekr _ _ _ hk, zu_nekr _ _ _ hk]
  refine ⟨rfl, ⟨by rw [q23, q5], ?_, ?_⟩, fun w w1 w2 j hj => ?_, fun k hk => ?_⟩
  · rw [q23, e3, zu_nej _ _ _ (by decide), zu_same]
  · rw [q23, e3, zu_same]
  · rcases (show w = 10 ∨ w = 11 ∨ w = 12 ∨ w = 13 ∨ w = 14 by omega) with q | q | q | q | q
    · rw [q, e23, zcp_ne _ (by omega), e19, zcp_ne _ (by omega), e15, zcp_ne _ (by omega), e11, zcp_ne _ (by omega), e7, zcp0 _ hj, z3 _ (by omega)]
    · rw [q, e23, zcp_ne _ (by omega), e19, zcp_ne _ (by omega), e15, zcp_ne _ (by omega), e11, zcp0 _ hj, e7, zcp_ne _ (by omega), z3 _ (by omega)]
    · rw [q, e23, zcp_ne _ (by omega), e19, zcp_ne _ (by omega), e15, zcp0 _ hj, e11, zcp_ne _ (by omega), e7, zcp_ne _ (by omega), z3 _ (by omega)]
    · rw [q, e23, zcp_ne _ (by omega), e19, zcp0 _ hj, e15, zcp_ne _ (by omega), e11, zcp_ne _ (by omega), e7, zcp_ne _ (by omega), z3 _ (by omega)]
    · rw [q, e23, zcp0 _ hj, e19, zcp_ne _ (by omega), e15, zcp_ne _ (by omega), e11, zcp_ne _ (by omega), e7, zcp_ne _ (by omega), z3 _ (by omega)]
  · rw [e23, zcp_ne _ (by omega), e19, zcp_ne _ (by omega), e15, zcp_ne _ (by omega), e11, zcp_ne _ (by omega), e7, zcp_ne _ (by omega), z3 _ (by omega)]
theorem c_X4_copyFrom {B : Int} {h : zH} {b b1 : Nat} {s : zs} (hb : zSt b) (hb1 : zSt b1) (hne : b ≠ b1) (r : Rep s h b1) (hW : WF B s) : zSp 2 mX4_copyFrom [zR b, zR b1] h (fun q h' => q = none ∧ Rep s h' b ∧ zFr b h h') := by
  refine zSp_of (by decide +kernel) (Nat.le_of_ble_eq_true rfl) rfl (fun Γ => k_X4_copyFrom_0 hb hb1 (by decide) ?_)
  have hs := zSt_sep hb hb1 hne
  obtain ⟨w1, w2, -⟩ := hW.n
  obtain ⟨n0, n1, n2, n3⟩ := r.n
  rintro _ rfl
  rintro _ rfl
  rintro _ rfl
  rintro _ rfl
  intro h5 e5
  have z5 : ∀ k : Nat, k ≠ b + 1 → k ≠ b + 2 → k ≠ b + 3 → k ≠ b + 4 → k ≠ b + 5 → h5 k = h k := fun k q1 q2 q3 q4 q5 => by rw [e5, zcp_ne _ q5, zcp_ne _ q4, zcp_ne _ q3, zcp_ne _ q2, zcp_ne _ q1]
  have y1 : ∀ j : Nat, j < 6 → h5 (b + 1) j = h (b1 + 1) j := fun j hj => by rw [e5, zcp_ne _ (by omega), zcp_ne _ (by omega), zcp_ne _ (by omega), zcp_ne _ (by omega), zcp0 _ hj]
  have y2 : ∀ j : Nat, j < 6 → h5 (b + 2) j = h (b1 + 2) j := fun j hj => by rw [e5, zcp_ne _ (by omega), zcp_ne _ (by omega), zcp_ne _ (by omega), zcp0 _ hj, zcp_ne _ (by omega)]
  have y3 : ∀ j : Nat, j < 6 → h5 (b + 3) j = h (b1 + 3) j := fun j hj => by rw [e5, zcp_ne _ (by omega), zcp_ne _ (by omega), zcp0 _ hj, zcp_ne _ (by omega), zcp_ne _ (by omega)]
  have y4 : ∀ j : Nat, j < 36 → h5 (b + 4) j = h (b1 + 4) j := fun j hj => by rw [e5, zcp_ne _ (by omega), zcp0 _ hj, zcp_ne _ (by omega), zcp_ne _ (by omega), zcp_ne _ (by omega)]
  have y5 : ∀ j : Nat, j < 6 → h5 (b + 5) j = h (b1 + 5) j := fun j hj => by rw [e5, zcp0 _ hj, zcp_ne _ (by omega), zcp_ne _ (by omega), zcp_ne _ (by omega), zcp_ne _ (by omega)]
  refine ⟨1, _, by decide, c_X0_copyFrom hb hb1 hne, ?_⟩
  rintro _ h9 ⟨rfl, a1, a2, a3⟩
  have q9 : h9 (b1 + 9) = h (b1 + 9) := by rw [a3 _ (by omega) (by omega), z5 _ (by omega) (by omega) (by omega) (by omega) (by omega)]
  refine ⟨rfl, 1, _, by decide, c_X3_copyFrom hb hb1 hne (by rw [q9]; omega), ?_⟩
  rintro _ h15 ⟨rfl, d1, d2, d3⟩
  rw [q9] at d1 d2
  refine ⟨rfl, ?_⟩
  have q15 : h15 b1 = h b1 := by rw [d3 _ (by omega), a3 _ (by omega) (by omega), z5 _ (by omega) (by omega) (by omega) (by omega) (by omega)]
  rw [q15]
  intro h18 e18
  have z18 : ∀ k : Nat, k ≠ b → h18 k = h15 k := fun k hk => by rw [e18, zu_nekr _ _ _ hk]
  have low : ∀ k : Nat, k = b + 1 ∨ k = b + 2 ∨ k = b + 3 ∨ k = b + 4 ∨ k = b + 5 → h18 k = h5 k := fun k hk => by rw [z18 _ (by omega), d3 _ (by omega), a3 _ (by omega) (by omega)]
  have mid : ∀ k : Nat, k = b + 7 ∨ k = b + 8 → h18 k = h9 k := fun k hk => by rw [z18 _ (by omega), d3 _ (by omega)]
  refine ⟨rfl, ⟨fun c hc => ?_, fun a c ha hc => ?_, fun c hc => ?_, fun c k hc k0 k1 => ?_, ?_, fun x x0 x1 => ?_⟩, fun k hk => ?_⟩
  · rw [low (b + 1) (by omega), low (b + 2) (by omega), low (b + 3) (by omega), mid (b + 8) (by omega), y1 _ (by omega), y2 _ (by omega), y3 _ (by omega), a2 _ (by omega), z5 (b1 + 8) (by omega) (by omega) (by omega) (by omega) (by omega)]
    exact r.v c hc
  · rw [low (b + 4) (by omega), y4 _ (by omega)]
    exact r.h a c ha hc
  · rw [low (b + 5) (by omega), y5 _ (by omega)]
    exact r.b c hc
  · have q := (hW.c c hc).1
    rw [mid (b + 7) (by omega), a1 _ (by omega), z5 (b1 + 7) (by omega) (by omega) (by omega) (by omega) (by omega)]
    exact r.c c k hc k0 k1
  · refine ⟨by rw [e18, zu_same]; exact n0, ?_, ?_, ?_⟩
    · rw [z18 _ (by omega), d1.1]; exact n1
    · rw [z18 _ (by omega), d1.2.1]; exact n2
    · rw [z18 _ (by omega), d1.2.2]; exact n3
  · have q15w : ∀ w : Nat, 10 ≤ w → w ≤ 14 → h18 (b + w) x.toNat = h (b1 + w) x.toNat := fun w p1 p2 => by rw [z18 _ (by omega), d2 w p1 p2 _ (by omega), a3 _ (by omega) (by omega), z5 _ (by omega) (by omega) (by omega) (by omega) (by omega)]
    rw [q15w 10 (by omega) (by omega), q15w 11 (by omega) (by omega), q15w 12 (by omega) (by omega), q15w 13 (by omega) (by omega), q15w 14 (by omega) (by omega)]
    exact r.l x x0 x1
  · rw [z18 _ (by omega), d3 _ (by omega), a3 _ (by omega) (by omega), z5 _ (by omega) (by omega) (by omega) (by omega) (by omega)]
theorem c_J7_fill_l {Post : Option zA → zH → Prop} {Γ : zCx} {h : zH} {q n : Nat} {v : Int} (hq : zArI q n) (hp : Post none (zrow h q (fun j => if j < n then v else h q j))) : ∀ k m : Nat, k + m = n → n < 100000 → (fun (d : Nat) => zV RJ7 cJ7_fill_53178 4 none d Post Γ 5 [(0, zR q), (1, zI v), (2, zI (m : Int)), (3, zI (n : Int))] [] (zrow h q (fun j => if j < m then v else h q j))) 1 := by
  intro k
  induction k with
  | zero =>
    intro m hm hn
    refine k_J7_fill_53178_5 hq (by decide) ⟨fun c => ?_, fun c => absurd c (by omega)⟩
    rw [show m = n by omega]
    exact hp
  | succ k ih =>
    intro m hm hn
    refine k_J7_fill_53178_5 hq (by decide) ⟨fun c => absurd c (by omega), fun c => ⟨by omega, by omega, ?_⟩⟩
    rintro _ rfl
    intro x e
    rw [zstep e (by omega), Int.toNat_natCast]
    have e2 : zu (zrow h q (fun j => if j < m then v else h q j)) q m v = zrow h q (fun j => if j < m + 1 then v else h q j) := by
      rw [zu_row, zrow_get, zrow_row]
      congr 1
      funext j
      unfold su
      by_cases hj : j = m
      · rw [if_pos hj, if_pos (by omega)]
      · rw [if_neg hj]
        show (if j < m then v else h q j) = _
        by_cases hj2 : j < m
        · rw [if_pos hj2, if_pos (by omega)]
        · rw [if_neg hj2, if_neg (by omega)]
    rw [e2]
    exact ih (m + 1) (by omega) hn
theorem c_J7_fill_53178 {h : zH} {q n : Nat} {v : Int} (hq : zArI q n) (hn : n < 100000) : zSp 1 mJ7_fill_53178 [zR q, zI v] h (fun x h' => x = none ∧ h' = zrow h q (fun j => if j < n then v else h q j)) := by
  refine zSp_of (by decide +kernel) (Nat.le_of_ble_eq_true rfl) rfl (fun Γ => k_J7_fill_53178_0 hq (by decide) ?_)
  have key := c_J7_fill_l (Post := fun x h' => x = none ∧ h' = zrow h q (fun j => if j < n then v else h q j)) (Γ := Γ) (h := h) (v := v) hq ⟨rfl, rfl⟩ n 0 rfl hn
  have e0 : (fun j : Nat => if j < 0 then v else h q j) = h q := funext fun j => if_neg (by omega)
  rw [e0, zrow_self] at key
  exact key
theorem c_X1_run {B : Int} {h : zH} {b : Nat} {s : zs} {a c : Int} (hb : zSt b) (r : Rep s h b) (hW : WF B s) (ha : 0 ≤ a ∧ a ≤ 5) (hc : 0 ≤ c ∧ c ≤ 5) : zSp 17 mX1_run [zR 123, zR b, zI a, zI c] h (fun q h' => q = some (zI (gat c 6 0 s a 135 - s 135)) ∧ Rep (gat c 6 0 s a) h' b ∧ zFg b h h') := by
  refine zSp_of (by decide +kernel) (Nat.le_of_ble_eq_true rfl) rfl (fun Γ => k_X1_run_0 hb (by decide) ?_)
  refine ⟨1, _, by decide, c_J7_fill_53178 za_idleAt (by decide), ?_⟩
  rintro _ h1 ⟨rfl, e1⟩
  have z1 : ∀ k : Nat, k ≠ 124 → h1 k = h k := fun k hk => by rw [e1, zrow_ne _ _ hk]
  have r1 : Rep s h1 b := Rep_congr r (fun k h0 h2 => z1 k (by have := zSt_124 hb; omega))
  refine ⟨rfl, ?_⟩
  intro x7 e7
  rw [r1.n.2.2.2] at e7
  have hJ : gJ c s h1 := by
    intro m hm a' ha' hb'
    have n := hW.n
    unfold WFn at n
    rw [e1, zrow_get]
    rw [if_pos (show 6 * m + a'.toNat < 384 by omega)]
    exact ⟨by omega, fun q => by omega⟩
  refine ⟨16, _, by decide, cGF_all (B := B) hc 6 b h1 s a 0 0 hb rfl hW r1 (by decide) (by decide) ha (Nat.zero_testBit _) hJ, ?_⟩
  rintro _ h2 ⟨rfl, r2, -, f2⟩
  refine ⟨rfl, ?_⟩
  obtain ⟨g1, g2⟩ := gat_ok (B := B) (c := c) 6 0 s a hW (Nat.zero_testBit _)
  have b1 := g1.n
  have b2 := hW.n
  unfold WFn at b1 b2
  refine ⟨?_, r2, fun k h0 hk => by rw [f2 k h0 hk, z1 k h0]⟩
  rw [r2.n.2.2.2, e7, zwr_eq (by omega) (by omega)]
noncomputable def opGather (s : zs) (a c : Int) : Int × zs := if ¬ (0 ≤ a ∧ a ≤ 5) then (-1, s) else if ¬ (0 ≤ c ∧ c ≤ 5) then (-1, s) else if gat c 6 0 s a 135 = s 135 then (-5, s) else (gat c 6 0 s a (6 * c + a).toNat, gat c 6 0 s a)
theorem WF_opGather {B : Int} {s : zs} {a c : Int} (h : WF B s) : WF B (opGather s a c).2 := by
  unfold opGather
  repeat' split
  all_goals first | exact h | exact (gat_ok 6 0 s a h (Nat.zero_testBit _)).1
theorem c_X6_gatherCell {B : Int} {h : zH} {s : zs} {a1 a2 : Int} (r : Rep s h 1) (hW : WF B s) : zSp 18 mX6_gatherCell [zR 0, zI a1, zI a2] h (fun q h' => q = some (zI (opGather s a1 a2).1) ∧ Rep (opGather s a1 a2).2 h' 1 ∧ zFg 1 h h') := by
  refine zSp_of (by decide +kernel) (Nat.le_of_ble_eq_true rfl) rfl (fun Γ => k_X6_gatherCell_0  (by decide) ?_)
  unfold opGather
  refine ⟨fun c => ?_, fun c => ⟨fun c2 => ?_, fun c2 => ?_⟩⟩
  · rw [if_pos c]; exact ⟨rfl, r, fun _ _ _ => rfl⟩
  · rw [if_neg (fun q => q c), if_neg (fun q => q c2)]
    refine ⟨17, _, by decide, c_X1_run zSt_1 r hW c c2, ?_⟩
    rintro _ h1 ⟨rfl, r1, f1⟩
    refine ⟨_, rfl, fun c3 => ⟨c, c2, ?_⟩, fun c3 => ?_⟩
    · rw [if_neg (by omega)]
      rw [show h1 5 = h1 (1 + 4) from rfl, r1.h a1 a2 c c2]
      exact ⟨rfl, r1, f1⟩
    · have e : gat a2 6 0 s a1 135 = s 135 := by omega
      rw [if_pos e]
      have es := (gat_ok (B := B) (c := a2) 6 0 s a1 hW (Nat.zero_testBit _)).2.2.2.1 e
      rw [es] at r1
      exact ⟨rfl, r1, f1⟩
  · rw [if_neg (fun q => q c), if_pos c2]; exact ⟨rfl, r, fun _ _ _ => rfl⟩
