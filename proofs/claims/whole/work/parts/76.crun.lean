/-! the acts of a text are done: the class -/
noncomputable def opDo (s t : zs) : Int × zs := if t 0 = 108 then opLend s (t 1) (t 2) (t 3) (t 4) else if t 0 = 98 then opGive s (t 1) else if t 0 = 119 then opWrite s (t 1) (t 3) (t 4) else (0, gat (t 3) 6 0 s (t 1))
theorem opLend_ne {s : zs} {a b c p : Int} (hn : WFn s) : (opLend s a b c p).1 ≠ -5 := by
  unfold WFn at hn
  unfold opLend
  by_cases q : sFault s a b c p < 0
  · rw [if_pos q]
    show sFault s a b c p ≠ -5
    unfold sFault
    repeat' split
    all_goals decide
  · rw [if_neg q]
    show s 133 ≠ -5
    omega
theorem opGive_ne {B : Int} {s : zs} {k : Int} (hW : WF B s) : (opGive s k).1 ≠ -5 := by
  unfold opGive
  by_cases c1 : sPlace s k = -5
  · rw [if_pos c1]; exact (by decide : (-1 : Int) ≠ -5)
  · rw [if_neg c1]
    by_cases c2 : sCan s (sPlace s k)
    · rw [if_pos c2]
      have p := sPlace_ok c1 hW.n.1
      have l := hW.l _ p.1 p.2
      have := ((WF_give hW p c2).h _ _ l.2.1 l.2.2.2.1).1
      show sGive s (sPlace s k) _ ≠ -5
      omega
    · rw [if_neg c2]; exact (by decide : (-4 : Int) ≠ -5)
theorem opWrite_ne {B : Int} {s : zs} {a c v : Int} (hW : WF B s) (hB : B ≤ 100000) : (opWrite s a c v).1 ≠ -5 := by
  unfold opWrite
  by_cases c1 : (0 ≤ a ∧ a ≤ 5) ∧ 0 ≤ c ∧ c ≤ 5
  · rw [if_neg (fun q => q c1)]
    by_cases c2 : 0 ≤ v ∧ v ≤ 999
    · rw [if_neg (fun q => q c2)]
      by_cases c3 : s (6 * c + a).toNat < 64
      · rw [if_pos c3]; exact (by decide : (-4 : Int) ≠ -5)
      · rw [if_neg c3]
        have := ((WF_write hW hB c1.2 c2).v c c1.2).2.1.1
        show sWrite s c v (120 + c).toNat ≠ -5
        omega
    · rw [if_pos c2]; exact (by decide : (-2 : Int) ≠ -5)
  · rw [if_pos c1]; exact (by decide : (-1 : Int) ≠ -5)
theorem WF_opDo {B : Int} {s t : zs} (hW : WF B s) (hB : B ≤ 100000) : WF (B + 1) (opDo s t).2 := by
  unfold opDo
  repeat' split
  · exact WF_up (WF_opLend hW) (by omega)
  · exact WF_up (WF_opGive hW) (by omega)
  · exact WF_opWrite hW hB
  · exact WF_up (gat_ok 6 0 s _ hW (Nat.zero_testBit _)).1 (by omega)
noncomputable def rS (s : zs) (A : Nat → zs) : Nat → zs
  | 0 => s
  | k + 1 => (opDo (rS s A k) (A k)).2
theorem WF_rS {B : Int} {s : zs} {A : Nat → zs} (hW : WF B s) (hB : B ≤ 90000) : ∀ k : Nat, k ≤ 100 → WF (B + k) (rS s A k) := by
  intro k
  induction k with
  | zero => intro _; exact WF_up hW (by omega)
  | succ k ih =>
    intro hk
    have := WF_opDo (t := A k) (ih (by omega)) (by omega)
    exact WF_up this (by omega)
def runO (s : zs) (A : Nat → zs) (m : Nat) : Prop := ∀ j : Nat, j < m → 0 ≤ (opDo (rS s A j) (A j)).1
def runF (s : zs) (A : Nat → zs) (m k : Nat) (e : Int) : Prop := k < m ∧ (∀ j : Nat, j < k → 0 ≤ (opDo (rS s A j) (A j)).1) ∧ (opDo (rS s A k) (A k)).1 = e ∧ e < 0
theorem run_or (s : zs) (A : Nat → zs) : ∀ m : Nat, runO s A m ∨ ∃ (k : Nat) (e : Int), runF s A m k e := by
  intro m
  induction m with
  | zero => exact Or.inl (fun j hj => absurd hj (Nat.not_lt_zero _))
  | succ m ih =>
    rcases ih with h | ⟨k, e, h1, h2⟩
    · by_cases c : 0 ≤ (opDo (rS s A m) (A m)).1
      · refine Or.inl (fun j hj => ?_)
        by_cases q : j = m
        · rw [q]; exact c
        · exact h j (by omega)
      · exact Or.inr ⟨m, _, Nat.lt_succ_self _, h, rfl, by omega⟩
    · exact Or.inr ⟨k, e, by omega, h2⟩
theorem runF_no {s : zs} {A : Nat → zs} {m k : Nat} {e : Int} (h : runF s A m k e) : ¬ runO s A m := by
  intro o
  have := o k h.1
  rw [h.2.2.1] at this
  have := h.2.2.2
  omega
def tOK (t : zs) : Prop := (t 0 = 108 ∨ t 0 = 98 ∨ t 0 = 119 ∨ t 0 = 103) ∧ (t 0 = 103 → (0 ≤ t 1 ∧ t 1 ≤ 5) ∧ 0 ≤ t 3 ∧ t 3 ≤ 5)
theorem xS_in {T : zs} {len : Nat} {lo hi : Int} {z : zZ} (h : (xS T len lo hi z).1 = false) : lo ≤ sg T len z.2 ∧ sg T len z.2 ≤ hi := by
  unfold xS at h
  by_cases c : z.1 = false ∧ lo ≤ sg T len z.2 ∧ sg T len z.2 ≤ hi
  · exact c.2
  · rw [if_neg c] at h; cases h
theorem tOK_of {T : zs} {len p : Nat} (h : (oZ T len (false, p)).1 = false) : tOK (oTold T len (false, p)) := by
  refine ⟨(oZ_up h).2.2, fun e => ?_⟩
  obtain ⟨z1, z2, z3, z4⟩ := oZ_103 (show sg T len p = 103 from e)
  rw [z1] at h
  have i3 := xS_in h
  have u3 := xS_up h
  have u2 := xS_up u3.1
  have i1 := xS_in u2.1
  have i1' : 48 ≤ sg T len (p + 1) ∧ sg T len (p + 1) ≤ 53 := i1
  rw [z3, z4]
  omega
theorem tOK_zz {T : zs} {len k : Nat} (h : (ze T len k).1 = false) : tOK (oTold T len (zz T len k)) := by
  have a := zz_eq (oZ_up h).1
  have h' : (oZ T len (zz T len k)).1 = false := h
  rw [a] at h' ⊢
  exact tOK_of h'
theorem c_X6_performAct {B : Int} {h : zH} {s t : zs} {row : Nat} (r : Rep s h 1) (hW : WF B s) (hB : B ≤ 100000) (hr : row ≤ 145) (hS : cSl row t h) (hT : tOK t) : zSp 19 mX6_performAct [zR 0, zI (row : Int)] h (fun q h' => ∃ x : Int, q = some (zI x) ∧ (((0 ≤ x ∨ x = -5) ∧ 0 ≤ (opDo s t).1) ∨ (x < 0 ∧ x ≠ -5 ∧ (opDo s t).1 = x)) ∧ Rep (opDo s t).2 h' 1 ∧ zFg 1 h h') := by
  refine zSp_of (by decide +kernel) (Nat.le_of_ble_eq_true rfl) rfl (fun Γ => k_X6_performAct_0  (by decide) ?_)
  obtain ⟨s0, s1, sl, sw, sg⟩ := hS
  rw [zwr_eq (a := (row : Int) + 1) (by omega) (by omega), zwr_eq (a := (row : Int) + 2) (by omega) (by omega), zwr_eq (a := (row : Int) + 3) (by omega) (by omega), zwr_eq (a := (row : Int) + 4) (by omega) (by omega), Int.toNat_natCast, show ((row : Int) + 1).toNat = row + 1 by omega, show ((row : Int) + 2).toNat = row + 2 by omega, show ((row : Int) + 3).toNat = row + 3 by omega, show ((row : Int) + 4).toNat = row + 4 by omega, s0, s1]
  have fin : ∀ (op : Int × zs) (x : Int) (h' : zH), opDo s t = op → x = op.1 → op.1 ≠ -5 → Rep op.2 h' 1 → zFg 1 h h' → ∃ x1 : Int, some (zI x) = some (zI x1) ∧ (((0 ≤ x1 ∨ x1 = -5) ∧ 0 ≤ (opDo s t).1) ∨ (x1 < 0 ∧ x1 ≠ -5 ∧ (opDo s t).1 = x1)) ∧ Rep (opDo s t).2 h' 1 ∧ zFg 1 h h' := by
    intro op x h' e ex hne rr ff
    rw [e]
    refine ⟨x, rfl, ?_, rr, ff⟩
    by_cases c : 0 ≤ x
    · exact Or.inl ⟨Or.inl c, by omega⟩
    · exact Or.inr ⟨by omega, by omega, by omega⟩
  refine ⟨by omega, by omega, fun c => ⟨by omega, by omega, ?_⟩, fun c => ⟨by omega, by omega, by omega, by omega, ?_⟩, fun c => ⟨by omega, by omega, by omega, by omega, by omega, by omega, by omega, by omega, ?_⟩, fun c => ⟨by omega, by omega, by omega, by omega, by omega, by omega, ?_⟩, fun c1 c2 c3 c4 => ?_⟩
  · refine ⟨3, _, by decide, c_X4_endLoan zSt_1 r hW, ?_⟩
    rintro _ h' ⟨rfl, rr, ff⟩
    refine ⟨_, rfl, fin (opGive s (t 1)) _ h' ?_ rfl (opGive_ne hW) rr ff.g⟩
    unfold opDo
    rw [if_neg (by rw [c]; decide), if_pos c]
  · rw [sg c]
    refine ⟨18, _, by decide, c_X6_gatherCell r hW, ?_⟩
    rintro _ h' ⟨rfl, rr, ff⟩
    refine ⟨_, rfl, (opGather s (t 1) (t 3)).1, rfl, ?_⟩
    have e : opDo s t = (0, gat (t 3) 6 0 s (t 1)) := by
      unfold opDo
      rw [if_neg (by rw [c]; decide), if_neg (by rw [c]; decide), if_neg (by rw [c]; decide)]
    rw [e]
    obtain ⟨ta, tc⟩ := hT.2 c
    obtain ⟨g1, g2⟩ := gat_ok (B := B) (c := t 3) 6 0 s (t 1) hW (Nat.zero_testBit _)
    unfold opGather at rr ⊢
    rw [if_neg (fun q => q ta), if_neg (fun q => q tc)] at rr ⊢
    by_cases c2 : gat (t 3) 6 0 s (t 1) 135 = s 135
    · rw [if_pos c2] at rr ⊢
      rw [g2.2.2.1 c2]
      exact ⟨Or.inl ⟨Or.inr rfl, Int.le_refl _⟩, rr, ff⟩
    · rw [if_neg c2] at rr ⊢
      exact ⟨Or.inl ⟨Or.inl (g1.h _ _ ta tc).1, Int.le_refl _⟩, rr, ff⟩
  · obtain ⟨l2, l3, l4⟩ := sl c
    rw [l2, l3, l4]
    refine ⟨2, _, by decide, c_X4_makeLoan zSt_1 r hW, ?_⟩
    rintro _ h' ⟨rfl, rr, ff⟩
    refine ⟨_, rfl, fin (opLend s (t 1) (t 2) (t 3) (t 4)) _ h' ?_ rfl (opLend_ne hW.n) rr ff.g⟩
    unfold opDo
    rw [if_pos c]
  · obtain ⟨l2, l3⟩ := sw c
    rw [l2, l3]
    refine ⟨2, _, by decide, c_X4_writeValue zSt_1 r hW, ?_⟩
    rintro _ h' ⟨rfl, rr, ff⟩
    refine ⟨_, rfl, fin (opWrite s (t 1) (t 3) (t 4)) _ h' ?_ rfl (opWrite_ne hW hB) rr ff.g⟩
    unfold opDo
    rw [if_neg (by rw [c]; decide), if_neg (by rw [c]; decide), if_pos c]
  · rcases hT.1 with q | q | q | q
    · exact absurd q c3
    · exact absurd q c1
    · exact absurd q c4
    · exact absurd q c2
def zFp (h h' : zH) : Prop := (∀ k : Nat, k ≠ 0 → k ≠ 124 → 16 ≤ k → h' k = h k) ∧ ∀ i : Nat, i ≠ 7 → i ≠ 8 → i ≠ 9 → h' 0 i = h 0 i
def cClose (Post : Option zA → zH → Prop) (a : Int) (h : zH) : Prop := ∃ (d1 : Nat) (P2 : Option zA → zH → Prop), d1 + 1 ≤ 21 ∧ zSp d1 mX6_close [zR 0, zI a] h P2 ∧ ∀ r3 h4, P2 r3 h4 → ∃ x7 : Int, r3 = some (zI x7) ∧ Post (some (zI x7)) h4
theorem act_close {B B' : Int} {Post : Option zA → zH → Prop} {s s' : zs} {n : Nat} {H : Nat → zs} {h h1 h2 : zH} {a : Int} {o : Nat} (c0 : CInv B s n H h) (ho : h 46 1 = (o : Int)) (o5 : o < 5) (hB : B ≤ B') (hW' : 0 ≤ a → WF B' s') (r1 : Rep s h1 (48 + 15 * o)) (f1 : zFr (48 + 15 * o) h h1) (r2 : 0 ≤ a → Rep s' h2 1) (f2 : ∀ k : Nat, (k = 46 ∨ (48 ≤ k ∧ k < 123)) → h2 k = h1 k)
    (K : ∀ h' : zH, (∀ k : Nat, (k = 0 ∨ (16 ≤ k ∧ k < 46) ∨ 123 ≤ k) → h' k = h2 k) → (a < 0 → CInv B' s n H h') → (0 ≤ a → CInv B' s' (pushN n) (pushH n H s) h') → Post (some (zI a)) h') : cClose Post a h2 := by
  obtain ⟨q1, q2, q3, q4, q5, q6⟩ := id c0
  have rs : Rep s h2 (48 + 15 * o) := Rep_congr r1 (fun k _ _ => f2 k (by omega))
  have e46 : h2 46 = h 46 := by rw [f2 46 (by omega), f1 46 (by omega)]
  refine ⟨3, _, by omega, c_X6_close (B := B) (s := s) (by rw [e46]; exact ho) o5 (by rw [e46]; exact q4) q5 (fun _ => rs) q2, ?_⟩
  rintro _ h3 ⟨rfl, c1, c2⟩
  refine ⟨_, rfl, ?_⟩
  obtain ⟨w1, w2⟩ := act_end (h' := h3) c0 ho hB hW' r2 (fun k hk => by rw [f2 k (by omega), f1 k (by omega)]) rs c1 c2
  refine K h3 (fun k hk => ?_) w1 w2
  by_cases ha : a < 0
  · exact (c1 ha).2 k (by omega)
  · exact (c2 (by omega)).2.2 k (by omega)
theorem c_X6_noteStop {h : zH} {a1 a2 : Int} : zSp 1 mX6_noteStop [zR 0, zI a1, zI a2] h (fun q h' => q = none ∧ h' = zu (zu (zu h 0 7 1) 0 8 a1) 0 9 a2) := by
  refine zSp_of (by decide +kernel) (Nat.le_of_ble_eq_true rfl) rfl (fun Γ => k_X6_noteStop_0  (by decide) ?_)
  rintro _ rfl
  rintro _ rfl
  rintro _ rfl
  exact ⟨rfl, rfl⟩
theorem c_X6_perform_l {B : Int} {Post : Option zA → zH → Prop} {Γ : zCx} {s : zs} {A : Nat → zs} {m : Nat} {x0 : Int} {h0 : zH} (hW : WF B s) (hB : B ≤ 90000) (m21 : m ≤ 21) (hT : ∀ i : Nat, i < m → tOK (A i)) (h4 : h0 125 4 = (m : Int)) (hS : ∀ i : Nat, i < m → cSl (5 * i) (A i) h0)
    (K1 : runO s A m → ∀ h' : zH, Rep (rS s A m) h' 1 → zFg 1 h0 h' → cClose Post (m : Int) h')
    (K2 : ∀ (k : Nat) (e : Int), runF s A m k e → ∀ h' : zH, zFp h0 h' → h' 0 7 = 1 → h' 0 8 = (k : Int) → h' 0 9 = e → cClose Post (-4) h') :
    ∀ n k : Nat, n + k = m → ∀ h : zH, Rep (rS s A k) h 1 → zFg 1 h0 h → (∀ j : Nat, j < k → 0 ≤ (opDo (rS s A j) (A j)).1) → (fun (d : Nat) => zV RX6 cX6_perform 4 (some .int) d Post Γ 30 [(0, zR 0), (1, zI x0), (2, zI (k : Int))] [] h) 21 := by
  intro n
  induction n with
  | zero =>
    intro k hn h r f hj
    have e4 : h 125 4 = (m : Int) := by rw [f 125 (by decide) (by decide)]; exact h4
    refine k_X6_perform_30 (by decide) ⟨fun _ => ?_, fun c => absurd c (by omega)⟩
    rw [e4]
    rw [show k = m by omega] at r hj
    exact K1 hj h r f
  | succ n ih =>
    intro k hn h r f hj
    have e4 : h 125 4 = (m : Int) := by rw [f 125 (by decide) (by decide)]; exact h4
    refine k_X6_perform_30 (by decide) ⟨fun c => absurd c (by omega), fun _ => ?_⟩
    rw [zwr_eq (a := (k : Int) * 5) (by omega) (by omega), show (k : Int) * 5 = ((5 * k : Nat) : Int) by omega]
    have hs := hS k (by omega)
    have hs2 : cSl (5 * k) (A k) h := by
      unfold cSl cArg at hs ⊢
      rw [f 127 (by decide) (by decide)]
      exact hs
    refine ⟨19, _, by decide, c_X6_performAct r (WF_rS (A := A) hW hB k (by omega)) (by omega) (by omega) hs2 (hT k (by omega)), ?_⟩
    rintro _ h1 ⟨x, rfl, hx, r1, f1⟩
    have next : 0 ≤ (opDo (rS s A k) (A k)).1 → ∀ y : Int, y = zwr ((k : Int) + 1) → (fun (d : Nat) => zV RX6 cX6_perform 4 (some .int) d Post Γ 30 [(0, zR 0), (1, zI x0), (2, zI y)] [] h1) 21 := by
      intro ok y ey
      rw [zstep ey (by omega)]
      refine ih (k + 1) (by omega) h1 r1 (f.trans f1) (fun j hj2 => ?_)
      by_cases q : j = k
      · rw [q]; exact ok
      · exact hj j (by omega)
    refine ⟨x, rfl, fun c => ?_, fun c => ⟨fun c2 => ?_, fun c2 => ?_⟩⟩
    · rcases hx with ⟨-, ok⟩ | ⟨q, -⟩
      · exact next ok
      · exact absurd q (by omega)
    · rcases hx with ⟨-, ok⟩ | ⟨-, q, -⟩
      · exact next ok
      · exact absurd c2 q
    · rcases hx with ⟨q, -⟩ | ⟨q1, q2, q3⟩
      · omega
      · refine ⟨1, _, by decide, c_X6_noteStop, ?_⟩
        rintro _ _ ⟨rfl, rfl⟩
        refine ⟨rfl, ?_⟩
        refine K2 k x ⟨by omega, hj, q3, q1⟩ _ ⟨fun k' k0 k1 k2 => by rw [zu_nekr _ _ _ k0, zu_nekr _ _ _ k0, zu_nekr _ _ _ k0, f1 k' k1 (by omega), f k' k1 (by omega)], fun i i1 i2 i3 => by rw [zu_nej _ _ _ i3, zu_nej _ _ _ i2, zu_nej _ _ _ i1, f1 0 (by decide) (by decide), f 0 (by decide) (by decide)]⟩ ?_ ?_ ?_
        · rw [zu_nej _ _ _ (by decide), zu_nej _ _ _ (by decide), zu_same]
        · rw [zu_nej _ _ _ (by decide), zu_same]
        · rw [zu_same]
