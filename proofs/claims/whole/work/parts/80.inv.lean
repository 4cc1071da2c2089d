/-! class and reference side by side -/
def iKept (B : Int) (h : zH) : Prop := h 0 6 = h 128 6 ∧ (¬ h 128 6 = 0 → Rep (h 133) h 31 ∧ WF B (h 133)) ∧ WFz (h 133)
def iText (h : zH) : Prop := ∃ len : Nat, len ≤ 60 ∧ h 125 1 = (len : Int) ∧ h 128 8 = (len : Int) ∧ ∀ j : Nat, j < len → h 126 j = h 134 j ∧ 0 ≤ h 134 j ∧ h 134 j ≤ 65535
def iStop (h : zH) : Prop := (h 0 7 = 0 ∧ h 128 9 = -5 ∧ h 128 10 = -5) ∨ (h 0 7 = 1 ∧ h 0 8 = h 128 9 ∧ h 0 9 = h 128 10)
def iHist (B : Int) (h : zH) : Prop := ∃ n : Nat, h 128 4 = (n : Int) ∧ CInv B (h 129) n (mH h) h
def Inv (B : Int) (h : zH) : Prop := iHist B h ∧ iKept B h ∧ iText h ∧ iStop h
theorem CInv_H {B : Int} {s : zs} {n : Nat} {H H' : Nat → zs} {h : zH} (c : CInv B s n H h) (e : ∀ i : Nat, i < n → H' i = H i) : CInv B s n H' h := ⟨c.1, c.2.1, c.2.2.1, c.2.2.2.1, c.2.2.2.2.1, fun i hi => by rw [e i hi]; exact c.2.2.2.2.2 i hi⟩
theorem iKept_fr {B B' : Int} {h h' : zH} (k : iKept B h) (hB : B ≤ B') (e0 : h' 0 6 = h 0 6) (e8 : h' 128 6 = h 128 6) (e133 : h' 133 = h 133) (e31 : ∀ k : Nat, 31 ≤ k → k < 46 → h' k = h k) : iKept B' h' := by
  refine ⟨by rw [e0, e8]; exact k.1, fun q => ?_, by rw [e133]; exact k.2.2⟩
  rw [e8] at q
  rw [e133]
  exact ⟨Rep_congr (k.2.1 q).1 (fun k' k0 k1 => e31 k' k0 (by omega)), WF_up (k.2.1 q).2 hB⟩
theorem iText_fr {h h' : zH} (t : iText h) (e1 : h' 125 1 = h 125 1) (e2 : h' 126 = h 126) (e3 : h' 128 8 = h 128 8) (e4 : h' 134 = h 134) : iText h' := by
  obtain ⟨len, a, b, c, d⟩ := t
  exact ⟨len, a, by rw [e1]; exact b, by rw [e3]; exact c, fun j hj => by rw [e2, e4]; exact d j hj⟩
theorem iStop_fr {h h' : zH} (t : iStop h) (e7 : h' 0 7 = h 0 7) (e8 : h' 0 8 = h 0 8) (e9 : h' 0 9 = h 0 9) (f9 : h' 128 9 = h 128 9) (f10 : h' 128 10 = h 128 10) : iStop h' := by
  unfold iStop at t ⊢
  rw [e7, e8, e9, f9, f10]
  exact t
/-- an act of both sides -/
theorem Inv_act {B B' : Int} {n : Nat} {op : Int × zs} {h h1 h2 : zH} (I : Inv B h) (hn : h 128 4 = (n : Int)) (a : cAct B' (h 129) n (mH h) op h h1) (m : mAct n op h1 h2) (hB : B ≤ B') : Inv B' h2 := by
  obtain ⟨i1, i2, i3, i4⟩ := I
  obtain ⟨a1, a2, fa⟩ := a
  have e129 : h1 129 = h 129 := fa 129 (by omega)
  have e132 : h1 132 = h 132 := fa 132 (by omega)
  have e128 : h1 128 = h 128 := fa 128 (by omega)
  have em : ∀ i, mH h1 i = mH h i := mH_congr e132
  have em2 : mH h1 = mH h := funext em
  by_cases c : op.1 < 0
  · obtain ⟨m1, m2⟩ := m.1 c
    have c1 := a1 c
    refine ⟨⟨n, by rw [m2.2 4 (by decide) (by decide) (by decide) (by decide), e128]; exact hn, ?_⟩, ?_, ?_, ?_⟩
    · rw [m1, e129]
      refine CInv_H (CInv_fr c1 (fun k hk => m2.1 k (by omega))) (fun i _ => ?_)
      rw [mH_congr (m2.1 132 (by omega)), em]
    · exact iKept_fr i2 hB (by rw [m2.1 0 (by omega), fa 0 (by omega)]) (by rw [m2.2 6 (by decide) (by decide) (by decide) (by decide), e128]) (by rw [m2.1 133 (by omega), fa 133 (by omega)]) (fun k k0 k1 => by rw [m2.1 k (by omega), fa k (by omega)])
    · exact iText_fr i3 (by rw [m2.1 125 (by omega), fa 125 (by omega)]) (by rw [m2.1 126 (by omega), fa 126 (by omega)]) (by rw [m2.2 8 (by decide) (by decide) (by decide) (by decide), e128]) (by rw [m2.1 134 (by omega), fa 134 (by omega)])
    · exact iStop_fr i4 (by rw [m2.1 0 (by omega), fa 0 (by omega)]) (by rw [m2.1 0 (by omega), fa 0 (by omega)]) (by rw [m2.1 0 (by omega), fa 0 (by omega)]) (by rw [m2.2 9 (by decide) (by decide) (by decide) (by decide), e128]) (by rw [m2.2 10 (by decide) (by decide) (by decide) (by decide), e128])
  · obtain ⟨m1, p1, p2, p3⟩ := m.2 (by omega)
    have c1 := a2 (by omega)
    refine ⟨⟨pushN n, p1, ?_⟩, ?_, ?_, ?_⟩
    · rw [m1]
      refine CInv_H (CInv_fr c1 (fun k hk => p3.1 k (by omega))) (fun i hi => ?_)
      rw [p2 i hi, em2, e129]
    · exact iKept_fr i2 hB (by rw [p3.1 0 (by omega), fa 0 (by omega)]) (by rw [p3.2 6 (by decide) (by decide) (by decide) (by decide) (by decide), e128]) (by rw [p3.1 133 (by omega), fa 133 (by omega)]) (fun k k0 k1 => by rw [p3.1 k (by omega), fa k (by omega)])
    · exact iText_fr i3 (by rw [p3.1 125 (by omega), fa 125 (by omega)]) (by rw [p3.1 126 (by omega), fa 126 (by omega)]) (by rw [p3.2 8 (by decide) (by decide) (by decide) (by decide) (by decide), e128]) (by rw [p3.1 134 (by omega), fa 134 (by omega)])
    · exact iStop_fr i4 (by rw [p3.1 0 (by omega), fa 0 (by omega)]) (by rw [p3.1 0 (by omega), fa 0 (by omega)]) (by rw [p3.1 0 (by omega), fa 0 (by omega)]) (by rw [p3.2 9 (by decide) (by decide) (by decide) (by decide) (by decide), e128]) (by rw [p3.2 10 (by decide) (by decide) (by decide) (by decide) (by decide), e128])
theorem Inv_up {B B' : Int} {h : zH} (I : Inv B h) (hB : B ≤ B') : Inv B' h := by
  obtain ⟨⟨n, i0, i1⟩, i2, i3, i4⟩ := I
  exact ⟨⟨n, i0, CInv_up i1 hB⟩, ⟨i2.1, fun q => ⟨(i2.2.1 q).1, WF_up (i2.2.1 q).2 hB⟩, i2.2.2⟩, i3, i4⟩
/-- a question to both sides -/
theorem Inv_ask {B B' : Int} {h h1 h2 : zH} (I : Inv B h) (f : zFt h h1) (e : h2 129 = h1 129) (m : mF h1 h2) (hB : B ≤ B') : Inv B' h2 := by
  obtain ⟨⟨n, i0, i1⟩, i2, i3, i4⟩ := I
  have g : ∀ k : Nat, k ≠ 124 → (k < 16 ∨ (31 ≤ k ∧ k ≤ 127) ∨ k = 132 ∨ k = 133 ∨ k = 134) → h2 k = h k := fun k k0 k1 => by rw [m.1 k (by omega), f k k0 (by omega)]
  have g8 : ∀ i : Nat, i ≠ 14 → i ≠ 15 → i ≠ 16 → i ≠ 18 → h2 128 i = h 128 i := fun i a b c d => by rw [m.2 i a b c d, f 128 (by decide) (by omega)]
  have e129 : h2 129 = h 129 := by rw [e, f 129 (by decide) (by omega)]
  refine ⟨⟨n, by rw [g8 4 (by decide) (by decide) (by decide) (by decide)]; exact i0, ?_⟩, iKept_fr i2 hB (by rw [g 0 (by decide) (by omega)]) (g8 6 (by decide) (by decide) (by decide) (by decide)) (g 133 (by decide) (by omega)) (fun k k0 k1 => g k (by omega) (by omega)), iText_fr i3 (by rw [g 125 (by decide) (by omega)]) (g 126 (by decide) (by omega)) (g8 8 (by decide) (by decide) (by decide) (by decide)) (g 134 (by decide) (by omega)), iStop_fr i4 (by rw [g 0 (by decide) (by omega)]) (by rw [g 0 (by decide) (by omega)]) (by rw [g 0 (by decide) (by omega)]) (g8 9 (by decide) (by decide) (by decide) (by decide)) (g8 10 (by decide) (by decide) (by decide) (by decide))⟩
  rw [e129]
  exact CInv_H (CInv_fr (CInv_up i1 hB) (fun k hk => g k (by omega) (by omega))) (fun i _ => mH_congr (g 132 (by decide) (by omega)) i)
/-- a call of both sides, one behind the other: one answer, and all stands as before -/
def lCall (B : Int) (d1 d2 : Nat) (M6 M7 : zM) (args : List zA) (h : zH) : Prop := ∃ P1 : Option zA → zH → Prop, zSp d1 M6 (zR 0 :: args) h P1 ∧ ∀ r h1, P1 r h1 → ∃ x : Int, r = some (zI x) ∧ ∃ P2 : Option zA → zH → Prop, zSp d2 M7 (zR 128 :: args) h1 P2 ∧ ∀ r2 h2, P2 r2 h2 → r2 = some (zI x) ∧ Inv (B + 100) h2
theorem lCall_act {B B' : Int} {d1 d2 n : Nat} {M6 M7 : zM} {args : List zA} {h : zH} {op : zs → Int × zs} (I : Inv B h) (hn : h 128 4 = (n : Int)) (hB1 : B ≤ B') (hB2 : B' ≤ B + 100)
    (c6 : zSp d1 M6 (zR 0 :: args) h (fun q h' => q = some (zI (op (h 129)).1) ∧ cAct B' (h 129) n (mH h) (op (h 129)) h h'))
    (c7 : ∀ h1 : zH, h1 129 = h 129 → h1 128 = h 128 → h1 133 = h 133 → zSp d2 M7 (zR 128 :: args) h1 (fun q h' => q = some (zI (op (h 129)).1) ∧ mAct n (op (h 129)) h1 h')) : lCall B d1 d2 M6 M7 args h := by
  refine ⟨_, c6, ?_⟩
  rintro _ h1 ⟨rfl, a⟩
  refine ⟨_, rfl, _, c7 h1 (a.2.2 129 (by omega)) (a.2.2 128 (by omega)) (a.2.2 133 (by omega)), ?_⟩
  rintro _ h2 ⟨rfl, m⟩
  exact ⟨rfl, Inv_up (Inv_act I hn a m hB1) hB2⟩
theorem l_lend {B : Int} {h : zH} {a1 a2 a3 a4 : Int} (I : Inv B h) : lCall B 4 4 mX6_lend mX7_lend [zI a1, zI a2, zI a3, zI a4] h := by
  obtain ⟨n, hn, c⟩ := I.1
  refine lCall_act (B' := B) (op := fun s => opLend s a1 a2 a3 a4) I hn (Int.le_refl _) (by omega) (c_X6_lend c) (fun h1 e1 e2 _ => ?_)
  rw [← e1]
  exact c_X7_lend (by rw [e1]; exact c.2.1) (by rw [e2]; exact hn) c.2.2.2.2.1
theorem l_half {B : Int} {h : zH} {a1 a2 a3 : Int} (I : Inv B h) : lCall B 4 3 mX6_half mX7_half [zI a1, zI a2, zI a3] h := by
  obtain ⟨n, hn, c⟩ := I.1
  refine lCall_act (B' := B) (op := fun s => opHalf s a1 a2 a3) I hn (Int.le_refl _) (by omega) (c_X6_half c) (fun h1 e1 e2 _ => ?_)
  rw [← e1]
  exact c_X7_half (by rw [e1]; exact c.2.1) (by rw [e2]; exact hn) c.2.2.2.2.1
theorem l_giveBack {B : Int} {h : zH} {a1 : Int} (I : Inv B h) : lCall B 4 4 mX6_giveBack mX7_giveBack [zI a1] h := by
  obtain ⟨n, hn, c⟩ := I.1
  refine lCall_act (B' := B) (op := fun s => opGive s a1) I hn (Int.le_refl _) (by omega) (c_X6_giveBack c) (fun h1 e1 e2 _ => ?_)
  rw [← e1]
  exact c_X7_giveBack (by rw [e1]; exact c.2.1) (by rw [e2]; exact hn) c.2.2.2.2.1
theorem l_gather {B : Int} {h : zH} {a1 a2 : Int} (I : Inv B h) : lCall B 19 4 mX6_gather mX7_gather [zI a1, zI a2] h := by
  obtain ⟨n, hn, c⟩ := I.1
  refine lCall_act (B' := B) (op := fun s => opGather s a1 a2) I hn (Int.le_refl _) (by omega) (c_X6_gather c) (fun h1 e1 e2 _ => ?_)
  rw [← e1]
  exact c_X7_gather (by rw [e1]; exact c.2.1) (by rw [e2]; exact hn) c.2.2.2.2.1
theorem l_hold {B : Int} {h : zH} {a1 a2 a3 : Int} (I : Inv B h) (hv : a3 = 0 ∨ a3 = 1) : lCall B 4 4 mX6_hold mX7_hold [zI a1, zI a2, zI a3] h := by
  obtain ⟨n, hn, c⟩ := I.1
  refine lCall_act (B' := B) (op := fun s => opHold s a1 a2 a3) I hn (Int.le_refl _) (by omega) (c_X6_hold c hv) (fun h1 e1 e2 _ => ?_)
  rw [← e1]
  exact c_X7_hold (by rw [e1]; exact c.2.1) (by rw [e2]; exact hn) c.2.2.2.2.1 hv
theorem l_write {B : Int} {h : zH} {a1 a2 a3 : Int} (I : Inv B h) (hB : B ≤ 90000) : lCall B 4 5 mX6_write mX7_write [zI a1, zI a2, zI a3] h := by
  obtain ⟨n, hn, c⟩ := I.1
  refine lCall_act (B' := B + 1) (op := fun s => opWrite s a1 a2 a3) I hn (by omega) (by omega) (c_X6_write c (by omega)) (fun h1 e1 e2 _ => ?_)
  rw [← e1]
  exact c_X7_write (B := B) (by rw [e1]; exact c.2.1) (by omega) (by rw [e2]; exact hn) c.2.2.2.2.1
theorem l_claim {B : Int} {h : zH} {a1 a2 a3 : Int} (I : Inv B h) (hv : a3 = 0 ∨ a3 = 1) : lCall B 4 4 mX6_claim mX7_claim [zI a1, zI a2, zI a3] h := by
  obtain ⟨n, hn, c⟩ := I.1
  refine lCall_act (B' := B) (op := fun s => opClaim s a1 a2 a3) I hn (Int.le_refl _) (by omega) (c_X6_claim c hv) (fun h1 e1 e2 _ => ?_)
  rw [← e1]
  exact c_X7_claim (by rw [e1]; exact c.2.1) (by rw [e2]; exact hn) c.2.2.2.2.1 hv
theorem l_serve {B : Int} {h : zH} {a1 : Int} (I : Inv B h) : lCall B 19 5 mX6_serve mX7_serve [zI a1] h := by
  obtain ⟨n, hn, c⟩ := I.1
  refine lCall_act (B' := B) (op := fun s => opServe s a1) I hn (Int.le_refl _) (by omega) (c_X6_serve c) (fun h1 e1 e2 _ => ?_)
  rw [← e1]
  exact c_X7_serve (by rw [e1]; exact c.2.1) (by rw [e2]; exact hn) c.2.2.2.2.1
theorem l_handOver {B : Int} {h : zH} {a1 a2 : Int} (I : Inv B h) : lCall B 4 3 mX6_handOver mX7_handOver [zI a1, zI a2] h := by
  obtain ⟨n, hn, c⟩ := I.1
  refine lCall_act (B' := B) (op := fun s => opHand s a1 a2) I hn (Int.le_refl _) (by omega) (c_X6_handOver c) (fun h1 e1 e2 _ => ?_)
  rw [← e1]
  exact c_X7_handOver (by rw [e1]; exact c.2.1) (by rw [e2]; exact hn) c.2.2.2.2.1
theorem l_restore {B : Int} {h : zH} (I : Inv B h) : lCall B 4 2 mX6_restore mX7_restore [] h := by
  obtain ⟨n, hn, c⟩ := I.1
  have k := I.2.1
  have c6 := c_X6_restore (sk := h 133) c (fun q => k.2.1 (by rw [← k.1]; exact q))
  rw [k.1] at c6
  refine lCall_act (B' := B) (op := fun s => opRest (h 128 6) s (h 133)) I hn (Int.le_refl _) (by omega) c6 (fun h1 e1 e2 e3 => ?_)
  have c7 := c_X7_restore (B := B) (h := h1) (n := n) (by rw [e1]; exact c.2.1.z) (fun q => by rw [e3]; rw [e2] at q; exact (k.2.1 q).2) (by rw [e2]; exact hn) c.2.2.2.2.1
  rw [e1, e2, e3] at c7
  exact c7
theorem lCall_ask {B : Int} {d1 d2 : Nat} {M6 M7 : zM} {args : List zA} {h : zH} {x : Int} (I : Inv B h) (P1 P2 : Option zA → zH → Prop)
    (c6 : zSp d1 M6 (zR 0 :: args) h P1) (h6 : ∀ r h1, P1 r h1 → r = some (zI x) ∧ zFt h h1)
    (c7 : ∀ h1 : zH, zFt h h1 → ∃ P2 : Option zA → zH → Prop, zSp d2 M7 (zR 128 :: args) h1 P2 ∧ ∀ r h2, P2 r h2 → r = some (zI x) ∧ h2 129 = h1 129 ∧ mF h1 h2) : lCall B d1 d2 M6 M7 args h := by
  refine ⟨P1, c6, ?_⟩
  intro r h1 p1
  obtain ⟨rfl, f1⟩ := h6 r h1 p1
  obtain ⟨P2, s2, q2⟩ := c7 h1 f1
  refine ⟨x, rfl, P2, s2, ?_⟩
  intro r2 h2 p2
  obtain ⟨rfl, e2, f2⟩ := q2 r2 h2 p2
  exact ⟨rfl, Inv_ask I f1 e2 f2 (by omega)⟩
theorem zFt.m {h h1 : zH} (f : zFt h h1) {k : Nat} (hk : 128 ≤ k) : h1 k = h k := f k (by omega) (by omega)
theorem l_read {B : Int} {h : zH} {a1 a2 : Int} (I : Inv B h) : lCall B 2 4 mX6_read mX7_read [zI a1, zI a2] h := by
  obtain ⟨n, hn, c⟩ := I.1
  refine lCall_ask (x := qRead (h 129) a1 a2) I _ (fun _ _ => True) (c_X6_read c.1) ?_ (fun h1 f1 => ⟨_, c_X7_read, ?_⟩)
  · rintro _ _ ⟨rfl, rfl⟩; exact ⟨rfl, zFt.rfl'⟩
  · rintro _ _ ⟨rfl, rfl⟩; rw [f1.m (by decide)]; exact ⟨rfl, rfl, mF.rfl'⟩
theorem l_cell {B : Int} {h : zH} {a1 a2 : Int} (I : Inv B h) : lCall B 3 3 mX6_cell mX7_cell [zI a1, zI a2] h := by
  obtain ⟨n, hn, c⟩ := I.1
  refine lCall_ask (x := qCell (h 129) a1 a2) I _ (fun _ _ => True) (c_X6_cell c.1 c.2.1) ?_ (fun h1 f1 => ⟨_, c_X7_cell (B := B) (by rw [f1.m (by decide)]; exact c.2.1), ?_⟩)
  · rintro _ _ ⟨rfl, rfl⟩; exact ⟨rfl, zFt.rfl'⟩
  · rintro _ _ ⟨rfl, rfl⟩; rw [f1.m (by decide)]; exact ⟨rfl, rfl, mF.rfl'⟩
theorem l_part {B : Int} {h : zH} {a1 a2 a3 : Int} (I : Inv B h) : lCall B 19 5 mX6_part mX7_part [zI a1, zI a2, zI a3] h := by
  obtain ⟨n, hn, c⟩ := I.1
  refine lCall_ask (x := qPart (h 129) a1 a2 a3) I _ (fun _ _ => True) (c_X6_part c.1 c.2.1) ?_ (fun h1 f1 => ⟨_, c_X7_part (B := B) (by rw [f1.m (by decide)]; exact c.2.1), ?_⟩)
  · rintro _ _ ⟨rfl, f⟩; exact ⟨rfl, f⟩
  · rintro _ _ ⟨rfl, e, f⟩; rw [f1.m (by decide)]; exact ⟨rfl, by rw [e, f1.m (by decide)], f⟩
theorem l_loan {B : Int} {h : zH} {a1 a2 : Int} (I : Inv B h) : lCall B 3 3 mX6_loan mX7_loan [zI a1, zI a2] h := by
  obtain ⟨n, hn, c⟩ := I.1
  refine lCall_ask (x := qLoan (h 129) a1 a2) I _ (fun _ _ => True) (c_X6_loan c.1 c.2.1) ?_ (fun h1 f1 => ⟨_, c_X7_loan (B := B) (by rw [f1.m (by decide)]; exact c.2.1), ?_⟩)
  · rintro _ _ ⟨rfl, rfl⟩; exact ⟨rfl, zFt.rfl'⟩
  · rintro _ _ ⟨rfl, rfl⟩; rw [f1.m (by decide)]; exact ⟨rfl, rfl, mF.rfl'⟩
theorem l_reason {B : Int} {h : zH} {a1 a2 : Int} (I : Inv B h) : lCall B 19 5 mX6_reason mX7_reason [zI a1, zI a2] h := by
  obtain ⟨n, hn, c⟩ := I.1
  refine lCall_ask (x := qReason (h 129) a1 a2) I _ (fun _ _ => True) (c_X6_reason c.1 c.2.1) ?_ (fun h1 f1 => ⟨_, c_X7_reason (B := B) (by rw [f1.m (by decide)]; exact c.2.1), ?_⟩)
  · rintro _ _ ⟨rfl, f⟩; exact ⟨rfl, f⟩
  · rintro _ _ ⟨rfl, e, f⟩; rw [f1.m (by decide)]; exact ⟨rfl, by rw [e, f1.m (by decide)], f⟩
theorem l_chain {B : Int} {h : zH} {a1 : Int} (I : Inv B h) : lCall B 8 3 mX6_chain mX7_chain [zI a1] h := by
  obtain ⟨n, hn, c⟩ := I.1
  refine lCall_ask (x := qChain (h 129) a1) I _ (fun _ _ => True) (c_X6_chain c.1 c.2.1) ?_ (fun h1 f1 => ⟨_, c_X7_chain (B := B) (by rw [f1.m (by decide)]; exact c.2.1), ?_⟩)
  · rintro _ _ ⟨rfl, rfl⟩; exact ⟨rfl, zFt.rfl'⟩
  · rintro _ _ ⟨rfl, e, f⟩; rw [f1.m (by decide)]; exact ⟨rfl, by rw [e, f1.m (by decide)], f⟩
theorem l_count {B : Int} {h : zH} {a1 : Int} (I : Inv B h) : lCall B 4 4 mX6_count mX7_count [zI a1] h := by
  obtain ⟨n, hn, c⟩ := I.1
  obtain ⟨len, -, t1, t2, -⟩ := I.2.2.1
  refine lCall_ask (x := qCount (h 129) (h 128 4) (h 128 8) a1) I _ (fun _ _ => True) (c_X6_count c.1 c.2.1) ?_ (fun h1 f1 => ⟨_, c_X7_count (B := B) (by rw [f1.m (by decide)]; exact c.2.1), ?_⟩)
  · rintro _ _ ⟨rfl, rfl⟩
    rw [c.2.2.2.1, t1, hn, t2]
    exact ⟨rfl, zFt.rfl'⟩
  · rintro _ _ ⟨rfl, rfl⟩; rw [f1.m (by decide), f1.m (by decide)]; exact ⟨rfl, rfl, mF.rfl'⟩
theorem l_stop {B : Int} {h : zH} {a1 : Int} (I : Inv B h) : lCall B 1 2 mX6_stop mX7_stop [zI a1] h := by
  refine lCall_ask (x := if 0 ≤ a1 ∧ a1 ≤ 1 then (if a1 = 0 then h 128 9 else h 128 10) else -2) I _ (fun _ _ => True) c_X6_stop ?_ (fun h1 f1 => ⟨_, c_X7_stop, ?_⟩)
  · rintro _ _ ⟨rfl, rfl⟩
    refine ⟨?_, zFt.rfl'⟩
    congr 2
    by_cases c : 0 ≤ a1 ∧ a1 ≤ 1
    · rw [if_pos c, if_pos c]
      rcases I.2.2.2 with ⟨e7, e9, e10⟩ | ⟨e7, e8, e9⟩
      · rw [if_pos e7, e9, e10, ite_self]
      · rw [if_neg (by rw [e7]; decide), e8, e9]
    · rw [if_neg c, if_neg c]
  · rintro _ _ ⟨rfl, rfl⟩; rw [f1.m (by decide)]; exact ⟨rfl, rfl, mF.rfl'⟩
