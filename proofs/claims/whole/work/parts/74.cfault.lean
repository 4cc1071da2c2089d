/-! the class reads a loan, an act -/
theorem c_X5_readLoan {T : zs} {len p row : Nat} {h : zH} (t : cTx T len h) (hp : h 125 2 = (p : Int)) (hpl : p < len) (hr : row ≤ 145) (hc : sg T len p = 108) : zSp 5 mX5_readLoan [zR 125, zI (row : Int)] h (fun q h' => ∃ x : Int, q = some (zI x) ∧ cRead T len p row h h' x) := by
  refine zSp_of (by decide +kernel) (Nat.le_of_ble_eq_true rfl) rfl (fun Γ => k_X5_readLoan_0  (by decide) ?_)
  have l60 := t.2.1
  obtain ⟨z1, z2, z3, z4, z5, z6⟩ := oZ_108 hc
  refine ⟨2, _, by decide, c_X5_readSign (c := 108) t hp (by decide), ?_⟩
  rintro _ h1 ⟨x, rfl, f1, s1, o1⟩
  rw [xS_self hc] at o1
  rcases o1 with ⟨ex, -, p1⟩ | ⟨-, e, -⟩
  rotate_left
  · cases e
  refine ⟨x, rfl, fun q => absurd q (by omega), fun _ => ?_⟩
  rw [zwr_eq (a := (row : Int) + 1) (by omega) (by omega), show (row : Int) + 1 = ((row + 1 : Nat) : Int) by omega]
  refine ⟨3, _, by decide, c_X5_readDigit (cTx_x t f1) p1 (by omega), ?_⟩
  rintro _ h2 ⟨x2, rfl, f2, p2, s2, o2⟩
  have b2 := xS_le (T := T) (len := len) (lo := 48) (hi := 53) (z := (false, p + 1)) (by decide) l60 (show p + 1 ≤ 60 by omega)
  have p2 : h2 125 2 = ((xS T len 48 53 (false, p + 1)).2 : Int) := p2
  have o2 : (x2 = 1 ∧ (xS T len 48 53 (false, p + 1)).1 = false ∧ h2 127 (row + 1) = sg T len (p + 1) - 48) ∨ (x2 = 0 ∧ ((xS T len 48 53 (false, p + 1)).1 = true ∨ False)) := o2
  generalize xS T len 48 53 (false, p + 1) = za at *
  refine ⟨x2, rfl, fun q => ?_, fun q => ?_⟩
  · rcases o2 with ⟨e, -⟩ | ⟨-, e | e⟩
    · exact absurd q (by omega)
    · rw [xS_w (lo := 62) (hi := 62) e, xS_w (lo := 48) (hi := 53) e, xS_w (lo := 58) (hi := 58) e, xS_w (lo := 48) (hi := 53) e, xS_w (lo := 47) (hi := 47) e, xN_w e] at z1
      refine ⟨0, rfl, f1.trans f2, by rw [z1]; exact p2, fun j hj => by rw [s2 j (by omega), s1], Or.inr ⟨rfl, Or.inl ?_⟩⟩
      rw [z1]; exact e
    · exact absurd e id
  rcases o2 with ⟨-, e, v2⟩ | ⟨e, -⟩
  rotate_left
  · exact absurd e q
  rcases za with ⟨w1, q1⟩
  have e : w1 = false := e
  rw [e] at z1 z4 z5 z6
  have p2 : h2 125 2 = (q1 : Int) := p2
  refine ⟨2, _, by decide, c_X5_readSign (c := 62) (cTx_x t (f1.trans f2)) p2 (by decide), ?_⟩
  rintro _ h3 ⟨x3, rfl, f3, s3, o3⟩
  refine ⟨x3, rfl, fun q3 => ?_, fun q3 => ?_⟩
  · rcases o3 with ⟨e3, -⟩ | ⟨-, e3, p3⟩
    · exact absurd q3 (by omega)
    · rw [e3, xS_w (lo := 48) (hi := 53) rfl, xS_w (lo := 58) (hi := 58) rfl, xS_w (lo := 48) (hi := 53) rfl, xS_w (lo := 47) (hi := 47) rfl, xN_w rfl] at z1
      refine ⟨0, rfl, f1.trans (f2.trans f3), by rw [z1]; exact p3, fun j hj => by rw [s3, s2 j (by omega), s1], Or.inr ⟨rfl, Or.inl ?_⟩⟩
      rw [z1]
  rcases o3 with ⟨-, e3, p3⟩ | ⟨e3, -⟩
  rotate_left
  · exact absurd e3 q3
  have b3 : q1 + 1 ≤ 60 := by
    have := xS_le (T := T) (len := len) (lo := 62) (hi := 62) (z := (false, q1)) (by decide) l60 b2
    rw [e3] at this
    exact this
  rw [e3] at z1 z4 z5 z6
  have z4 : oTold T len (false, p) 2 = sg T len (q1 + 1) - 48 := z4
  rw [zwr_eq (a := (row : Int) + 2) (by omega) (by omega), show (row : Int) + 2 = ((row + 2 : Nat) : Int) by omega]
  refine ⟨4, _, by decide, c_X5_readPair (cTx_x t (f1.trans (f2.trans f3))) p3 (by omega), ?_⟩
  rintro _ h4 ⟨x4, rfl, f4, p4, s4, o4⟩
  have b4 := xS_le (T := T) (len := len) (lo := 48) (hi := 53) (z := xS T len 58 58 (xS T len 48 53 (false, q1 + 1))) (by decide) l60 (xS_le (by decide) l60 (xS_le (by decide) l60 b3))
  generalize hz4 : xS T len 58 58 (xS T len 48 53 (false, q1 + 1)) = zd at *
  generalize hz5 : xS T len 48 53 zd = ze at *
  refine ⟨x4, rfl, fun q4 => ?_, fun q4 => ?_⟩
  · rcases o4 with ⟨e4, -⟩ | ⟨-, e4⟩
    · exact absurd q4 (by omega)
    · rw [xS_w (lo := 47) (hi := 47) e4, xN_w e4] at z1
      refine ⟨0, rfl, f1.trans (f2.trans (f3.trans f4)), by rw [z1]; exact p4, fun j hj => by rw [s4 j (by omega) (by omega), s3, s2 j (by omega), s1], Or.inr ⟨rfl, Or.inl ?_⟩⟩
      rw [z1]; exact e4
  rcases o4 with ⟨-, e4, v4, v5⟩ | ⟨e4, -⟩
  rotate_left
  · exact absurd e4 q4
  rcases ze with ⟨w5, q5⟩
  have e4 : w5 = false := e4
  rw [e4] at z1 z6
  have p4 : h4 125 2 = (q5 : Int) := p4
  refine ⟨2, _, by decide, c_X5_readSign (c := 47) (cTx_x t (f1.trans (f2.trans (f3.trans f4)))) p4 (by decide), ?_⟩
  rintro _ h5 ⟨x5, rfl, f5, s5, o5⟩
  refine ⟨x5, rfl, fun q6 => ?_, fun q6 => ?_⟩
  · rcases o5 with ⟨e5, -⟩ | ⟨-, e5, p5⟩
    · exact absurd q6 (by omega)
    · rw [e5, xN_w rfl] at z1
      refine ⟨0, rfl, f1.trans (f2.trans (f3.trans (f4.trans f5))), by rw [z1]; exact p5, fun j hj => by rw [s5, s4 j (by omega) (by omega), s3, s2 j (by omega), s1], Or.inr ⟨rfl, Or.inl ?_⟩⟩
      rw [z1]
  rcases o5 with ⟨-, e5, p5⟩ | ⟨e5, -⟩
  rotate_left
  · exact absurd e5 q6
  rw [e5] at z1 z6
  have b5 : q5 + 1 ≤ 60 := by
    have := xS_le (T := T) (len := len) (lo := 47) (hi := 47) (z := (false, q5)) (by decide) l60 b4
    rw [e5] at this
    exact this
  rw [zwr_eq (a := (row : Int) + 4) (by omega) (by omega), show (row : Int) + 4 = ((row + 4 : Nat) : Int) by omega]
  refine ⟨3, _, by decide, c_X5_readNumber (cTx_x t (f1.trans (f2.trans (f3.trans (f4.trans f5))))) p5 b5 (by omega) (by decide) (by decide), ?_⟩
  rintro _ h6 ⟨x6, rfl, f6, p6, s6, o6⟩
  have fr : ∀ j : Nat, (j ≤ row ∨ row + 5 ≤ j) → h6 127 j = h 127 j := fun j hj => by rw [s6 j (by omega), s5, s4 j (by omega) (by omega), s3, s2 j (by omega), s1]
  refine ⟨x6, rfl, fun q7 => ?_, fun q7 => ?_⟩
  · rcases o6 with ⟨e6, -⟩ | ⟨-, e6⟩
    · exact absurd q7 (by omega)
    · refine ⟨0, rfl, f1.trans (f2.trans (f3.trans (f4.trans (f5.trans f6)))), by rw [z1]; exact p6, fr, Or.inr ⟨rfl, ?_⟩⟩
      rw [z1]; exact e6
  · rcases o6 with ⟨-, e6, v6⟩ | ⟨e6, -⟩
    · refine ⟨1, rfl, f1.trans (f2.trans (f3.trans (f4.trans (f5.trans f6)))), by rw [z1]; exact p6, fr, Or.inl ⟨rfl, by rw [z1]; exact e6, ?_, fun w => ⟨?_, ?_, ?_⟩, fun w => ?_, fun w => ?_⟩⟩
      · rw [s6 (row + 1) (by omega), s5, s4 (row + 1) (by omega) (by omega), s3, v2, z3]
      · rw [s6 (row + 2) (by omega), s5, v4, z4]
      · rw [s6 (row + 3) (by omega), s5, show row + 3 = row + 2 + 1 from rfl, v5, z5]
      · rw [z6]; exact v6
      · rw [z2] at w; exact absurd w (by decide)
      · rw [z2] at w; exact absurd w (by decide)
    · exact absurd e6 q7
def cSl (row : Nat) (t : zs) (h : zH) : Prop := h 127 row = t 0 ∧ cArg row t h
def cRead2 (T : zs) (len p row : Nat) (h h' : zH) (x : Int) : Prop := zX h h' ∧ h' 125 2 = ((oZ T len (false, p)).2 : Int) ∧ (∀ j : Nat, (j < row ∨ row + 5 ≤ j) → h' 127 j = h 127 j) ∧ ((x = 1 ∧ (oZ T len (false, p)).1 = false ∧ cSl row (oTold T len (false, p)) h') ∨ (x = 0 ∧ ((oZ T len (false, p)).1 = true ∨ dgt T len (oZ T len (false, p)).2)))
/-- what a reading leaves alone, and the count of acts too -/
def zX4 (h h' : zH) : Prop := (∀ k : Nat, k ≠ 125 → k ≠ 127 → h' k = h k) ∧ ∀ i : Nat, i ≠ 2 → i ≠ 4 → h' 125 i = h 125 i
theorem zX4.trans {h h1 h2 : zH} (a : zX4 h h1) (b : zX4 h1 h2) : zX4 h h2 := ⟨fun k k1 k2 => (b.1 k k1 k2).trans (a.1 k k1 k2), fun i i1 i2 => (b.2 i i1 i2).trans (a.2 i i1 i2)⟩
theorem zX.w {h h' : zH} (f : zX h h') : zX4 h h' := ⟨f.1, fun i i1 _ => f.2 i i1⟩
theorem cTx_x4 {T : zs} {len : Nat} {h h' : zH} (t : cTx T len h) (f : zX4 h h') : cTx T len h' := ⟨by rw [f.2 1 (by decide) (by decide)]; exact t.1, t.2.1, fun j hj => by rw [f.1 126 (by decide) (by decide)]; exact t.2.2.1 j hj, t.2.2.2⟩
theorem c_X5_readAct {T : zs} {len p k : Nat} {h : zH} (t : cTx T len h) (hp : h 125 2 = (p : Int)) (hk : h 125 4 = (k : Int)) (k29 : k ≤ 29) : zSp 7 mX5_readAct [zR 125] h (fun q h' => ∃ x : Int, q = some (zI x) ∧ zX4 h h' ∧ h' 125 2 = ((oZ T len (false, p)).2 : Int) ∧ (∀ j : Nat, (j < 5 * k ∨ 5 * k + 5 ≤ j) → h' 127 j = h 127 j) ∧ ((x = 1 ∧ (oZ T len (false, p)).1 = false ∧ cSl (5 * k) (oTold T len (false, p)) h' ∧ h' 125 4 = ((k + 1 : Nat) : Int)) ∨ (x = 0 ∧ ((oZ T len (false, p)).1 = true ∨ dgt T len (oZ T len (false, p)).2)))) := by
  refine zSp_of (by decide +kernel) (Nat.le_of_ble_eq_true rfl) rfl (fun Γ => k_X5_readAct_0  (by decide) ?_)
  intro x1 e1
  rw [hk, zwr_eq (by omega) (by omega)] at e1
  rw [e1]
  refine ⟨fun _ => ?_, fun c => absurd (show zwr ((k : Int) * 5 + 5) ≤ 150 by rw [zwr_eq (by omega) (by omega)]; omega) c⟩
  rw [show (k : Int) * 5 = ((5 * k : Nat) : Int) by omega]
  intro hh eh
  rw [hk, zwr_eq (by omega) (by omega)] at eh
  have l60 := t.2.1
  have x0 : zX4 h hh := by rw [eh]; exact ⟨fun k' k1 _ => zu_nekr _ _ _ k1, fun i _ i2 => zu_nej _ _ _ i2⟩
  have t0 : cTx T len hh := cTx_x4 t x0
  have p0 : hh 125 2 = (p : Int) := by rw [eh, zu_nej _ _ _ (by decide)]; exact hp
  have a0 : hh 125 4 = ((k + 1 : Nat) : Int) := by rw [eh, zu_same]; omega
  have s0 : hh 127 = h 127 := by rw [eh]; exact zu_nekr _ _ _ (by decide)
  have conv : ∀ (h' : zH) (x : Int), cRead2 T len p (5 * k) hh h' x → zX4 h h' ∧ h' 125 2 = ((oZ T len (false, p)).2 : Int) ∧ (∀ j : Nat, (j < 5 * k ∨ 5 * k + 5 ≤ j) → h' 127 j = h 127 j) ∧ ((x = 1 ∧ (oZ T len (false, p)).1 = false ∧ cSl (5 * k) (oTold T len (false, p)) h' ∧ h' 125 4 = ((k + 1 : Nat) : Int)) ∨ (x = 0 ∧ ((oZ T len (false, p)).1 = true ∨ dgt T len (oZ T len (false, p)).2))) := by
    intro h' x ⟨r1, r2, r3, r4⟩
    refine ⟨x0.trans r1.w, r2, fun j hj => by rw [r3 j hj, s0], ?_⟩
    rcases r4 with ⟨q1, q2, q3⟩ | q
    · exact Or.inl ⟨q1, q2, q3, by rw [r1.2 4 (by decide)]; exact a0⟩
    · exact Or.inr q
  refine ⟨1, _, by decide, c_X5_signHere t0 p0, ?_⟩
  rintro _ _ ⟨rfl, rfl⟩
  refine ⟨_, rfl, by omega, by omega, ?_⟩
  rintro _ rfl
  rw [Int.toNat_natCast, zu_same]
  have t1 : cTx T len (zu hh 127 (5 * k) (if p < len then T p else -1)) := cTx_x t0 zX_127
  have p1 : (zu hh 127 (5 * k) (if p < len then T p else -1)) 125 2 = (p : Int) := by rw [zu_nek _ _ _ _ (by decide)]; exact p0
  have lett : ∀ c : Int, 0 < c → (if p < len then T p else -1) = c → p < len ∧ sg T len p = c := by
    intro c hc e
    by_cases q : p < len
    · rw [if_pos q] at e
      exact ⟨q, by rw [← e]; exact if_pos q⟩
    · rw [if_neg q] at e; omega
  have fin : ∀ (c x : Int) (h' : zH), oTold T len (false, p) 0 = c → (if p < len then T p else -1) = c → cRead T len p (5 * k) (zu hh 127 (5 * k) (if p < len then T p else -1)) h' x → (x = 0 ∨ x = 1) ∧ ∃ x1 : Int, some (zI x) = some (zI x1) ∧ zX4 h h' ∧ h' 125 2 = ((oZ T len (false, p)).2 : Int) ∧ (∀ j : Nat, (j < 5 * k ∨ 5 * k + 5 ≤ j) → h' 127 j = h 127 j) ∧ ((x1 = 1 ∧ (oZ T len (false, p)).1 = false ∧ cSl (5 * k) (oTold T len (false, p)) h' ∧ h' 125 4 = ((k + 1 : Nat) : Int)) ∨ (x1 = 0 ∧ ((oZ T len (false, p)).1 = true ∨ dgt T len (oZ T len (false, p)).2))) := by
    intro c x h' e0 e ⟨r1, r2, r3, r4⟩
    refine ⟨?_, x, rfl, conv h' x ⟨zX_127.trans r1, r2, fun j hj => by rw [r3 j (by omega), zu_nej _ _ _ (by omega)], ?_⟩⟩
    · rcases r4 with ⟨q, -⟩ | ⟨q, -⟩
      · exact Or.inr q
      · exact Or.inl q
    · rcases r4 with ⟨q1, q2, q3⟩ | q
      · exact Or.inl ⟨q1, q2, by rw [r3 (5 * k) (by omega), zu_same, e, e0], q3⟩
      · exact Or.inr q
  refine ⟨by omega, by omega, fun c => ?_, fun c => ?_, fun c => ?_, fun c => ?_, fun c1 c2 c3 c4 => ?_⟩
  · obtain ⟨a, b⟩ := lett _ (by decide) c
    refine ⟨4, _, by decide, c_X5_readReturn t1 p1 a (by omega) b, ?_⟩
    rintro _ h' ⟨x, rfl, o⟩
    obtain ⟨u, v⟩ := fin 98 x h' b c o
    exact ⟨x, rfl, u, v⟩
  · obtain ⟨a, b⟩ := lett _ (by decide) c
    refine ⟨5, _, by decide, c_X5_readGathering t1 p1 a (by omega) b, ?_⟩
    rintro _ h' ⟨x, rfl, o⟩
    obtain ⟨u, v⟩ := fin 103 x h' b c o
    exact ⟨x, rfl, u, v⟩
  · obtain ⟨a, b⟩ := lett _ (by decide) c
    refine ⟨5, _, by decide, c_X5_readLoan t1 p1 a (by omega) b, ?_⟩
    rintro _ h' ⟨x, rfl, o⟩
    obtain ⟨u, v⟩ := fin 108 x h' b c o
    exact ⟨x, rfl, u, v⟩
  · obtain ⟨a, b⟩ := lett _ (by decide) c
    refine ⟨5, _, by decide, c_X5_readWrite t1 p1 a (by omega) b, ?_⟩
    rintro _ h' ⟨x, rfl, o⟩
    obtain ⟨u, v⟩ := fin 119 x h' b c o
    exact ⟨x, rfl, u, v⟩
  · have e : oZ T len (false, p) = (true, p) := by
      refine oZ_bad (fun q => ?_)
      unfold sg at q
      by_cases w : p < len
      · rw [if_pos w] at q c1 c2 c3 c4
        rcases q with q | q | q | q
        · exact c3 q
        · exact c1 q
        · exact c4 q
        · exact c2 q
      · rw [if_neg w] at q; omega
    exact ⟨0, rfl, conv _ 0 ⟨zX_127, by rw [e]; exact p1, fun j hj => zu_nej _ _ _ (by omega), Or.inr ⟨rfl, Or.inl (by rw [e])⟩⟩⟩
