/-! the class reads an act -/
theorem oZ_98 {T : zs} {len p : Nat} (e : sg T len p = 98) : oZ T len (false, p) = (xN T len 0 999 (false, p + 1)).2 ∧ oTold T len (false, p) 0 = 98 ∧ oTold T len (false, p) 1 = (xN T len 0 999 (false, p + 1)).1 := by
  have e' : oT0 T len (false, p) = 98 := e
  refine ⟨?_, e', ?_⟩
  · show (oR7 T len (false, p)).2 = _
    unfold oR7 oR5 oR3 oR1
    rw [e']
    rfl
  · show (oR1 T len (false, p)).1 = _
    unfold oR1
    rw [e']
    rfl
theorem oZ_103 {T : zs} {len p : Nat} (e : sg T len p = 103) : oZ T len (false, p) = xS T len 48 53 (xS T len 58 58 (xS T len 48 53 (false, p + 1))) ∧ oTold T len (false, p) 0 = 103 ∧ oTold T len (false, p) 1 = sg T len (p + 1) - 48 ∧ oTold T len (false, p) 3 = sg T len (xS T len 58 58 (xS T len 48 53 (false, p + 1))).2 - 48 := by
  have e' : oT0 T len (false, p) = 103 := e
  refine ⟨?_, e', ?_, ?_⟩
  · show (oR7 T len (false, p)).2 = _
    unfold oR7 oR5 oR3 oR1
    rw [e']
    rfl
  · show (oR1 T len (false, p)).1 = _
    unfold oR1
    rw [e']
    rfl
  · show (oR5 T len (false, p)).1 = _
    unfold oR5 oR3 oR1
    rw [e']
    rfl
theorem oZ_119 {T : zs} {len p : Nat} (e : sg T len p = 119) : oZ T len (false, p) = (xN T len 0 999 (xS T len 61 61 (xS T len 48 53 (xS T len 58 58 (xS T len 48 53 (false, p + 1)))))).2 ∧ oTold T len (false, p) 0 = 119 ∧ oTold T len (false, p) 1 = sg T len (p + 1) - 48 ∧ oTold T len (false, p) 3 = sg T len (xS T len 58 58 (xS T len 48 53 (false, p + 1))).2 - 48 ∧ oTold T len (false, p) 4 = (xN T len 0 999 (xS T len 61 61 (xS T len 48 53 (xS T len 58 58 (xS T len 48 53 (false, p + 1)))))).1 := by
  have e' : oT0 T len (false, p) = 119 := e
  refine ⟨?_, e', ?_, ?_, ?_⟩
  · show (oR7 T len (false, p)).2 = _
    unfold oR7 oR5 oR3 oR1
    rw [e']
    rfl
  · show (oR1 T len (false, p)).1 = _
    unfold oR1
    rw [e']
    rfl
  · show (oR5 T len (false, p)).1 = _
    unfold oR5 oR3 oR1
    rw [e']
    rfl
  · show (oR7 T len (false, p)).1 = _
    unfold oR7 oR5 oR3 oR1
    rw [e']
    rfl
theorem oZ_108 {T : zs} {len p : Nat} (e : sg T len p = 108) : oZ T len (false, p) = (xN T len 1 64 (xS T len 47 47 (xS T len 48 53 (xS T len 58 58 (xS T len 48 53 (xS T len 62 62 (xS T len 48 53 (false, p + 1)))))))).2 ∧ oTold T len (false, p) 0 = 108 ∧ oTold T len (false, p) 1 = sg T len (p + 1) - 48 ∧ oTold T len (false, p) 2 = sg T len (xS T len 62 62 (xS T len 48 53 (false, p + 1))).2 - 48 ∧ oTold T len (false, p) 3 = sg T len (xS T len 58 58 (xS T len 48 53 (xS T len 62 62 (xS T len 48 53 (false, p + 1))))).2 - 48 ∧ oTold T len (false, p) 4 = (xN T len 1 64 (xS T len 47 47 (xS T len 48 53 (xS T len 58 58 (xS T len 48 53 (xS T len 62 62 (xS T len 48 53 (false, p + 1)))))))).1 := by
  have e' : oT0 T len (false, p) = 108 := e
  refine ⟨?_, e', ?_, ?_, ?_, ?_⟩
  · show (oR7 T len (false, p)).2 = _
    unfold oR7 oR5 oR3 oR1
    rw [e']
    rfl
  · show (oR1 T len (false, p)).1 = _
    unfold oR1
    rw [e']
    rfl
  · show (oR3 T len (false, p)).1 = _
    unfold oR3 oR1
    rw [e']
    rfl
  · show (oR5 T len (false, p)).1 = _
    unfold oR5 oR3 oR1
    rw [e']
    rfl
  · show (oR7 T len (false, p)).1 = _
    unfold oR7 oR5 oR3 oR1
    rw [e']
    rfl
theorem o1_w {T : zs} {len : Nat} {c : Int} {z : zZ} (h : z.1 = true) : (o1 T len c z).2 = z := by
  unfold o1
  split
  · exact xN_w h
  · exact xS_w h
theorem o2_w {T : zs} {len : Nat} {c : Int} {z : zZ} (h : z.1 = true) : o2 T len c z = z := by
  unfold o2
  split
  · exact xS_w h
  · rfl
theorem o3_w {T : zs} {len : Nat} {c : Int} {z : zZ} (h : z.1 = true) : (o3 T len c z).2 = z := by
  unfold o3
  split
  · exact xS_w h
  · rfl
theorem o4_w {T : zs} {len : Nat} {c : Int} {z : zZ} (h : z.1 = true) : o4 T len c z = z := by
  unfold o4
  split
  · rfl
  · exact xS_w h
theorem o5_w {T : zs} {len : Nat} {c : Int} {z : zZ} (h : z.1 = true) : (o5 T len c z).2 = z := by
  unfold o5
  split
  · rfl
  · exact xS_w h
theorem o6_w {T : zs} {len : Nat} {c : Int} {z : zZ} (h : z.1 = true) : o6 T len c z = z := by
  unfold o6
  repeat' split
  · exact xS_w h
  · exact xS_w h
  · rfl
theorem o7_w {T : zs} {len : Nat} {c : Int} {z : zZ} (h : z.1 = true) : (o7 T len c z).2 = z := by
  unfold o7
  repeat' split
  · exact xN_w h
  · exact xN_w h
  · rfl
theorem oZ_tail {T : zs} {len : Nat} {c : Int} {z : zZ} (h : z.1 = true) : (o7 T len c (o6 T len c (o5 T len c (o4 T len c (o3 T len c (o2 T len c (o1 T len c z).2)).2)).2)).2 = z := by
  rw [o1_w h, o2_w h, o3_w h, o4_w h, o5_w h, o6_w h, o7_w h]
theorem oZ_bad {T : zs} {len p : Nat} (e : ¬ (sg T len p = 108 ∨ sg T len p = 98 ∨ sg T len p = 119 ∨ sg T len p = 103)) : oZ T len (false, p) = (true, p) := by
  show (o7 T len (oT0 T len (false, p)) _).2 = _
  have el : oL (oT0 T len (false, p)) (false, p) = (true, p) := by
    unfold oL
    exact if_neg (fun q => e q.2)
  show (o7 T len (oT0 T len (false, p)) (o6 T len (oT0 T len (false, p)) (o5 T len (oT0 T len (false, p)) (o4 T len (oT0 T len (false, p)) (o3 T len (oT0 T len (false, p)) (o2 T len (oT0 T len (false, p)) (o1 T len (oT0 T len (false, p)) (oL (oT0 T len (false, p)) (false, p))).2)).2)).2)).2 = _
  rw [el]
  exact oZ_tail rfl
theorem xS_self {T : zs} {len p : Nat} {c : Int} (e : sg T len p = c) : xS T len c c (false, p) = (false, p + 1) := by
  unfold xS
  exact if_pos ⟨rfl, by show c ≤ sg T len p; omega, by show sg T len p ≤ c; omega⟩
def cArg (row : Nat) (t : zs) (h : zH) : Prop := h 127 (row + 1) = t 1 ∧ (t 0 = 108 → h 127 (row + 2) = t 2 ∧ h 127 (row + 3) = t 3 ∧ h 127 (row + 4) = t 4) ∧ (t 0 = 119 → h 127 (row + 2) = t 3 ∧ h 127 (row + 3) = t 4) ∧ (t 0 = 103 → h 127 (row + 2) = t 3)
def cRead (T : zs) (len p row : Nat) (h h' : zH) (x : Int) : Prop := zX h h' ∧ h' 125 2 = ((oZ T len (false, p)).2 : Int) ∧ (∀ j : Nat, (j ≤ row ∨ row + 5 ≤ j) → h' 127 j = h 127 j) ∧ ((x = 1 ∧ (oZ T len (false, p)).1 = false ∧ cArg row (oTold T len (false, p)) h') ∨ (x = 0 ∧ ((oZ T len (false, p)).1 = true ∨ dgt T len (oZ T len (false, p)).2)))
theorem c_X5_readReturn {T : zs} {len p row : Nat} {h : zH} (t : cTx T len h) (hp : h 125 2 = (p : Int)) (hpl : p < len) (hr : row ≤ 145) (hc : sg T len p = 98) : zSp 4 mX5_readReturn [zR 125, zI (row : Int)] h (fun q h' => ∃ x : Int, q = some (zI x) ∧ cRead T len p row h h' x) := by
  refine zSp_of (by decide +kernel) (Nat.le_of_ble_eq_true rfl) rfl (fun Γ => k_X5_readReturn_0  (by decide) ?_)
  have l60 := t.2.1
  obtain ⟨z1, z2, z3⟩ := oZ_98 hc
  refine ⟨2, _, by decide, c_X5_readSign (c := 98) t hp (by decide), ?_⟩
  rintro _ h1 ⟨x, rfl, f1, s1, o1⟩
  rw [xS_self hc] at o1
  rcases o1 with ⟨ex, -, p1⟩ | ⟨-, e, -⟩
  rotate_left
  · cases e
  refine ⟨x, rfl, fun q => absurd q (by omega), fun _ => ?_⟩
  rw [zwr_eq (by omega) (by omega), show (row : Int) + 1 = ((row + 1 : Nat) : Int) by omega]
  refine ⟨3, _, by decide, c_X5_readNumber (cTx_x t f1) p1 (by omega) (by omega) (by decide) (by decide), ?_⟩
  rintro _ h2 ⟨x2, rfl, f2, p2, s2, o2⟩
  have fr : ∀ j : Nat, (j ≤ row ∨ row + 5 ≤ j) → h2 127 j = h 127 j := fun j hj => by rw [s2 j (by omega), s1]
  refine ⟨x2, rfl, fun q => ?_, fun q => ?_⟩
  · rcases o2 with ⟨e, -⟩ | ⟨-, e⟩
    · exact absurd q (by omega)
    · refine ⟨0, rfl, f1.trans f2, by rw [z1]; exact p2, fr, Or.inr ⟨rfl, ?_⟩⟩
      rw [z1]; exact e
  · rcases o2 with ⟨-, e, v2⟩ | ⟨e, -⟩
    · refine ⟨1, rfl, f1.trans f2, by rw [z1]; exact p2, fr, Or.inl ⟨rfl, by rw [z1]; exact e, by rw [z3]; exact v2, fun w => ?_, fun w => ?_, fun w => ?_⟩⟩
      · rw [z2] at w; exact absurd w (by decide)
      · rw [z2] at w; exact absurd w (by decide)
      · rw [z2] at w; exact absurd w (by decide)
    · exact absurd e q
theorem c_X5_readGathering {T : zs} {len p row : Nat} {h : zH} (t : cTx T len h) (hp : h 125 2 = (p : Int)) (hpl : p < len) (hr : row ≤ 145) (hc : sg T len p = 103) : zSp 5 mX5_readGathering [zR 125, zI (row : Int)] h (fun q h' => ∃ x : Int, q = some (zI x) ∧ cRead T len p row h h' x) := by
  refine zSp_of (by decide +kernel) (Nat.le_of_ble_eq_true rfl) rfl (fun Γ => k_X5_readGathering_0  (by decide) ?_)
  have l60 := t.2.1
  obtain ⟨z1, z2, z3, z4⟩ := oZ_103 hc
  refine ⟨2, _, by decide, c_X5_readSign (c := 103) t hp (by decide), ?_⟩
  rintro _ h1 ⟨x, rfl, f1, s1, o1⟩
  rw [xS_self hc] at o1
  rcases o1 with ⟨ex, -, p1⟩ | ⟨-, e, -⟩
  rotate_left
  · cases e
  refine ⟨x, rfl, fun q => absurd q (by omega), fun _ => ?_⟩
  rw [zwr_eq (by omega) (by omega), show (row : Int) + 1 = ((row + 1 : Nat) : Int) by omega]
  refine ⟨4, _, by decide, c_X5_readPair (cTx_x t f1) p1 (by omega), ?_⟩
  rintro _ h2 ⟨x2, rfl, f2, p2, s2, o2⟩
  have fr : ∀ j : Nat, (j ≤ row ∨ row + 5 ≤ j) → h2 127 j = h 127 j := fun j hj => by rw [s2 j (by omega) (by omega), s1]
  refine ⟨x2, rfl, fun q => ?_, fun q => ?_⟩
  · rcases o2 with ⟨e, -⟩ | ⟨-, e⟩
    · exact absurd q (by omega)
    · refine ⟨0, rfl, f1.trans f2, by rw [z1]; exact p2, fr, Or.inr ⟨rfl, Or.inl ?_⟩⟩
      rw [z1]; exact e
  · rcases o2 with ⟨-, e, v1, v2⟩ | ⟨e, -⟩
    · refine ⟨1, rfl, f1.trans f2, by rw [z1]; exact p2, fr, Or.inl ⟨rfl, by rw [z1]; exact e, by rw [z3]; exact v1, fun w => ?_, fun w => ?_, fun w => by rw [z4]; exact v2⟩⟩
      · rw [z2] at w; exact absurd w (by decide)
      · rw [z2] at w; exact absurd w (by decide)
    · exact absurd e q
theorem c_X5_readWrite {T : zs} {len p row : Nat} {h : zH} (t : cTx T len h) (hp : h 125 2 = (p : Int)) (hpl : p < len) (hr : row ≤ 145) (hc : sg T len p = 119) : zSp 5 mX5_readWrite [zR 125, zI (row : Int)] h (fun q h' => ∃ x : Int, q = some (zI x) ∧ cRead T len p row h h' x) := by
  refine zSp_of (by decide +kernel) (Nat.le_of_ble_eq_true rfl) rfl (fun Γ => k_X5_readWrite_0  (by decide) ?_)
  have l60 := t.2.1
  obtain ⟨z1, z2, z3, z4, z5⟩ := oZ_119 hc
  refine ⟨2, _, by decide, c_X5_readSign (c := 119) t hp (by decide), ?_⟩
  rintro _ h1 ⟨x, rfl, f1, s1, o1⟩
  rw [xS_self hc] at o1
  rcases o1 with ⟨ex, -, p1⟩ | ⟨-, e, -⟩
  rotate_left
  · cases e
  refine ⟨x, rfl, fun q => absurd q (by omega), fun _ => ?_⟩
  rw [zwr_eq (a := (row : Int) + 1) (by omega) (by omega), show (row : Int) + 1 = ((row + 1 : Nat) : Int) by omega]
  refine ⟨4, _, by decide, c_X5_readPair (cTx_x t f1) p1 (by omega), ?_⟩
  rintro _ h2 ⟨x2, rfl, f2, p2, s2, o2⟩
  have b2 := xS_le (T := T) (len := len) (lo := 48) (hi := 53) (z := xS T len 58 58 (xS T len 48 53 (false, p + 1))) (by decide) l60 (xS_le (by decide) l60 (xS_le (by decide) l60 (show p + 1 ≤ 60 by omega)))
  generalize hz4 : xS T len 58 58 (xS T len 48 53 (false, p + 1)) = za at *
  generalize hz5 : xS T len 48 53 za = zb at *
  refine ⟨x2, rfl, fun q => ?_, fun q => ?_⟩
  · rcases o2 with ⟨e, -⟩ | ⟨-, e⟩
    · exact absurd q (by omega)
    · rw [xS_w (lo := 61) (hi := 61) e] at z1
      rw [xN_w e] at z1
      refine ⟨0, rfl, f1.trans f2, by rw [z1]; exact p2, fun j hj => by rw [s2 j (by omega) (by omega), s1], Or.inr ⟨rfl, Or.inl ?_⟩⟩
      rw [z1]; exact e
  rcases o2 with ⟨-, e, v1, v2⟩ | ⟨e, -⟩
  rotate_left
  · exact absurd e q
  rcases zb with ⟨w1, q1⟩
  have e : w1 = false := e
  rw [e] at z1 z5
  have p2 : h2 125 2 = (q1 : Int) := p2
  refine ⟨2, _, by decide, c_X5_readSign (c := 61) (cTx_x t (f1.trans f2)) p2 (by decide), ?_⟩
  rintro _ h3 ⟨x3, rfl, f3, s3, o3⟩
  refine ⟨x3, rfl, fun q3 => ?_, fun q3 => ?_⟩
  · rcases o3 with ⟨e3, -⟩ | ⟨-, e3, p3⟩
    · exact absurd q3 (by omega)
    · rw [e3] at z1
      rw [xN_w rfl] at z1
      refine ⟨0, rfl, f1.trans (f2.trans f3), by rw [z1]; exact p3, fun j hj => by rw [s3, s2 j (by omega) (by omega), s1], Or.inr ⟨rfl, Or.inl ?_⟩⟩
      rw [z1]
  rcases o3 with ⟨-, e3, p3⟩ | ⟨e3, -⟩
  rotate_left
  · exact absurd e3 q3
  rw [e3] at z1 z5
  have b3 : q1 + 1 ≤ 60 := by
    have := xS_le (T := T) (len := len) (lo := 61) (hi := 61) (z := (false, q1)) (by decide) l60 b2
    rw [e3] at this
    exact this
  rw [zwr_eq (a := (row : Int) + 3) (by omega) (by omega), show (row : Int) + 3 = ((row + 3 : Nat) : Int) by omega]
  refine ⟨3, _, by decide, c_X5_readNumber (cTx_x t (f1.trans (f2.trans f3))) p3 b3 (by omega) (by decide) (by decide), ?_⟩
  rintro _ h4 ⟨x4, rfl, f4, p4, s4, o4⟩
  have fr : ∀ j : Nat, (j ≤ row ∨ row + 5 ≤ j) → h4 127 j = h 127 j := fun j hj => by rw [s4 j (by omega), s3, s2 j (by omega) (by omega), s1]
  refine ⟨x4, rfl, fun q4 => ?_, fun q4 => ?_⟩
  · rcases o4 with ⟨e4, -⟩ | ⟨-, e4⟩
    · exact absurd q4 (by omega)
    · refine ⟨0, rfl, f1.trans (f2.trans (f3.trans f4)), by rw [z1]; exact p4, fr, Or.inr ⟨rfl, ?_⟩⟩
      rw [z1]; exact e4
  · rcases o4 with ⟨-, e4, v4⟩ | ⟨e4, -⟩
    · refine ⟨1, rfl, f1.trans (f2.trans (f3.trans f4)), by rw [z1]; exact p4, fr, Or.inl ⟨rfl, by rw [z1]; exact e4, ?_, fun w => ?_, fun w => ⟨?_, ?_⟩, fun w => ?_⟩⟩
      · rw [s4 (row + 1) (by omega), s3, v1, z3]
      · rw [z2] at w; exact absurd w (by decide)
      · rw [s4 (row + 2) (by omega), s3, v2, z4]
      · rw [z5]; exact v4
      · rw [z2] at w; exact absurd w (by decide)
    · exact absurd e4 q4
