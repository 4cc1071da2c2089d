/-! how the class reads the text -/
def cTx (T : zs) (len : Nat) (h : zH) : Prop := h 125 1 = (len : Int) ∧ len ≤ 60 ∧ (∀ j : Nat, j < len → h 126 j = T j) ∧ ∀ j : Nat, 0 ≤ T j ∧ T j ≤ 65535
def zX (h h' : zH) : Prop := (∀ k : Nat, k ≠ 125 → k ≠ 127 → h' k = h k) ∧ ∀ i : Nat, i ≠ 2 → h' 125 i = h 125 i
theorem zX.trans {h h1 h2 : zH} (a : zX h h1) (b : zX h1 h2) : zX h h2 := ⟨fun k k1 k2 => (b.1 k k1 k2).trans (a.1 k k1 k2), fun i i1 => (b.2 i i1).trans (a.2 i i1)⟩
theorem zX.rfl' {h : zH} : zX h h := ⟨fun _ _ _ => rfl, fun _ _ => rfl⟩
theorem cTx_x {T : zs} {len : Nat} {h h' : zH} (t : cTx T len h) (f : zX h h') : cTx T len h' := ⟨by rw [f.2 1 (by decide)]; exact t.1, t.2.1, fun j hj => by rw [f.1 126 (by decide) (by decide)]; exact t.2.2.1 j hj, t.2.2.2⟩
def dgt (T : zs) (len p : Nat) : Prop := p < len ∧ 48 ≤ T p ∧ T p ≤ 57
theorem c_X5_signHere {T : zs} {len p : Nat} {h : zH} (t : cTx T len h) (hp : h 125 2 = (p : Int)) : zSp 1 mX5_signHere [zR 125] h (fun q h' => q = some (zI (if p < len then T p else -1)) ∧ h = h') := by
  refine zSp_of (by decide +kernel) (Nat.le_of_ble_eq_true rfl) rfl (fun Γ => k_X5_signHere_0  (by decide) ?_)
  obtain ⟨t1, t2, t3, t4⟩ := t
  refine ⟨fun c => ?_, fun c => ⟨by omega, by omega, ?_⟩⟩
  · rw [if_neg (by omega)]; exact ⟨rfl, rfl⟩
  · rw [if_pos (by omega), hp, Int.toNat_natCast, t3 p (by omega)]; exact ⟨rfl, rfl⟩
theorem c_X5_digitHere {T : zs} {len p : Nat} {h : zH} (t : cTx T len h) (hp : h 125 2 = (p : Int)) : zSp 2 mX5_digitHere [zR 125] h (fun q h' => (∃ x : Int, q = some (zI x) ∧ ((x = -1 ∧ ¬ dgt T len p) ∨ (x = T p - 48 ∧ dgt T len p))) ∧ h = h') := by
  refine zSp_of (by decide +kernel) (Nat.le_of_ble_eq_true rfl) rfl (fun Γ => k_X5_digitHere_0  (by decide) ?_)
  have b := t.2.2.2 p
  refine ⟨1, _, by decide, c_X5_signHere t hp, ?_⟩
  rintro _ _ ⟨rfl, rfl⟩
  refine ⟨_, rfl, ?_⟩
  by_cases c : p < len
  · rw [if_pos c]
    refine ⟨fun c2 => ⟨⟨-1, rfl, Or.inl ⟨rfl, fun q => absurd q.2.1 (by omega)⟩⟩, rfl⟩, fun c2 => ⟨fun c3 => ⟨⟨-1, rfl, Or.inl ⟨rfl, fun q => absurd q.2.2 (by omega)⟩⟩, rfl⟩, fun c3 => ⟨⟨_, rfl, Or.inr ⟨zwr_eq (by omega) (by omega), c, by omega, by omega⟩⟩, rfl⟩⟩⟩
  · rw [if_neg c]
    exact ⟨fun _ => ⟨⟨-1, rfl, Or.inl ⟨rfl, fun q => c q.1⟩⟩, rfl⟩, fun c2 => absurd (by decide) c2⟩
theorem zX_2 {h : zH} {v : Int} : zX h (zu h 125 2 v) := ⟨fun k k1 _ => zu_nekr _ _ _ k1, fun i i1 => zu_nej _ _ _ i1⟩
theorem zX_127 {h : zH} {i : Nat} {v : Int} : zX h (zu h 127 i v) := ⟨fun k _ k2 => zu_nekr _ _ _ k2, fun i _ => zu_nek _ _ _ _ (by decide)⟩
theorem c_X5_readSign {T : zs} {len p : Nat} {h : zH} {c : Int} (t : cTx T len h) (hp : h 125 2 = (p : Int)) (hc : 0 < c) : zSp 2 mX5_readSign [zR 125, zI c] h (fun q h' => ∃ x : Int, q = some (zI x) ∧ zX h h' ∧ h' 127 = h 127 ∧ ((x = 1 ∧ xS T len c c (false, p) = (false, p + 1) ∧ h' 125 2 = ((p + 1 : Nat) : Int)) ∨ (x = 0 ∧ xS T len c c (false, p) = (true, p) ∧ h' 125 2 = (p : Int)))) := by
  refine zSp_of (by decide +kernel) (Nat.le_of_ble_eq_true rfl) rfl (fun Γ => k_X5_readSign_0  (by decide) ?_)
  refine ⟨1, _, by decide, c_X5_signHere t hp, ?_⟩
  rintro _ _ ⟨rfl, rfl⟩
  have l := t.2.1
  refine ⟨_, rfl, fun e => ?_, fun e => ?_⟩
  · by_cases q : p < len
    · rw [if_pos q] at e
      rintro _ rfl
      rw [hp, zwr_eq (by omega) (by omega)]
      refine ⟨1, rfl, zX_2, zu_nekr _ _ _ (by decide), Or.inl ⟨rfl, ?_, ?_⟩⟩
      · have es : sg T len p = c := by rw [← e]; exact if_pos q
        unfold xS
        exact if_pos ⟨rfl, by show c ≤ sg T len p; omega, by show sg T len p ≤ c; omega⟩
      · rw [zu_same]; omega
    · rw [if_neg q] at e; omega
  · refine ⟨0, rfl, zX.rfl', rfl, Or.inr ⟨rfl, ?_, hp⟩⟩
    have es : sg T len p ≠ c := by
      unfold sg
      by_cases q : p < len
      · rw [if_pos q] at e ⊢; exact e
      · rw [if_neg q]; omega
    unfold xS
    exact if_neg (fun q => es (by have := q.2; show sg T len p = c; have a := this.1; have b := this.2; exact Int.le_antisymm b a))
def cOut (slot : Nat) (Fl : Prop) (r : Int × zZ) (h h' : zH) (x : Int) : Prop := zX h h' ∧ h' 125 2 = (r.2.2 : Int) ∧ (∀ j : Nat, j ≠ slot → h' 127 j = h 127 j) ∧ ((x = 1 ∧ r.2.1 = false ∧ h' 127 slot = r.1) ∨ (x = 0 ∧ (r.2.1 = true ∨ Fl)))
theorem c_X5_readDigit {T : zs} {len p slot : Nat} {h : zH} (t : cTx T len h) (hp : h 125 2 = (p : Int)) (hs : slot < 150) : zSp 3 mX5_readDigit [zR 125, zI (slot : Int), zI 6] h (fun q h' => ∃ x : Int, q = some (zI x) ∧ cOut slot False (sg T len p - 48, xS T len 48 53 (false, p)) h h' x) := by
  refine zSp_of (by decide +kernel) (Nat.le_of_ble_eq_true rfl) rfl (fun Γ => k_X5_readDigit_0  (by decide) ?_)
  have l := t.2.1
  have b := t.2.2.2 p
  refine ⟨2, _, by decide, c_X5_digitHere t hp, ?_⟩
  rintro _ _ ⟨⟨x, rfl, hx⟩, rfl⟩
  have bad : ¬ (dgt T len p ∧ T p ≤ 53) → ∃ x : Int, some (zI 0) = some (zI x) ∧ cOut slot False (sg T len p - 48, xS T len 48 53 (false, p)) h h x := by
    intro q
    have e : xS T len 48 53 (false, p) = (true, p) := by
      unfold xS
      refine if_neg (fun w => q ?_)
      obtain ⟨-, w1, w2⟩ := w
      have w1' : 48 ≤ sg T len p := w1
      have w2' : sg T len p ≤ 53 := w2
      unfold sg at w1' w2'
      by_cases c : p < len
      · rw [if_pos c] at w1' w2'; exact ⟨⟨c, w1', by omega⟩, w2'⟩
      · rw [if_neg c] at w1'; omega
    rw [e]
    exact ⟨0, rfl, zX.rfl', hp, fun _ _ => rfl, Or.inr ⟨rfl, Or.inl rfl⟩⟩
  refine ⟨x, rfl, fun c => bad ?_, fun c => ⟨fun c2 => ⟨by omega, by omega, ?_⟩, fun c2 => bad ?_⟩⟩
  · rcases hx with ⟨-, q⟩ | ⟨e, q⟩
    · exact fun w => q w.1
    · exact absurd q.2.1 (by omega)
  · rcases hx with ⟨e, -⟩ | ⟨e, q⟩
    · exact absurd c (by omega)
    have es : sg T len p = T p := if_pos q.1
    have q1 := q.1
    have ez : xS T len 48 53 (false, p) = (false, p + 1) := by
      unfold xS
      exact if_pos ⟨rfl, by show 48 ≤ sg T len p; rw [es]; exact q.2.1, by show sg T len p ≤ 53; rw [es]; omega⟩
    rintro _ rfl
    rintro _ rfl
    rw [zu_nek (k := 127) (k' := 125) _ _ _ _ (by decide), hp, zwr_eq (by omega) (by omega), ez, es, Int.toNat_natCast, e]
    refine ⟨1, rfl, zX_127.trans zX_2, ?_, fun j hj => ?_, Or.inl ⟨rfl, rfl, ?_⟩⟩
    · rw [zu_same]; show (p : Int) + 1 = ((p + 1 : Nat) : Int); omega
    · rw [zu_nekr _ _ _ (by decide), zu_nej _ _ _ hj]
    · rw [zu_nekr _ _ _ (by decide), zu_same]
  · rcases hx with ⟨e, -⟩ | ⟨e, q⟩
    · exact absurd c (by omega)
    · exact fun w => by have := w.2; omega
theorem c_X5_readNumber_27 {Post : Option zA → zH → Prop} {Γ : zCx} {T : zs} {len slot : Nat} {least most : Int} (hs : slot < 150) (hm : most ≤ 999) : ∀ (n : Nat) (v : Int) (p : Nat) (w : Int) (h : zH), cTx T len h → h 125 2 = (p : Int) → 60 ≤ n + p → p ≤ 60 → 0 ≤ v → v ≤ 1000 → 1 ≤ w → w ≤ p → (∀ (x : Int) (h' : zH), cOut slot (dgt T len (xNl T len most n v (false, p)).2.2) (xNl T len most n v (false, p)) h h' x → Post (some (zI x)) h') → (fun (d : Nat) => zV RX5 cX5_readNumber 7 (some .boolean) d Post Γ 27 [(0, zR 125), (1, zI (slot : Int)), (2, zI least), (3, zI most), (4, zI v), (5, zI w)] [] h) 3 := by
  intro n
  induction n with
  | zero =>
    intro v p w h t hp hn h60 hv hv2 hw1 hw hP
    have l := t.2.1
    refine k_X5_readNumber_27 (by decide) ⟨fun c => ⟨by omega, by omega, ?_⟩, fun c => ?_⟩
    · rintro _ rfl
      rw [Int.toNat_natCast]
      exact hP 1 _ ⟨zX_127, by rw [zu_nek _ _ _ _ (by decide)]; exact hp, fun j hj => zu_nej _ _ _ hj, Or.inl ⟨rfl, rfl, zu_same _ _ _ _⟩⟩
    · refine ⟨2, _, by decide, c_X5_digitHere t hp, ?_⟩
      rintro _ _ ⟨⟨x, rfl, hx⟩, rfl⟩
      refine ⟨x, rfl, fun c2 => ⟨by omega, by omega, ?_⟩, fun c2 => ?_⟩
      · rintro _ rfl
        rw [Int.toNat_natCast]
        exact hP 1 _ ⟨zX_127, by rw [zu_nek _ _ _ _ (by decide)]; exact hp, fun j hj => zu_nej _ _ _ hj, Or.inl ⟨rfl, rfl, zu_same _ _ _ _⟩⟩
      · rcases hx with ⟨e, -⟩ | ⟨e, q⟩
        · exact absurd e (by omega)
        · exact absurd q.1 (by omega)
  | succ n ih =>
    intro v p w h t hp hn h60 hv hv2 hw1 hw hP
    have l := t.2.1
    have b := t.2.2.2 p
    have stop : ¬ (0 < v ∧ p < len ∧ 48 ≤ T p ∧ T p ≤ 57 ∧ 10 * v + T p - 48 ≤ most) → xNl T len most (n + 1) v (false, p) = (v, (false, p)) := by
      intro q
      unfold xNl
      exact if_neg (fun w => q w.2)
    have good : ¬ dgt T len p → Post (some (zI 1)) (zu h 127 slot v) := by
      intro q
      have e := stop (fun w => q ⟨w.2.1, w.2.2.1, w.2.2.2.1⟩)
      rw [e] at hP
      exact hP 1 _ ⟨zX_127, by rw [zu_nek _ _ _ _ (by decide)]; exact hp, fun j hj => zu_nej _ _ _ hj, Or.inl ⟨rfl, rfl, zu_same _ _ _ _⟩⟩
    have bad : dgt T len p → ¬ (0 < v ∧ 10 * v + T p - 48 ≤ most) → Post (some (zI 0)) h := by
      intro q q2
      have e := stop (fun w => q2 ⟨w.1, w.2.2.2.2⟩)
      rw [e] at hP
      exact hP 0 _ ⟨zX.rfl', hp, fun _ _ => rfl, Or.inr ⟨rfl, Or.inr q⟩⟩
    refine k_X5_readNumber_27 (by decide) ⟨fun c => ⟨by omega, by omega, ?_⟩, fun c => ?_⟩
    · rintro _ rfl
      rw [Int.toNat_natCast]
      exact good (fun q => absurd q.1 (by omega))
    · refine ⟨2, _, by decide, c_X5_digitHere t hp, ?_⟩
      rintro _ _ ⟨⟨x, rfl, hx⟩, rfl⟩
      refine ⟨x, rfl, fun c2 => ⟨by omega, by omega, ?_⟩, fun c2 => ?_⟩
      · rintro _ rfl
        rw [Int.toNat_natCast]
        rcases hx with ⟨e, q⟩ | ⟨e, q⟩
        · exact good q
        · exact absurd q.2.1 (by omega)
      · refine ⟨2, _, by decide, c_X5_digitHere t hp, ?_⟩
        rintro _ _ ⟨⟨y, rfl, hy⟩, rfl⟩
        have q : dgt T len p := by
          rcases hx with ⟨e, -⟩ | ⟨-, q⟩
          · exact absurd e (by omega)
          · exact q
        have ey : y = T p - 48 := by
          rcases hy with ⟨-, z⟩ | ⟨e, -⟩
          · exact absurd q z
          · exact e
        have qd := q
        obtain ⟨q1, q2, q3⟩ := q
        refine ⟨y, rfl, ?_⟩
        intro x21 e21
        rw [ey, zwr_eq (a := v * 10) (by omega) (by omega), zwr_eq (by omega) (by omega)] at e21
        refine ⟨fun c3 => bad qd (fun z => by omega), fun c3 => ⟨fun c4 => ?_, fun c4 => bad qd (fun z => by omega)⟩⟩
        rintro _ rfl
        intro x23 e23
        rw [hp, zwr_eq (by omega) (by omega)]
        rw [zwr_eq (by omega) (by omega)] at e23
        rw [e23, e21, show v * 10 + (T p - 48) = 10 * v + T p - 48 by omega]
        have e : xNl T len most (n + 1) v (false, p) = xNl T len most n (10 * v + T p - 48) (false, p + 1) := by
          show (if _ then _ else _) = _
          exact if_pos ⟨rfl, by omega, q1, q2, q3, show 10 * v + T p - 48 ≤ most by omega⟩
        rw [e] at hP
        refine ih (10 * v + T p - 48) (p + 1) (w + 1) _ (cTx_x t zX_2) (by rw [zu_same]; omega) (by omega) (by omega) (by omega) (by omega) (by omega) (by omega) (fun x h' o => hP x h' ⟨zX_2.trans o.1, o.2.1, fun j hj => by rw [o.2.2.1 j hj, zu_nekr _ _ _ (by decide)], o.2.2.2⟩)
theorem c_X5_readNumber {T : zs} {len p slot : Nat} {h : zH} {least most : Int} (t : cTx T len h) (hp : h 125 2 = (p : Int)) (h60 : p ≤ 60) (hs : slot < 150) (hl : 0 ≤ least ∧ least ≤ 9) (hm : most ≤ 999) : zSp 3 mX5_readNumber [zR 125, zI (slot : Int), zI least, zI most] h (fun q h' => ∃ x : Int, q = some (zI x) ∧ cOut slot (dgt T len (xN T len least most (false, p)).2.2) (xN T len least most (false, p)) h h' x) := by
  refine zSp_of (by decide +kernel) (Nat.le_of_ble_eq_true rfl) rfl (fun Γ => k_X5_readNumber_0  (by decide) ?_)
  have l := t.2.1
  have b := t.2.2.2 p
  refine ⟨2, _, by decide, c_X5_digitHere t hp, ?_⟩
  rintro _ _ ⟨⟨x, rfl, hx⟩, rfl⟩
  refine ⟨x, rfl, fun c => ?_, fun c => ?_⟩
  · rintro _ rfl
    rcases hx with ⟨e, -⟩ | ⟨e, q⟩
    · exact absurd c (by omega)
    have es : sg T len p = T p := if_pos q.1
    have ez : xS T len (48 + least) 57 (false, p) = (false, p + 1) := by
      unfold xS
      exact if_pos ⟨rfl, by show 48 + least ≤ sg T len p; rw [es]; omega, by show sg T len p ≤ 57; rw [es]; exact q.2.2⟩
    have en : xN T len least most (false, p) = xNl T len most 60 (T p - 48) (false, p + 1) := by
      unfold xN
      rw [ez, show sg T len (false, p).2 = T p from es]
    have q1 := q.1
    have q2 := q.2.1
    have q3 := q.2.2
    rw [en, e, hp, zwr_eq (by omega) (by omega)]
    exact c_X5_readNumber_27 hs hm 60 (T p - 48) (p + 1) 1 _ (cTx_x t zX_2) (by rw [zu_same]; omega) (by omega) (by omega) (by omega) (by omega) (by decide) (by omega) (fun x h' o => ⟨x, rfl, zX_2.trans o.1, o.2.1, fun j hj => by rw [o.2.2.1 j hj, zu_nekr _ _ _ (by decide)], o.2.2.2⟩)
  · have ez : xS T len (48 + least) 57 (false, p) = (true, p) := by
      unfold xS
      refine if_neg (fun w => ?_)
      obtain ⟨-, w1, w2⟩ := w
      have w1' : 48 + least ≤ sg T len p := w1
      have w2' : sg T len p ≤ 57 := w2
      unfold sg at w1' w2'
      by_cases q : p < len
      · rw [if_pos q] at w1' w2'
        rcases hx with ⟨-, z⟩ | ⟨e, -⟩
        · exact z ⟨q, by omega, w2'⟩
        · exact c (by omega)
      · rw [if_neg q] at w1'; omega
    have en : (xN T len least most (false, p)).2 = (true, p) := by
      unfold xN
      rw [ez, xNl_w rfl]
    refine ⟨0, rfl, zX.rfl', ?_, fun _ _ => rfl, Or.inr ⟨rfl, Or.inl ?_⟩⟩
    · rw [en]; exact hp
    · rw [en]
theorem c_X5_readPair {T : zs} {len p slot : Nat} {h : zH} (t : cTx T len h) (hp : h 125 2 = (p : Int)) (hs : slot + 1 < 150) : zSp 4 mX5_readPair [zR 125, zI (slot : Int)] h (fun q h' => ∃ x : Int, q = some (zI x) ∧ zX h h' ∧ h' 125 2 = ((xS T len 48 53 (xS T len 58 58 (xS T len 48 53 (false, p)))).2 : Int) ∧ (∀ j : Nat, j ≠ slot → j ≠ slot + 1 → h' 127 j = h 127 j) ∧ ((x = 1 ∧ (xS T len 48 53 (xS T len 58 58 (xS T len 48 53 (false, p)))).1 = false ∧ h' 127 slot = sg T len p - 48 ∧ h' 127 (slot + 1) = sg T len (xS T len 58 58 (xS T len 48 53 (false, p))).2 - 48) ∨ (x = 0 ∧ (xS T len 48 53 (xS T len 58 58 (xS T len 48 53 (false, p)))).1 = true))) := by
  refine zSp_of (by decide +kernel) (Nat.le_of_ble_eq_true rfl) rfl (fun Γ => k_X5_readPair_0  (by decide) ?_)
  refine ⟨3, _, by decide, c_X5_readDigit t hp (by omega), ?_⟩
  rintro _ h1 ⟨x, rfl, f1, p1, s1, o1⟩
  refine ⟨x, rfl, fun c => ?_, fun c => ?_⟩
  · rcases o1 with ⟨e, -⟩ | ⟨-, e | e⟩
    · exact absurd c (by omega)
    · have e : (xS T len 48 53 (false, p)).1 = true := e
      have p1 : h1 125 2 = ((xS T len 48 53 (false, p)).2 : Int) := p1
      rw [xS_w (lo := 58) (hi := 58) e, xS_w (lo := 48) (hi := 53) e]
      exact ⟨0, rfl, f1, p1, fun j j1 _ => s1 j j1, Or.inr ⟨rfl, e⟩⟩
    · exact absurd e id
  rcases o1 with ⟨-, e1, v1⟩ | ⟨e, -⟩
  rotate_left
  · exact absurd e c
  have e1 : (xS T len 48 53 (false, p)).1 = false := e1
  have p1 : h1 125 2 = ((xS T len 48 53 (false, p)).2 : Int) := p1
  have v1 : h1 127 slot = sg T len p - 48 := v1
  generalize xS T len 48 53 (false, p) = z1 at e1 p1
  rcases z1 with ⟨w1, q1⟩
  have e1 : w1 = false := e1
  rw [e1]
  have p1 : h1 125 2 = (q1 : Int) := p1
  refine ⟨2, _, by decide, c_X5_readSign (c := 58) (cTx_x t f1) p1 (by decide), ?_⟩
  rintro _ h2 ⟨x2, rfl, f2, s2, o2⟩
  refine ⟨x2, rfl, fun c2 => ?_, fun c2 => ?_⟩
  · rcases o2 with ⟨e, -⟩ | ⟨-, e, p2⟩
    · exact absurd c2 (by omega)
    · rw [e, xS_w (lo := 48) (hi := 53) rfl]
      exact ⟨0, rfl, f1.trans f2, p2, fun j j1 _ => by rw [s2, s1 j j1], Or.inr ⟨rfl, rfl⟩⟩
  rcases o2 with ⟨-, e2, p2⟩ | ⟨e, -⟩
  rotate_left
  · exact absurd e c2
  rw [e2, zwr_eq (by omega) (by omega), show (slot : Int) + 1 = ((slot + 1 : Nat) : Int) by omega]
  refine ⟨3, _, by decide, c_X5_readDigit (cTx_x t (f1.trans f2)) p2 hs, ?_⟩
  rintro _ h3 ⟨x3, rfl, f3, p3, s3, o3⟩
  have p3 : h3 125 2 = ((xS T len 48 53 (false, q1 + 1)).2 : Int) := p3
  refine ⟨x3, rfl, fun c3 => ?_, fun c3 => ?_⟩
  · rcases o3 with ⟨e, -⟩ | ⟨-, e | e⟩
    · exact absurd c3 (by omega)
    · exact ⟨0, rfl, f1.trans (f2.trans f3), p3, fun j j1 j2 => by rw [s3 j j2, s2, s1 j j1], Or.inr ⟨rfl, e⟩⟩
    · exact absurd e id
  · rcases o3 with ⟨-, e3, v3⟩ | ⟨e, -⟩
    · exact ⟨1, rfl, f1.trans (f2.trans f3), p3, fun j j1 j2 => by rw [s3 j j2, s2, s1 j j1], Or.inl ⟨rfl, e3, by rw [s3 slot (by omega), s2, v1], v3⟩⟩
    · exact absurd e c3
