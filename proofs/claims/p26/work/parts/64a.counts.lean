/-! p26: loans by number, claims and their places, what is held, borrowed and lent, chains -/
theorem lsum_split {s : zs} {a c : Int} : ∀ n : Nat, lsum s a c n = sSum s a c 2 n - sSum s a c 1 n := by
  intro n
  induction n with
  | zero => rfl
  | succ n ih =>
    unfold lsum sSum lterm
    rw [ih]
    repeat' split
    all_goals omega
theorem held_split {B : Int} {s : zs} {a c : Int} (h : WF B s) (ha : 0 ≤ a ∧ a ≤ 5) (hc : 0 ≤ c ∧ c ≤ 5) : s (6 * c + a).toNat = (if s (126 + c).toNat = a then 64 else 0) + sSum s a c 2 (s 132).toNat - sSum s a c 1 (s 132).toNat := by
  rw [h.k a c ha hc, lsum_split]
  omega
/-- loans of the cell c whose number is below k -/
noncomputable def nLn (s : zs) (c : Int) : Nat → Int
  | 0 => 0
  | k + 1 => nLn s c k + (if qLoan s (k : Int) 2 = c then 1 else 0)
theorem nLn_bd {s : zs} {c : Int} (n : Nat) : 0 ≤ nLn s c n ∧ nLn s c n ≤ n := by
  induction n with
  | zero => exact ⟨Int.le_refl _, Int.le_refl _⟩
  | succ n ih =>
    unfold nLn
    split <;> omega
theorem nLn_rows {s : zs} {c : Int} (hl : WFl s) (ho : WFo s) (hn : 0 ≤ s 132) (hc : 0 ≤ c) : ∀ k m : Nat, (m : Int) ≤ s 132 → (∀ x : Int, 0 ≤ x → x < (m : Int) → s (136 + 5 * x + 0).toNat < (k : Int)) → (∀ x : Int, (m : Int) ≤ x → x < s 132 → (k : Int) ≤ s (136 + 5 * x + 0).toNat) → nLn s c k = sCnt s c m := by
  intro k
  induction k with
  | zero =>
    intro m hm h1 h2
    have e : m = 0 := by
      by_cases e : m = 0
      · exact e
      · have a := h1 0 (by omega) (by omega)
        have b := (hl 0 (by omega) (by omega)).1.1
        omega
    rw [e]; rfl
  | succ k ih =>
    intro m hm h1 h2
    by_cases e : ∃ n : Nat, m = n + 1 ∧ s (136 + 5 * (n : Int) + 0).toNat = (k : Int)
    · obtain ⟨n, em, e2⟩ := e
      rw [em]
      have key := ih n (by omega) (fun x x0 x1 => by have := ho x (n : Int) x0 x1 (by omega); omega) (fun x x0 x1 => by
        by_cases q : x = (n : Int)
        · rw [q]; omega
        · have := ho (n : Int) x (by omega) (by omega) x1
          omega)
      have p := sPlc_of ho (x := (n : Int)) ⟨by omega, by omega⟩
      rw [e2] at p
      have q : qLoan s (k : Int) 2 = s (136 + 5 * (n : Int) + 3).toNat := by
        unfold qLoan
        rw [p, if_neg (by omega)]
        rfl
      unfold nLn sCnt
      rw [key, q]
    · have nok : ∀ x : Int, 0 ≤ x → x < (m : Int) → s (136 + 5 * x + 0).toNat ≠ (k : Int) := by
        intro x x0 x1 q
        by_cases q2 : x = (m : Int) - 1
        · exact e ⟨m - 1, by omega, by rw [show ((m - 1 : Nat) : Int) = x by omega]; exact q⟩
        · have b := ho x ((m : Int) - 1) x0 (by omega) (by omega)
          have b2 := h1 ((m : Int) - 1) (by omega) (by omega)
          omega
      have key := ih m hm (fun x x0 x1 => by
        have a := h1 x x0 x1
        have b := nok x x0 x1
        omega) (fun x x0 x1 => by have := h2 x x0 x1; omega)
      have p : sPlace s (k : Int) = -5 := by
        by_cases q : sPlace s (k : Int) = -5
        · exact q
        · exfalso
          rcases sPlc_le (s := s) (k := (k : Int)) (s 132).toNat with z | ⟨z1, z2, z3⟩
          · exact q z
          · by_cases w : sPlc s (k : Int) (s 132).toNat < (m : Int)
            · exact nok _ z1 w z3
            · have := h2 _ (by omega) (by omega : sPlc s (k : Int) (s 132).toNat < s 132)
              omega
      unfold nLn
      rw [key, if_neg (by unfold qLoan; rw [if_pos p]; omega)]
      omega
theorem nLn_all {B : Int} {s : zs} {c : Int} (h : WF B s) (hc : 0 ≤ c) : nLn s c (s 133).toNat = sCnt s c (s 132).toNat := by
  have n := h.n
  unfold WFn at n
  exact nLn_rows h.l h.o n.1 hc _ _ (by omega) (fun x x0 x1 => by have := (h.l x x0 (by omega)).1.2; omega) (fun x x0 x1 => by omega)
theorem sCnt_ex {s : zs} {c : Int} : ∀ n : Nat, 0 < sCnt s c n ↔ ∃ x : Nat, x < n ∧ s (136 + 5 * (x : Int) + 3).toNat = c := by
  intro n
  induction n with
  | zero => exact ⟨fun q => absurd (show (0 : Int) < 0 from q) (by decide), fun ⟨x, q, _⟩ => absurd q (Nat.not_lt_zero x)⟩
  | succ n ih =>
    have p := sCnt_pos (s := s) (c := c) n
    unfold sCnt
    by_cases e : s (136 + 5 * (n : Int) + 3).toNat = c
    · rw [if_pos e]
      exact ⟨fun _ => ⟨n, by omega, e⟩, fun _ => by omega⟩
    · rw [if_neg e]
      constructor
      · intro q
        obtain ⟨x, x1, x2⟩ := ih.mp (by omega)
        exact ⟨x, by omega, x2⟩
      · rintro ⟨x, x1, x2⟩
        by_cases q : x = n
        · rw [q] at x2; exact absurd x2 e
        · have := ih.mpr ⟨x, by omega, x2⟩
          omega
theorem cTot_le (L : Nat → Nat → Bool) : cTot L ≤ 5 := mx_le 6 (fun i _ => cL_le L 5 i _)
theorem tb_1 : ∀ a, a < 6 → ∀ b, b < 6 → a ≠ b → Nat.testBit (1 <<< a) b = false := by decide +kernel
theorem cTot_pos {B : Int} {s : zs} {c : Int} (h : WF B s) (q : WQ s) : 0 < sCnt s c (s 132).toNat ↔ 0 < cTot (fun i j => sLk s c i j (s 132).toNat) := by
  have n := h.n
  unfold WFn at n
  constructor
  · intro p
    obtain ⟨x, x1, x2⟩ := (sCnt_ex _).mp p
    obtain ⟨-, a1, a2, -, -⟩ := h.l (x : Int) (by omega) (by omega)
    have ne := q.2 (x : Int) (by omega) (by omega)
    have l1 : sLk s c (s (136 + 5 * (x : Int) + 1).toNat).toNat (s (136 + 5 * (x : Int) + 2).toNat).toNat (s 132).toNat = true := (sLk_ex _).mpr ⟨x, x1, x2, by omega, by omega⟩
    have t1 := tb_1 (s (136 + 5 * (x : Int) + 1).toNat).toNat (by omega) (s (136 + 5 * (x : Int) + 2).toNat).toNat (by omega) (by omega)
    have g1 : cL (fun i j => sLk s c i j (s 132).toNat) 5 (s (136 + 5 * (x : Int) + 1).toNat).toNat (1 <<< (s (136 + 5 * (x : Int) + 1).toNat).toNat) ≤ cTot (fun i j => sLk s c i j (s 132).toNat) := mx_ge (f := fun a => cL (fun i j => sLk s c i j (s 132).toNat) 5 a (1 <<< a)) 6 (by omega)
    have g2 := mx_ge (f := fun k => if (sLk s c (s (136 + 5 * (x : Int) + 1).toNat).toNat k (s 132).toNat && !(1 <<< (s (136 + 5 * (x : Int) + 1).toNat).toNat).testBit k) then cL (fun i j => sLk s c i j (s 132).toNat) 4 k (1 <<< (s (136 + 5 * (x : Int) + 1).toNat).toNat ||| 1 <<< k) + 1 else 0) (i := (s (136 + 5 * (x : Int) + 2).toNat).toNat) 6 (by omega)
    simp only [l1, t1] at g2
    have g3 : 0 < cL (fun i j => sLk s c i j (s 132).toNat) 5 (s (136 + 5 * (x : Int) + 1).toNat).toNat (1 <<< (s (136 + 5 * (x : Int) + 1).toNat).toNat) := Nat.lt_of_lt_of_le (Nat.succ_pos _) g2
    omega
  · intro p
    by_cases z : 0 < sCnt s c (s 132).toNat
    · exact z
    · exfalso
      have no : ∀ a b : Nat, sLk s c a b (s 132).toNat = false := by
        intro a b
        rw [← Bool.not_eq_true]
        intro w
        obtain ⟨x, x1, x2, -⟩ := (sLk_ex _).mp w
        exact z ((sCnt_ex _).mpr ⟨x, x1, x2⟩)
      have zl : ∀ a m : Nat, cL (fun i j => sLk s c i j (s 132).toNat) 5 a m = 0 := by
        intro a m
        have : cL (fun i j => sLk s c i j (s 132).toNat) 5 a m ≤ 0 := mx_le 6 (fun i _ => by
          show (if (sLk s c a i (s 132).toNat && !m.testBit i) then _ else 0) ≤ 0
          rw [no a i]
          exact Nat.le_refl _)
        omega
      have : cTot (fun i j => sLk s c i j (s 132).toNat) ≤ 0 := mx_le 6 (fun i _ => Nat.le_of_eq (zl i _))
      omega
/-- what the agents below n hold, together -/
def hSum (s : zs) (c : Int) : Nat → Int
  | 0 => 0
  | n + 1 => hSum s c n + s (6 * c + (n : Int)).toNat
theorem hSum_6 (s : zs) (c : Int) : hSum s c 6 = sum6 s c := by
  show (((((0 + s (6 * c + 0).toNat) + s (6 * c + 1).toNat) + s (6 * c + 2).toNat) + s (6 * c + 3).toNat) + s (6 * c + 4).toNat) + s (6 * c + 5).toNat = _
  unfold sum6
  omega
theorem hSum_bd {B : Int} {s : zs} {c : Int} (h : WF B s) (hc : 0 ≤ c ∧ c ≤ 5) : ∀ n : Nat, n ≤ 6 → 0 ≤ hSum s c n ∧ hSum s c n ≤ 64 * n := by
  intro n
  induction n with
  | zero => intro _; exact ⟨Int.le_refl _, Int.le_refl _⟩
  | succ n ih =>
    intro hn
    have p := ih (by omega)
    have w := WF_held h.h h.s (a := (n : Int)) ⟨by omega, by omega⟩ hc
    unfold hSum
    omega
/-- how many of the agents below n have a claim; the places of their claims, as bits -/
def sPln (s : zs) (c : Int) : Nat → Int
  | 0 => 0
  | n + 1 => sPln s c n + (if 0 ≤ sPlC s (n : Int) c then 1 else 0)
def sPls (s : zs) (c : Int) : Nat → Nat
  | 0 => 0
  | n + 1 => if 0 ≤ sPlC s (n : Int) c then sPls s c n ||| 1 <<< (sPlC s (n : Int) c).toNat else sPls s c n
theorem sPlC_bd {s : zs} {a c : Int} (h : WFc s) (hc : 0 ≤ c ∧ c ≤ 5) : sPlC s a c = -5 ∨ 0 ≤ sPlC s a c ∧ sPlC s a c ≤ 5 ∧ sPlC s a c < s (108 + c).toNat ∧ s (72 + 6 * c + sPlC s a c).toNat = a := by
  have n := (h c hc).1
  rcases sPc_ok (s := s) (a := a) (c := c) (s (108 + c).toNat).toNat with ⟨q, -⟩ | ⟨q1, q2, q3⟩
  · exact Or.inl q
  · exact Or.inr ⟨q1, by unfold sPlC; omega, by unfold sPlC; omega, q3⟩
theorem sPln_bd {s : zs} {c : Int} : ∀ n : Nat, 0 ≤ sPln s c n ∧ sPln s c n ≤ n := by
  intro n
  induction n with
  | zero => exact ⟨Int.le_refl _, Int.le_refl _⟩
  | succ n ih =>
    unfold sPln
    split <;> omega
theorem sPln_mask {s : zs} {c : Int} (h : WFc s) (hc : 0 ≤ c ∧ c ≤ 5) : ∀ n : Nat, n ≤ 6 → sPln s c n = ((pcP (cMask s c (s (108 + c).toNat).toNat) n : Nat) : Int) := by
  have hn := (h c hc).1
  obtain ⟨i1, i2, i3⟩ := cMask_ok h hc (s (108 + c).toNat).toNat (by omega)
  intro n
  induction n with
  | zero => intro _; rfl
  | succ n ih =>
    intro h6
    have key := ih (by omega)
    have hb := sPlC_bd (a := (n : Int)) h hc
    have ex : 0 ≤ sPlC s (n : Int) c → ∃ k : Nat, k < (s (108 + c).toNat).toNat ∧ s (72 + 6 * c + (k : Int)).toNat = (n : Int) := by
      intro e
      rcases hb with z | ⟨z1, z2, z3, z4⟩
      · omega
      · refine ⟨(sPlC s (n : Int) c).toNat, by omega, ?_⟩
        rw [show (((sPlC s (n : Int) c).toNat : Nat) : Int) = sPlC s (n : Int) c by omega]
        exact z4
    have b := i3 (n : Int) ⟨by omega, by omega⟩
    rw [Int.toNat_natCast] at b
    unfold sPln pcP
    rw [key]
    by_cases e : 0 ≤ sPlC s (n : Int) c
    · rw [if_pos e]
      have t : (cMask s c (s (108 + c).toNat).toNat).testBit n = true := b.mpr (ex e)
      rw [t]
      show _ = ((pcP (cMask s c (s (108 + c).toNat).toNat) n + 1 : Nat) : Int)
      omega
    · rw [if_neg e]
      have t : (cMask s c (s (108 + c).toNat).toNat).testBit n = false := by
        rw [← Bool.not_eq_true]
        intro w
        obtain ⟨k, k1, k2⟩ := b.mp w
        clear b ex i3
        have z := sPlC_free (s := s) (a := (n : Int)) (c := c) (by
          rcases hb with z | ⟨z1, -⟩
          · exact z
          · exact absurd z1 e) (k : Int) (by omega) (by omega)
        exact z k2
      rw [t]
      show _ = ((pcP (cMask s c (s (108 + c).toNat).toNat) n + 0 : Nat) : Int)
      omega
theorem sPln_6 {s : zs} {c : Int} (h : WFc s) (hc : 0 ≤ c ∧ c ≤ 5) : sPln s c 6 = s (108 + c).toNat := by
  have hn := (h c hc).1
  obtain ⟨i1, i2, i3⟩ := cMask_ok h hc (s (108 + c).toNat).toNat (by omega)
  rw [sPln_mask h hc 6 (by omega), pcP_6, i2]
  omega
theorem sPls_ok {s : zs} {c : Int} (h : WFc s) (hc : 0 ≤ c ∧ c ≤ 5) : ∀ n : Nat, n ≤ 6 → sPls s c n < 64 ∧ ∀ j : Nat, (sPls s c n).testBit j = true ↔ ∃ k : Nat, k < n ∧ sPlC s (k : Int) c = (j : Int) := by
  intro n
  induction n with
  | zero => intro _; exact ⟨show (0 : Nat) < 64 by decide, fun j => ⟨fun q => (by rw [show sPls s c 0 = 0 from rfl, Nat.zero_testBit] at q; cases q), fun ⟨k, q, _⟩ => absurd q (Nat.not_lt_zero k)⟩⟩
  | succ n ih =>
    intro h6
    obtain ⟨p1, p2⟩ := ih (by omega)
    unfold sPls
    rcases sPlC_bd (a := (n : Int)) h hc with z | ⟨z1, z2, z3, z4⟩
    · rw [if_neg (by omega)]
      refine ⟨p1, fun j => ?_⟩
      rw [p2 j]
      constructor
      · rintro ⟨k, k1, k2⟩
        exact ⟨k, by omega, k2⟩
      · rintro ⟨k, k1, k2⟩
        refine ⟨k, ?_, k2⟩
        by_cases q : k = n
        · rw [q, z] at k2; omega
        · omega
    · rw [if_pos z1]
      refine ⟨zorlt _ p1 _ (by omega), fun j => ?_⟩
      rw [tb_or, Bool.or_eq_true, decide_eq_true_eq, p2 j]
      constructor
      · rintro (⟨k, k1, k2⟩ | e)
        · exact ⟨k, by omega, k2⟩
        · exact ⟨n, by omega, by omega⟩
      · rintro ⟨k, k1, k2⟩
        by_cases q : k = n
        · rw [q] at k2
          exact Or.inr (by omega)
        · exact Or.inl ⟨k, by omega, k2⟩
theorem sPls_6 {s : zs} {c : Int} (h : WFc s) (hc : 0 ≤ c ∧ c ≤ 5) : sPls s c 6 = 2 ^ (s (108 + c).toNat).toNat - 1 := by
  have hc3 := h c hc
  obtain ⟨p1, p2⟩ := sPls_ok h hc 6 (Nat.le_refl _)
  refine Nat.eq_of_testBit_eq (fun j => ?_)
  rw [Nat.testBit_two_pow_sub_one]
  by_cases e : j < (s (108 + c).toNat).toNat
  · rw [decide_eq_true e]
    have ha := hc3.2.1 (j : Int) (by omega) (by omega)
    refine (p2 j).mpr ⟨(s (72 + 6 * c + (j : Int)).toNat).toNat, by omega, ?_⟩
    rw [show (((s (72 + 6 * c + (j : Int)).toNat).toNat : Nat) : Int) = s (72 + 6 * c + (j : Int)).toNat by omega]
    rcases sPlC_bd (a := s (72 + 6 * c + (j : Int)).toNat) h hc with z | ⟨z1, z2, z3, z4⟩
    · exact absurd rfl (sPlC_free z (j : Int) (by omega) (by omega))
    · by_cases q : sPlC s (s (72 + 6 * c + (j : Int)).toNat) c < (j : Int)
      · exact absurd z4 (hc3.2.2 _ _ z1 q (by omega))
      · by_cases q2 : (j : Int) < sPlC s (s (72 + 6 * c + (j : Int)).toNat) c
        · exact absurd z4.symm (hc3.2.2 _ _ (by omega) q2 z3)
        · omega
  · rw [decide_eq_false e, ← Bool.not_eq_true]
    intro w
    obtain ⟨k, k1, k2⟩ := (p2 j).mp w
    rcases sPlC_bd (a := (k : Int)) h hc with z | ⟨z1, z2, z3, z4⟩
    · omega
    · omega
theorem zor_bit : ∀ m, m < 64 → ∀ j, j < 6 → zor (m : Nat) (zshl 1 (j : Nat)) = ((m ||| 1 <<< j : Nat) : Int) := by decide +kernel
theorem zor_0 : ∀ m, m < 64 → zor (m : Nat) 0 = ((m : Nat) : Int) := by decide +kernel
theorem zones : ∀ n, n < 7 → zwr (zshl 1 (n : Nat) - 1) = ((2 ^ n - 1 : Nat) : Int) := by decide +kernel
