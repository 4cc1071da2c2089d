/-! The pure side: a state is a row of 336 numbers, as the reference has it -/
abbrev zs : Type := Nat → Int
def su (s : zs) (i : Nat) (v : Int) : zs := fun j => if j = i then v else s j
def zrow (h : zH) (k : Nat) (f : zs) : zH := fun k' j => if k' = k then f j else h k' j
theorem zu_row (h : zH) (k j : Nat) (v : Int) : zu h k j v = zrow h k (su (h k) j v) := by
  funext k' j'
  unfold zu zrow su
  by_cases h1 : k' = k
  · subst h1
    by_cases h2 : j' = j
    · rw [if_pos ⟨rfl, h2⟩, if_pos rfl, if_pos h2]
    · rw [if_neg (fun q => h2 q.2), if_pos rfl, if_neg h2]
  · rw [if_neg (fun q => h1 q.1), if_neg h1]
theorem zrow_get (h : zH) (k : Nat) (f : zs) : zrow h k f k = f := by funext j; unfold zrow; rw [if_pos rfl]
theorem zrow_ne (h : zH) {k k' : Nat} (f : zs) (hk : k' ≠ k) : zrow h k f k' = h k' := by funext j; unfold zrow; rw [if_neg hk]
theorem zrow_row (h : zH) (k : Nat) (f g : zs) : zrow (zrow h k f) k g = zrow h k g := by
  funext k' j
  unfold zrow
  by_cases h1 : k' = k
  · rw [if_pos h1, if_pos h1]
  · rw [if_neg h1, if_neg h1, if_neg h1]
theorem zrow_self (h : zH) (k : Nat) : zrow h k (h k) = h := by
  funext k' j
  unfold zrow
  by_cases h1 : k' = k
  · rw [if_pos h1, h1]
  · rw [if_neg h1]
theorem zrow_comm (h : zH) {k k' : Nat} (f g : zs) (hk : k ≠ k') : zrow (zrow h k f) k' g = zrow (zrow h k' g) k f := by
  funext k2 j
  unfold zrow
  by_cases h1 : k2 = k
  · by_cases h2 : k2 = k'
    · exact absurd (h1.symm.trans h2) hk
    · rw [if_neg h2, if_pos h1, if_pos h1]
  · by_cases h2 : k2 = k'
    · rw [if_pos h2, if_neg h1, if_pos h2]
    · rw [if_neg h2, if_neg h1, if_neg h1, if_neg h2]
theorem zu_row2 (h : zH) (k : Nat) (f : zs) (j : Nat) (v : Int) : zu (zrow h k f) k j v = zrow h k (su f j v) := by rw [zu_row, zrow_get, zrow_row]
theorem su_same (s : zs) (i : Nat) (v : Int) : su s i v i = v := if_pos rfl
theorem su_ne (s : zs) {i j : Nat} (v : Int) (h : j ≠ i) : su s i v j = s j := if_neg h
theorem zu_same (h : zH) (k j : Nat) (v : Int) : zu h k j v k j = v := if_pos ⟨rfl, rfl⟩
theorem zu_nek (h : zH) {k k' : Nat} (j j' : Nat) (v : Int) (hk : k' ≠ k) : zu h k j v k' j' = h k' j' := if_neg (fun q => hk q.1)
theorem zu_nekr (h : zH) {k k' : Nat} (j : Nat) (v : Int) (hk : k' ≠ k) : zu h k j v k' = h k' := funext fun j' => if_neg (fun q => hk q.1)
theorem zu_nej (h : zH) (k : Nat) {j j' : Nat} (v : Int) (hj : j' ≠ j) : zu h k j v k j' = h k j' := if_neg (fun q => hj q.2)
-- loans: number, lender, borrower, cell, parts of row x
def sPut (s : zs) (x n a b c p : Int) : zs := su (su (su (su (su s (136 + 5 * x + 0).toNat n) (136 + 5 * x + 1).toNat a) (136 + 5 * x + 2).toNat b) (136 + 5 * x + 3).toNat c) (136 + 5 * x + 4).toNat p
def sSub (s : zs) (i : Nat) (p : Int) : zs := su s i (zwr (s i - p))
def sAdd (s : zs) (i : Nat) (p : Int) : zs := su s i (zwr (s i + p))
def sMove (s : zs) (a b c p : Int) : zs := sAdd (sSub s (6 * c + a).toNat p) (6 * c + b).toNat p
def sLend (s : zs) (a b c p : Int) : zs := sAdd (sAdd (sMove (sPut s (s 132) (s 133) a b c p) a b c p) 132 1) 133 1
def sSh (s : zs) (i lim : Int) : zs := fun j => if i ≤ (j : Int) ∧ (j : Int) < lim then s (j + 5) else s j
def sGive (s : zs) (x : Int) : zs :=
  sAdd (sSub (sSh (sMove s (s (136 + 5 * x + 2).toNat) (s (136 + 5 * x + 1).toNat) (s (136 + 5 * x + 3).toNat) (s (136 + 5 * x + 4).toNat)) (136 + 5 * x) (136 + 5 * (s 132 - 1))) 132 1) 135 1
def sWrite (s : zs) (c v : Int) : zs := sAdd (sAdd (su s (114 + c).toNat v) (120 + c).toNat 1) 134 1
def sLat (s : zs) (a c k : Int) : Nat → Int
  | 0 => -5
  | n + 1 => if s (136 + 5 * (n : Int) + 1).toNat = a ∧ s (136 + 5 * (n : Int) + 3).toNat = c ∧ s (136 + 5 * (n : Int) + 0).toNat < k then (n : Int) else sLat s a c k n
def sPlc (s : zs) (k : Int) : Nat → Int
  | 0 => -5
  | n + 1 => if sPlc s k n = -5 then (if s (136 + 5 * (n : Int) + 0).toNat = k then (n : Int) else -5) else sPlc s k n
abbrev sLatest (s : zs) (a c k : Int) : Int := sLat s a c k (s 132).toNat
abbrev sPlace (s : zs) (k : Int) : Int := sPlc s k (s 132).toNat
def sCan (s : zs) (x : Int) : Prop := s (136 + 5 * x + 4).toNat ≤ s (6 * s (136 + 5 * x + 3).toNat + s (136 + 5 * x + 2).toNat).toNat ∧ s (36 + 6 * s (136 + 5 * x + 3).toNat + s (136 + 5 * x + 2).toNat).toNat = 0
theorem sPlc_le {s : zs} {k : Int} (n : Nat) : sPlc s k n = -5 ∨ (0 ≤ sPlc s k n ∧ sPlc s k n < (n : Int) ∧ s (136 + 5 * sPlc s k n + 0).toNat = k) := by
  induction n with
  | zero => exact Or.inl rfl
  | succ n ih =>
    unfold sPlc
    by_cases h1 : sPlc s k n = -5
    · rw [if_pos h1]
      by_cases h2 : s (136 + 5 * (n : Int) + 0).toNat = k
      · rw [if_pos h2]
        exact Or.inr ⟨by omega, by omega, h2⟩
      · rw [if_neg h2]
        exact Or.inl rfl
    · rw [if_neg h1]
      rcases ih with h | ⟨h2, h3, h4⟩
      · exact absurd h h1
      · exact Or.inr ⟨h2, by omega, h4⟩
theorem sPlc_first {s : zs} {k : Int} {p : Nat} (h1 : sPlc s k p = -5) (h2 : s (136 + 5 * (p : Int) + 0).toNat = k) : ∀ n : Nat, p < n → sPlc s k n = (p : Int) := by
  intro n
  induction n with
  | zero => intro h; omega
  | succ n ih =>
    intro h
    unfold sPlc
    by_cases hn : p = n
    · subst hn
      rw [if_pos h1, if_pos h2]
    · have := ih (by omega)
      rw [if_neg (by omega), this]
theorem sLat_le {s : zs} {a c k : Int} (n : Nat) : sLat s a c k n = -5 ∨ (0 ≤ sLat s a c k n ∧ sLat s a c k n < (n : Int) ∧ s (136 + 5 * sLat s a c k n + 1).toNat = a ∧ s (136 + 5 * sLat s a c k n + 3).toNat = c ∧ s (136 + 5 * sLat s a c k n + 0).toNat < k) := by
  induction n with
  | zero => exact Or.inl rfl
  | succ n ih =>
    unfold sLat
    split
    · rename_i h
      exact Or.inr ⟨by omega, by omega, h⟩
    · rcases ih with h | ⟨h2, h3, h4⟩
      · exact Or.inl h
      · exact Or.inr ⟨h2, by omega, h4⟩
