/-! contracts of the reference's small methods -/
def sCnt (s : zs) (c : Int) : Nat → Int
  | 0 => 0
  | n + 1 => sCnt s c n + (if s (136 + 5 * (n : Int) + 3).toNat = c then 1 else 0)
def sSum (s : zs) (a c w : Int) : Nat → Int
  | 0 => 0
  | n + 1 => sSum s a c w n + (if s (136 + 5 * (n : Int) + 3).toNat = c ∧ s (136 + 5 * (n : Int) + w).toNat = a then s (136 + 5 * (n : Int) + 4).toNat else 0)
def sAg (s : zs) (c w : Int) : Nat → Int
  | 0 => 0
  | n + 1 => sAg s c w n + (if w = 8 then s (36 + 6 * c + (n : Int)).toNat else if 0 < s (6 * c + (n : Int)).toNat then 1 else 0)
def sWh (s : zs) (c : Int) : Nat → Int
  | 0 => -5
  | n + 1 => if s (6 * c + (n : Int)).toNat = 64 then (n : Int) else sWh s c n
def sPc (s : zs) (a c : Int) : Nat → Int
  | 0 => -5
  | n + 1 => if s (72 + 6 * c + (n : Int)).toNat = a then (n : Int) else sPc s a c n
def sShC (s : zs) (i lim : Int) : zs := fun j => if i ≤ (j : Int) ∧ (j : Int) < lim then s (j + 1) else s j
def sDrop (s : zs) (c k : Int) : zs := sShC (sSub s (108 + c).toNat 1) (72 + 6 * c + k) (72 + 6 * c + zwr (s (108 + c).toNat - 1))
def sCp (f g : zs) : zs := fun j => if j < 336 then f j else g j
def sFault (s : zs) (a b c p : Int) : Int :=
  if ¬ (0 ≤ a ∧ a ≤ 5) then -1 else if ¬ (0 ≤ b ∧ b ≤ 5) then -1 else if ¬ (0 ≤ c ∧ c ≤ 5) then -1 else if ¬ (1 ≤ p ∧ p ≤ 64) then -2 else if a = b then -2 else if s (6 * c + a).toNat < p then -4 else if s (36 + 6 * c + a).toNat = 1 then -4 else if s 132 = 40 ∨ s 133 = 1000 then -3 else 0