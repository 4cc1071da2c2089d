/-! the reference's history, the stack of gatherings -/
def sKnow (B s : zs) (n : Int) : zs := fun j => if 336 * n ≤ (j : Int) ∧ (j : Int) < 336 * n + 336 then s (j - (336 * n).toNat) else B j
def sBack (B : zs) : zs := fun j => if j < 1008 then B (j + 336) else B j