theorem c_cp_l {h : zH} {k : Nat} {f g : zs} {m : Nat} (hm : m < 336) : zu (zrow h k (fun j => if j < m then f j else g j)) k m (f m) = zrow h k (fun j => if j < m + 1 then f j else g j) := by
  rw [zu_row, zrow_get, zrow_row]
  congr 1
  funext j
  unfold su
  by_cases hj : j = m
  · subst hj
    rw [if_pos rfl, if_pos (by omega)]
  · rw [if_neg hj]
    show (if j < m then f j else g j) = _
    by_cases hj2 : j < m
    · rw [if_pos hj2, if_pos (by omega)]
    · rw [if_neg hj2, if_neg (by omega)]
theorem c_cp_0 {h : zH} {k : Nat} {f : zs} : zrow h k (fun j => if j < 0 then f j else h k j) = h := by
  have : (fun j => if j < 0 then f j else h k j) = h k := funext fun j => if_neg (by omega)
  rw [this, zrow_self]