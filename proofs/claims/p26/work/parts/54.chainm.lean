/-! chains of loans: the reference's table, and that both find the longest -/
def chP (L : Nat → Nat → Bool) : Nat → Nat → Nat → Prop
  | 0, m, a => a < 6 ∧ m = 1 <<< a
  | n + 1, m, b => b < 6 ∧ ∃ m0 a, chP L n m0 a ∧ L a b = true ∧ m0.testBit b = false ∧ m = m0 ||| 1 <<< b
theorem ch_one : ∀ a, a < 6 → 1 <<< a < 64 ∧ 0 < 1 <<< a ∧ pc6 (1 <<< a) = 1 ∧ (1 <<< a).testBit a = true := by decide +kernel
theorem ch_or : ∀ m, m < 64 → ∀ a, a < 6 → m.testBit a = false → m < m ||| 1 <<< a := by decide +kernel
theorem pc6_le6 : ∀ m, m < 64 → pc6 m ≤ 6 := by decide +kernel
theorem chP_ok {L : Nat → Nat → Bool} : ∀ (n m a : Nat), chP L n m a → a < 6 ∧ m < 64 ∧ pc6 m = n + 1 := by
  intro n
  induction n with
  | zero =>
    rintro m a ⟨h1, h2⟩
    obtain ⟨o1, o2, o3, o4⟩ := ch_one a h1
    rw [h2]
    exact ⟨h1, o1, o3⟩
  | succ n ih =>
    rintro m b ⟨h1, m0, a, h2, h3, h4, h5⟩
    obtain ⟨i1, i2, i3⟩ := ih m0 a h2
    obtain ⟨p1, p2⟩ := pc6_or m0 i2 b h1 h4
    rw [h5]
    exact ⟨h1, p2, by omega⟩
theorem chP_up {L : Nat → Nat → Bool} : ∀ (n m a : Nat), chP L n m a → n + cL L (5 - n) a m ≤ cTot L := by
  intro n
  induction n with
  | zero =>
    rintro m a ⟨h1, h2⟩
    rw [h2]
    have := mx_ge (f := fun a => cL L 5 a (1 <<< a)) (i := a) 6 h1
    show 0 + cL L 5 a (1 <<< a) ≤ mx (fun a => cL L 5 a (1 <<< a)) 6
    have t : cL L 5 a (1 <<< a) ≤ mx (fun a => cL L 5 a (1 <<< a)) 6 := this
    omega
  | succ n ih =>
    intro m b hh
    have ok := chP_ok (n + 1) m b hh
    have le := pc6_le6 m ok.2.1
    obtain ⟨h1, m0, a, h2, h3, h4, h5⟩ := hh
    have i := ih m0 a h2
    rw [show 5 - n = (5 - (n + 1)) + 1 by omega] at i
    unfold cL at i
    have g := mx_ge (f := fun k => if L a k && !m0.testBit k then cL L (5 - (n + 1)) k (m0 ||| 1 <<< k) + 1 else 0) (i := b) 6 h1
    have g2 : (if L a b && !m0.testBit b then cL L (5 - (n + 1)) b (m0 ||| 1 <<< b) + 1 else 0) ≤ mx (fun k => if L a k && !m0.testBit k then cL L (5 - (n + 1)) k (m0 ||| 1 <<< k) + 1 else 0) 6 := g
    rw [h3, h4] at g2
    rw [if_pos (by decide)] at g2
    rw [h5]
    omega
theorem chP_ext {L : Nat → Nat → Bool} : ∀ (k m a n : Nat), chP L n m a → ∃ m' a', chP L (n + cL L k a m) m' a' := by
  intro k
  induction k with
  | zero => intro m a n h; exact ⟨m, a, h⟩
  | succ k ih =>
    intro m a n h
    unfold cL
    rcases mx_at (f := fun i => if L a i && !m.testBit i then cL L k i (m ||| 1 <<< i) + 1 else 0) 6 with q | ⟨i, i1, i2⟩
    · rw [q]; exact ⟨m, a, h⟩
    · rw [i2]
      show ∃ m' a', chP L (n + (if L a i && !m.testBit i then cL L k i (m ||| 1 <<< i) + 1 else 0)) m' a'
      by_cases c : (L a i && !m.testBit i) = true
      · rw [if_pos c]
        rw [Bool.and_eq_true] at c
        have c1 : L a i = true := c.1
        have c2 : m.testBit i = false := by
          cases q : m.testBit i
          · rfl
          · have z := c.2
            rw [q] at z; cases z
        obtain ⟨m', a', r⟩ := ih (m ||| 1 <<< i) i (n + 1) ⟨i1, m, a, h, c1, c2, rfl⟩
        refine ⟨m', a', ?_⟩
        rw [show n + (cL L k i (m ||| 1 <<< i) + 1) = n + 1 + cL L k i (m ||| 1 <<< i) by omega]
        exact r
      · rw [if_neg c]; exact ⟨m, a, h⟩
theorem chP_tot {L : Nat → Nat → Bool} : ∃ m a, chP L (cTot L) m a := by
  unfold cTot
  rcases mx_at (f := fun a => cL L 5 a (1 <<< a)) 6 with q | ⟨i, i1, i2⟩
  · rw [q]; exact ⟨1, 0, by decide, rfl⟩
  · rw [i2]
    obtain ⟨m', a', r⟩ := chP_ext (L := L) 5 (1 <<< i) i 0 ⟨i1, rfl⟩
    refine ⟨m', a', ?_⟩
    rw [Nat.zero_add] at r
    exact r
def chI (L : Nat → Nat → Bool) (k : Nat) (e : zs) (l : Nat) : Prop :=
  (∀ a m : Nat, a < 6 → m < 64 → e (64 * a + m) ≠ 0 → ∃ n, chP L n m a) ∧ (∃ m a, chP L l m a) ∧ (∀ n m a b : Nat, m < k → chP L n m a → L a b = true → b < 6 → m.testBit b = false → e (64 * b + (m ||| 1 <<< b)) ≠ 0 ∧ n + 1 ≤ l) ∧ ∀ a : Nat, a < 6 → e (64 * a + 1 <<< a) ≠ 0
theorem chI_full {L : Nat → Nat → Bool} {k : Nat} {e : zs} {l : Nat} (h : chI L k e l) {n m a : Nat} (hp : chP L n m a) (hm : m ≤ k) : e (64 * a + m) ≠ 0 := by
  cases n with
  | zero =>
    obtain ⟨h1, h2⟩ := hp
    rw [h2]
    exact h.2.2.2 a h1
  | succ n =>
    obtain ⟨h1, m0, a0, h2, h3, h4, h5⟩ := hp
    have ok := chP_ok n m0 a0 h2
    have lt := ch_or m0 ok.2.1 a h1 h4
    rw [h5]
    exact (h.2.2.1 n m0 a0 a (by omega) h2 h3 h1 h4).1
theorem chI_end {L : Nat → Nat → Bool} {e : zs} {l : Nat} (h : chI L 64 e l) : l = cTot L := by
  obtain ⟨m, a, q⟩ := h.2.1
  have u := chP_up l m a q
  obtain ⟨m', a', q'⟩ := chP_tot (L := L)
  have d : cTot L ≤ l := by
    generalize cTot L = t at q'
    cases t with
    | zero => exact Nat.zero_le _
    | succ n =>
      obtain ⟨h1, m0, a0, h2, h3, h4, h5⟩ := q'
      exact (h.2.2.1 n m0 a0 a' (chP_ok n m0 a0 h2).2.1 h2 h3 h1 h4).2
  omega
def chE (L : Nat → Nat → Bool) (s : zs) (c : Int) (k p : Nat) (e : zs) (l : Nat) : Prop := ∀ x : Nat, x < p → s (136 + 5 * (x : Int) + 3).toNat = c → ∀ n : Nat, chP L n k (s (136 + 5 * (x : Int) + 1).toNat).toNat → k.testBit (s (136 + 5 * (x : Int) + 2).toNat).toNat = false → e (64 * (s (136 + 5 * (x : Int) + 2).toNat).toNat + (k ||| 1 <<< (s (136 + 5 * (x : Int) + 2).toNat).toNat)) ≠ 0 ∧ n + 1 ≤ l
theorem su_nz {e : zs} {i j : Nat} (h : e j ≠ 0) : su e i 1 j ≠ 0 := by
  unfold su
  by_cases q : j = i
  · rw [if_pos q]; exact Int.one_ne_zero
  · rw [if_neg q]; exact h
theorem chI_set {L : Nat → Nat → Bool} {k a b n : Nat} {e : zs} {l : Nat} (h : chI L k e l) (hP : chP L n k a) (hL : L a b = true) (hb : b < 6) (hk : k.testBit b = false) : chI L k (su e (64 * b + (k ||| 1 <<< b)) 1) (if l < pc6 k then pc6 k else l) := by
  have ok := chP_ok n k a hP
  have P1 : chP L (n + 1) (k ||| 1 <<< b) b := ⟨hb, k, a, hP, hL, hk, rfl⟩
  have ok1 := chP_ok (n + 1) _ b P1
  have le : l ≤ (if l < pc6 k then pc6 k else l) := by split <;> omega
  refine ⟨fun a' m' ha hm he => ?_, ?_, fun n' m' a' b' h1 h2 h3 h4 h5 => ?_, fun a' ha => su_nz (h.2.2.2 a' ha)⟩
  · by_cases q : 64 * a' + m' = 64 * b + (k ||| 1 <<< b)
    · have q1 : a' = b := by omega
      have q2 : m' = k ||| 1 <<< b := by omega
      rw [q1, q2]
      exact ⟨n + 1, P1⟩
    · rw [su_ne _ _ q] at he
      exact h.1 a' m' ha hm he
  · by_cases q : l < pc6 k
    · rw [if_pos q, ok.2.2]; exact ⟨_, b, P1⟩
    · rw [if_neg q]; exact h.2.1
  · obtain ⟨q1, q2⟩ := h.2.2.1 n' m' a' b' h1 h2 h3 h4 h5
    exact ⟨su_nz q1, by omega⟩
theorem chI_mono {L : Nat → Nat → Bool} {s : zs} {c : Int} {k p i l l' : Nat} {e : zs} (h : chE L s c k p e l) (hl : l ≤ l') : chE L s c k p (su e i 1) l' := by
  intro x hx h1 n h2 h3
  obtain ⟨q1, q2⟩ := h x hx h1 n h2 h3
  exact ⟨su_nz q1, by omega⟩
theorem sLk_ex {s : zs} {c : Int} {a b : Nat} : ∀ n : Nat, sLk s c a b n = true ↔ ∃ x : Nat, x < n ∧ s (136 + 5 * (x : Int) + 3).toNat = c ∧ s (136 + 5 * (x : Int) + 1).toNat = (a : Int) ∧ s (136 + 5 * (x : Int) + 2).toNat = (b : Int) := by
  intro n
  induction n with
  | zero =>
    constructor
    · intro h; cases h
    · rintro ⟨x, hx, _⟩; omega
  | succ n ih =>
    unfold sLk
    rw [Bool.or_eq_true, ih, decide_eq_true_iff]
    constructor
    · rintro (⟨x, h1, h2⟩ | h)
      · exact ⟨x, by omega, h2⟩
      · exact ⟨n, by omega, h⟩
    · rintro ⟨x, h1, h2⟩
      by_cases q : x = n
      · rw [q] at h2; exact Or.inr h2
      · exact Or.inl ⟨x, by omega, h2⟩
def pcP (m : Nat) : Nat → Nat
  | 0 => 0
  | j + 1 => pcP m j + (m.testBit j).toNat
theorem pcP_6 (m : Nat) : pcP m 6 = pc6 m := by
  unfold pcP pcP pcP pcP pcP pcP pcP pc6
  omega
theorem pcP_le (m : Nat) : ∀ j : Nat, pcP m j ≤ j := by
  intro j
  induction j with
  | zero => exact Nat.le_refl _
  | succ j ih =>
    have := Bool.toNat_le (m.testBit j)
    unfold pcP
    omega
theorem zbitn : ∀ m, m < 64 → ∀ a, a < 6 → zand (zshr (m : Nat) (a : Nat)) 1 = (((Nat.testBit m a).toNat : Nat) : Int) := by decide +kernel
theorem zinit : ∀ k, k < 384 → (zrem (k : Nat) 64 = zshl 1 (zdiv (k : Nat) 64) ↔ k % 64 = 1 <<< (k / 64)) := by decide +kernel
theorem chI_0 {L : Nat → Nat → Bool} {e : zs} (he : ∀ j : Nat, j < 384 → e j = if j % 64 = 1 <<< (j / 64) then 1 else 0) : chI L 1 e 0 := by
  have at' : ∀ a m : Nat, a < 6 → m < 64 → e (64 * a + m) = if m = 1 <<< a then 1 else 0 := by
    intro a m ha hm
    rw [he _ (by omega), show (64 * a + m) % 64 = m by omega, show (64 * a + m) / 64 = a by omega]
  refine ⟨fun a m ha hm h => ?_, ⟨1, 0, by decide, rfl⟩, fun n m a b hm h => ?_, fun a ha => ?_⟩
  · rw [at' a m ha hm] at h
    by_cases q : m = 1 <<< a
    · exact ⟨0, ha, q⟩
    · rw [if_neg q] at h; exact absurd rfl h
  · have := (chP_ok n m a h).2.2
    rw [show m = 0 by omega] at this
    have z : pc6 0 = 0 := by decide +kernel
    omega
  · rw [at' a _ ha (ch_one a ha).1, if_pos rfl]
    exact Int.one_ne_zero