/-! the acts of a text, one behind the other; the class finds the fault -/
theorem xS_up {T : zs} {len : Nat} {lo hi : Int} {z : zZ} (h : (xS T len lo hi z).1 = false) : z.1 = false ∧ (xS T len lo hi z).2 = z.2 + 1 := by
  unfold xS at h ⊢
  by_cases c : z.1 = false ∧ lo ≤ sg T len z.2 ∧ sg T len z.2 ≤ hi
  · rw [if_pos c]; exact ⟨c.1, rfl⟩
  · rw [if_neg c] at h; cases h
theorem xNl_up {T : zs} {len : Nat} {most : Int} : ∀ (n : Nat) (v : Int) (z : zZ), (xNl T len most n v z).2.1 = false → z.1 = false ∧ z.2 ≤ (xNl T len most n v z).2.2 := by
  intro n
  induction n with
  | zero => intro v z h; exact ⟨h, Nat.le_refl _⟩
  | succ n ih =>
    intro v z h
    unfold xNl at h ⊢
    by_cases c : z.1 = false ∧ 0 < v ∧ z.2 < len ∧ 48 ≤ T z.2 ∧ T z.2 ≤ 57 ∧ 10 * v + T z.2 - 48 ≤ most
    · rw [if_pos c] at h ⊢
      have := (ih _ _ h).2
      have q : z.2 + 1 ≤ (xNl T len most n (10 * v + T z.2 - 48) (false, z.2 + 1)).2.2 := this
      exact ⟨c.1, by omega⟩
    · rw [if_neg c] at h ⊢
      exact ⟨h, Nat.le_refl _⟩
theorem xN_up {T : zs} {len : Nat} {least most : Int} {z : zZ} (h : (xN T len least most z).2.1 = false) : z.1 = false ∧ z.2 + 1 ≤ (xN T len least most z).2.2 := by
  unfold xN at h ⊢
  obtain ⟨a, b⟩ := xNl_up 60 _ _ h
  obtain ⟨c, d⟩ := xS_up a
  exact ⟨c, by omega⟩
theorem xNl_le {T : zs} {len : Nat} {most : Int} (hl : len ≤ 60) : ∀ (n : Nat) (v : Int) (z : zZ), z.2 ≤ 60 → (xNl T len most n v z).2.2 ≤ 60 := by
  intro n
  induction n with
  | zero => intro v z h; exact h
  | succ n ih =>
    intro v z h
    unfold xNl
    by_cases c : z.1 = false ∧ 0 < v ∧ z.2 < len ∧ 48 ≤ T z.2 ∧ T z.2 ≤ 57 ∧ 10 * v + T z.2 - 48 ≤ most
    · rw [if_pos c]
      have c3 := c.2.2.1
      exact ih _ _ (show z.2 + 1 ≤ 60 by omega)
    · rw [if_neg c]; exact h
theorem xN_le {T : zs} {len : Nat} {least most : Int} {z : zZ} (hl : len ≤ 60) (h0 : 0 ≤ least) (h : z.2 ≤ 60) : (xN T len least most z).2.2 ≤ 60 := by
  unfold xN
  exact xNl_le hl 60 _ _ (xS_le (by omega) hl h)
theorem o7_up {T : zs} {len : Nat} {c : Int} {z : zZ} (h : (o7 T len c z).2.1 = false) : z.1 = false ∧ z.2 ≤ (o7 T len c z).2.2 := by
  unfold o7 at h ⊢
  by_cases c1 : c = 108
  · rw [if_pos c1] at h ⊢
    have := xN_up h
    exact ⟨this.1, by omega⟩
  · rw [if_neg c1] at h ⊢
    by_cases c2 : c = 119
    · rw [if_pos c2] at h ⊢
      have := xN_up h
      exact ⟨this.1, by omega⟩
    · rw [if_neg c2] at h ⊢; exact ⟨h, Nat.le_refl _⟩
theorem o6_up {T : zs} {len : Nat} {c : Int} {z : zZ} (h : (o6 T len c z).1 = false) : z.1 = false ∧ z.2 ≤ (o6 T len c z).2 := by
  unfold o6 at h ⊢
  by_cases c1 : c = 108
  · rw [if_pos c1] at h ⊢
    have := xS_up h
    exact ⟨this.1, by omega⟩
  · rw [if_neg c1] at h ⊢
    by_cases c2 : c = 119
    · rw [if_pos c2] at h ⊢
      have := xS_up h
      exact ⟨this.1, by omega⟩
    · rw [if_neg c2] at h ⊢; exact ⟨h, Nat.le_refl _⟩
theorem o5_up {T : zs} {len : Nat} {c : Int} {z : zZ} (h : (o5 T len c z).2.1 = false) : z.1 = false ∧ z.2 ≤ (o5 T len c z).2.2 := by
  unfold o5 at h ⊢
  by_cases c1 : c = 98
  · rw [if_pos c1] at h ⊢; exact ⟨h, Nat.le_refl _⟩
  · rw [if_neg c1] at h ⊢
    have q : (xS T len 48 53 z).1 = false := h
    have := xS_up q
    exact ⟨this.1, show z.2 ≤ (xS T len 48 53 z).2 by omega⟩
theorem o4_up {T : zs} {len : Nat} {c : Int} {z : zZ} (h : (o4 T len c z).1 = false) : z.1 = false ∧ z.2 ≤ (o4 T len c z).2 := by
  unfold o4 at h ⊢
  by_cases c1 : c = 98
  · rw [if_pos c1] at h ⊢; exact ⟨h, Nat.le_refl _⟩
  · rw [if_neg c1] at h ⊢
    have := xS_up h
    exact ⟨this.1, by omega⟩
theorem o3_up {T : zs} {len : Nat} {c : Int} {z : zZ} (h : (o3 T len c z).2.1 = false) : z.1 = false ∧ z.2 ≤ (o3 T len c z).2.2 := by
  unfold o3 at h ⊢
  by_cases c1 : c = 108
  · rw [if_pos c1] at h ⊢
    have q : (xS T len 48 53 z).1 = false := h
    have := xS_up q
    exact ⟨this.1, show z.2 ≤ (xS T len 48 53 z).2 by omega⟩
  · rw [if_neg c1] at h ⊢; exact ⟨h, Nat.le_refl _⟩
theorem o2_up {T : zs} {len : Nat} {c : Int} {z : zZ} (h : (o2 T len c z).1 = false) : z.1 = false ∧ z.2 ≤ (o2 T len c z).2 := by
  unfold o2 at h ⊢
  by_cases c1 : c = 108
  · rw [if_pos c1] at h ⊢
    have := xS_up h
    exact ⟨this.1, by omega⟩
  · rw [if_neg c1] at h ⊢; exact ⟨h, Nat.le_refl _⟩
theorem o1_up {T : zs} {len : Nat} {c : Int} {z : zZ} (h : (o1 T len c z).2.1 = false) : z.1 = false ∧ z.2 + 1 ≤ (o1 T len c z).2.2 := by
  unfold o1 at h ⊢
  by_cases c1 : c = 98
  · rw [if_pos c1] at h ⊢; exact xN_up h
  · rw [if_neg c1] at h ⊢
    have q : (xS T len 48 53 z).1 = false := h
    have := xS_up q
    exact ⟨this.1, show z.2 + 1 ≤ (xS T len 48 53 z).2 by omega⟩
theorem oL_up {c : Int} {z : zZ} (h : (oL c z).1 = false) : z.1 = false ∧ (oL c z).2 = z.2 + 1 := by
  unfold oL at h ⊢
  by_cases q : z.1 = false ∧ (c = 108 ∨ c = 98 ∨ c = 119 ∨ c = 103)
  · rw [if_pos q]; exact ⟨q.1, rfl⟩
  · rw [if_neg q] at h; cases h
theorem oZ_up {T : zs} {len : Nat} {z : zZ} (h : (oZ T len z).1 = false) : z.1 = false ∧ z.2 + 2 ≤ (oZ T len z).2 ∧ (oT0 T len z = 108 ∨ oT0 T len z = 98 ∨ oT0 T len z = 119 ∨ oT0 T len z = 103) := by
  have a7 : (oR5 T len z).2.1 = false → _ := fun _ => True.intro
  have b7 := o7_up (show (o7 T len (oT0 T len z) (o6 T len (oT0 T len z) (oR5 T len z).2)).2.1 = false from h)
  have b6 := o6_up b7.1
  have b5 := o5_up (show (o5 T len (oT0 T len z) (o4 T len (oT0 T len z) (oR3 T len z).2)).2.1 = false from b6.1)
  have b4 := o4_up b5.1
  have b3 := o3_up (show (o3 T len (oT0 T len z) (o2 T len (oT0 T len z) (oR1 T len z).2)).2.1 = false from b4.1)
  have b2 := o2_up b3.1
  have b1 := o1_up (show (o1 T len (oT0 T len z) (oL (oT0 T len z) z)).2.1 = false from b2.1)
  have b0 := oL_up b1.1
  have l7 : (o6 T len (oT0 T len z) (oR5 T len z).2).2 ≤ (oZ T len z).2 := b7.2
  have l6 := b6.2
  have l5 : (o4 T len (oT0 T len z) (oR3 T len z).2).2 ≤ (oR5 T len z).2.2 := b5.2
  have l4 := b4.2
  have l3 : (o2 T len (oT0 T len z) (oR1 T len z).2).2 ≤ (oR3 T len z).2.2 := b3.2
  have l2 := b2.2
  have l1 : (oL (oT0 T len z) z).2 + 1 ≤ (oR1 T len z).2.2 := b1.2
  have l0 := b0.2
  refine ⟨b0.1, by omega, ?_⟩
  have k := b1.1
  unfold oL at k
  by_cases q : z.1 = false ∧ (oT0 T len z = 108 ∨ oT0 T len z = 98 ∨ oT0 T len z = 119 ∨ oT0 T len z = 103)
  · exact q.2
  · rw [if_neg q] at k; cases k
theorem oZ_le {T : zs} {len : Nat} {z : zZ} (hl : len ≤ 60) (h : z.2 ≤ 60) : (oZ T len z).2 ≤ 60 := by
  have l0 : (oL (oT0 T len z) z).2 ≤ 60 := by
    unfold oL
    by_cases q : z.1 = false ∧ (oT0 T len z = 108 ∨ oT0 T len z = 98 ∨ oT0 T len z = 119 ∨ oT0 T len z = 103)
    · rw [if_pos q]
      have q2 := q.2
      unfold oT0 sg at q2
      by_cases w : z.2 < len
      · show z.2 + 1 ≤ 60; omega
      · rw [if_neg w] at q2; omega
    · rw [if_neg q]; exact h
  have l1 : (oR1 T len z).2.2 ≤ 60 := by
    unfold oR1 o1
    split
    · exact xN_le hl (by decide) l0
    · exact xS_le (by decide) hl l0
  have l2 : (o2 T len (oT0 T len z) (oR1 T len z).2).2 ≤ 60 := by
    unfold o2
    split
    · exact xS_le (by decide) hl l1
    · exact l1
  have l3 : (oR3 T len z).2.2 ≤ 60 := by
    unfold oR3 o3
    split
    · exact xS_le (by decide) hl l2
    · exact l2
  have l4 : (o4 T len (oT0 T len z) (oR3 T len z).2).2 ≤ 60 := by
    unfold o4
    split
    · exact l3
    · exact xS_le (by decide) hl l3
  have l5 : (oR5 T len z).2.2 ≤ 60 := by
    unfold oR5 o5
    split
    · exact l4
    · exact xS_le (by decide) hl l4
  have l6 : (o6 T len (oT0 T len z) (oR5 T len z).2).2 ≤ 60 := by
    unfold o6
    repeat' split
    · exact xS_le (by decide) hl l5
    · exact xS_le (by decide) hl l5
    · exact l5
  unfold oZ oR7 o7
  repeat' split
  · exact xN_le hl (by decide) l6
  · exact xN_le hl (by decide) l6
  · exact l6
def zz (T : zs) (len : Nat) : Nat → zZ
  | 0 => (false, 0)
  | k + 1 => xS T len 44 44 (oZ T len (zz T len k))
abbrev ze (T : zs) (len k : Nat) : zZ := oZ T len (zz T len k)
def gd (T : zs) (len j : Nat) : Prop := (ze T len j).1 = false ∧ (ze T len j).2 < len ∧ (zz T len (j + 1)).1 = false
def okP (T : zs) (len m : Nat) : Prop := ∃ k : Nat, m = k + 1 ∧ (∀ j : Nat, j < k → gd T len j) ∧ (ze T len k).1 = false ∧ len ≤ (ze T len k).2
def fltP (T : zs) (len q : Nat) : Prop := ∃ k : Nat, (∀ j : Nat, j < k → gd T len j) ∧ q = (ze T len k).2 ∧ ((ze T len k).1 = true ∨ ((ze T len k).1 = false ∧ (ze T len k).2 < len ∧ (zz T len (k + 1)).1 = true))
theorem zz_le {T : zs} {len : Nat} (hl : len ≤ 60) : ∀ k : Nat, (zz T len k).2 ≤ 60 := by
  intro k
  induction k with
  | zero => exact Nat.zero_le _
  | succ k ih => exact xS_le (by decide) hl (oZ_le hl ih)
theorem zz_up {T : zs} {len : Nat} : ∀ k : Nat, (zz T len k).1 = false → 3 * k ≤ (zz T len k).2 := by
  intro k
  induction k with
  | zero => intro _; exact Nat.zero_le _
  | succ k ih =>
    intro h
    have a := xS_up (show (xS T len 44 44 (oZ T len (zz T len k))).1 = false from h)
    have b := oZ_up a.1
    have c := ih b.1
    have d : (zz T len (k + 1)).2 = (oZ T len (zz T len k)).2 + 1 := a.2
    omega
theorem zz_20 {T : zs} {len : Nat} (hl : len ≤ 60) {k : Nat} (h : (zz T len k).1 = false) : k ≤ 20 := by
  have a := zz_le (T := T) hl k
  have b := zz_up k h
  omega
theorem gd_zz {T : zs} {len k : Nat} (h : ∀ j : Nat, j < k → gd T len j) : (zz T len k).1 = false := by
  cases k with
  | zero => rfl
  | succ k => exact (h k (by omega)).2.2
theorem zz_eq {z : zZ} (h : z.1 = false) : z = (false, z.2) := by
  rcases z with ⟨a, b⟩
  cases h
  rfl
theorem dgt_flt {T : zs} {len k : Nat} (h : ∀ j : Nat, j < k → gd T len j) (c : (ze T len k).1 = true ∨ dgt T len (ze T len k).2) : fltP T len (ze T len k).2 := by
  refine ⟨k, h, rfl, ?_⟩
  cases q : (ze T len k).1
  · rcases c with c | c
    · rw [q] at c; cases c
    · refine Or.inr ⟨rfl, c.1, ?_⟩
      show (xS T len 44 44 (ze T len k)).1 = true
      unfold xS
      rw [if_neg]
      rintro ⟨-, w1, w2⟩
      have es : sg T len (ze T len k).2 = T (ze T len k).2 := if_pos c.1
      rw [es] at w2
      have := c.2.1
      omega
  · exact Or.inl rfl
def cFault (T : zs) (len : Nat) (h' : zH) (x : Int) : Prop := (∃ m : Nat, okP T len m ∧ x = -1 ∧ h' 125 4 = (m : Int) ∧ ∀ i : Nat, i < m → cSl (5 * i) (oTold T len (zz T len i)) h') ∨ ∃ q : Nat, fltP T len q ∧ x = (q : Int) ∧ q ≤ 60
theorem c_X5_findFault_bad {Post : Option zA → zH → Prop} {Γ : zCx} {T : zs} {len q : Nat} {w : Int} {h : zH} (hf : fltP T len q) (hp : h 125 2 = (q : Int)) (h60 : q ≤ 60) (hP : ∀ x : Int, cFault T len h x → Post (some (zI x)) h) : (fun (d : Nat) => zV RX5 cX5_findFault 3 (some .int) d Post Γ 17 [(0, zR 125), (1, zI 0), (2, zI w)] [] h) 8 := by
  have go : Post (some (zI (h 125 2))) h := hP _ (Or.inr ⟨q, hf, hp, h60⟩)
  exact k_X5_findFault_17 (by decide) ⟨fun _ => ⟨fun _ => go, fun c => absurd rfl c⟩, fun _ => ⟨fun _ => ⟨fun _ => go, fun c => absurd rfl c⟩, fun c => absurd rfl c⟩⟩
theorem c_X5_findFault_l {Post : Option zA → zH → Prop} {Γ : zCx} {T : zs} {len : Nat} {h0 : zH} : ∀ (n k : Nat) (h : zH), n + k = 21 → cTx T len h → zX4 h0 h → (∀ j : Nat, j < k → gd T len j) → (ze T len k).1 = false → h 125 2 = ((ze T len k).2 : Int) → h 125 4 = ((k + 1 : Nat) : Int) → (∀ i : Nat, i ≤ k → cSl (5 * i) (oTold T len (zz T len i)) h) → (∀ (x : Int) (h' : zH), zX4 h0 h' → cFault T len h' x → Post (some (zI x)) h') → (fun (d : Nat) => zV RX5 cX5_findFault 3 (some .int) d Post Γ 17 [(0, zR 125), (1, zI 1), (2, zI ((k + 1 : Nat) : Int))] [] h) 8 := by
  intro n
  induction n with
  | zero =>
    intro k h hn t f hg he hp h4 hs hP
    have := zz_20 (T := T) t.2.1 (gd_zz hg)
    omega
  | succ n ih =>
    intro k h hn t f hg he hp h4 hs hP
    have l60 := t.2.1
    have k20 := zz_20 (T := T) l60 (gd_zz hg)
    refine k_X5_findFault_17 (by decide) ⟨fun c => absurd c (by omega), fun _ => ⟨fun c => absurd c (by decide), fun _ => ⟨fun c => ⟨fun q => absurd q (by decide), fun _ => ?_⟩, fun c => ?_⟩⟩⟩
    · rw [hp, t.1] at c
      exact hP (-1) h f (Or.inl ⟨k + 1, ⟨k, rfl, hg, he, by omega⟩, rfl, h4, fun i hi => hs i (by omega)⟩)
    · rw [hp, t.1] at c
      refine ⟨2, _, by decide, c_X5_readSign (c := 44) t hp (by decide), ?_⟩
      rintro _ h1 ⟨x, rfl, f1, s1, o1⟩
      rw [← zz_eq he] at o1
      have le := oZ_le (T := T) l60 (zz_le (T := T) l60 k)
      refine ⟨x, rfl, fun q => ?_, fun q => ?_⟩
      · rcases o1 with ⟨e, -⟩ | ⟨-, e, p1⟩
        · exact absurd q (by omega)
        · intro w _
          refine c_X5_findFault_bad (T := T) (len := len) (q := (ze T len k).2) ⟨k, hg, rfl, Or.inr ⟨he, by omega, ?_⟩⟩ p1 le (fun x o => hP x h1 (f.trans f1.w) o)
          show (xS T len 44 44 (ze T len k)).1 = true
          rw [e]
      rcases o1 with ⟨-, e, p1⟩ | ⟨e, -⟩
      rotate_left
      · exact absurd e q
      have ezz : zz T len (k + 1) = (false, (ze T len k).2 + 1) := e
      have hg1 : ∀ j : Nat, j < k + 1 → gd T len j := by
        intro j hj
        by_cases q : j = k
        · rw [q]; exact ⟨he, by omega, by rw [ezz]⟩
        · exact hg j (by omega)
      have k20' := zz_20 (T := T) l60 (gd_zz hg1)
      have le1 := oZ_le (T := T) l60 (zz_le (T := T) l60 (k + 1))
      refine ⟨7, _, by decide, c_X5_readAct (k := k + 1) (cTx_x t f1) p1 (by rw [f1.2 4 (by decide)]; exact h4) (by omega), ?_⟩
      rintro _ h2 ⟨x2, rfl, f2, p2, s2, o2⟩
      rw [← ezz] at p2 o2
      refine ⟨x2, rfl, fun q2 => ?_, fun q2 => ?_⟩
      · rcases o2 with ⟨e2, -⟩ | ⟨-, e2⟩
        · exact absurd q2 (by omega)
        · intro w _
          exact c_X5_findFault_bad (dgt_flt hg1 e2) p2 le1 (fun x o => hP x h2 (f.trans (f1.w.trans f2)) o)
      · rcases o2 with ⟨-, e2, v2, e4⟩ | ⟨e2, -⟩
        · intro w ew
          have ew2 : w = ((k + 1 + 1 : Nat) : Int) := by rw [ew, zwr_eq (by omega) (by omega)]; omega
          rw [ew2]
          refine ih (k + 1) h2 (by omega) (cTx_x4 t (f1.w.trans f2)) (f.trans (f1.w.trans f2)) hg1 e2 p2 e4 (fun i hi => ?_) hP
          by_cases q3 : i = k + 1
          · rw [q3]; exact v2
          · have := hs i (by omega)
            unfold cSl cArg at this ⊢
            rw [s2 (5 * i) (by omega), s2 (5 * i + 1) (by omega), s2 (5 * i + 2) (by omega), s2 (5 * i + 3) (by omega), s2 (5 * i + 4) (by omega), s1]
            exact this
        · exact absurd e2 q2
theorem c_X5_findFault {T : zs} {len : Nat} {h : zH} (t : cTx T len h) : zSp 8 mX5_findFault [zR 125] h (fun q h' => ∃ x : Int, q = some (zI x) ∧ zX4 h h' ∧ cFault T len h' x) := by
  refine zSp_of (by decide +kernel) (Nat.le_of_ble_eq_true rfl) rfl (fun Γ => k_X5_findFault_0  (by decide) ?_)
  rintro _ rfl
  rintro _ rfl
  have l60 := t.2.1
  have f0 : zX4 h (zu (zu h 125 2 0) 125 4 0) := ⟨fun k k1 _ => by rw [zu_nekr _ _ _ k1, zu_nekr _ _ _ k1], fun i i1 i2 => by rw [zu_nej _ _ _ i2, zu_nej _ _ _ i1]⟩
  have le0 := oZ_le (T := T) (z := (false, 0)) l60 (Nat.zero_le _)
  refine ⟨7, _, by decide, c_X5_readAct (T := T) (len := len) (p := 0) (k := 0) (cTx_x4 t f0) (by rw [zu_nej _ _ _ (by decide), zu_same]; rfl) (by rw [zu_same]; rfl) (by decide), ?_⟩
  rintro _ h2 ⟨x2, rfl, f2, p2, s2, o2⟩
  refine ⟨x2, rfl, ?_⟩
  rcases o2 with ⟨e, e2, v2, e4⟩ | ⟨e, e2⟩
  · rw [e]
    refine c_X5_findFault_l (h0 := h) (T := T) (len := len) 21 0 h2 rfl (cTx_x4 t (f0.trans f2)) (f0.trans f2) (fun j hj => absurd hj (Nat.not_lt_zero _)) e2 p2 e4 (fun i hi => ?_) (fun x h' a b => ⟨x, rfl, a, b⟩)
    rw [show i = 0 by omega]
    exact v2
  · rw [e]
    exact c_X5_findFault_bad (T := T) (len := len) (dgt_flt (k := 0) (fun j hj => absurd hj (Nat.not_lt_zero _)) e2) p2 le0 (fun x o => ⟨x, rfl, f0.trans f2, o⟩)
