/-! well-formed states -/
def WFn (s : zs) : Prop := 0 ≤ s 132 ∧ s 132 ≤ 40 ∧ s 133 ≤ 1000 ∧ 0 ≤ s 135 ∧ s 132 + s 135 = s 133
def WFl (s : zs) : Prop := ∀ x : Int, 0 ≤ x → x < s 132 → (0 ≤ s (136 + 5 * x + 0).toNat ∧ s (136 + 5 * x + 0).toNat < s 133) ∧ (0 ≤ s (136 + 5 * x + 1).toNat ∧ s (136 + 5 * x + 1).toNat ≤ 5) ∧ (0 ≤ s (136 + 5 * x + 2).toNat ∧ s (136 + 5 * x + 2).toNat ≤ 5) ∧ (0 ≤ s (136 + 5 * x + 3).toNat ∧ s (136 + 5 * x + 3).toNat ≤ 5) ∧ 1 ≤ s (136 + 5 * x + 4).toNat ∧ s (136 + 5 * x + 4).toNat ≤ 64
def WFo (s : zs) : Prop := ∀ x y : Int, 0 ≤ x → x < y → y < s 132 → s (136 + 5 * x + 0).toNat < s (136 + 5 * y + 0).toNat
def WFh (s : zs) : Prop := ∀ a c : Int, 0 ≤ a ∧ a ≤ 5 → 0 ≤ c ∧ c ≤ 5 → 0 ≤ s (6 * c + a).toNat ∧ (s (36 + 6 * c + a).toNat = 0 ∨ s (36 + 6 * c + a).toNat = 1)
def sum6 (s : zs) (c : Int) : Int := s (6 * c + 0).toNat + s (6 * c + 1).toNat + s (6 * c + 2).toNat + s (6 * c + 3).toNat + s (6 * c + 4).toNat + s (6 * c + 5).toNat
def WFs (s : zs) : Prop := ∀ c : Int, 0 ≤ c ∧ c ≤ 5 → sum6 s c = 64
def lterm (s : zs) (a c x : Int) : Int := if s (136 + 5 * x + 3).toNat = c then (if s (136 + 5 * x + 2).toNat = a then s (136 + 5 * x + 4).toNat else 0) - (if s (136 + 5 * x + 1).toNat = a then s (136 + 5 * x + 4).toNat else 0) else 0
def lsum (s : zs) (a c : Int) : Nat → Int
  | 0 => 0
  | n + 1 => lsum s a c n + lterm s a c (n : Int)
def WFk (s : zs) : Prop := ∀ a c : Int, 0 ≤ a ∧ a ≤ 5 → 0 ≤ c ∧ c ≤ 5 → s (6 * c + a).toNat = (if s (126 + c).toNat = a then 64 else 0) + lsum s a c (s 132).toNat
def WFv (B : Int) (s : zs) : Prop := ∀ c : Int, 0 ≤ c ∧ c ≤ 5 → (0 ≤ s (114 + c).toNat ∧ s (114 + c).toNat ≤ 999) ∧ (0 ≤ s (120 + c).toNat ∧ s (120 + c).toNat ≤ B) ∧ 0 ≤ s (126 + c).toNat ∧ s (126 + c).toNat ≤ 5
def WFc (s : zs) : Prop := ∀ c : Int, 0 ≤ c ∧ c ≤ 5 → (0 ≤ s (108 + c).toNat ∧ s (108 + c).toNat ≤ 6) ∧ (∀ k : Int, 0 ≤ k → k < s (108 + c).toNat → 0 ≤ s (72 + 6 * c + k).toNat ∧ s (72 + 6 * c + k).toNat ≤ 5) ∧ ∀ k k' : Int, 0 ≤ k → k < k' → k' < s (108 + c).toNat → s (72 + 6 * c + k).toNat ≠ s (72 + 6 * c + k').toNat
def WFz (s : zs) : Prop := ∀ j : Nat, 336 ≤ j → s j = 0
def WF (B : Int) (s : zs) : Prop := WFn s ∧ WFl s ∧ WFo s ∧ WFh s ∧ WFs s ∧ WFk s ∧ WFv B s ∧ WFc s ∧ WFz s
theorem WF.n {B : Int} {s : zs} (h : WF B s) : WFn s := h.1
theorem WF.l {B : Int} {s : zs} (h : WF B s) : WFl s := h.2.1
theorem WF.o {B : Int} {s : zs} (h : WF B s) : WFo s := h.2.2.1
theorem WF.h {B : Int} {s : zs} (h : WF B s) : WFh s := h.2.2.2.1
theorem WF.s {B : Int} {s : zs} (h : WF B s) : WFs s := h.2.2.2.2.1
theorem WF.k {B : Int} {s : zs} (h : WF B s) : WFk s := h.2.2.2.2.2.1
theorem WF.v {B : Int} {s : zs} (h : WF B s) : WFv B s := h.2.2.2.2.2.2.1
theorem WF.c {B : Int} {s : zs} (h : WF B s) : WFc s := h.2.2.2.2.2.2.2.1
theorem WF.z {B : Int} {s : zs} (h : WF B s) : WFz s := h.2.2.2.2.2.2.2.2
theorem WF_held {s : zs} (hh : WFh s) (hs : WFs s) {a c : Int} (ha : 0 ≤ a ∧ a ≤ 5) (hc : 0 ≤ c ∧ c ≤ 5) : 0 ≤ s (6 * c + a).toNat ∧ s (6 * c + a).toNat ≤ 64 := by
  have h0 := (hh 0 c (by omega) hc).1
  have h1 := (hh 1 c (by omega) hc).1
  have h2 := (hh 2 c (by omega) hc).1
  have h3 := (hh 3 c (by omega) hc).1
  have h4 := (hh 4 c (by omega) hc).1
  have h5 := (hh 5 c (by omega) hc).1
  have h6 := hs c hc
  unfold sum6 at h6
  refine ⟨(hh a c ha hc).1, ?_⟩
  rcases (show a = 0 ∨ a = 1 ∨ a = 2 ∨ a = 3 ∨ a = 4 ∨ a = 5 by omega) with e | e | e | e | e | e <;> rw [e] <;> omega
theorem sum6_su {s : zs} {c c' a v : Int} (ha : 0 ≤ a ∧ a ≤ 5) (hc : 0 ≤ c ∧ c ≤ 5) (hc' : 0 ≤ c' ∧ c' ≤ 5) : sum6 (su s (6 * c' + a).toNat v) c = sum6 s c + (if c = c' then v - s (6 * c' + a).toNat else 0) := by
  unfold sum6
  by_cases e : c = c'
  · rw [if_pos e, e]
    rcases (show a = 0 ∨ a = 1 ∨ a = 2 ∨ a = 3 ∨ a = 4 ∨ a = 5 by omega) with q | q | q | q | q | q <;> rw [q] <;> simp (disch := omega) only [su_same, su_ne] <;> omega
  · rw [if_neg e]
    simp (disch := omega) only [su_ne]
    omega
theorem sMove_off {s : zs} {a b c p : Int} (ha : 0 ≤ a ∧ a ≤ 5) (hb : 0 ≤ b ∧ b ≤ 5) (hc : 0 ≤ c ∧ c ≤ 5) {j : Nat} (hj : 36 ≤ j) : sMove s a b c p j = s j := by
  unfold sMove sAdd sSub
  rw [su_ne _ _ (by omega), su_ne _ _ (by omega)]
theorem sMove_at {s : zs} {a b c p a' c' : Int} (ha : 0 ≤ a ∧ a ≤ 5) (hb : 0 ≤ b ∧ b ≤ 5) (hc : 0 ≤ c ∧ c ≤ 5) (ha' : 0 ≤ a' ∧ a' ≤ 5) (hc' : 0 ≤ c' ∧ c' ≤ 5) (hp : 0 ≤ p ∧ p ≤ 64) (h1 : p ≤ s (6 * c + a).toNat ∧ s (6 * c + a).toNat ≤ 64) (h2 : 0 ≤ s (6 * c + b).toNat ∧ s (6 * c + b).toNat ≤ 64) :
    sMove s a b c p (6 * c' + a').toNat = s (6 * c' + a').toNat + (if c' = c then (if a' = b then p else 0) - (if a' = a then p else 0) else 0) := by
  unfold sMove sAdd sSub
  rw [zwr_eq (a := s (6 * c + a).toNat - p) (by omega) (by omega)]
  by_cases e1 : c' = c
  · rw [if_pos e1, e1]
    by_cases e2 : a' = b
    · rw [if_pos e2, e2, su_same]
      by_cases e3 : b = a
      · rw [if_pos e3, e3, su_same, zwr_eq (by omega) (by omega)]
        omega
      · rw [if_neg e3, su_ne _ _ (by omega), zwr_eq (by omega) (by omega)]
        omega
    · rw [if_neg e2, su_ne _ _ (by omega)]
      by_cases e3 : a' = a
      · rw [if_pos e3, e3, su_same]
        omega
      · rw [if_neg e3, su_ne _ _ (by omega)]
        omega
  · rw [if_neg e1, su_ne _ _ (by omega), su_ne _ _ (by omega)]
    omega
theorem sMove_sum {s : zs} {a b c p c' : Int} (ha : 0 ≤ a ∧ a ≤ 5) (hb : 0 ≤ b ∧ b ≤ 5) (hc : 0 ≤ c ∧ c ≤ 5) (hc' : 0 ≤ c' ∧ c' ≤ 5) (hp : 0 ≤ p ∧ p ≤ 64) (h1 : p ≤ s (6 * c + a).toNat ∧ s (6 * c + a).toNat ≤ 64) (h2 : 0 ≤ s (6 * c + b).toNat ∧ s (6 * c + b).toNat ≤ 64) :
    sum6 (sMove s a b c p) c' = sum6 s c' := by
  unfold sMove sAdd sSub
  rw [zwr_eq (a := s (6 * c + a).toNat - p) (by omega) (by omega)]
  rw [sum6_su hb hc' hc, sum6_su ha hc' hc]
  by_cases e1 : c' = c
  · rw [if_pos e1, if_pos e1]
    by_cases e3 : b = a
    · rw [e3, su_same, zwr_eq (by omega) (by omega)]
      omega
    · rw [su_ne _ _ (by omega), zwr_eq (by omega) (by omega)]
      omega
  · rw [if_neg e1, if_neg e1]
    omega
theorem lterm_congr {s s' : zs} {a c x y : Int} (h : ∀ w : Int, 1 ≤ w → w ≤ 4 → s' (136 + 5 * y + w).toNat = s (136 + 5 * x + w).toNat) : lterm s' a c y = lterm s a c x := by
  unfold lterm
  rw [h 1 (by omega) (by omega), h 2 (by omega) (by omega), h 3 (by omega) (by omega), h 4 (by omega) (by omega)]
theorem lsum_congr {s s' : zs} {a c : Int} : ∀ n : Nat, (∀ x w : Int, 0 ≤ x → x < n → 1 ≤ w → w ≤ 4 → s' (136 + 5 * x + w).toNat = s (136 + 5 * x + w).toNat) → lsum s' a c n = lsum s a c n := by
  intro n
  induction n with
  | zero => intro _; rfl
  | succ n ih =>
    intro h
    unfold lsum
    rw [ih (fun x w h0 h1 => h x w h0 (by omega)), lterm_congr (fun w h1 h2 => h n w (by omega) (by omega) h1 h2)]
/-- a row taken out -/
theorem lsum_out {s s' : zs} {a c x : Int} (hx : 0 ≤ x) : ∀ n : Nat, (∀ y w : Int, 0 ≤ y → y < n → 1 ≤ w → w ≤ 4 → s' (136 + 5 * y + w).toNat = s (136 + 5 * (if y < x then y else y + 1) + w).toNat) → lsum s' a c n = if (n : Int) ≤ x then lsum s a c n else lsum s a c (n + 1) - lterm s a c x := by
  intro n
  induction n with
  | zero => intro _; rw [if_pos (by omega)]; rfl
  | succ n ih =>
    intro h
    have ih2 := ih (fun y w h0 h1 => h y w h0 (by omega))
    rw [show lsum s' a c (n + 1) = lsum s' a c n + lterm s' a c n from rfl, ih2]
    by_cases e : (n : Int) < x
    · rw [if_pos (by omega), if_pos (by omega)]
      rw [lterm_congr (s := s) (x := (n : Int)) (fun w h1 h2 => by rw [h n w (by omega) (by omega) h1 h2, if_pos e])]
      rfl
    · have hl : lterm s' a c (n : Int) = lterm s a c ((n + 1 : Nat) : Int) := lterm_congr (fun w h1 h2 => by rw [h n w (by omega) (by omega) h1 h2, if_neg e]; congr 2)
      have hs2 : lsum s a c (n + 1 + 1) = lsum s a c (n + 1) + lterm s a c ((n + 1 : Nat) : Int) := rfl
      have hs1 : lsum s a c (n + 1) = lsum s a c n + lterm s a c (n : Int) := rfl
      rw [hl, if_neg (show ¬ ((n + 1 : Nat) : Int) ≤ x by omega), hs2]
      by_cases e2 : (n : Int) = x
      · rw [if_pos (show (n : Int) ≤ x by omega), hs1, e2]
        omega
      · rw [if_neg (show ¬ (n : Int) ≤ x by omega)]
        omega
