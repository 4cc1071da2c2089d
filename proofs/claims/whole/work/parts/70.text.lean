/-! the text: how the reference reads it -/
abbrev zZ : Type := Bool × Nat
def sg (T : zs) (len p : Nat) : Int := if p < len then T p else 0
def xS (T : zs) (len : Nat) (lo hi : Int) (z : zZ) : zZ := if z.1 = false ∧ lo ≤ sg T len z.2 ∧ sg T len z.2 ≤ hi then (false, z.2 + 1) else (true, z.2)
def xNl (T : zs) (len : Nat) (most : Int) : Nat → Int → zZ → Int × zZ
  | 0, v, z => (v, z)
  | n + 1, v, z => if z.1 = false ∧ 0 < v ∧ z.2 < len ∧ 48 ≤ T z.2 ∧ T z.2 ≤ 57 ∧ 10 * v + T z.2 - 48 ≤ most then xNl T len most n (10 * v + T z.2 - 48) (false, z.2 + 1) else (v, z)
def xN (T : zs) (len : Nat) (least most : Int) (z : zZ) : Int × zZ := xNl T len most 60 (sg T len z.2 - 48) (xS T len (48 + least) 57 z)
def oL (c : Int) (z : zZ) : zZ := if z.1 = false ∧ (c = 108 ∨ c = 98 ∨ c = 119 ∨ c = 103) then (false, z.2 + 1) else (true, z.2)
def o1 (T : zs) (len : Nat) (c : Int) (z : zZ) : Int × zZ := if c = 98 then xN T len 0 999 z else (sg T len z.2 - 48, xS T len 48 53 z)
def o2 (T : zs) (len : Nat) (c : Int) (z : zZ) : zZ := if c = 108 then xS T len 62 62 z else z
def o3 (T : zs) (len : Nat) (c : Int) (z : zZ) : Int × zZ := if c = 108 then (sg T len z.2 - 48, xS T len 48 53 z) else (0, z)
def o4 (T : zs) (len : Nat) (c : Int) (z : zZ) : zZ := if c = 98 then z else xS T len 58 58 z
def o5 (T : zs) (len : Nat) (c : Int) (z : zZ) : Int × zZ := if c = 98 then (0, z) else (sg T len z.2 - 48, xS T len 48 53 z)
def o6 (T : zs) (len : Nat) (c : Int) (z : zZ) : zZ := if c = 108 then xS T len 47 47 z else if c = 119 then xS T len 61 61 z else z
def o7 (T : zs) (len : Nat) (c : Int) (z : zZ) : Int × zZ := if c = 108 then xN T len 1 64 z else if c = 119 then xN T len 0 999 z else (0, z)
def oT0 (T : zs) (len : Nat) (z : zZ) : Int := sg T len z.2
def oR1 (T : zs) (len : Nat) (z : zZ) : Int × zZ := o1 T len (oT0 T len z) (oL (oT0 T len z) z)
def oR3 (T : zs) (len : Nat) (z : zZ) : Int × zZ := o3 T len (oT0 T len z) (o2 T len (oT0 T len z) (oR1 T len z).2)
def oR5 (T : zs) (len : Nat) (z : zZ) : Int × zZ := o5 T len (oT0 T len z) (o4 T len (oT0 T len z) (oR3 T len z).2)
def oR7 (T : zs) (len : Nat) (z : zZ) : Int × zZ := o7 T len (oT0 T len z) (o6 T len (oT0 T len z) (oR5 T len z).2)
def oZ (T : zs) (len : Nat) (z : zZ) : zZ := (oR7 T len z).2
def oTold (T : zs) (len : Nat) (z : zZ) : zs := fun i => if i = 0 then oT0 T len z else if i = 1 then (oR1 T len z).1 else if i = 2 then (oR3 T len z).1 else if i = 3 then (oR5 T len z).1 else (oR7 T len z).1
theorem xS_w {T : zs} {len : Nat} {lo hi : Int} {z : zZ} (h : z.1 = true) : xS T len lo hi z = z := by
  unfold xS
  rw [if_neg (fun q => by rw [h] at q; cases q.1)]
  rcases z with ⟨a, b⟩
  cases h
  rfl
theorem xNl_w {T : zs} {len : Nat} {most v : Int} {z : zZ} (h : z.1 = true) : ∀ n : Nat, xNl T len most n v z = (v, z) := by
  intro n
  cases n with
  | zero => rfl
  | succ n => unfold xNl; rw [if_neg (fun q => by rw [h] at q; cases q.1)]
theorem xN_w {T : zs} {len : Nat} {least most : Int} {z : zZ} (h : z.1 = true) : (xN T len least most z).2 = z := by
  unfold xN
  rw [xS_w h, xNl_w h]
theorem xS_le {T : zs} {len : Nat} {lo hi : Int} {z : zZ} (hl : 0 < lo) (hlen : len ≤ 60) (hz : z.2 ≤ 60) : (xS T len lo hi z).2 ≤ 60 := by
  unfold xS
  split
  · rename_i q
    have := q.2.1
    unfold sg at this
    split at this
    · show z.2 + 1 ≤ 60; omega
    · omega
  · exact hz
theorem sg_bd {T : zs} {len p : Nat} (hT : ∀ j : Nat, 0 ≤ T j ∧ T j ≤ 65535) : 0 ≤ sg T len p ∧ sg T len p ≤ 65535 := by
  have := hT p
  unfold sg
  split <;> omega
/-- the reference's text, and where it stands in it -/
def mT (T : zs) (len : Nat) (h : zH) : Prop := h 128 8 = (len : Int) ∧ len ≤ 60 ∧ (∀ j : Nat, j < len → h 134 j = T j) ∧ ∀ j : Nat, 0 ≤ T j ∧ T j ≤ 65535
def mZ (z : zZ) (h : zH) : Prop := h 128 15 = (z.2 : Int) ∧ h 128 16 = (if z.1 then 1 else 0) ∧ z.2 ≤ 60
def mO (h h' : zH) : Prop := (∀ k : Nat, k ≠ 128 → k ≠ 138 → h' k = h k) ∧ ∀ i : Nat, i ≠ 15 → i ≠ 16 → h' 128 i = h 128 i
theorem mO.trans {h h1 h2 : zH} (a : mO h h1) (b : mO h1 h2) : mO h h2 := ⟨fun k k1 k2 => (b.1 k k1 k2).trans (a.1 k k1 k2), fun i i1 i2 => (b.2 i i1 i2).trans (a.2 i i1 i2)⟩
theorem mO.rfl' {h : zH} : mO h h := ⟨fun _ _ _ => rfl, fun _ _ _ => rfl⟩
theorem mT_o {T : zs} {len : Nat} {h h' : zH} (t : mT T len h) (f : mO h h') : mT T len h' := ⟨by rw [f.2 8 (by decide) (by decide)]; exact t.1, t.2.1, fun j hj => by rw [f.1 134 (by decide) (by decide)]; exact t.2.2.1 j hj, t.2.2.2⟩
def mOs (h h' : zH) : Prop := mO h h' ∧ h' 138 = h 138
theorem c_X7_sign_47 {Post : Option zA → zH → Prop} {Γ : zCx} {T : zs} {len : Nat} {h : zH} {z : zZ} {lo hi : Int} (hz : mZ z h) (hlo : 0 < lo) (hlen : len ≤ 60) {w : Int} (hw : w = if z.1 = false ∧ lo ≤ sg T len z.2 ∧ sg T len z.2 ≤ hi then 0 else 1) (hp : ∀ h' : zH, mZ (xS T len lo hi z) h' → mOs h h' → Post (some (zI (sg T len z.2))) h') : (fun (d : Nat) => zV RX7 cX7_sign 4 (some .int) d Post Γ 47 [(0, zR 128), (1, zI lo), (2, zI hi), (3, zI (sg T len z.2))] [zI w, zR 128] h) 2 := by
  have le := xS_le (T := T) (len := len) (lo := lo) (hi := hi) (z := z) hlo hlen hz.2.2
  obtain ⟨z1, z2, z3⟩ := hz
  by_cases c : z.1 = false ∧ lo ≤ sg T len z.2 ∧ sg T len z.2 ≤ hi
  · rw [if_pos c] at hw
    have e : xS T len lo hi z = (false, z.2 + 1) := by unfold xS; rw [if_pos c]
    rw [e] at hp le
    rw [hw]
    refine k_X7_sign_47 (by decide) ⟨Or.inl rfl, ?_⟩
    rintro _ rfl
    refine ⟨fun _ => ?_, fun q => absurd (zu_same _ _ _ _) q⟩
    rintro _ rfl
    rw [zu_nej (j := 16) (j' := 15) _ _ _ (by decide), z1, zwr_eq (by omega) (by omega)]
    refine hp _ ⟨?_, ?_, le⟩ ⟨⟨fun k k1 k2 => by rw [zu_nekr _ _ _ k1, zu_nekr _ _ _ k1], fun i i1 i2 => by rw [zu_nej _ _ _ i1, zu_nej _ _ _ i2]⟩, by rw [zu_nekr _ _ _ (by decide), zu_nekr _ _ _ (by decide)]⟩
    · rw [zu_same]; show (z.2 : Int) + 1 = ((z.2 + 1 : Nat) : Int); omega
    · rw [zu_nej _ _ _ (by decide), zu_same]; rfl
  · rw [if_neg c] at hw
    have e : xS T len lo hi z = (true, z.2) := by unfold xS; rw [if_neg c]
    rw [e] at hp
    rw [hw]
    refine k_X7_sign_47 (by decide) ⟨Or.inr rfl, ?_⟩
    rintro _ rfl
    refine ⟨fun q => absurd (show (1 : Int) = 0 from (zu_same h 128 16 1).symm.trans q) (by decide), fun _ => ?_⟩
    rintro _ rfl
    rw [zu_nej (j := 16) (j' := 15) _ _ _ (by decide), z1, zwr_eq (by omega) (by omega)]
    refine hp _ ⟨?_, ?_, z3⟩ ⟨⟨fun k k1 k2 => by rw [zu_nekr _ _ _ k1, zu_nekr _ _ _ k1], fun i i1 i2 => by rw [zu_nej _ _ _ i1, zu_nej _ _ _ i2]⟩, by rw [zu_nekr _ _ _ (by decide), zu_nekr _ _ _ (by decide)]⟩
    · rw [zu_same]; show (z.2 : Int) + 0 = (z.2 : Int); omega
    · rw [zu_nej _ _ _ (by decide), zu_same]; rfl
theorem c_X7_sign_24 {Post : Option zA → zH → Prop} {Γ : zCx} {T : zs} {len : Nat} {h : zH} {z : zZ} {lo hi : Int} (hz : mZ z h) (hlo : 0 < lo) (hlen : len ≤ 60) (hp : ∀ h' : zH, mZ (xS T len lo hi z) h' → mOs h h' → Post (some (zI (sg T len z.2))) h') : (fun (d : Nat) => zV RX7 cX7_sign 4 (some .int) d Post Γ 24 [(0, zR 128), (1, zI lo), (2, zI hi)] [zI (sg T len z.2)] h) 2 := by
  have z2 := hz.2.1
  refine k_X7_sign_24 (by decide) ⟨fun c => ?_, fun c => ⟨fun c2 => ?_, fun c2 => ?_⟩⟩
  · refine k_X7_sign_42 (by decide) (c_X7_sign_47 hz hlo hlen (w := 1) ?_ hp)
    rw [if_neg]
    intro q
    rw [q.1] at z2
    exact c z2
  · have e : z.1 = false := by
      cases q : z.1
      · rfl
      · rw [q] at z2; rw [z2] at c; exact absurd c (by decide)
    exact c_X7_sign_47 hz hlo hlen (w := 0) (by rw [if_pos ⟨e, c2⟩]) hp
  · exact k_X7_sign_42 (by decide) (c_X7_sign_47 hz hlo hlen (w := 1) (by rw [if_neg (fun q => c2 q.2)]) hp)
theorem c_X7_sign {T : zs} {len : Nat} {h : zH} {z : zZ} {lo hi : Int} (ht : mT T len h) (hz : mZ z h) (hlo : 0 < lo) : zSp 2 mX7_sign [zR 128, zI lo, zI hi] h (fun q h' => q = some (zI (sg T len z.2)) ∧ mZ (xS T len lo hi z) h' ∧ mOs h h') := by
  refine zSp_of (by decide +kernel) (Nat.le_of_ble_eq_true rfl) rfl (fun Γ => k_X7_sign_0  (by decide) ?_)
  obtain ⟨t1, t2, t3, t4⟩ := ht
  have key := c_X7_sign_24 (Post := fun q h' => q = some (zI (sg T len z.2)) ∧ mZ (xS T len lo hi z) h' ∧ mOs h h') (Γ := Γ) (T := T) (len := len) (h := h) (z := z) (lo := lo) (hi := hi) hz hlo t2 (fun h' a b => ⟨rfl, a, b⟩)
  have z1 := hz.1
  have z3 := hz.2.2
  refine ⟨fun c => ?_, fun c => ⟨by omega, by omega, ?_⟩⟩
  · rw [show sg T len z.2 = 0 from if_neg (by omega)] at key ⊢
    exact key
  · rw [z1, Int.toNat_natCast, t3 z.2 (by omega)]
    rw [show sg T len z.2 = T z.2 from if_pos (by omega)] at key ⊢
    exact key
theorem c_X7_digit {T : zs} {len : Nat} {h : zH} {z : zZ} (ht : mT T len h) (hz : mZ z h) : zSp 3 mX7_digit [zR 128] h (fun q h' => q = some (zI (sg T len z.2 - 48)) ∧ mZ (xS T len 48 53 z) h' ∧ mOs h h') := by
  refine zSp_of (by decide +kernel) (Nat.le_of_ble_eq_true rfl) rfl (fun Γ => k_X7_digit_0  (by decide) ?_)
  have b := sg_bd (len := len) (p := z.2) ht.2.2.2
  refine ⟨2, _, by decide, c_X7_sign ht hz (by decide), ?_⟩
  rintro _ h1 ⟨rfl, z1, f1⟩
  refine ⟨_, rfl, ?_⟩
  rw [zwr_eq (by omega) (by omega)]
  exact ⟨rfl, z1, f1⟩
theorem c_X7_number_14 {Post : Option zA → zH → Prop} {Γ : zCx} {T : zs} {len : Nat} {least most : Int} (hm : most ≤ 999) : ∀ (n : Nat) (v : Int) (z : zZ) (h : zH), mT T len h → mZ z h → 60 ≤ n + z.2 → (z.1 = false → v ≤ 1000) → (∀ h' : zH, mZ (xNl T len most n v z).2 h' → mOs h h' → Post (some (zI (xNl T len most n v z).1)) h') → (fun (d : Nat) => zV RX7 cX7_number 4 (some .int) d Post Γ 14 [(0, zR 128), (1, zI least), (2, zI most), (3, zI v)] [] h) 3 := by
  intro n
  induction n with
  | zero =>
    intro v z h ht hz hn hv hp
    obtain ⟨t1, t2, t3, t4⟩ := ht
    have done : Post (some (zI v)) h := hp h hz ⟨mO.rfl', rfl⟩
    have z1 := hz.1
    refine k_X7_number_14 (by decide) ⟨fun _ => done, fun _ => ⟨fun _ => done, fun _ => ⟨fun _ => done, fun c => absurd (by omega) c⟩⟩⟩
  | succ n ih =>
    intro v z h ht hz hn hv hp
    have ht0 := ht
    obtain ⟨t1, t2, t3, t4⟩ := ht
    have done : ¬ (z.1 = false ∧ 0 < v ∧ z.2 < len ∧ 48 ≤ T z.2 ∧ T z.2 ≤ 57 ∧ 10 * v + T z.2 - 48 ≤ most) → Post (some (zI v)) h := by
      intro q
      unfold xNl at hp
      rw [if_neg q] at hp
      exact hp h hz ⟨mO.rfl', rfl⟩
    obtain ⟨z1, z2, z3⟩ := hz
    refine k_X7_number_14 (by decide) ⟨fun c => done (fun q => ?_), fun c => ⟨fun c2 => done (fun q => by omega), fun c2 => ⟨fun c3 => done (fun q => by omega), fun c3 => ?_⟩⟩⟩
    · rw [q.1] at z2; exact c z2
    have e : z.1 = false := by
      cases q : z.1
      · rfl
      · rw [q] at z2; rw [z2] at c; exact absurd c (by decide)
    have hv2 := hv e
    have b := t4 z.2
    have hlt : z.2 < len := by omega
    rw [z1, Int.toNat_natCast, t3 z.2 hlt]
    refine ⟨by omega, by omega, fun c4 => done (fun q => c4 ⟨q.2.2.2.1, q.2.2.2.2.1⟩), fun c4 => ⟨by omega, by omega, ?_⟩⟩
    rw [zwr_eq (a := 10 * v) (by omega) (by omega), zwr_eq (a := 10 * v + T z.2) (by omega) (by omega), zwr_eq (a := 10 * v + T z.2 - 48) (by omega) (by omega)]
    refine ⟨fun c5 => done (fun q => by omega), fun c5 => ?_⟩
    have cond : z.1 = false ∧ 0 < v ∧ z.2 < len ∧ 48 ≤ T z.2 ∧ T z.2 ≤ 57 ∧ 10 * v + T z.2 - 48 ≤ most := ⟨e, by omega, hlt, c4.1, c4.2, by omega⟩
    unfold xNl at hp
    rw [if_pos cond] at hp
    refine ⟨2, _, by decide, c_X7_sign (lo := 48) (hi := 57) ht0 ⟨z1, z2, z3⟩ (by decide), ?_⟩
    rintro _ h1 ⟨rfl, zz1, f1⟩
    have es : sg T len z.2 = T z.2 := if_pos hlt
    have ex : xS T len 48 57 z = (false, z.2 + 1) := by unfold xS; rw [es, if_pos ⟨e, c4⟩]
    rw [ex] at zz1
    rw [es]
    refine ⟨_, rfl, ?_⟩
    intro x exx
    rw [zwr_eq (a := 10 * v + T z.2) (by omega) (by omega), zwr_eq (a := 10 * v + T z.2 - 48) (by omega) (by omega)] at exx
    rw [exx]
    refine ih _ (false, z.2 + 1) h1 (mT_o ht0 f1.1) zz1 (show 60 ≤ n + (z.2 + 1) by omega) (fun _ => by omega) (fun h' a b => hp h' a ⟨f1.1.trans b.1, b.2.trans f1.2⟩)
theorem c_X7_number {T : zs} {len : Nat} {h : zH} {z : zZ} {least most : Int} (ht : mT T len h) (hz : mZ z h) (hl : 0 ≤ least ∧ least ≤ 9) (hm : most ≤ 999) : zSp 3 mX7_number [zR 128, zI least, zI most] h (fun q h' => q = some (zI (xN T len least most z).1) ∧ mZ (xN T len least most z).2 h' ∧ mOs h h') := by
  refine zSp_of (by decide +kernel) (Nat.le_of_ble_eq_true rfl) rfl (fun Γ => k_X7_number_0  (by decide) ?_)
  have b := sg_bd (len := len) (p := z.2) ht.2.2.2
  rw [zwr_eq (a := 48 + least) (by omega) (by omega)]
  refine ⟨2, _, by decide, c_X7_sign ht hz (by omega), ?_⟩
  rintro _ h1 ⟨rfl, z1, f1⟩
  refine ⟨_, rfl, ?_⟩
  intro x ex
  rw [zwr_eq (by omega) (by omega)] at ex
  rw [ex]
  refine c_X7_number_14 hm 60 _ (xS T len (48 + least) 57 z) h1 (mT_o ht f1.1) z1 (by omega) (fun q => ?_) (fun h' a b => ⟨rfl, a, f1.1.trans b.1, b.2.trans f1.2⟩)
  unfold xS at q
  split at q
  · rename_i w; omega
  · cases q
