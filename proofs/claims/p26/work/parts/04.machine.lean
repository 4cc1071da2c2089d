/-! The abstract machine: one world of 128 cells (class 0..127, reference 128..139), ints as Int, references as cell numbers. -/
abbrev zA : Type := Int ⊕ (Int64 ⊕ Option Nat)
abbrev zI (a : Int) : zA := .inl a
abbrev zL (a : Int64) : zA := .inr (.inl a)
abbrev zR (k : Nat) : zA := .inr (.inr (some k))
abbrev zN : zA := .inr (.inr none)
abbrev zH : Type := Nat → Nat → Int
def zc (ad : Nat → Nat) (v : zA) : Value := match v with
  | .inl a => .int (Int32.ofInt a)
  | .inr (.inl x) => .long x
  | .inr (.inr none) => .null
  | .inr (.inr (some k)) => .ref (ad k)
def zcat (v : zA) : Nat := match v with
  | .inr (.inl _) => 2
  | _ => 1
def zw1 (a : Int) : Prop := (Int32.ofInt a).toInt = a
def zw (v : zA) : Prop := match v with
  | .inl a => zw1 a
  | .inr _ => True
def zwS : List zA → Prop
  | [] => True
  | v :: r => zw v ∧ zwS r
def zwH (h : zH) : Prop := ∀ k j, zw1 (h k j)
def zwr (a : Int) : Int := (Int32.ofInt a).toInt
/-- a cell's slot gets a value -/
def zu (h : zH) (k j : Nat) (a : Int) : zH := fun k' j' => if k' = k ∧ j' = j then a else h k' j'
/-- System.arraycopy -/
def zcp (h : zH) (ks sp kd dp n : Nat) : zH := fun k j => if k = kd ∧ dp ≤ j ∧ j < dp + n then h ks (sp + (j - dp)) else h k j
theorem zc_cat (ad : Nat → Nat) (v : zA) : (zc ad v).category = zcat v := by
  rcases v with a | x | (_ | k) <;> rfl
theorem zw1_wr (a : Int) : zw1 (zwr a) := by unfold zw1 zwr; rw [Int32.ofInt_toInt]
theorem zw1_of {a : Int} (h1 : -2147483648 ≤ a) (h2 : a < 2147483648) : zw1 a := Int32.toInt_ofInt_of_le h1 h2
theorem zw1_to (x : Int32) : zw1 x.toInt := by unfold zw1; rw [Int32.ofInt_toInt]
theorem zwr_eq {a : Int} (h1 : -2147483648 ≤ a) (h2 : a < 2147483648) : zwr a = a := Int32.toInt_ofInt_of_le h1 h2
theorem zw1_bd {a : Int} (h : zw1 a) : -2147483648 ≤ a ∧ a < 2147483648 := by
  unfold zw1 at h
  have h1 := Int32.toInt_lt (Int32.ofInt a)
  have h2 := Int32.le_toInt (Int32.ofInt a)
  omega
theorem zwr_bd (a : Int) : -2147483648 ≤ zwr a ∧ zwr a < 2147483648 := zw1_bd (zw1_wr a)
theorem z_ofInt_inj {a b : Int} (ha : zw1 a) (hb : zw1 b) (h : Int32.ofInt a = Int32.ofInt b) : a = b := by
  unfold zw1 at ha hb
  rw [← ha, ← hb, h]
theorem z_lt {a b : Int} (ha : zw1 a) (hb : zw1 b) : Int32.ofInt a < Int32.ofInt b ↔ a < b := by
  unfold zw1 at ha hb
  rw [Int32.lt_iff_toInt_lt, ha, hb]
theorem z_le {a b : Int} (ha : zw1 a) (hb : zw1 b) : Int32.ofInt a ≤ Int32.ofInt b ↔ a ≤ b := by
  unfold zw1 at ha hb
  rw [Int32.le_iff_toInt_le, ha, hb]
theorem z_eq {a b : Int} (ha : zw1 a) (hb : zw1 b) : Int32.ofInt a = Int32.ofInt b ↔ a = b := ⟨z_ofInt_inj ha hb, fun h => by rw [h]⟩
theorem zw1_0 : zw1 0 := zw1_of (by decide) (by decide)
theorem z_0 : Int32.ofInt 0 = 0 := rfl
theorem z_cl {a : Int} (ha : zw1 a) : (Int32.ofInt a).toNatClampNeg = a.toNat := by
  unfold zw1 at ha
  rw [← Int32.toNat_toInt, ha]
theorem z_in {a : Int} {n : Nat} (ha : zw1 a) (h0 : 0 ≤ a) (h1 : a < (n : Int)) : vp_in (Int32.ofInt a) n := by
  unfold vp_in
  rw [z_cl ha, ← z_0, z_lt ha zw1_0]
  omega
theorem z_wr_add (a b : Int) : Int32.ofInt (zwr (a + b)) = Int32.ofInt a + Int32.ofInt b := by unfold zwr; rw [Int32.ofInt_toInt, Int32.ofInt_add]
theorem z_wr_sub (a b : Int) : Int32.ofInt (zwr (a - b)) = Int32.ofInt a - Int32.ofInt b := by unfold zwr; rw [Int32.ofInt_toInt, Int32.ofInt_sub]
theorem z_wr_mul (a b : Int) : Int32.ofInt (zwr (a * b)) = Int32.ofInt a * Int32.ofInt b := by unfold zwr; rw [Int32.ofInt_toInt, Int32.ofInt_mul]

def zand (a b : Int) : Int := (Int32.ofInt a &&& Int32.ofInt b).toInt
def zor (a b : Int) : Int := (Int32.ofInt a ||| Int32.ofInt b).toInt
def zxor (a b : Int) : Int := (Int32.ofInt a ^^^ Int32.ofInt b).toInt
def zdiv (a b : Int) : Int := (Int32.ofInt a / Int32.ofInt b).toInt
def zrem (a b : Int) : Int := (Int32.ofInt a - Int32.ofInt a / Int32.ofInt b * Int32.ofInt b).toInt
def zshl (a b : Int) : Int := (Int32.ofInt a <<< (Int32.ofInt b &&& 31)).toInt
def zshr (a b : Int) : Int := (Int32.ofInt a >>> (Int32.ofInt b &&& 31)).toInt
def zushr (a b : Int) : Int := ((Int32.ofInt a).toUInt32 >>> ((Int32.ofInt b).toUInt32 &&& Int32.toUInt32 31)).toInt32.toInt
def zlshl (x : Int64) (b : Int) : Int64 := x <<< ((Int32.ofInt b).toInt64 &&& 63)
def zlshr (x : Int64) (b : Int) : Int64 := x >>> ((Int32.ofInt b).toInt64 &&& 63)

/-- the eight states' first cells -/
def zSt (b : Nat) : Prop := b = 1 ∨ b = 16 ∨ b = 31 ∨ b = 48 ∨ b = 63 ∨ b = 78 ∨ b = 93 ∨ b = 108
/-- the cells of a state -/
def zS (ad : Nat → Nat) (cI : ClassId) (b j : Nat) (r : Nat → Int32) : va_E := match j with
  | 0 => .inr (4, [.ref (ad (b + 1)), .ref (ad (b + 2)), .ref (ad (b + 3)), .ref (ad (b + 4)), .ref (ad (b + 5)), .ref (ad (b + 6)), .ref (ad (b + 9)), .int (r 7)])
  | 1 => .inl (cI, 6, .inl r)
  | 2 => .inl (cI, 6, .inl r)
  | 3 => .inl (cI, 6, .inl r)
  | 4 => .inl (cI, 36, .inl r)
  | 5 => .inl (cI, 6, .inl r)
  | 6 => .inr (0, [.ref (ad (b + 7)), .ref (ad (b + 8))])
  | 7 => .inl (cI, 36, .inl r)
  | 8 => .inl (cI, 6, .inl r)
  | 9 => .inr (3, [.ref (ad (b + 10)), .ref (ad (b + 11)), .ref (ad (b + 12)), .ref (ad (b + 13)), .ref (ad (b + 14)), .int (r 5), .int (r 6), .int (r 7)])
  | _ => .inl (cI, 40, .inl r)
def zE (ad : Nat → Nat) (cI cZ cS : ClassId) (k : Nat) (r : Nat → Int32) : va_E :=
  if k = 0 then .inr (6, [.ref (ad 1), .ref (ad 16), .ref (ad 31), .ref (ad 46), .ref (ad 123), .ref (ad 125), .int (r 6), .int (r 7), .int (r 8), .int (r 9)])
  else if k < 46 then zS ad cI ((k - 1) / 15 * 15 + 1) ((k - 1) % 15) r
  else if k = 46 then .inr (2, [.ref (ad 47), .int (r 1), .int (r 2)])
  else if k = 47 then .inl (cS, 5, .inr (.inr (.inr (.inr (fun j => some (ad (48 + 15 * j)))))))
  else if k < 123 then zS ad cI ((k - 48) / 15 * 15 + 48) ((k - 48) % 15) r
  else if k = 123 then .inr (1, [.ref (ad 124)])
  else if k = 124 then .inl (cI, 384, .inl r)
  else if k = 125 then .inr (5, [.ref (ad 126), .int (r 1), .int (r 2), .ref (ad 127), .int (r 4)])
  else if k = 126 then .inl (cI, 60, .inl r)
  else .inl (cI, 150, .inl r)
def zW (ad : Nat → Nat) (cI cZ cS : ClassId) (h : zH) : va_W := (List.range 128).map fun k => (ad k, zE ad cI cZ cS k (fun j => Int32.ofInt (h k j)))
theorem zW_get {ad : Nat → Nat} {cI cZ cS : ClassId} {h : zH} {k : Nat} (hk : k < 128) : (zW ad cI cZ cS h)[k]? = some (ad k, zE ad cI cZ cS k (fun j => Int32.ofInt (h k j))) := by
  simp [zW, hk]
theorem zW_set {ad : Nat → Nat} {cI cZ cS : ClassId} {h h' : zH} {k : Nat} {e : va_E} (hk : k < 128) (hne : ∀ k', k' ≠ k → ∀ j, h' k' j = h k' j) (he : zE ad cI cZ cS k (fun j => Int32.ofInt (h' k j)) = e) : (zW ad cI cZ cS h).set k (ad k, e) = zW ad cI cZ cS h' := by
  subst he
  apply List.ext_getElem?
  intro i
  rw [List.getElem?_set]
  have hlen : (zW ad cI cZ cS h).length = 128 := by simp [zW]
  by_cases hi : k = i
  · subst hi
    rw [if_pos rfl, if_pos (by rw [hlen]; exact hk), zW_get hk]
  · rw [if_neg hi]
    by_cases hi2 : i < 128
    · rw [zW_get hi2, zW_get hi2]
      have e : (fun j => Int32.ofInt (h i j)) = (fun j => Int32.ofInt (h' i j)) := funext fun j => by rw [hne i (fun q => hi q.symm) j]
      rw [e]
    · simp [zW, hi2]
def zAd (ad : Nat → Nat) : Nat → Prop := fun q => ∃ k, k < 128 ∧ q = ad k
theorem zW_D {ad : Nat → Nat} {cI cZ cS : ClassId} {h : zH} (hi : ∀ i j, i < 128 → j < 128 → ad i = ad j → i = j) : va_D (zAd ad) (zW ad cI cZ cS h) := by
  have key : ∀ (i : Nat) (p : Nat × va_E), (zW ad cI cZ cS h)[i]? = some p → i < 128 ∧ p.1 = ad i := by
    intro i p hp
    by_cases h2 : i < 128
    · rw [zW_get h2] at hp
      cases hp
      exact ⟨h2, rfl⟩
    · simp [zW, h2] at hp
  refine ⟨fun i j p q hp hq hpq => ?_, fun k q hq => ⟨k, (key k q hq).1, (key k q hq).2⟩⟩
  obtain ⟨a1, a2⟩ := key i p hp
  obtain ⟨b1, b2⟩ := key j q hq
  exact hi i j a1 b1 (by rw [← a2, ← b2, hpq])
def zK (cI cZ cS : ClassId) : List (ClassId × FieldType) := [(cI, .int), (cI, .int), (cS, .object "LentParts$State")]
def zObj (k ci : Nat) (fs : (Nat → Nat) → (Nat → Int32) → List Value) : Prop := k < 128 ∧ ∀ ad cI cZ cS r, zE ad cI cZ cS k r = .inr (ci, fs ad r)
def zArI (k n : Nat) : Prop := k < 128 ∧ n < 2147483648 ∧ ∀ ad cI cZ cS r, zE ad cI cZ cS k r = .inl (cI, n, .inl r)
/-- the words that a callee takes over -/
def zT : List Cond := lw_tbl.filter goodWord
theorem zTin {w : Cond} (h : w ∈ lw_tbl) (g : goodWord w = true) : w ∈ zT := List.mem_filter.mpr ⟨h, g⟩
theorem zTg {w : Cond} (h : w ∈ zT) : (w.onTables && w.keeps) = true ∨ ∃ ty, w = .arrayClass ty := good_of_word (List.mem_filter.mp h).2
theorem zTl {w : Cond} (h : w ∈ zT) : w ∈ lw_tbl := (List.mem_filter.mp h).1
/-- a method: its name, code, locals, what it returns -/
abbrev zM : Type := MethodName × ByteArray × Nat × Option FieldType
def zRm (d : Nat) : Room := { frames := d, cells := 0, slots := 0, locals := 60 * d }
def zQe (D : va_G) (ad : Nat → Nat) (cI cZ cS : ClassId) (Post : Option zA → zH → Prop) : Array Value → State → Outcome → State → Prop := fun _ st o t => (∃ (r : Option zA) (h' : zH), o = .returned (r.map (zc ad)) ∧ (∀ v, r = some v → zw v) ∧ zwH h' ∧ Post r h' ∧ va_P D vwCl (zW ad cI cZ cS h') t.heap) ∧ va_F (zAd ad) st t
def zNe (U : State) : Prop := va_Nw (.methodLinkNest RX4 58 yX6_isAgent "LentParts") U ∧ va_Nw (.methodLinkNest RX4 62 yX6_isCell "LentParts") U
theorem zNe.warm {s U : State} (hW : s.WarmedH U.vm) (h : zNe s) : zNe U := ⟨va_Nw.warmM hW h.1, va_Nw.warmM hW h.2⟩
theorem zNe.same {u U : State} (e : u.vm = U.vm) (h : zNe u) : zNe U := ⟨va_Nw.same rfl e h.1, va_Nw.same rfl e h.2⟩
def zPs (D : va_G) (ad : Nat → Nat) (cI cZ cS : ClassId) (as : List zA) (h : zH) : Array Value → State → Prop := fun v U => v = (as.map (zc ad)).toArray ∧ zwS as ∧ zwH h ∧ va_P D vwCl (zW ad cI cZ cS h) U.heap ∧ va_K D vwCl (zK cI cZ cS) U ∧ zNe U
abbrev zws (M : zM) : List Cond := .code M.1 M.2.1 M.2.2.1 M.2.2.2 :: zT
/-- a method's contract: in the room d, from these arguments and cells it returns, and 'Post answer cells' holds -/
def zSp (d : Nat) (M : zM) (as : List zA) (h : zH) (Post : Option zA → zH → Prop) : Prop := ∀ (l : Launch) (D : va_G) (ad : Nat → Nat) (cI cZ cS : ClassId), (∀ i j, i < 128 → j < 128 → ad i = ad j → i = j) → Met l M.1 (zws M) (zRm d) (zPs D ad cI cZ cS as h) (zQe D ad cI cZ cS Post) 0 0 (zAd ad)
abbrev zCx : Type := Program × Launch × Env × State × MethodId × Array Value × List Frame × Method × Code × va_G × (Nat → Nat) × ClassId × ClassId × ClassId
def zHy (own : String) (cc : ByteArray) (nL : Nat) (ret : Option FieldType) (Γ : zCx) : Prop := match Γ with
  | (p, l, e, s, m, args, below, meth, c, D, ad, cI, cZ, cS) => p.tables.exec = Jvm.exec ∧ c.code = cc ∧ c.maxLocals = nL ∧ meth.sig.returnType = ret ∧ meth.locks = false ∧ s.vm.findClass own = some m.cls ∧ (∀ w ∈ zT, w.before args s = true) ∧ va_K D vwCl (zK cI cZ cS) s ∧ (∀ i j, i < 128 → j < 128 → ad i = ad j → i = j) ∧ zNe s
/-- the machine at a place of a method, with these locals, this stack and these cells, comes to the method's end, where Post holds -/
def zV (own : String) (cc : ByteArray) (nL : Nat) (ret : Option FieldType) (d : Nat) (Post : Option zA → zH → Prop) (Γ : zCx) (pc : Nat) (ls : List (Nat × zA)) (st : List zA) (h : zH) : Prop := match Γ with
  | (p, l, e, s, m, args, below, meth, c, D, ad, cI, cZ, cS) => zHy own cc nL ret (p, l, e, s, m, args, below, meth, c, D, ad, cI, cZ, cS) → (∀ q ∈ ls, zw q.2) → zwS st → zwH h → ∀ (H : Heap) (locs : List Loc) (sl : Array Slot), lv_has sl nL (ls.map (fun q => (q.1, zc ad q.2))) → va_P D vwCl (zW ad cI cZ cS h) H → va_S (zAd ad) s.heap H locs → W p l e (zRm d) s m args below meth c H locs 0 0 (MQ below (zQe D ad cI cZ cS Post) args s 0 0 (zAd ad)) (F0 m pc sl (st.map (zc ad)))
section zrows
variable {own : String} {cc : ByteArray} {nL : Nat} {ret : Option FieldType} {d : Nat} {Post : Option zA → zH → Prop} {Γ : zCx} {pc : Nat} {ls ls' : List (Nat × zA)} {st : List zA} {h : zH}

theorem z_iconst {n a : Int} (hd : decode cc pc = .ok (.iconst n, 1)) (ha : (Int32.ofInt n).toInt = a) (k : zV own cc nL ret d Post Γ (pc + 1) ls (zI a :: st) h) : zV own cc nL ret d Post Γ (pc) ls (st) h := by
  obtain ⟨p, l, e, s, m, args, below, meth, c, D, ad, cI, cZ, cS⟩ := Γ
  intro Y hl hs hh H locs sl h1 h2 h3
  obtain ⟨yx, yb, ym, yr, yk, yo, yt, yK, yi, yn⟩ := id Y
  refine lv_iconst yx yb hd (v := Int32.ofInt a) (by rw [← ha, Int32.ofInt_toInt]) ?_
  exact k Y hl ⟨by rw [← ha]; exact zw1_to _, hs⟩ hh H locs sl h1 h2 h3
theorem z_bipush {n a : Int} (hd : decode cc pc = .ok (.bipush n, 2)) (ha : ((Int8.ofInt n).toInt32).toInt = a) (k : zV own cc nL ret d Post Γ (pc + 2) ls (zI a :: st) h) : zV own cc nL ret d Post Γ (pc) ls (st) h := by
  obtain ⟨p, l, e, s, m, args, below, meth, c, D, ad, cI, cZ, cS⟩ := Γ
  intro Y hl hs hh H locs sl h1 h2 h3
  obtain ⟨yx, yb, ym, yr, yk, yo, yt, yK, yi, yn⟩ := id Y
  refine lv_bipush yx yb hd (v := Int32.ofInt a) (by rw [← ha, Int32.ofInt_toInt]) ?_
  exact k Y hl ⟨by rw [← ha]; exact zw1_to _, hs⟩ hh H locs sl h1 h2 h3
theorem z_sipush {n a : Int} (hd : decode cc pc = .ok (.sipush n, 3)) (ha : ((Int16.ofInt n).toInt32).toInt = a) (k : zV own cc nL ret d Post Γ (pc + 3) ls (zI a :: st) h) : zV own cc nL ret d Post Γ (pc) ls (st) h := by
  obtain ⟨p, l, e, s, m, args, below, meth, c, D, ad, cI, cZ, cS⟩ := Γ
  intro Y hl hs hh H locs sl h1 h2 h3
  obtain ⟨yx, yb, ym, yr, yk, yo, yt, yK, yi, yn⟩ := id Y
  refine lv_sipush yx yb hd (v := Int32.ofInt a) (by rw [← ha, Int32.ofInt_toInt]) ?_
  exact k Y hl ⟨by rw [← ha]; exact zw1_to _, hs⟩ hh H locs sl h1 h2 h3
theorem z_ldcw {ix : Nat} {v : Int32} {a : Int} (hw : Cond.constant own ix v ∈ zT) (hd : decode cc pc = .ok (.ldc_w ix, 3)) (ha : v.toInt = a) (k : zV own cc nL ret d Post Γ (pc + 3) ls (zI a :: st) h) : zV own cc nL ret d Post Γ (pc) ls (st) h := by
  obtain ⟨p, l, e, s, m, args, below, meth, c, D, ad, cI, cZ, cS⟩ := Γ
  intro Y hl hs hh H locs sl h1 h2 h3
  obtain ⟨yx, yb, ym, yr, yk, yo, yt, yK, yi, yn⟩ := id Y
  refine lv_ldcw yx yb yo (v := Int32.ofInt a) (by rw [← ha, Int32.ofInt_toInt]; exact yt _ hw) hd ?_
  exact k Y hl ⟨by rw [← ha]; exact zw1_to _, hs⟩ hh H locs sl h1 h2 h3
theorem z_lconst {n : Fin 2} {x : Int64} (hd : decode cc pc = .ok (.lconst n, 1)) (ha : Int64.ofNat (n : Nat) = x) (k : zV own cc nL ret d Post Γ (pc + 1) ls (zL x :: st) h) : zV own cc nL ret d Post Γ (pc) ls (st) h := by
  obtain ⟨p, l, e, s, m, args, below, meth, c, D, ad, cI, cZ, cS⟩ := Γ
  intro Y hl hs hh H locs sl h1 h2 h3
  obtain ⟨yx, yb, ym, yr, yk, yo, yt, yK, yi, yn⟩ := id Y
  refine lv_lconst yx yb hd ha ?_
  exact k Y hl ⟨trivial, hs⟩ hh H locs sl h1 h2 h3
theorem z_null (hd : decode cc pc = .ok (.aconst_null, 1)) (k : zV own cc nL ret d Post Γ (pc + 1) ls (zN :: st) h) : zV own cc nL ret d Post Γ (pc) ls (st) h := by
  obtain ⟨p, l, e, s, m, args, below, meth, c, D, ad, cI, cZ, cS⟩ := Γ
  intro Y hl hs hh H locs sl h1 h2 h3
  obtain ⟨yx, yb, ym, yr, yk, yo, yt, yK, yi, yn⟩ := id Y
  refine lv_null yx yb hd ?_
  exact k Y hl ⟨trivial, hs⟩ hh H locs sl h1 h2 h3
theorem z_at {ad : Nat → Nat} {sl : Array Slot} (h1 : lv_has sl nL (ls.map (fun q => (q.1, zc ad q.2)))) {n i : Nat} {v : zA} (hv : ls[n]? = some (i, v)) : sl[i]? = some (.val (zc ad v)) :=
  lv_at h1 n (by rw [List.getElem?_map, hv]; rfl)
theorem z_iload {n i : Nat} {x : Int} (hd : decode cc pc = .ok (.iload i, 2)) (hv : ls[n]? = some (i, zI x)) (k : zV own cc nL ret d Post Γ (pc + 2) ls (zI x :: st) h) : zV own cc nL ret d Post Γ (pc) ls (st) h := by
  obtain ⟨p, l, e, s, m, args, below, meth, c, D, ad, cI, cZ, cS⟩ := Γ
  intro Y hl hs hh H locs sl h1 h2 h3
  obtain ⟨yx, yb, ym, yr, yk, yo, yt, yK, yi, yn⟩ := id Y
  refine lv_iload yx yb hd (z_at h1 hv) ?_
  exact k Y hl ⟨hl _ (List.mem_of_getElem? hv), hs⟩ hh H locs sl h1 h2 h3
theorem z_iload_n {n i : Nat} {f : Fin 4} {x : Int} (hd : decode cc pc = .ok (.iload_n f, 1)) (hf : (f : Nat) = i) (hv : ls[n]? = some (i, zI x)) (k : zV own cc nL ret d Post Γ (pc + 1) ls (zI x :: st) h) : zV own cc nL ret d Post Γ (pc) ls (st) h := by
  obtain ⟨p, l, e, s, m, args, below, meth, c, D, ad, cI, cZ, cS⟩ := Γ
  intro Y hl hs hh H locs sl h1 h2 h3
  obtain ⟨yx, yb, ym, yr, yk, yo, yt, yK, yi, yn⟩ := id Y
  refine lv_iload_n yx yb hd hf (z_at h1 hv) ?_
  exact k Y hl ⟨hl _ (List.mem_of_getElem? hv), hs⟩ hh H locs sl h1 h2 h3
theorem z_aload {n i : Nat} {x : Nat} (hd : decode cc pc = .ok (.aload i, 2)) (hv : ls[n]? = some (i, zR x)) (k : zV own cc nL ret d Post Γ (pc + 2) ls (zR x :: st) h) : zV own cc nL ret d Post Γ (pc) ls (st) h := by
  obtain ⟨p, l, e, s, m, args, below, meth, c, D, ad, cI, cZ, cS⟩ := Γ
  intro Y hl hs hh H locs sl h1 h2 h3
  obtain ⟨yx, yb, ym, yr, yk, yo, yt, yK, yi, yn⟩ := id Y
  refine lv_aload yx yb hd (z_at h1 hv) ?_
  exact k Y hl ⟨hl _ (List.mem_of_getElem? hv), hs⟩ hh H locs sl h1 h2 h3
theorem z_aload_n {n i : Nat} {f : Fin 4} {x : Nat} (hd : decode cc pc = .ok (.aload_n f, 1)) (hf : (f : Nat) = i) (hv : ls[n]? = some (i, zR x)) (k : zV own cc nL ret d Post Γ (pc + 1) ls (zR x :: st) h) : zV own cc nL ret d Post Γ (pc) ls (st) h := by
  obtain ⟨p, l, e, s, m, args, below, meth, c, D, ad, cI, cZ, cS⟩ := Γ
  intro Y hl hs hh H locs sl h1 h2 h3
  obtain ⟨yx, yb, ym, yr, yk, yo, yt, yK, yi, yn⟩ := id Y
  refine lv_aload_n yx yb hd hf (z_at h1 hv) ?_
  exact k Y hl ⟨hl _ (List.mem_of_getElem? hv), hs⟩ hh H locs sl h1 h2 h3
theorem z_lload {n i : Nat} {x : Int64} (hd : decode cc pc = .ok (.lload i, 2)) (hv : ls[n]? = some (i, zL x)) (k : zV own cc nL ret d Post Γ (pc + 2) ls (zL x :: st) h) : zV own cc nL ret d Post Γ (pc) ls (st) h := by
  obtain ⟨p, l, e, s, m, args, below, meth, c, D, ad, cI, cZ, cS⟩ := Γ
  intro Y hl hs hh H locs sl h1 h2 h3
  obtain ⟨yx, yb, ym, yr, yk, yo, yt, yK, yi, yn⟩ := id Y
  refine lv_lload yx yb hd (z_at h1 hv) ?_
  exact k Y hl ⟨hl _ (List.mem_of_getElem? hv), hs⟩ hh H locs sl h1 h2 h3
theorem z_lload_n {n i : Nat} {f : Fin 4} {x : Int64} (hd : decode cc pc = .ok (.lload_n f, 1)) (hf : (f : Nat) = i) (hv : ls[n]? = some (i, zL x)) (k : zV own cc nL ret d Post Γ (pc + 1) ls (zL x :: st) h) : zV own cc nL ret d Post Γ (pc) ls (st) h := by
  obtain ⟨p, l, e, s, m, args, below, meth, c, D, ad, cI, cZ, cS⟩ := Γ
  intro Y hl hs hh H locs sl h1 h2 h3
  obtain ⟨yx, yb, ym, yr, yk, yo, yt, yK, yi, yn⟩ := id Y
  refine lv_lload_n yx yb hd hf (z_at h1 hv) ?_
  exact k Y hl ⟨hl _ (List.mem_of_getElem? hv), hs⟩ hh H locs sl h1 h2 h3
theorem z_filt (ad : Nat → Nat) (i : Nat) (l : List (Nat × zA)) : (l.map (fun q => (q.1, zc ad q.2))).filter (fun q => !(q.1 == i) && !(q.1 + 1 == i && q.2.category == 2)) = (l.filter (fun q => !(q.1 == i) && !(q.1 + 1 == i && zcat q.2 == 2))).map (fun q => (q.1, zc ad q.2)) := by
  rw [List.filter_map]
  congr 1
  apply List.filter_congr
  intro q _
  simp only [Function.comp, zc_cat]
theorem z_filt2 (ad : Nat → Nat) (i : Nat) (l : List (Nat × zA)) : (l.map (fun q => (q.1, zc ad q.2))).filter (fun q => !(q.1 == i) && (!(q.1 == i + 1) && !(q.1 + 1 == i && q.2.category == 2))) = (l.filter (fun q => !(q.1 == i) && (!(q.1 == i + 1) && !(q.1 + 1 == i && zcat q.2 == 2)))).map (fun q => (q.1, zc ad q.2)) := by
  rw [List.filter_map]
  congr 1
  apply List.filter_congr
  intro q _
  simp only [Function.comp, zc_cat]
theorem z_filw {p : Nat × zA → Bool} {i : Nat} {v : zA} (hl : ∀ q ∈ ls, zw q.2) (hv : zw v) (he : (i, v) :: ls.filter p = ls') : ∀ q ∈ ls', zw q.2 := by
  subst he
  intro q hq
  rcases List.mem_cons.mp hq with rfl | hq
  · exact hv
  · exact hl q (List.mem_filter.mp hq).1
theorem z_istore {i : Nat} {x : Int} (hd : decode cc pc = .ok (.istore i, 2)) (hn : i < nL) (he : (i, zI x) :: ls.filter (fun q => !(q.1 == i) && !(q.1 + 1 == i && zcat q.2 == 2)) = ls') (k : zV own cc nL ret d Post Γ (pc + 2) ls' (st) h) : zV own cc nL ret d Post Γ (pc) ls (zI x :: st) h := by
  obtain ⟨p, l, e, s, m, args, below, meth, c, D, ad, cI, cZ, cS⟩ := Γ
  intro Y hl hs hh H locs sl h1 h2 h3
  obtain ⟨yx, yb, ym, yr, yk, yo, yt, yK, yi, yn⟩ := id Y
  refine lv_istore (lv' := ls'.map (fun q => (q.1, zc ad q.2))) yx yb hd h1 hn (by rw [z_filt ad, ← he]; rfl) (fun sl2 hs2 => ?_)
  exact k Y (z_filw hl hs.1 he) hs.2 hh H locs sl2 hs2 h2 h3
theorem z_istore_n {i : Nat} {f : Fin 4} {x : Int} (hd : decode cc pc = .ok (.istore_n f, 1)) (hf : (f : Nat) = i) (hn : i < nL) (he : (i, zI x) :: ls.filter (fun q => !(q.1 == i) && !(q.1 + 1 == i && zcat q.2 == 2)) = ls') (k : zV own cc nL ret d Post Γ (pc + 1) ls' (st) h) : zV own cc nL ret d Post Γ (pc) ls (zI x :: st) h := by
  obtain ⟨p, l, e, s, m, args, below, meth, c, D, ad, cI, cZ, cS⟩ := Γ
  intro Y hl hs hh H locs sl h1 h2 h3
  obtain ⟨yx, yb, ym, yr, yk, yo, yt, yK, yi, yn⟩ := id Y
  refine lv_istore_n (lv' := ls'.map (fun q => (q.1, zc ad q.2))) yx yb hd hf h1 hn (by rw [z_filt ad, ← he]; rfl) (fun sl2 hs2 => ?_)
  exact k Y (z_filw hl hs.1 he) hs.2 hh H locs sl2 hs2 h2 h3
theorem z_astore {i : Nat} {x : Nat} (hd : decode cc pc = .ok (.astore i, 2)) (hn : i < nL) (he : (i, zR x) :: ls.filter (fun q => !(q.1 == i) && !(q.1 + 1 == i && zcat q.2 == 2)) = ls') (k : zV own cc nL ret d Post Γ (pc + 2) ls' (st) h) : zV own cc nL ret d Post Γ (pc) ls (zR x :: st) h := by
  obtain ⟨p, l, e, s, m, args, below, meth, c, D, ad, cI, cZ, cS⟩ := Γ
  intro Y hl hs hh H locs sl h1 h2 h3
  obtain ⟨yx, yb, ym, yr, yk, yo, yt, yK, yi, yn⟩ := id Y
  refine lv_astore (lv' := ls'.map (fun q => (q.1, zc ad q.2))) yx yb hd h1 hn (by rw [z_filt ad, ← he]; rfl) (fun sl2 hs2 => ?_)
  exact k Y (z_filw hl hs.1 he) hs.2 hh H locs sl2 hs2 h2 h3
theorem z_astore_n {i : Nat} {f : Fin 4} {x : Nat} (hd : decode cc pc = .ok (.astore_n f, 1)) (hf : (f : Nat) = i) (hn : i < nL) (he : (i, zR x) :: ls.filter (fun q => !(q.1 == i) && !(q.1 + 1 == i && zcat q.2 == 2)) = ls') (k : zV own cc nL ret d Post Γ (pc + 1) ls' (st) h) : zV own cc nL ret d Post Γ (pc) ls (zR x :: st) h := by
  obtain ⟨p, l, e, s, m, args, below, meth, c, D, ad, cI, cZ, cS⟩ := Γ
  intro Y hl hs hh H locs sl h1 h2 h3
  obtain ⟨yx, yb, ym, yr, yk, yo, yt, yK, yi, yn⟩ := id Y
  refine lv_astore_n (lv' := ls'.map (fun q => (q.1, zc ad q.2))) yx yb hd hf h1 hn (by rw [z_filt ad, ← he]; rfl) (fun sl2 hs2 => ?_)
  exact k Y (z_filw hl hs.1 he) hs.2 hh H locs sl2 hs2 h2 h3
theorem z_lstore {i : Nat} {x : Int64} (hd : decode cc pc = .ok (.lstore i, 2)) (hn : i + 1 < nL) (he : (i, zL x) :: ls.filter (fun q => !(q.1 == i) && (!(q.1 == i + 1) && !(q.1 + 1 == i && zcat q.2 == 2))) = ls') (k : zV own cc nL ret d Post Γ (pc + 2) ls' (st) h) : zV own cc nL ret d Post Γ (pc) ls (zL x :: st) h := by
  obtain ⟨p, l, e, s, m, args, below, meth, c, D, ad, cI, cZ, cS⟩ := Γ
  intro Y hl hs hh H locs sl h1 h2 h3
  obtain ⟨yx, yb, ym, yr, yk, yo, yt, yK, yi, yn⟩ := id Y
  refine lv_lstore (lv' := ls'.map (fun q => (q.1, zc ad q.2))) yx yb hd h1 hn (by rw [z_filt2 ad, ← he]; rfl) (fun sl2 hs2 => ?_)
  exact k Y (z_filw hl hs.1 he) hs.2 hh H locs sl2 hs2 h2 h3
theorem z_lstore_n {i : Nat} {f : Fin 4} {x : Int64} (hd : decode cc pc = .ok (.lstore_n f, 1)) (hf : (f : Nat) = i) (hn : i + 1 < nL) (he : (i, zL x) :: ls.filter (fun q => !(q.1 == i) && (!(q.1 == i + 1) && !(q.1 + 1 == i && zcat q.2 == 2))) = ls') (k : zV own cc nL ret d Post Γ (pc + 1) ls' (st) h) : zV own cc nL ret d Post Γ (pc) ls (zL x :: st) h := by
  obtain ⟨p, l, e, s, m, args, below, meth, c, D, ad, cI, cZ, cS⟩ := Γ
  intro Y hl hs hh H locs sl h1 h2 h3
  obtain ⟨yx, yb, ym, yr, yk, yo, yt, yK, yi, yn⟩ := id Y
  refine lv_lstore_n (lv' := ls'.map (fun q => (q.1, zc ad q.2))) yx yb hd hf h1 hn (by rw [z_filt2 ad, ← he]; rfl) (fun sl2 hs2 => ?_)
  exact k Y (z_filw hl hs.1 he) hs.2 hh H locs sl2 hs2 h2 h3
theorem z_iinc {n i : Nat} {g a : Int} (hd : decode cc pc = .ok (.iinc i g, 3)) (hv : ls[n]? = some (i, zI a)) (hn : i < nL) (he : (i, zI (zwr (a + g))) :: ls.filter (fun q => !(q.1 == i) && !(q.1 + 1 == i && zcat q.2 == 2)) = ls') (k : zV own cc nL ret d Post Γ (pc + 3) ls' (st) h) : zV own cc nL ret d Post Γ (pc) ls (st) h := by
  obtain ⟨p, l, e, s, m, args, below, meth, c, D, ad, cI, cZ, cS⟩ := Γ
  intro Y hl hs hh H locs sl h1 h2 h3
  obtain ⟨yx, yb, ym, yr, yk, yo, yt, yK, yi, yn⟩ := id Y
  refine lv_iinc (k := n) (x := Int32.ofInt a) (v := Int32.ofInt (zwr (a + g))) (lv' := ls'.map (fun q => (q.1, zc ad q.2))) yx yb hd h1 (by rw [List.getElem?_map, hv]; rfl) (z_wr_add a g).symm hn (by rw [z_filt ad, ← he]; rfl) (fun sl2 hs2 => ?_)
  exact k Y (z_filw hl (v := zI (zwr (a + g))) (zw1_wr _) he) hs hh H locs sl2 hs2 h2 h3
theorem z_iadd {a b : Int} (hd : decode cc pc = .ok (.iadd, 1)) (k : zV own cc nL ret d Post Γ (pc + 1) ls (zI (zwr (a + b)) :: st) h) : zV own cc nL ret d Post Γ (pc) ls (zI b :: zI a :: st) h := by
  obtain ⟨p, l, e, s, m, args, below, meth, c, D, ad, cI, cZ, cS⟩ := Γ
  intro Y hl hs hh H locs sl h1 h2 h3
  obtain ⟨yx, yb, ym, yr, yk, yo, yt, yK, yi, yn⟩ := id Y
  refine lv_iadd yx yb hd ?_
  have k2 := k Y hl ⟨zw1_wr _, hs.2.2⟩ hh H locs sl h1 h2 h3
  rw [← z_wr_add]
  exact k2
theorem z_isub {a b : Int} (hd : decode cc pc = .ok (.isub, 1)) (k : zV own cc nL ret d Post Γ (pc + 1) ls (zI (zwr (a - b)) :: st) h) : zV own cc nL ret d Post Γ (pc) ls (zI b :: zI a :: st) h := by
  obtain ⟨p, l, e, s, m, args, below, meth, c, D, ad, cI, cZ, cS⟩ := Γ
  intro Y hl hs hh H locs sl h1 h2 h3
  obtain ⟨yx, yb, ym, yr, yk, yo, yt, yK, yi, yn⟩ := id Y
  refine lv_isub yx yb hd ?_
  have k2 := k Y hl ⟨zw1_wr _, hs.2.2⟩ hh H locs sl h1 h2 h3
  rw [← z_wr_sub]
  exact k2
theorem z_imul {a b : Int} (hd : decode cc pc = .ok (.imul, 1)) (k : zV own cc nL ret d Post Γ (pc + 1) ls (zI (zwr (a * b)) :: st) h) : zV own cc nL ret d Post Γ (pc) ls (zI b :: zI a :: st) h := by
  obtain ⟨p, l, e, s, m, args, below, meth, c, D, ad, cI, cZ, cS⟩ := Γ
  intro Y hl hs hh H locs sl h1 h2 h3
  obtain ⟨yx, yb, ym, yr, yk, yo, yt, yK, yi, yn⟩ := id Y
  refine lv_imul yx yb hd ?_
  have k2 := k Y hl ⟨zw1_wr _, hs.2.2⟩ hh H locs sl h1 h2 h3
  rw [← z_wr_mul]
  exact k2
theorem z_iand {a b : Int} (hd : decode cc pc = .ok (.iand, 1)) (k : zV own cc nL ret d Post Γ (pc + 1) ls (zI (zand a b) :: st) h) : zV own cc nL ret d Post Γ (pc) ls (zI b :: zI a :: st) h := by
  obtain ⟨p, l, e, s, m, args, below, meth, c, D, ad, cI, cZ, cS⟩ := Γ
  intro Y hl hs hh H locs sl h1 h2 h3
  obtain ⟨yx, yb, ym, yr, yk, yo, yt, yK, yi, yn⟩ := id Y
  refine lv_iand yx yb hd ?_
  have k2 := k Y hl ⟨zw1_to _, hs.2.2⟩ hh H locs sl h1 h2 h3
  simp only [List.map, zc, zand, Int32.ofInt_toInt] at k2
  exact k2
theorem z_ior {a b : Int} (hd : decode cc pc = .ok (.ior, 1)) (k : zV own cc nL ret d Post Γ (pc + 1) ls (zI (zor a b) :: st) h) : zV own cc nL ret d Post Γ (pc) ls (zI b :: zI a :: st) h := by
  obtain ⟨p, l, e, s, m, args, below, meth, c, D, ad, cI, cZ, cS⟩ := Γ
  intro Y hl hs hh H locs sl h1 h2 h3
  obtain ⟨yx, yb, ym, yr, yk, yo, yt, yK, yi, yn⟩ := id Y
  refine lv_ior yx yb hd ?_
  have k2 := k Y hl ⟨zw1_to _, hs.2.2⟩ hh H locs sl h1 h2 h3
  simp only [List.map, zc, zor, Int32.ofInt_toInt] at k2
  exact k2
theorem z_ixor {a b : Int} (hd : decode cc pc = .ok (.ixor, 1)) (k : zV own cc nL ret d Post Γ (pc + 1) ls (zI (zxor a b) :: st) h) : zV own cc nL ret d Post Γ (pc) ls (zI b :: zI a :: st) h := by
  obtain ⟨p, l, e, s, m, args, below, meth, c, D, ad, cI, cZ, cS⟩ := Γ
  intro Y hl hs hh H locs sl h1 h2 h3
  obtain ⟨yx, yb, ym, yr, yk, yo, yt, yK, yi, yn⟩ := id Y
  refine lv_ixor yx yb hd ?_
  have k2 := k Y hl ⟨zw1_to _, hs.2.2⟩ hh H locs sl h1 h2 h3
  simp only [List.map, zc, zxor, Int32.ofInt_toInt] at k2
  exact k2
theorem z_ishl {a b : Int} (hd : decode cc pc = .ok (.ishl, 1)) (k : zV own cc nL ret d Post Γ (pc + 1) ls (zI (zshl a b) :: st) h) : zV own cc nL ret d Post Γ (pc) ls (zI b :: zI a :: st) h := by
  obtain ⟨p, l, e, s, m, args, below, meth, c, D, ad, cI, cZ, cS⟩ := Γ
  intro Y hl hs hh H locs sl h1 h2 h3
  obtain ⟨yx, yb, ym, yr, yk, yo, yt, yK, yi, yn⟩ := id Y
  refine lv_ishl yx yb hd ?_
  have k2 := k Y hl ⟨zw1_to _, hs.2.2⟩ hh H locs sl h1 h2 h3
  simp only [List.map, zc, zshl, Int32.ofInt_toInt] at k2
  exact k2
theorem z_ishr {a b : Int} (hd : decode cc pc = .ok (.ishr, 1)) (k : zV own cc nL ret d Post Γ (pc + 1) ls (zI (zshr a b) :: st) h) : zV own cc nL ret d Post Γ (pc) ls (zI b :: zI a :: st) h := by
  obtain ⟨p, l, e, s, m, args, below, meth, c, D, ad, cI, cZ, cS⟩ := Γ
  intro Y hl hs hh H locs sl h1 h2 h3
  obtain ⟨yx, yb, ym, yr, yk, yo, yt, yK, yi, yn⟩ := id Y
  refine lv_ishr yx yb hd ?_
  have k2 := k Y hl ⟨zw1_to _, hs.2.2⟩ hh H locs sl h1 h2 h3
  simp only [List.map, zc, zshr, Int32.ofInt_toInt] at k2
  exact k2
theorem z_idiv {a b : Int} (hd : decode cc pc = .ok (.idiv, 1)) (hb : b ≠ 0) (k : zV own cc nL ret d Post Γ (pc + 1) ls (zI (zdiv a b) :: st) h) : zV own cc nL ret d Post Γ (pc) ls (zI b :: zI a :: st) h := by
  obtain ⟨p, l, e, s, m, args, below, meth, c, D, ad, cI, cZ, cS⟩ := Γ
  intro Y hl hs hh H locs sl h1 h2 h3
  obtain ⟨yx, yb, ym, yr, yk, yo, yt, yK, yi, yn⟩ := id Y
  refine lv_idiv yx yb hd (fun q => hb (z_ofInt_inj hs.1 zw1_0 q)) ?_
  have k2 := k Y hl ⟨zw1_to _, hs.2.2⟩ hh H locs sl h1 h2 h3
  simp only [List.map, zc, zdiv, Int32.ofInt_toInt] at k2
  exact k2
theorem z_irem {a b : Int} (hd : decode cc pc = .ok (.irem, 1)) (hb : b ≠ 0) (k : zV own cc nL ret d Post Γ (pc + 1) ls (zI (zrem a b) :: st) h) : zV own cc nL ret d Post Γ (pc) ls (zI b :: zI a :: st) h := by
  obtain ⟨p, l, e, s, m, args, below, meth, c, D, ad, cI, cZ, cS⟩ := Γ
  intro Y hl hs hh H locs sl h1 h2 h3
  obtain ⟨yx, yb, ym, yr, yk, yo, yt, yK, yi, yn⟩ := id Y
  refine lv_irem yx yb hd (fun q => hb (z_ofInt_inj hs.1 zw1_0 q)) ?_
  have k2 := k Y hl ⟨zw1_to _, hs.2.2⟩ hh H locs sl h1 h2 h3
  simp only [List.map, zc, zrem, Int32.ofInt_toInt] at k2
  exact k2
theorem z_iushr {a b : Int} (hd : decode cc pc = .ok (.iushr, 1)) (k : zV own cc nL ret d Post Γ (pc + 1) ls (zI (zushr a b) :: st) h) : zV own cc nL ret d Post Γ (pc) ls (zI b :: zI a :: st) h := by
  obtain ⟨p, l, e, s, m, args, below, meth, c, D, ad, cI, cZ, cS⟩ := Γ
  intro Y hl hs hh H locs sl h1 h2 h3
  obtain ⟨yx, yb, ym, yr, yk, yo, yt, yK, yi, yn⟩ := id Y
  refine lv_iushr yx yb hd rfl ?_
  have k2 := k Y hl ⟨zw1_to _, hs.2.2⟩ hh H locs sl h1 h2 h3
  simp only [List.map, zc, zushr, Int32.ofInt_toInt] at k2
  exact k2
theorem z_lshl {x : Int64} {b : Int} (hd : decode cc pc = .ok (.lshl, 1)) (k : zV own cc nL ret d Post Γ (pc + 1) ls (zL (zlshl x b) :: st) h) : zV own cc nL ret d Post Γ (pc) ls (zI b :: zL x :: st) h := by
  obtain ⟨p, l, e, s, m, args, below, meth, c, D, ad, cI, cZ, cS⟩ := Γ
  intro Y hl hs hh H locs sl h1 h2 h3
  obtain ⟨yx, yb, ym, yr, yk, yo, yt, yK, yi, yn⟩ := id Y
  refine lv_lshl yx yb hd rfl ?_
  exact k Y hl ⟨trivial, hs.2.2⟩ hh H locs sl h1 h2 h3
theorem z_lshr {x : Int64} {b : Int} (hd : decode cc pc = .ok (.lshr, 1)) (k : zV own cc nL ret d Post Γ (pc + 1) ls (zL (zlshr x b) :: st) h) : zV own cc nL ret d Post Γ (pc) ls (zI b :: zL x :: st) h := by
  obtain ⟨p, l, e, s, m, args, below, meth, c, D, ad, cI, cZ, cS⟩ := Γ
  intro Y hl hs hh H locs sl h1 h2 h3
  obtain ⟨yx, yb, ym, yr, yk, yo, yt, yK, yi, yn⟩ := id Y
  refine lv_lshr yx yb hd rfl ?_
  exact k Y hl ⟨trivial, hs.2.2⟩ hh H locs sl h1 h2 h3
theorem z_lor {x y : Int64} (hd : decode cc pc = .ok (.lor, 1)) (k : zV own cc nL ret d Post Γ (pc + 1) ls (zL (x ||| y) :: st) h) : zV own cc nL ret d Post Γ (pc) ls (zL y :: zL x :: st) h := by
  obtain ⟨p, l, e, s, m, args, below, meth, c, D, ad, cI, cZ, cS⟩ := Γ
  intro Y hl hs hh H locs sl h1 h2 h3
  obtain ⟨yx, yb, ym, yr, yk, yo, yt, yK, yi, yn⟩ := id Y
  refine lv_lor yx yb hd ?_
  exact k Y hl ⟨trivial, hs.2.2⟩ hh H locs sl h1 h2 h3
theorem z_land {x y : Int64} (hd : decode cc pc = .ok (.land, 1)) (k : zV own cc nL ret d Post Γ (pc + 1) ls (zL (x &&& y) :: st) h) : zV own cc nL ret d Post Γ (pc) ls (zL y :: zL x :: st) h := by
  obtain ⟨p, l, e, s, m, args, below, meth, c, D, ad, cI, cZ, cS⟩ := Γ
  intro Y hl hs hh H locs sl h1 h2 h3
  obtain ⟨yx, yb, ym, yr, yk, yo, yt, yK, yi, yn⟩ := id Y
  refine lv_land yx yb hd ?_
  exact k Y hl ⟨trivial, hs.2.2⟩ hh H locs sl h1 h2 h3
theorem z_dup {v : zA} (hd : decode cc pc = .ok (.dup, 1)) (hv : zcat v = 1) (k : zV own cc nL ret d Post Γ (pc + 1) ls (v :: v :: st) h) : zV own cc nL ret d Post Γ (pc) ls (v :: st) h := by
  obtain ⟨p, l, e, s, m, args, below, meth, c, D, ad, cI, cZ, cS⟩ := Γ
  intro Y hl hs hh H locs sl h1 h2 h3
  obtain ⟨yx, yb, ym, yr, yk, yo, yt, yK, yi, yn⟩ := id Y
  refine lv_dup yx yb hd (by rw [zc_cat]; exact hv) ?_
  exact k Y hl ⟨hs.1, hs⟩ hh H locs sl h1 h2 h3
theorem z_dup2 {v u : zA} (hd : decode cc pc = .ok (.dup2, 1)) (hv : zcat v = 1) (hu : zcat u = 1) (k : zV own cc nL ret d Post Γ (pc + 1) ls (v :: u :: v :: u :: st) h) : zV own cc nL ret d Post Γ (pc) ls (v :: u :: st) h := by
  obtain ⟨p, l, e, s, m, args, below, meth, c, D, ad, cI, cZ, cS⟩ := Γ
  intro Y hl hs hh H locs sl h1 h2 h3
  obtain ⟨yx, yb, ym, yr, yk, yo, yt, yK, yi, yn⟩ := id Y
  refine lv_dup2_11 yx yb hd (by rw [zc_cat]; exact hv) (by rw [zc_cat]; exact hu) ?_
  exact k Y hl ⟨hs.1, hs.2.1, hs⟩ hh H locs sl h1 h2 h3
theorem z_pop {v : zA} (hd : decode cc pc = .ok (.pop, 1)) (hv : zcat v = 1) (k : zV own cc nL ret d Post Γ (pc + 1) ls (st) h) : zV own cc nL ret d Post Γ (pc) ls (v :: st) h := by
  obtain ⟨p, l, e, s, m, args, below, meth, c, D, ad, cI, cZ, cS⟩ := Γ
  intro Y hl hs hh H locs sl h1 h2 h3
  obtain ⟨yx, yb, ym, yr, yk, yo, yt, yK, yi, yn⟩ := id Y
  refine lv_pop yx yb hd (by rw [zc_cat]; exact hv) ?_
  exact k Y hl hs.2 hh H locs sl h1 h2 h3
theorem z_goto {off : Int} {tgt : Nat} (hd : decode cc pc = .ok (.goto off, 3)) (ht : (pc : Int) + off = (tgt : Int)) (k : zV own cc nL ret d Post Γ (tgt) ls (st) h) : zV own cc nL ret d Post Γ (pc) ls (st) h := by
  obtain ⟨p, l, e, s, m, args, below, meth, c, D, ad, cI, cZ, cS⟩ := Γ
  intro Y hl hs hh H locs sl h1 h2 h3
  obtain ⟨yx, yb, ym, yr, yk, yo, yt, yK, yi, yn⟩ := id Y
  refine lv_goto yx yb hd ht ?_
  exact k Y hl hs hh H locs sl h1 h2 h3
theorem z_icmp_lt {a b off : Int} {tgt : Nat} (hd : decode cc pc = .ok (.if_icmp .lt off, 3)) (ht : (pc : Int) + off = (tgt : Int)) (kt : a < b → zV own cc nL ret d Post Γ (tgt) ls (st) h) (kf : ¬ (a < b) → zV own cc nL ret d Post Γ (pc + 3) ls (st) h) : zV own cc nL ret d Post Γ (pc) ls (zI b :: zI a :: st) h := by
  obtain ⟨p, l, e, s, m, args, below, meth, c, D, ad, cI, cZ, cS⟩ := Γ
  intro Y hl hs hh H locs sl h1 h2 h3
  obtain ⟨yx, yb, ym, yr, yk, yo, yt, yK, yi, yn⟩ := id Y
  exact lv_icmp_lt yx yb hd ht (fun q => kt ((z_lt hs.2.1 hs.1).mp q) Y hl hs.2.2 hh H locs sl h1 h2 h3) (fun q => kf (fun q2 => q ((z_lt hs.2.1 hs.1).mpr q2)) Y hl hs.2.2 hh H locs sl h1 h2 h3)
theorem z_if_lt {a off : Int} {tgt : Nat} (hd : decode cc pc = .ok (.ifCond .lt off, 3)) (ht : (pc : Int) + off = (tgt : Int)) (kt : a < 0 → zV own cc nL ret d Post Γ (tgt) ls (st) h) (kf : ¬ (a < 0) → zV own cc nL ret d Post Γ (pc + 3) ls (st) h) : zV own cc nL ret d Post Γ (pc) ls (zI a :: st) h := by
  obtain ⟨p, l, e, s, m, args, below, meth, c, D, ad, cI, cZ, cS⟩ := Γ
  intro Y hl hs hh H locs sl h1 h2 h3
  obtain ⟨yx, yb, ym, yr, yk, yo, yt, yK, yi, yn⟩ := id Y
  exact lv_if_lt yx yb hd ht (fun q => kt ((z_lt hs.1 zw1_0).mp q) Y hl hs.2 hh H locs sl h1 h2 h3) (fun q => kf (fun q2 => q ((z_lt hs.1 zw1_0).mpr q2)) Y hl hs.2 hh H locs sl h1 h2 h3)
theorem z_icmp_le {a b off : Int} {tgt : Nat} (hd : decode cc pc = .ok (.if_icmp .le off, 3)) (ht : (pc : Int) + off = (tgt : Int)) (kt : a ≤ b → zV own cc nL ret d Post Γ (tgt) ls (st) h) (kf : ¬ (a ≤ b) → zV own cc nL ret d Post Γ (pc + 3) ls (st) h) : zV own cc nL ret d Post Γ (pc) ls (zI b :: zI a :: st) h := by
  obtain ⟨p, l, e, s, m, args, below, meth, c, D, ad, cI, cZ, cS⟩ := Γ
  intro Y hl hs hh H locs sl h1 h2 h3
  obtain ⟨yx, yb, ym, yr, yk, yo, yt, yK, yi, yn⟩ := id Y
  exact lv_icmp_le yx yb hd ht (fun q => kt ((z_le hs.2.1 hs.1).mp q) Y hl hs.2.2 hh H locs sl h1 h2 h3) (fun q => kf (fun q2 => q ((z_le hs.2.1 hs.1).mpr q2)) Y hl hs.2.2 hh H locs sl h1 h2 h3)
theorem z_if_le {a off : Int} {tgt : Nat} (hd : decode cc pc = .ok (.ifCond .le off, 3)) (ht : (pc : Int) + off = (tgt : Int)) (kt : a ≤ 0 → zV own cc nL ret d Post Γ (tgt) ls (st) h) (kf : ¬ (a ≤ 0) → zV own cc nL ret d Post Γ (pc + 3) ls (st) h) : zV own cc nL ret d Post Γ (pc) ls (zI a :: st) h := by
  obtain ⟨p, l, e, s, m, args, below, meth, c, D, ad, cI, cZ, cS⟩ := Γ
  intro Y hl hs hh H locs sl h1 h2 h3
  obtain ⟨yx, yb, ym, yr, yk, yo, yt, yK, yi, yn⟩ := id Y
  exact lv_if_le yx yb hd ht (fun q => kt ((z_le hs.1 zw1_0).mp q) Y hl hs.2 hh H locs sl h1 h2 h3) (fun q => kf (fun q2 => q ((z_le hs.1 zw1_0).mpr q2)) Y hl hs.2 hh H locs sl h1 h2 h3)
theorem z_icmp_eq {a b off : Int} {tgt : Nat} (hd : decode cc pc = .ok (.if_icmp .eq off, 3)) (ht : (pc : Int) + off = (tgt : Int)) (kt : a = b → zV own cc nL ret d Post Γ (tgt) ls (st) h) (kf : ¬ (a = b) → zV own cc nL ret d Post Γ (pc + 3) ls (st) h) : zV own cc nL ret d Post Γ (pc) ls (zI b :: zI a :: st) h := by
  obtain ⟨p, l, e, s, m, args, below, meth, c, D, ad, cI, cZ, cS⟩ := Γ
  intro Y hl hs hh H locs sl h1 h2 h3
  obtain ⟨yx, yb, ym, yr, yk, yo, yt, yK, yi, yn⟩ := id Y
  exact lv_icmp_eq yx yb hd ht (fun q => kt ((z_eq hs.2.1 hs.1).mp q) Y hl hs.2.2 hh H locs sl h1 h2 h3) (fun q => kf (fun q2 => q ((z_eq hs.2.1 hs.1).mpr q2)) Y hl hs.2.2 hh H locs sl h1 h2 h3)
theorem z_if_eq {a off : Int} {tgt : Nat} (hd : decode cc pc = .ok (.ifCond .eq off, 3)) (ht : (pc : Int) + off = (tgt : Int)) (kt : a = 0 → zV own cc nL ret d Post Γ (tgt) ls (st) h) (kf : ¬ (a = 0) → zV own cc nL ret d Post Γ (pc + 3) ls (st) h) : zV own cc nL ret d Post Γ (pc) ls (zI a :: st) h := by
  obtain ⟨p, l, e, s, m, args, below, meth, c, D, ad, cI, cZ, cS⟩ := Γ
  intro Y hl hs hh H locs sl h1 h2 h3
  obtain ⟨yx, yb, ym, yr, yk, yo, yt, yK, yi, yn⟩ := id Y
  exact lv_if_eq yx yb hd ht (fun q => kt ((z_eq hs.1 zw1_0).mp q) Y hl hs.2 hh H locs sl h1 h2 h3) (fun q => kf (fun q2 => q ((z_eq hs.1 zw1_0).mpr q2)) Y hl hs.2 hh H locs sl h1 h2 h3)
theorem z_icmp_gt {a b off : Int} {tgt : Nat} (hd : decode cc pc = .ok (.if_icmp .gt off, 3)) (ht : (pc : Int) + off = (tgt : Int)) (kt : b < a → zV own cc nL ret d Post Γ (tgt) ls (st) h) (kf : ¬ (b < a) → zV own cc nL ret d Post Γ (pc + 3) ls (st) h) : zV own cc nL ret d Post Γ (pc) ls (zI b :: zI a :: st) h := by
  obtain ⟨p, l, e, s, m, args, below, meth, c, D, ad, cI, cZ, cS⟩ := Γ
  intro Y hl hs hh H locs sl h1 h2 h3
  obtain ⟨yx, yb, ym, yr, yk, yo, yt, yK, yi, yn⟩ := id Y
  exact lv_icmp_gt yx yb hd ht (fun q => kt ((z_lt hs.1 hs.2.1).mp q) Y hl hs.2.2 hh H locs sl h1 h2 h3) (fun q => kf (fun q2 => q ((z_lt hs.1 hs.2.1).mpr q2)) Y hl hs.2.2 hh H locs sl h1 h2 h3)
theorem z_if_gt {a off : Int} {tgt : Nat} (hd : decode cc pc = .ok (.ifCond .gt off, 3)) (ht : (pc : Int) + off = (tgt : Int)) (kt : 0 < a → zV own cc nL ret d Post Γ (tgt) ls (st) h) (kf : ¬ (0 < a) → zV own cc nL ret d Post Γ (pc + 3) ls (st) h) : zV own cc nL ret d Post Γ (pc) ls (zI a :: st) h := by
  obtain ⟨p, l, e, s, m, args, below, meth, c, D, ad, cI, cZ, cS⟩ := Γ
  intro Y hl hs hh H locs sl h1 h2 h3
  obtain ⟨yx, yb, ym, yr, yk, yo, yt, yK, yi, yn⟩ := id Y
  exact lv_if_gt yx yb hd ht (fun q => kt ((z_lt zw1_0 hs.1).mp q) Y hl hs.2 hh H locs sl h1 h2 h3) (fun q => kf (fun q2 => q ((z_lt zw1_0 hs.1).mpr q2)) Y hl hs.2 hh H locs sl h1 h2 h3)
theorem z_icmp_ge {a b off : Int} {tgt : Nat} (hd : decode cc pc = .ok (.if_icmp .ge off, 3)) (ht : (pc : Int) + off = (tgt : Int)) (kt : b ≤ a → zV own cc nL ret d Post Γ (tgt) ls (st) h) (kf : ¬ (b ≤ a) → zV own cc nL ret d Post Γ (pc + 3) ls (st) h) : zV own cc nL ret d Post Γ (pc) ls (zI b :: zI a :: st) h := by
  obtain ⟨p, l, e, s, m, args, below, meth, c, D, ad, cI, cZ, cS⟩ := Γ
  intro Y hl hs hh H locs sl h1 h2 h3
  obtain ⟨yx, yb, ym, yr, yk, yo, yt, yK, yi, yn⟩ := id Y
  exact lv_icmp_ge yx yb hd ht (fun q => kt ((z_le hs.1 hs.2.1).mp q) Y hl hs.2.2 hh H locs sl h1 h2 h3) (fun q => kf (fun q2 => q ((z_le hs.1 hs.2.1).mpr q2)) Y hl hs.2.2 hh H locs sl h1 h2 h3)
theorem z_if_ge {a off : Int} {tgt : Nat} (hd : decode cc pc = .ok (.ifCond .ge off, 3)) (ht : (pc : Int) + off = (tgt : Int)) (kt : 0 ≤ a → zV own cc nL ret d Post Γ (tgt) ls (st) h) (kf : ¬ (0 ≤ a) → zV own cc nL ret d Post Γ (pc + 3) ls (st) h) : zV own cc nL ret d Post Γ (pc) ls (zI a :: st) h := by
  obtain ⟨p, l, e, s, m, args, below, meth, c, D, ad, cI, cZ, cS⟩ := Γ
  intro Y hl hs hh H locs sl h1 h2 h3
  obtain ⟨yx, yb, ym, yr, yk, yo, yt, yK, yi, yn⟩ := id Y
  exact lv_if_ge yx yb hd ht (fun q => kt ((z_le zw1_0 hs.1).mp q) Y hl hs.2 hh H locs sl h1 h2 h3) (fun q => kf (fun q2 => q ((z_le zw1_0 hs.1).mpr q2)) Y hl hs.2 hh H locs sl h1 h2 h3)
theorem z_icmp_ne {a b off : Int} {tgt : Nat} (hd : decode cc pc = .ok (.if_icmp .ne off, 3)) (ht : (pc : Int) + off = (tgt : Int)) (kt : ¬ a = b → zV own cc nL ret d Post Γ (tgt) ls (st) h) (kf : a = b → zV own cc nL ret d Post Γ (pc + 3) ls (st) h) : zV own cc nL ret d Post Γ (pc) ls (zI b :: zI a :: st) h := by
  obtain ⟨p, l, e, s, m, args, below, meth, c, D, ad, cI, cZ, cS⟩ := Γ
  intro Y hl hs hh H locs sl h1 h2 h3
  obtain ⟨yx, yb, ym, yr, yk, yo, yt, yK, yi, yn⟩ := id Y
  exact lv_icmp_ne yx yb hd ht (fun q => kt (fun q2 => q ((z_eq hs.2.1 hs.1).mpr q2)) Y hl hs.2.2 hh H locs sl h1 h2 h3) (fun q => kf ((z_eq hs.2.1 hs.1).mp q) Y hl hs.2.2 hh H locs sl h1 h2 h3)
theorem z_if_ne {a off : Int} {tgt : Nat} (hd : decode cc pc = .ok (.ifCond .ne off, 3)) (ht : (pc : Int) + off = (tgt : Int)) (kt : ¬ a = 0 → zV own cc nL ret d Post Γ (tgt) ls (st) h) (kf : a = 0 → zV own cc nL ret d Post Γ (pc + 3) ls (st) h) : zV own cc nL ret d Post Γ (pc) ls (zI a :: st) h := by
  obtain ⟨p, l, e, s, m, args, below, meth, c, D, ad, cI, cZ, cS⟩ := Γ
  intro Y hl hs hh H locs sl h1 h2 h3
  obtain ⟨yx, yb, ym, yr, yk, yo, yt, yK, yi, yn⟩ := id Y
  exact lv_if_ne yx yb hd ht (fun q => kt (fun q2 => q ((z_eq hs.1 zw1_0).mpr q2)) Y hl hs.2 hh H locs sl h1 h2 h3) (fun q => kf ((z_eq hs.1 zw1_0).mp q) Y hl hs.2 hh H locs sl h1 h2 h3)
theorem z_tableIn {dflt lo hi : Int} {offs : Array Int} {len n : Nat} {a off : Int} {tgt : Nat} (hd : decode cc pc = .ok (.tableswitch dflt lo hi offs, len)) (ha : a = lo + (n : Int)) (h2 : lo + (n : Int) ≤ hi) (ho : offs[n]? = some off) (ht : (pc : Int) + off = (tgt : Int)) (k : zV own cc nL ret d Post Γ (tgt) ls (st) h) : zV own cc nL ret d Post Γ (pc) ls (zI a :: st) h := by
  obtain ⟨p, l, e, s, m, args, below, meth, c, D, ad, cI, cZ, cS⟩ := Γ
  intro Y hl hs hh H locs sl h1 h2_ h3
  obtain ⟨yx, yb, ym, yr, yk, yo, yt, yK, yi, yn⟩ := id Y
  have ea : (Int32.ofInt a).toInt = a := hs.1
  refine lv_tableIn yx yb hd (by rw [ea]; omega) (by rw [ea]; omega) (off := off) (by rw [ea, ha, show (lo + (n : Int) - lo).toNat = n by omega]; exact ho) ht ?_
  exact k Y hl hs.2 hh H locs sl h1 h2_ h3
theorem z_tableOut {dflt lo hi : Int} {offs : Array Int} {len : Nat} {a : Int} {tgt : Nat} (hd : decode cc pc = .ok (.tableswitch dflt lo hi offs, len)) (ha : a < lo ∨ hi < a) (ht : (pc : Int) + dflt = (tgt : Int)) (k : zV own cc nL ret d Post Γ (tgt) ls (st) h) : zV own cc nL ret d Post Γ (pc) ls (zI a :: st) h := by
  obtain ⟨p, l, e, s, m, args, below, meth, c, D, ad, cI, cZ, cS⟩ := Γ
  intro Y hl hs hh H locs sl h1 h2 h3
  obtain ⟨yx, yb, ym, yr, yk, yo, yt, yK, yi, yn⟩ := id Y
  have ea : (Int32.ofInt a).toInt = a := hs.1
  refine lv_tableOut yx yb hd (by rw [ea]; exact ha) ht ?_
  exact k Y hl hs.2 hh H locs sl h1 h2 h3
theorem z_lookup {dflt : Int} {ps : Array (Int × Int)} {len : Nat} {a off : Int} {tgt : Nat} (hd : decode cc pc = .ok (.lookupswitch dflt ps, len)) (hp : (ps.toList.zip (ps.toList.drop 1)).all (fun (a, next) => a.1 < next.1) = true) (ho : Op.lookupswitch.offset ps.toList dflt a = off) (ht : (pc : Int) + off = (tgt : Int)) (k : zV own cc nL ret d Post Γ (tgt) ls (st) h) : zV own cc nL ret d Post Γ (pc) ls (zI a :: st) h := by
  obtain ⟨p, l, e, s, m, args, below, meth, c, D, ad, cI, cZ, cS⟩ := Γ
  intro Y hl hs hh H locs sl h1 h2 h3
  obtain ⟨yx, yb, ym, yr, yk, yo, yt, yK, yi, yn⟩ := id Y
  have ea : (Int32.ofInt a).toInt = a := hs.1
  refine lv_lookup yx yb hd hp (off := off) (by rw [ea]; exact ho) ht ?_
  exact k Y hl hs.2 hh H locs sl h1 h2 h3
theorem z_ifnonnullR {x : Nat} {off : Int} {tgt : Nat} (hd : decode cc pc = .ok (.ifnonnull off, 3)) (ht : (pc : Int) + off = (tgt : Int)) (k : zV own cc nL ret d Post Γ (tgt) ls (st) h) : zV own cc nL ret d Post Γ (pc) ls (zR x :: st) h := by
  obtain ⟨p, l, e, s, m, args, below, meth, c, D, ad, cI, cZ, cS⟩ := Γ
  intro Y hl hs hh H locs sl h1 h2 h3
  obtain ⟨yx, yb, ym, yr, yk, yo, yt, yK, yi, yn⟩ := id Y
  refine lv_ifnonnull yx yb hd ht ?_
  exact k Y hl hs.2 hh H locs sl h1 h2 h3
end zrows
