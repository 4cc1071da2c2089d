/-! the law's body: its loop over the script -/
theorem i2c_bd (x : Int32) : 0 ≤ ((x.toUInt32 % 65536).toInt32).toInt ∧ ((x.toUInt32 % 65536).toInt32).toInt ≤ 65535 := by
  have h : (x.toUInt32 % 65536).toNat < 65536 := by
    rw [UInt32.toNat_mod]
    exact Nat.mod_lt _ (by decide)
  generalize x.toUInt32 % 65536 = u at h
  have e : (u.toInt32).toInt = (u.toNat : Int) := by
    show u.toBitVec.toInt = _
    rw [BitVec.toInt_eq_toNat_cond, if_pos]
    · rfl
    · show 2 * u.toNat < 2 ^ 32
      omega
  rw [e]; omega
theorem and31_bd (x : Int32) : 0 ≤ (x &&& 31).toInt ∧ (x &&& 31).toInt ≤ 31 := by
  have h : (x &&& 31).toBitVec.toNat ≤ 31 := by
    rw [Int32.toBitVec_and, BitVec.toNat_and]
    exact Nat.and_le_right
  have e : (x &&& 31).toInt = ((x &&& 31).toBitVec.toNat : Int) := by
    show (x &&& 31).toBitVec.toInt = _
    rw [BitVec.toInt_eq_toNat_cond, if_pos]
    omega
  rw [e]; omega
abbrev lCx : Type := Program × Launch × Env × State × MethodId × List Frame × Method × Code × va_G × (Nat → Nat) × gZ × Nat × Nat × (Nat → Int32) × (State → Prop)
def lHy (Γ : lCx) : Prop := match Γ with
  | (p, _, _, s, m, _, _, c, D, ad, Z, b, L, xs, _) => p.tables.exec = Jvm.exec ∧ c.code = code ∧ c.maxLocals = 4 ∧ s.vm.findClass "LentPartsLaw" = some m.cls ∧ (∀ w ∈ zT, w.before #[Value.ref b] s = true) ∧ va_K D vwCl (gK Z) s ∧ (∀ i j, i < 140 → j < 140 → ad i = ad j → i = j) ∧ (∀ i, i < 140 → s.heap.size ≤ ad i) ∧ zNe s ∧ va_X b L xs s s.heap ∧ b < s.heap.size
def lL (Γ : lCx) : Nat := match Γ with
  | (_, _, _, _, _, _, _, _, _, _, _, _, L, _, _) => L
def lX (Γ : lCx) : Nat → Int32 := match Γ with
  | (_, _, _, _, _, _, _, _, _, _, _, _, _, xs, _) => xs
abbrev lA (s : State) : Nat → Prop := fun q : Nat => s.heap.size ≤ q
abbrev lLs (ad : Nat → Nat) (b i : Nat) : List (Nat × Value) := [(3, .int (Int32.ofInt (i : Int))), (2, .ref (ad 128)), (1, .ref (ad 0)), (0, .ref b)]
def lV (Γ : lCx) (i pc : Nat) (st : List zA) (h : zH) : Prop := match Γ with
  | (p, l, e, s, m, below, meth, c, D, ad, Z, b, L, xs, Q) => lHy (p, l, e, s, m, below, meth, c, D, ad, Z, b, L, xs, Q) → zwS st → zwH h → ∀ (H : Heap) (locs : List Loc) (sl : Array Slot), lv_has sl 4 (lLs ad b i) → va_P D vwCl (zW ad Z.1 Z.2.1 Z.2.2 h) H → va_S (lA s) s.heap H locs → W p l e room_1 s m #[Value.ref b] below meth c H locs 140 6356 Q (F0 m pc sl (st.map (zc ad)))
section lrows
variable {Γ : lCx} {i pc : Nat} {st : List zA} {h : zH}
theorem l_aload1 (hd : decode code pc = .ok (.aload_n 1, 1)) (k : lV Γ i (pc + 1) (zR 0 :: st) h) : lV Γ i pc st h := by
  obtain ⟨p, l, e, s, m, below, meth, c, D, ad, Z, b, L, xs, Q⟩ := Γ
  intro Y hs hh H locs sl h1 h2 h3
  obtain ⟨yx, yb, ym, yo, yt, yK, yi, ya, yn, yX, yl⟩ := id Y
  refine lv_aload_n yx yb hd rfl (lv_at h1 2 rfl) ?_
  exact k Y ⟨trivial, hs⟩ hh H locs sl h1 h2 h3
theorem l_aload2 (hd : decode code pc = .ok (.aload_n 2, 1)) (k : lV Γ i (pc + 1) (zR 128 :: st) h) : lV Γ i pc st h := by
  obtain ⟨p, l, e, s, m, below, meth, c, D, ad, Z, b, L, xs, Q⟩ := Γ
  intro Y hs hh H locs sl h1 h2 h3
  obtain ⟨yx, yb, ym, yo, yt, yK, yi, ya, yn, yX, yl⟩ := id Y
  refine lv_aload_n yx yb hd rfl (lv_at h1 1 rfl) ?_
  exact k Y ⟨trivial, hs⟩ hh H locs sl h1 h2 h3
theorem l_arg {n : Nat} {nn : Int} (hn : (n : Int) = nn) (hb : i + n < lL Γ) (hb2 : i + n < 100000) (d0 : decode code pc = .ok (.aload_n 0, 1)) (d1 : decode code (pc + 1) = .ok (.iload_n 3, 1)) (d2 : decode code (pc + 1 + 1) = .ok (.iconst nn, 1)) (d3 : decode code (pc + 1 + 1 + 1) = .ok (.iadd, 1)) (d4 : decode code (pc + 1 + 1 + 1 + 1) = .ok (.iaload, 1)) (k : lV Γ i (pc + 1 + 1 + 1 + 1 + 1) (zI (lX Γ (i + n)).toInt :: st) h) : lV Γ i pc st h := by
  obtain ⟨p, l, e, s, m, below, meth, c, D, ad, Z, b, L, xs, Q⟩ := Γ
  intro Y hs hh H locs sl h1 h2 h3
  obtain ⟨yx, yb, ym, yo, yt, yK, yi, ya, yn, yX, yl⟩ := id Y
  have hb : i + n < L := hb
  refine lv_aload_n yx yb d0 rfl (lv_at h1 3 rfl) ?_
  refine lv_iload_n yx yb d1 rfl (lv_at h1 0 rfl) ?_
  refine lv_iconst yx yb d2 (v := Int32.ofInt nn) rfl ?_
  refine lv_iadd yx yb d3 ?_
  have ea : Int32.ofInt (i : Int) + Int32.ofInt nn = Int32.ofInt ((i + n : Nat) : Int) := by
    rw [← Int32.ofInt_add, show ((i + n : Nat) : Int) = (i : Int) + nn by omega]
  rw [ea]
  have zz1 : zw1 ((i + n : Nat) : Int) := zw1_of (by omega) (by omega)
  refine va_sld yx yb yX yl (Nat.not_le.mpr yl) h3 (z_in zz1 (by omega) (by omega)) d4 ?_
  rw [z_cl zz1, Int.toNat_natCast]
  have kk := k Y ⟨zw1_to _, hs⟩ hh H locs sl h1 h2 h3
  have ez : zc ad (zI (xs (i + n)).toInt) = .int (xs (i + n)) := by
    show Value.int (Int32.ofInt (xs (i + n)).toInt) = _
    rw [Int32.ofInt_toInt]
  rw [List.map_cons] at kk
  rw [show zc ad (zI (lX (p, l, e, s, m, below, meth, c, D, ad, Z, b, L, xs, Q) (i + n)).toInt) = .int (xs (i + n)) from ez] at kk
  exact kk
theorem l_i2c {x : Int32} (hd : decode code pc = .ok (.i2c, 1)) (k : ∀ a : Int, 0 ≤ a ∧ a ≤ 65535 → a = ((x.toUInt32 % 65536).toInt32).toInt → lV Γ i (pc + 1) (zI a :: st) h) : lV Γ i pc (zI x.toInt :: st) h := by
  have kk := k _ (i2c_bd x) rfl
  obtain ⟨p, l, e, s, m, below, meth, c, D, ad, Z, b, L, xs, Q⟩ := Γ
  intro Y hs hh H locs sl h1 h2 h3
  obtain ⟨yx, yb, ym, yo, yt, yK, yi, ya, yn, yX, yl⟩ := id Y
  refine lv_i2c (x := Int32.ofInt x.toInt) (v := Int32.ofInt ((x.toUInt32 % 65536).toInt32).toInt) yx yb hd (by rw [Int32.ofInt_toInt, Int32.ofInt_toInt]) ?_
  exact kk Y ⟨zw1_to _, hs.2⟩ hh H locs sl h1 h2 h3
theorem l_ifeq {a off : Int} {tgt : Nat} (hd : decode code pc = .ok (.ifCond .eq off, 3)) (ht : (pc : Int) + off = (tgt : Int)) (kt : a = 0 → lV Γ i tgt st h) (kf : ¬ a = 0 → lV Γ i (pc + 3) st h) : lV Γ i pc (zI a :: st) h := by
  obtain ⟨p, l, e, s, m, below, meth, c, D, ad, Z, b, L, xs, Q⟩ := Γ
  intro Y hs hh H locs sl h1 h2 h3
  obtain ⟨yx, yb, ym, yo, yt, yK, yi, ya, yn, yX, yl⟩ := id Y
  exact lv_if_eq yx yb hd ht (fun q => kt ((z_eq hs.1 zw1_0).mp q) Y hs.2 hh H locs sl h1 h2 h3) (fun q => kf (fun q2 => q ((z_eq hs.1 zw1_0).mpr q2)) Y hs.2 hh H locs sl h1 h2 h3)
theorem l_iconst {n : Int} (hd : decode code pc = .ok (.iconst n, 1)) (ha : zw1 n) (k : lV Γ i (pc + 1) (zI n :: st) h) : lV Γ i pc st h := by
  obtain ⟨p, l, e, s, m, below, meth, c, D, ad, Z, b, L, xs, Q⟩ := Γ
  intro Y hs hh H locs sl h1 h2 h3
  obtain ⟨yx, yb, ym, yo, yt, yK, yi, ya, yn, yX, yl⟩ := id Y
  refine lv_iconst yx yb hd (v := Int32.ofInt n) rfl ?_
  exact k Y ⟨ha, hs⟩ hh H locs sl h1 h2 h3
theorem l_goto {off : Int} {tgt : Nat} (hd : decode code pc = .ok (.goto off, 3)) (ht : (pc : Int) + off = (tgt : Int)) (k : lV Γ i tgt st h) : lV Γ i pc st h := by
  obtain ⟨p, l, e, s, m, below, meth, c, D, ad, Z, b, L, xs, Q⟩ := Γ
  intro Y hs hh H locs sl h1 h2 h3
  obtain ⟨yx, yb, ym, yo, yt, yK, yi, ya, yn, yX, yl⟩ := id Y
  refine lv_goto yx yb hd ht ?_
  exact k Y hs hh H locs sl h1 h2 h3
theorem l_same {a off : Int} {tgt : Nat} (hd : decode code pc = .ok (.if_icmp .eq off, 3)) (ht : (pc : Int) + off = (tgt : Int)) (kt : lV Γ i tgt st h) : lV Γ i pc (zI a :: zI a :: st) h := by
  obtain ⟨p, l, e, s, m, below, meth, c, D, ad, Z, b, L, xs, Q⟩ := Γ
  intro Y hs hh H locs sl h1 h2 h3
  obtain ⟨yx, yb, ym, yo, yt, yK, yi, ya, yn, yX, yl⟩ := id Y
  exact lv_icmp_eq yx yb hd ht (fun _ => kt Y hs.2.2 hh H locs sl h1 h2 h3) (fun q => absurd rfl q)
theorem l_next (d1 : decode code 843 = .ok (.iinc 3 5, 3)) (d2 : decode code 846 = .ok (.goto (-828), 3)) (hb : i < 100000) (k : lV Γ (i + 5) 18 st h) : lV Γ i 843 st h := by
  obtain ⟨p, l, e, s, m, below, meth, c, D, ad, Z, b, L, xs, Q⟩ := Γ
  intro Y hs hh H locs sl h1 h2 h3
  obtain ⟨yx, yb, ym, yo, yt, yK, yi, ya, yn, yX, yl⟩ := id Y
  refine lv_iinc (k := 0) (x := Int32.ofInt (i : Int)) (v := Int32.ofInt ((i + 5 : Nat) : Int)) (lv' := lLs ad b (i + 5)) yx yb d1 h1 rfl (by rw [← Int32.ofInt_add, show ((i + 5 : Nat) : Int) = (i : Int) + 5 by omega]) (by decide) rfl (fun sl2 hs2 => ?_)
  refine lv_goto (tgt := 18) yx yb d2 rfl ?_
  exact k Y hs hh H locs sl2 hs2 h2 h3
theorem l_head (hb : i < 100000) (hL : lL Γ < 100000) (d0 : decode code 18 = .ok (.iload_n 3, 1)) (d1 : decode code 19 = .ok (.aload_n 0, 1)) (d2 : decode code 20 = .ok (.arraylength, 1)) (d3 : decode code 21 = .ok (.iconst 5, 1)) (d4 : decode code 22 = .ok (.isub, 1)) (d5 : decode code 23 = .ok (.if_icmp .gt 826, 3)) (kt : lL Γ < i + 5 → lV Γ i 849 st h) (kf : i + 5 ≤ lL Γ → lV Γ i 26 st h) : lV Γ i 18 st h := by
  obtain ⟨p, l, e, s, m, below, meth, c, D, ad, Z, b, L, xs, Q⟩ := Γ
  intro Y hs hh H locs sl h1 h2 h3
  obtain ⟨yx, yb, ym, yo, yt, yK, yi, ya, yn, yX, yl⟩ := id Y
  have hL : L < 100000 := hL
  refine lv_iload_n yx yb d0 rfl (lv_at h1 0 rfl) ?_
  refine lv_aload_n yx yb d1 rfl (lv_at h1 3 rfl) ?_
  refine va_slen yx yb yX yl (Nat.not_le.mpr yl) h3 d2 ?_
  refine lv_iconst yx yb d3 (v := Int32.ofInt 5) rfl ?_
  refine lv_isub yx yb d4 ?_
  have ea : Int32.ofNat L - Int32.ofInt 5 = Int32.ofInt ((L : Int) - 5) := by
    rw [show Int32.ofNat L = Int32.ofInt (L : Int) from (Int32.ofInt_eq_ofNat).symm, ← Int32.ofInt_sub]
  rw [ea]
  have z1 : zw1 ((L : Int) - 5) := zw1_of (by omega) (by omega)
  have z2 : zw1 (i : Int) := zw1_of (by omega) (by omega)
  refine lv_icmp_gt (tgt := 849) yx yb d5 rfl (fun q => ?_) (fun q => ?_)
  · have := (z_lt z1 z2).mp q
    exact kt (show L < i + 5 by omega) Y hs hh H locs sl h1 h2 h3
  · have : ¬ ((L : Int) - 5 < (i : Int)) := fun w => q ((z_lt z1 z2).mpr w)
    exact kf (show i + 5 ≤ L by omega) Y hs hh H locs sl h1 h2 h3
theorem l_sw (hb : i < lL Γ) (hb2 : i < 100000) (d0 : decode code 26 = .ok (.aload_n 0, 1)) (d1 : decode code 27 = .ok (.iload_n 3, 1)) (d2 : decode code 28 = .ok (.iaload, 1)) (d3 : decode code 29 = .ok (.bipush 31, 2)) (d4 : decode code 31 = .ok (.iand, 1)) (k : ∀ a : Int, 0 ≤ a ∧ a ≤ 31 → lV Γ i 32 (zI a :: st) h) : lV Γ i 26 st h := by
  have kk := k _ (and31_bd (lX Γ i))
  obtain ⟨p, l, e, s, m, below, meth, c, D, ad, Z, b, L, xs, Q⟩ := Γ
  intro Y hs hh H locs sl h1 h2 h3
  obtain ⟨yx, yb, ym, yo, yt, yK, yi, ya, yn, yX, yl⟩ := id Y
  have hb : i < L := hb
  refine lv_aload_n yx yb d0 rfl (lv_at h1 3 rfl) ?_
  refine lv_iload_n yx yb d1 rfl (lv_at h1 0 rfl) ?_
  have zz1 : zw1 (i : Int) := zw1_of (by omega) (by omega)
  refine va_sld yx yb yX yl (Nat.not_le.mpr yl) h3 (z_in zz1 (by omega) (by omega)) d2 ?_
  rw [z_cl zz1, Int.toNat_natCast]
  refine lv_bipush yx yb d3 (v := 31) rfl ?_
  refine lv_iand yx yb d4 ?_
  have k2 := kk Y ⟨zw1_to _, hs⟩ hh H locs sl h1 h2 h3
  have ez : zc ad (zI (xs i &&& 31).toInt) = .int (xs i &&& 31) := by
    show Value.int (Int32.ofInt (xs i &&& 31).toInt) = _
    rw [Int32.ofInt_toInt]
  rw [List.map_cons] at k2
  rw [show zc ad (zI (lX (p, l, e, s, m, below, meth, c, D, ad, Z, b, L, xs, Q) i &&& 31).toInt) = .int (xs i &&& 31) from ez] at k2
  exact k2
theorem l_tableIn {dflt lo hi : Int} {offs : Array Int} {len n : Nat} {a off : Int} {tgt : Nat} (hd : decode code pc = .ok (.tableswitch dflt lo hi offs, len)) (ha : a = lo + (n : Int)) (hle : lo + (n : Int) ≤ hi) (ho : offs[n]? = some off) (ht : (pc : Int) + off = (tgt : Int)) (k : lV Γ i tgt st h) : lV Γ i pc (zI a :: st) h := by
  obtain ⟨p, l, e, s, m, below, meth, c, D, ad, Z, b, L, xs, Q⟩ := Γ
  intro Y hs hh H locs sl h1 h2 h3
  obtain ⟨yx, yb, ym, yo, yt, yK, yi, ya, yn, yX, yl⟩ := id Y
  have ea : (Int32.ofInt a).toInt = a := hs.1
  refine lv_tableIn yx yb hd (by rw [ea]; omega) (by rw [ea]; omega) (off := off) (by rw [ea, ha, show (lo + (n : Int) - lo).toNat = n by omega]; exact ho) ht ?_
  exact k Y hs.2 hh H locs sl h1 h2 h3
theorem l_tableOut {dflt lo hi : Int} {offs : Array Int} {len : Nat} {a : Int} {tgt : Nat} (hd : decode code pc = .ok (.tableswitch dflt lo hi offs, len)) (ha : a < lo ∨ hi < a) (ht : (pc : Int) + dflt = (tgt : Int)) (k : lV Γ i tgt st h) : lV Γ i pc (zI a :: st) h := by
  obtain ⟨p, l, e, s, m, below, meth, c, D, ad, Z, b, L, xs, Q⟩ := Γ
  intro Y hs hh H locs sl h1 h2 h3
  obtain ⟨yx, yb, ym, yo, yt, yK, yi, ya, yn, yX, yl⟩ := id Y
  have ea : (Int32.ofInt a).toInt = a := hs.1
  refine lv_tableOut yx yb hd (by rw [ea]; exact ha) ht ?_
  exact k Y hs.2 hh H locs sl h1 h2 h3
theorem l_call {M : zM} {n ix d2 : Nat} {as full : List zA} {Post2 : Option zA → zH → Prop} {q ci N : Nat} {T : u_T} {fs : (Nat → Nat) → (Nat → Int32) → List Value} (hM : zSp d2 M (zR q :: as) h Post2) (ho : zObj q ci fs) (hc : vwCl[ci]? = some (M.1.cls, T, N)) (hmi : zMi M) (hm : zMv M n) (hd2 : d2 ≤ 100 ∧ M.2.2.1 ≤ 41) (hw : Cond.methodLink "LentPartsLaw" ix M.1 ∈ zT) (hd : decode code pc = .ok (.invokevirtual ix, 3)) (hn : as.length = n) (hst : (st.map zcat).sum ≤ 8) (hf : as.reverse ++ zR q :: st = full) (kk : ∀ r h', Post2 r h' → lV Γ i (pc + 3) (r.toList ++ st) h') : lV Γ i pc full h := by
  obtain ⟨p, l, e, s, m, below, meth, c, D, ad, Z, b, L, xs, Q⟩ := Γ
  intro Y hs hh H locs sl h1 h2 h3
  obtain ⟨yx, yb, ym, yo, yt, yK, yi, ya, yn, yX, yl⟩ := id Y
  subst hf
  have hwa : zwS as := zwS_rev.mp (zwS_app.mp hs).1
  have hwst : zwS st := (zwS_app.mp hs).2.2
  have he : (zW ad Z.1 Z.2.1 Z.2.2 h)[q]? = some (ad q, .inr (ci, fs ad (fun j => Int32.ofInt (h q j)))) := by rw [zW_get ho.1, ho.2]
  have hcb := callB_of (R := room_1) (s := s) (args := #[Value.ref b]) (Ts := zT) (ws := zws M) (own := "LentPartsLaw") (index := ix) (y := M.1) (bytes := M.2.1) (maxL := M.2.2.1) (ret := M.2.2.2) (rm := zRm d2) (mc := 0) (ms := 0) n yt (z_gin hm) rfl rfl rfl (yt _ hm.2.1) (yt _ hw) ⟨hm.2.2.1.1, hm.2.2.1.2, hm.2.2.2⟩ ⟨by have := hd2.1; show d2 + 1 ≤ 2048; omega, by have := hd2.1; have := hd2.2; show 8 + (M.2.2.1 + 11) + 60 * d2 ≤ 84000; omega⟩
  have hr := va_runV (As := as.map (zc ad)) (rest := st.map (zc ad)) (b := ad q) (C := M.1.cls) (g := F0 m pc sl ((as.reverse ++ zR q :: st).map (zc ad))) ⟨yx, yb, ym, yo, yt⟩ (hM l D ad Z.1 Z.2.1 Z.2.2 yi) ⟨hcb, yt _ hmi.1, yt _ hmi.2⟩ ⟨z_blind, va_recv yK h2 hc he, fun U hU hW => ⟨rfl, ⟨trivial, hwa⟩, hh, by rw [hU]; exact h2, va_K.moved hW.alike yK, yn.warm hW⟩⟩ rfl (by rw [List.length_map]; exact hn) h1.1 (by simp [zc]) (lv_room (rest := st.map (zc ad)) (m := m) (pc := pc) (ls := sl) (by rw [z_sum]; exact hst)) hd ⟨Nat.le_of_ble_eq_true rfl, Nat.le_of_ble_eq_true rfl⟩ (cells := 140) (slots := 6356) (locs := locs) (p := p) (e := e) (R := room_1) (below := below) (meth := meth)
  intro T hT X
  obtain ⟨v, st₀, t, T', LL, h0, X', hL, e1, e2, ⟨⟨r, h', hv, hvw, hwh', hpost, hP'⟩, hz, hk⟩, st'⟩ := hr T hT X
  cases hv
  rw [h0] at hz hk
  have out : ∀ x : Nat, zAd ad x → s.heap.size ≤ x := fun x hx => by
    obtain ⟨k, k1, rfl⟩ := hx
    exact ya k k1
  have hS1 : va_S (lA s) s.heap T'.heap (locs ++ LL) := ⟨Nat.le_trans h3.1 (by rw [e1]; exact hz), fun q z1 z2 => by rw [e1, hk q (Nat.lt_of_lt_of_le z1 h3.1) (fun w => z2 (out q w))]; exact h3.2.1 q z1 z2, fun q hq => by
    rcases List.mem_append.mp hq with z | z
    · exact h3.2.2 q z
    · exact out _ (hL q z)⟩
  have hP1 : va_P D vwCl (zW ad Z.1 Z.2.1 Z.2.2 h') T'.heap := by rw [e1]; exact hP'
  obtain ⟨t2, a1, b1⟩ := kk r h' hpost Y (by rcases r with _ | v; exact hwst; exact ⟨hvw v rfl, hwst⟩) hwh' T'.heap (locs ++ LL) sl h1 hP1 hS1 T' rfl X'
  have es : (r.map (zc ad)).toList ++ st.map (zc ad) = (r.toList ++ st).map (zc ad) := by cases r <;> rfl
  rw [es] at st'
  exact ⟨t2, st' t2 a1, b1⟩
end lrows

theorem l_case_lend {Γ : lCx} {i : Nat} {h : zH} {B : Int} (I : Inv B h) (hB : B ≤ 90000) (hi : i + 5 ≤ lL Γ) (hb : i < 99990) (K : ∀ h2 : zH, Inv (B + 100) h2 → lV Γ i 843 [] h2) : lV Γ i 140 [] h := by
  refine l_aload1 dL_law_140 ?_
  refine l_arg (n := 1) rfl (by omega) (by omega) dL_law_141 dL_law_142 dL_law_143 dL_law_144 dL_law_145 ?_
  refine l_arg (n := 2) rfl (by omega) (by omega) dL_law_146 dL_law_147 dL_law_148 dL_law_149 dL_law_150 ?_
  refine l_arg (n := 3) rfl (by omega) (by omega) dL_law_151 dL_law_152 dL_law_153 dL_law_154 dL_law_155 ?_
  refine l_arg (n := 4) rfl (by omega) (by omega) dL_law_156 dL_law_157 dL_law_158 dL_law_159 dL_law_160 ?_
  obtain ⟨P1, c6, k6⟩ := l_lend (a1 := (lX Γ (i + 1)).toInt) (a2 := (lX Γ (i + 2)).toInt) (a3 := (lX Γ (i + 3)).toInt) (a4 := (lX Γ (i + 4)).toInt) I
  refine l_call c6 zo_LentParts rfl wi_X6_lend wm_X6_lend ⟨Nat.le_of_ble_eq_true rfl, Nat.le_of_ble_eq_true rfl⟩ wl_L_13 dL_law_161 rfl (Nat.le_of_ble_eq_true rfl) rfl (fun r h1 p1 => ?_)
  obtain ⟨x, rfl, P2, c7, k7⟩ := k6 r h1 p1
  refine l_aload2 dL_law_164 ?_
  refine l_arg (n := 1) rfl (by omega) (by omega) dL_law_165 dL_law_166 dL_law_167 dL_law_168 dL_law_169 ?_
  refine l_arg (n := 2) rfl (by omega) (by omega) dL_law_170 dL_law_171 dL_law_172 dL_law_173 dL_law_174 ?_
  refine l_arg (n := 3) rfl (by omega) (by omega) dL_law_175 dL_law_176 dL_law_177 dL_law_178 dL_law_179 ?_
  refine l_arg (n := 4) rfl (by omega) (by omega) dL_law_180 dL_law_181 dL_law_182 dL_law_183 dL_law_184 ?_
  refine l_call c7 zo_Model rfl wi_X7_lend wm_X7_lend ⟨Nat.le_of_ble_eq_true rfl, Nat.le_of_ble_eq_true rfl⟩ wl_L_17 dL_law_185 rfl (Nat.le_of_ble_eq_true rfl) rfl (fun r2 h2 p2 => ?_)
  obtain ⟨rfl, I2⟩ := k7 r2 h2 p2
  refine l_same (tgt := 843) dL_law_188 rfl ?_
  exact K h2 I2
theorem l_case_half {Γ : lCx} {i : Nat} {h : zH} {B : Int} (I : Inv B h) (hB : B ≤ 90000) (hi : i + 5 ≤ lL Γ) (hb : i < 99990) (K : ∀ h2 : zH, Inv (B + 100) h2 → lV Γ i 843 [] h2) : lV Γ i 193 [] h := by
  refine l_aload1 dL_law_193 ?_
  refine l_arg (n := 1) rfl (by omega) (by omega) dL_law_194 dL_law_195 dL_law_196 dL_law_197 dL_law_198 ?_
  refine l_arg (n := 2) rfl (by omega) (by omega) dL_law_199 dL_law_200 dL_law_201 dL_law_202 dL_law_203 ?_
  refine l_arg (n := 3) rfl (by omega) (by omega) dL_law_204 dL_law_205 dL_law_206 dL_law_207 dL_law_208 ?_
  obtain ⟨P1, c6, k6⟩ := l_half (a1 := (lX Γ (i + 1)).toInt) (a2 := (lX Γ (i + 2)).toInt) (a3 := (lX Γ (i + 3)).toInt) I
  refine l_call c6 zo_LentParts rfl wi_X6_half wm_X6_half ⟨Nat.le_of_ble_eq_true rfl, Nat.le_of_ble_eq_true rfl⟩ wl_L_18 dL_law_209 rfl (Nat.le_of_ble_eq_true rfl) rfl (fun r h1 p1 => ?_)
  obtain ⟨x, rfl, P2, c7, k7⟩ := k6 r h1 p1
  refine l_aload2 dL_law_212 ?_
  refine l_arg (n := 1) rfl (by omega) (by omega) dL_law_213 dL_law_214 dL_law_215 dL_law_216 dL_law_217 ?_
  refine l_arg (n := 2) rfl (by omega) (by omega) dL_law_218 dL_law_219 dL_law_220 dL_law_221 dL_law_222 ?_
  refine l_arg (n := 3) rfl (by omega) (by omega) dL_law_223 dL_law_224 dL_law_225 dL_law_226 dL_law_227 ?_
  refine l_call c7 zo_Model rfl wi_X7_half wm_X7_half ⟨Nat.le_of_ble_eq_true rfl, Nat.le_of_ble_eq_true rfl⟩ wl_L_22 dL_law_228 rfl (Nat.le_of_ble_eq_true rfl) rfl (fun r2 h2 p2 => ?_)
  obtain ⟨rfl, I2⟩ := k7 r2 h2 p2
  refine l_same (tgt := 843) dL_law_231 rfl ?_
  exact K h2 I2
theorem l_case_giveBack {Γ : lCx} {i : Nat} {h : zH} {B : Int} (I : Inv B h) (hB : B ≤ 90000) (hi : i + 5 ≤ lL Γ) (hb : i < 99990) (K : ∀ h2 : zH, Inv (B + 100) h2 → lV Γ i 843 [] h2) : lV Γ i 236 [] h := by
  refine l_aload1 dL_law_236 ?_
  refine l_arg (n := 1) rfl (by omega) (by omega) dL_law_237 dL_law_238 dL_law_239 dL_law_240 dL_law_241 ?_
  obtain ⟨P1, c6, k6⟩ := l_giveBack (a1 := (lX Γ (i + 1)).toInt) I
  refine l_call c6 zo_LentParts rfl wi_X6_giveBack wm_X6_giveBack ⟨Nat.le_of_ble_eq_true rfl, Nat.le_of_ble_eq_true rfl⟩ wl_L_23 dL_law_242 rfl (Nat.le_of_ble_eq_true rfl) rfl (fun r h1 p1 => ?_)
  obtain ⟨x, rfl, P2, c7, k7⟩ := k6 r h1 p1
  refine l_aload2 dL_law_245 ?_
  refine l_arg (n := 1) rfl (by omega) (by omega) dL_law_246 dL_law_247 dL_law_248 dL_law_249 dL_law_250 ?_
  refine l_call c7 zo_Model rfl wi_X7_giveBack wm_X7_giveBack ⟨Nat.le_of_ble_eq_true rfl, Nat.le_of_ble_eq_true rfl⟩ wl_L_27 dL_law_251 rfl (Nat.le_of_ble_eq_true rfl) rfl (fun r2 h2 p2 => ?_)
  obtain ⟨rfl, I2⟩ := k7 r2 h2 p2
  refine l_same (tgt := 843) dL_law_254 rfl ?_
  exact K h2 I2
theorem l_case_gather {Γ : lCx} {i : Nat} {h : zH} {B : Int} (I : Inv B h) (hB : B ≤ 90000) (hi : i + 5 ≤ lL Γ) (hb : i < 99990) (K : ∀ h2 : zH, Inv (B + 100) h2 → lV Γ i 843 [] h2) : lV Γ i 259 [] h := by
  refine l_aload1 dL_law_259 ?_
  refine l_arg (n := 1) rfl (by omega) (by omega) dL_law_260 dL_law_261 dL_law_262 dL_law_263 dL_law_264 ?_
  refine l_arg (n := 2) rfl (by omega) (by omega) dL_law_265 dL_law_266 dL_law_267 dL_law_268 dL_law_269 ?_
  obtain ⟨P1, c6, k6⟩ := l_gather (a1 := (lX Γ (i + 1)).toInt) (a2 := (lX Γ (i + 2)).toInt) I
  refine l_call c6 zo_LentParts rfl wi_X6_gather wm_X6_gather ⟨Nat.le_of_ble_eq_true rfl, Nat.le_of_ble_eq_true rfl⟩ wl_L_28 dL_law_270 rfl (Nat.le_of_ble_eq_true rfl) rfl (fun r h1 p1 => ?_)
  obtain ⟨x, rfl, P2, c7, k7⟩ := k6 r h1 p1
  refine l_aload2 dL_law_273 ?_
  refine l_arg (n := 1) rfl (by omega) (by omega) dL_law_274 dL_law_275 dL_law_276 dL_law_277 dL_law_278 ?_
  refine l_arg (n := 2) rfl (by omega) (by omega) dL_law_279 dL_law_280 dL_law_281 dL_law_282 dL_law_283 ?_
  refine l_call c7 zo_Model rfl wi_X7_gather wm_X7_gather ⟨Nat.le_of_ble_eq_true rfl, Nat.le_of_ble_eq_true rfl⟩ wl_L_32 dL_law_284 rfl (Nat.le_of_ble_eq_true rfl) rfl (fun r2 h2 p2 => ?_)
  obtain ⟨rfl, I2⟩ := k7 r2 h2 p2
  refine l_same (tgt := 843) dL_law_287 rfl ?_
  exact K h2 I2
theorem l_case_hold {Γ : lCx} {i : Nat} {h : zH} {B : Int} (I : Inv B h) (hB : B ≤ 90000) (hi : i + 5 ≤ lL Γ) (hb : i < 99990) (K : ∀ h2 : zH, Inv (B + 100) h2 → lV Γ i 843 [] h2) : lV Γ i 292 [] h := by
  by_cases hz : (lX Γ (i + 3)).toInt = 0
  · refine l_aload1 dL_law_292 ?_
    refine l_arg (n := 1) rfl (by omega) (by omega) dL_law_293 dL_law_294 dL_law_295 dL_law_296 dL_law_297 ?_
    refine l_arg (n := 2) rfl (by omega) (by omega) dL_law_298 dL_law_299 dL_law_300 dL_law_301 dL_law_302 ?_
    refine l_arg (n := 3) rfl (by omega) (by omega) dL_law_303 dL_law_304 dL_law_305 dL_law_306 dL_law_307 ?_
    refine l_ifeq (tgt := 315) dL_law_308 rfl (fun _ => ?_) (fun z => absurd hz z)
    refine l_iconst dL_law_315 (zw1_of (by decide) (by decide)) ?_
    obtain ⟨P1, c6, k6⟩ := l_hold (a1 := (lX Γ (i + 1)).toInt) (a2 := (lX Γ (i + 2)).toInt) (a3 := 0) I (Or.inl rfl)
    refine l_call c6 zo_LentParts rfl wi_X6_hold wm_X6_hold ⟨Nat.le_of_ble_eq_true rfl, Nat.le_of_ble_eq_true rfl⟩ wl_L_33 dL_law_316 rfl (Nat.le_of_ble_eq_true rfl) rfl (fun r h1 p1 => ?_)
    obtain ⟨x, rfl, P2, c7, k7⟩ := k6 r h1 p1
    refine l_aload2 dL_law_319 ?_
    refine l_arg (n := 1) rfl (by omega) (by omega) dL_law_320 dL_law_321 dL_law_322 dL_law_323 dL_law_324 ?_
    refine l_arg (n := 2) rfl (by omega) (by omega) dL_law_325 dL_law_326 dL_law_327 dL_law_328 dL_law_329 ?_
    refine l_arg (n := 3) rfl (by omega) (by omega) dL_law_330 dL_law_331 dL_law_332 dL_law_333 dL_law_334 ?_
    refine l_ifeq (tgt := 342) dL_law_335 rfl (fun _ => ?_) (fun z => absurd hz z)
    refine l_iconst dL_law_342 (zw1_of (by decide) (by decide)) ?_
    refine l_call c7 zo_Model rfl wi_X7_hold wm_X7_hold ⟨Nat.le_of_ble_eq_true rfl, Nat.le_of_ble_eq_true rfl⟩ wl_L_37 dL_law_343 rfl (Nat.le_of_ble_eq_true rfl) rfl (fun r2 h2 p2 => ?_)
    obtain ⟨rfl, I2⟩ := k7 r2 h2 p2
    refine l_same (tgt := 843) dL_law_346 rfl ?_
    exact K h2 I2
  · refine l_aload1 dL_law_292 ?_
    refine l_arg (n := 1) rfl (by omega) (by omega) dL_law_293 dL_law_294 dL_law_295 dL_law_296 dL_law_297 ?_
    refine l_arg (n := 2) rfl (by omega) (by omega) dL_law_298 dL_law_299 dL_law_300 dL_law_301 dL_law_302 ?_
    refine l_arg (n := 3) rfl (by omega) (by omega) dL_law_303 dL_law_304 dL_law_305 dL_law_306 dL_law_307 ?_
    refine l_ifeq (tgt := 315) dL_law_308 rfl (fun z => absurd z hz) (fun _ => ?_)
    refine l_iconst dL_law_311 (zw1_of (by decide) (by decide)) ?_
    refine l_goto (tgt := 316) dL_law_312 rfl ?_
    obtain ⟨P1, c6, k6⟩ := l_hold (a1 := (lX Γ (i + 1)).toInt) (a2 := (lX Γ (i + 2)).toInt) (a3 := 1) I (Or.inr rfl)
    refine l_call c6 zo_LentParts rfl wi_X6_hold wm_X6_hold ⟨Nat.le_of_ble_eq_true rfl, Nat.le_of_ble_eq_true rfl⟩ wl_L_33 dL_law_316 rfl (Nat.le_of_ble_eq_true rfl) rfl (fun r h1 p1 => ?_)
    obtain ⟨x, rfl, P2, c7, k7⟩ := k6 r h1 p1
    refine l_aload2 dL_law_319 ?_
    refine l_arg (n := 1) rfl (by omega) (by omega) dL_law_320 dL_law_321 dL_law_322 dL_law_323 dL_law_324 ?_
    refine l_arg (n := 2) rfl (by omega) (by omega) dL_law_325 dL_law_326 dL_law_327 dL_law_328 dL_law_329 ?_
    refine l_arg (n := 3) rfl (by omega) (by omega) dL_law_330 dL_law_331 dL_law_332 dL_law_333 dL_law_334 ?_
    refine l_ifeq (tgt := 342) dL_law_335 rfl (fun z => absurd z hz) (fun _ => ?_)
    refine l_iconst dL_law_338 (zw1_of (by decide) (by decide)) ?_
    refine l_goto (tgt := 343) dL_law_339 rfl ?_
    refine l_call c7 zo_Model rfl wi_X7_hold wm_X7_hold ⟨Nat.le_of_ble_eq_true rfl, Nat.le_of_ble_eq_true rfl⟩ wl_L_37 dL_law_343 rfl (Nat.le_of_ble_eq_true rfl) rfl (fun r2 h2 p2 => ?_)
    obtain ⟨rfl, I2⟩ := k7 r2 h2 p2
    refine l_same (tgt := 843) dL_law_346 rfl ?_
    exact K h2 I2
theorem l_case_write {Γ : lCx} {i : Nat} {h : zH} {B : Int} (I : Inv B h) (hB : B ≤ 90000) (hi : i + 5 ≤ lL Γ) (hb : i < 99990) (K : ∀ h2 : zH, Inv (B + 100) h2 → lV Γ i 843 [] h2) : lV Γ i 351 [] h := by
  refine l_aload1 dL_law_351 ?_
  refine l_arg (n := 1) rfl (by omega) (by omega) dL_law_352 dL_law_353 dL_law_354 dL_law_355 dL_law_356 ?_
  refine l_arg (n := 2) rfl (by omega) (by omega) dL_law_357 dL_law_358 dL_law_359 dL_law_360 dL_law_361 ?_
  refine l_arg (n := 3) rfl (by omega) (by omega) dL_law_362 dL_law_363 dL_law_364 dL_law_365 dL_law_366 ?_
  obtain ⟨P1, c6, k6⟩ := l_write (a1 := (lX Γ (i + 1)).toInt) (a2 := (lX Γ (i + 2)).toInt) (a3 := (lX Γ (i + 3)).toInt) I hB
  refine l_call c6 zo_LentParts rfl wi_X6_write wm_X6_write ⟨Nat.le_of_ble_eq_true rfl, Nat.le_of_ble_eq_true rfl⟩ wl_L_38 dL_law_367 rfl (Nat.le_of_ble_eq_true rfl) rfl (fun r h1 p1 => ?_)
  obtain ⟨x, rfl, P2, c7, k7⟩ := k6 r h1 p1
  refine l_aload2 dL_law_370 ?_
  refine l_arg (n := 1) rfl (by omega) (by omega) dL_law_371 dL_law_372 dL_law_373 dL_law_374 dL_law_375 ?_
  refine l_arg (n := 2) rfl (by omega) (by omega) dL_law_376 dL_law_377 dL_law_378 dL_law_379 dL_law_380 ?_
  refine l_arg (n := 3) rfl (by omega) (by omega) dL_law_381 dL_law_382 dL_law_383 dL_law_384 dL_law_385 ?_
  refine l_call c7 zo_Model rfl wi_X7_write wm_X7_write ⟨Nat.le_of_ble_eq_true rfl, Nat.le_of_ble_eq_true rfl⟩ wl_L_41 dL_law_386 rfl (Nat.le_of_ble_eq_true rfl) rfl (fun r2 h2 p2 => ?_)
  obtain ⟨rfl, I2⟩ := k7 r2 h2 p2
  refine l_same (tgt := 843) dL_law_389 rfl ?_
  exact K h2 I2
theorem l_case_read {Γ : lCx} {i : Nat} {h : zH} {B : Int} (I : Inv B h) (hB : B ≤ 90000) (hi : i + 5 ≤ lL Γ) (hb : i < 99990) (K : ∀ h2 : zH, Inv (B + 100) h2 → lV Γ i 843 [] h2) : lV Γ i 394 [] h := by
  refine l_aload1 dL_law_394 ?_
  refine l_arg (n := 1) rfl (by omega) (by omega) dL_law_395 dL_law_396 dL_law_397 dL_law_398 dL_law_399 ?_
  refine l_arg (n := 2) rfl (by omega) (by omega) dL_law_400 dL_law_401 dL_law_402 dL_law_403 dL_law_404 ?_
  obtain ⟨P1, c6, k6⟩ := l_read (a1 := (lX Γ (i + 1)).toInt) (a2 := (lX Γ (i + 2)).toInt) I
  refine l_call c6 zo_LentParts rfl wi_X6_read wm_X6_read ⟨Nat.le_of_ble_eq_true rfl, Nat.le_of_ble_eq_true rfl⟩ wl_L_42 dL_law_405 rfl (Nat.le_of_ble_eq_true rfl) rfl (fun r h1 p1 => ?_)
  obtain ⟨x, rfl, P2, c7, k7⟩ := k6 r h1 p1
  refine l_aload2 dL_law_408 ?_
  refine l_arg (n := 1) rfl (by omega) (by omega) dL_law_409 dL_law_410 dL_law_411 dL_law_412 dL_law_413 ?_
  refine l_arg (n := 2) rfl (by omega) (by omega) dL_law_414 dL_law_415 dL_law_416 dL_law_417 dL_law_418 ?_
  refine l_call c7 zo_Model rfl wi_X7_read wm_X7_read ⟨Nat.le_of_ble_eq_true rfl, Nat.le_of_ble_eq_true rfl⟩ wl_L_45 dL_law_419 rfl (Nat.le_of_ble_eq_true rfl) rfl (fun r2 h2 p2 => ?_)
  obtain ⟨rfl, I2⟩ := k7 r2 h2 p2
  refine l_same (tgt := 843) dL_law_422 rfl ?_
  exact K h2 I2
theorem l_case_claim {Γ : lCx} {i : Nat} {h : zH} {B : Int} (I : Inv B h) (hB : B ≤ 90000) (hi : i + 5 ≤ lL Γ) (hb : i < 99990) (K : ∀ h2 : zH, Inv (B + 100) h2 → lV Γ i 843 [] h2) : lV Γ i 427 [] h := by
  by_cases hz : (lX Γ (i + 3)).toInt = 0
  · refine l_aload1 dL_law_427 ?_
    refine l_arg (n := 1) rfl (by omega) (by omega) dL_law_428 dL_law_429 dL_law_430 dL_law_431 dL_law_432 ?_
    refine l_arg (n := 2) rfl (by omega) (by omega) dL_law_433 dL_law_434 dL_law_435 dL_law_436 dL_law_437 ?_
    refine l_arg (n := 3) rfl (by omega) (by omega) dL_law_438 dL_law_439 dL_law_440 dL_law_441 dL_law_442 ?_
    refine l_ifeq (tgt := 450) dL_law_443 rfl (fun _ => ?_) (fun z => absurd hz z)
    refine l_iconst dL_law_450 (zw1_of (by decide) (by decide)) ?_
    obtain ⟨P1, c6, k6⟩ := l_claim (a1 := (lX Γ (i + 1)).toInt) (a2 := (lX Γ (i + 2)).toInt) (a3 := 0) I (Or.inl rfl)
    refine l_call c6 zo_LentParts rfl wi_X6_claim wm_X6_claim ⟨Nat.le_of_ble_eq_true rfl, Nat.le_of_ble_eq_true rfl⟩ wl_L_46 dL_law_451 rfl (Nat.le_of_ble_eq_true rfl) rfl (fun r h1 p1 => ?_)
    obtain ⟨x, rfl, P2, c7, k7⟩ := k6 r h1 p1
    refine l_aload2 dL_law_454 ?_
    refine l_arg (n := 1) rfl (by omega) (by omega) dL_law_455 dL_law_456 dL_law_457 dL_law_458 dL_law_459 ?_
    refine l_arg (n := 2) rfl (by omega) (by omega) dL_law_460 dL_law_461 dL_law_462 dL_law_463 dL_law_464 ?_
    refine l_arg (n := 3) rfl (by omega) (by omega) dL_law_465 dL_law_466 dL_law_467 dL_law_468 dL_law_469 ?_
    refine l_ifeq (tgt := 477) dL_law_470 rfl (fun _ => ?_) (fun z => absurd hz z)
    refine l_iconst dL_law_477 (zw1_of (by decide) (by decide)) ?_
    refine l_call c7 zo_Model rfl wi_X7_claim wm_X7_claim ⟨Nat.le_of_ble_eq_true rfl, Nat.le_of_ble_eq_true rfl⟩ wl_L_49 dL_law_478 rfl (Nat.le_of_ble_eq_true rfl) rfl (fun r2 h2 p2 => ?_)
    obtain ⟨rfl, I2⟩ := k7 r2 h2 p2
    refine l_same (tgt := 843) dL_law_481 rfl ?_
    exact K h2 I2
  · refine l_aload1 dL_law_427 ?_
    refine l_arg (n := 1) rfl (by omega) (by omega) dL_law_428 dL_law_429 dL_law_430 dL_law_431 dL_law_432 ?_
    refine l_arg (n := 2) rfl (by omega) (by omega) dL_law_433 dL_law_434 dL_law_435 dL_law_436 dL_law_437 ?_
    refine l_arg (n := 3) rfl (by omega) (by omega) dL_law_438 dL_law_439 dL_law_440 dL_law_441 dL_law_442 ?_
    refine l_ifeq (tgt := 450) dL_law_443 rfl (fun z => absurd z hz) (fun _ => ?_)
    refine l_iconst dL_law_446 (zw1_of (by decide) (by decide)) ?_
    refine l_goto (tgt := 451) dL_law_447 rfl ?_
    obtain ⟨P1, c6, k6⟩ := l_claim (a1 := (lX Γ (i + 1)).toInt) (a2 := (lX Γ (i + 2)).toInt) (a3 := 1) I (Or.inr rfl)
    refine l_call c6 zo_LentParts rfl wi_X6_claim wm_X6_claim ⟨Nat.le_of_ble_eq_true rfl, Nat.le_of_ble_eq_true rfl⟩ wl_L_46 dL_law_451 rfl (Nat.le_of_ble_eq_true rfl) rfl (fun r h1 p1 => ?_)
    obtain ⟨x, rfl, P2, c7, k7⟩ := k6 r h1 p1
    refine l_aload2 dL_law_454 ?_
    refine l_arg (n := 1) rfl (by omega) (by omega) dL_law_455 dL_law_456 dL_law_457 dL_law_458 dL_law_459 ?_
    refine l_arg (n := 2) rfl (by omega) (by omega) dL_law_460 dL_law_461 dL_law_462 dL_law_463 dL_law_464 ?_
    refine l_arg (n := 3) rfl (by omega) (by omega) dL_law_465 dL_law_466 dL_law_467 dL_law_468 dL_law_469 ?_
    refine l_ifeq (tgt := 477) dL_law_470 rfl (fun z => absurd z hz) (fun _ => ?_)
    refine l_iconst dL_law_473 (zw1_of (by decide) (by decide)) ?_
    refine l_goto (tgt := 478) dL_law_474 rfl ?_
    refine l_call c7 zo_Model rfl wi_X7_claim wm_X7_claim ⟨Nat.le_of_ble_eq_true rfl, Nat.le_of_ble_eq_true rfl⟩ wl_L_49 dL_law_478 rfl (Nat.le_of_ble_eq_true rfl) rfl (fun r2 h2 p2 => ?_)
    obtain ⟨rfl, I2⟩ := k7 r2 h2 p2
    refine l_same (tgt := 843) dL_law_481 rfl ?_
    exact K h2 I2
theorem l_case_serve {Γ : lCx} {i : Nat} {h : zH} {B : Int} (I : Inv B h) (hB : B ≤ 90000) (hi : i + 5 ≤ lL Γ) (hb : i < 99990) (K : ∀ h2 : zH, Inv (B + 100) h2 → lV Γ i 843 [] h2) : lV Γ i 486 [] h := by
  refine l_aload1 dL_law_486 ?_
  refine l_arg (n := 1) rfl (by omega) (by omega) dL_law_487 dL_law_488 dL_law_489 dL_law_490 dL_law_491 ?_
  obtain ⟨P1, c6, k6⟩ := l_serve (a1 := (lX Γ (i + 1)).toInt) I
  refine l_call c6 zo_LentParts rfl wi_X6_serve wm_X6_serve ⟨Nat.le_of_ble_eq_true rfl, Nat.le_of_ble_eq_true rfl⟩ wl_L_50 dL_law_492 rfl (Nat.le_of_ble_eq_true rfl) rfl (fun r h1 p1 => ?_)
  obtain ⟨x, rfl, P2, c7, k7⟩ := k6 r h1 p1
  refine l_aload2 dL_law_495 ?_
  refine l_arg (n := 1) rfl (by omega) (by omega) dL_law_496 dL_law_497 dL_law_498 dL_law_499 dL_law_500 ?_
  refine l_call c7 zo_Model rfl wi_X7_serve wm_X7_serve ⟨Nat.le_of_ble_eq_true rfl, Nat.le_of_ble_eq_true rfl⟩ wl_L_53 dL_law_501 rfl (Nat.le_of_ble_eq_true rfl) rfl (fun r2 h2 p2 => ?_)
  obtain ⟨rfl, I2⟩ := k7 r2 h2 p2
  refine l_same (tgt := 843) dL_law_504 rfl ?_
  exact K h2 I2
theorem l_case_handOver {Γ : lCx} {i : Nat} {h : zH} {B : Int} (I : Inv B h) (hB : B ≤ 90000) (hi : i + 5 ≤ lL Γ) (hb : i < 99990) (K : ∀ h2 : zH, Inv (B + 100) h2 → lV Γ i 843 [] h2) : lV Γ i 509 [] h := by
  refine l_aload1 dL_law_509 ?_
  refine l_arg (n := 1) rfl (by omega) (by omega) dL_law_510 dL_law_511 dL_law_512 dL_law_513 dL_law_514 ?_
  refine l_arg (n := 2) rfl (by omega) (by omega) dL_law_515 dL_law_516 dL_law_517 dL_law_518 dL_law_519 ?_
  obtain ⟨P1, c6, k6⟩ := l_handOver (a1 := (lX Γ (i + 1)).toInt) (a2 := (lX Γ (i + 2)).toInt) I
  refine l_call c6 zo_LentParts rfl wi_X6_handOver wm_X6_handOver ⟨Nat.le_of_ble_eq_true rfl, Nat.le_of_ble_eq_true rfl⟩ wl_L_54 dL_law_520 rfl (Nat.le_of_ble_eq_true rfl) rfl (fun r h1 p1 => ?_)
  obtain ⟨x, rfl, P2, c7, k7⟩ := k6 r h1 p1
  refine l_aload2 dL_law_523 ?_
  refine l_arg (n := 1) rfl (by omega) (by omega) dL_law_524 dL_law_525 dL_law_526 dL_law_527 dL_law_528 ?_
  refine l_arg (n := 2) rfl (by omega) (by omega) dL_law_529 dL_law_530 dL_law_531 dL_law_532 dL_law_533 ?_
  refine l_call c7 zo_Model rfl wi_X7_handOver wm_X7_handOver ⟨Nat.le_of_ble_eq_true rfl, Nat.le_of_ble_eq_true rfl⟩ wl_L_57 dL_law_534 rfl (Nat.le_of_ble_eq_true rfl) rfl (fun r2 h2 p2 => ?_)
  obtain ⟨rfl, I2⟩ := k7 r2 h2 p2
  refine l_same (tgt := 843) dL_law_537 rfl ?_
  exact K h2 I2
theorem l_case_type {Γ : lCx} {i : Nat} {h : zH} {B : Int} (I : Inv B h) (hB : B ≤ 90000) (hi : i + 5 ≤ lL Γ) (hb : i < 99990) (K : ∀ h2 : zH, Inv (B + 100) h2 → lV Γ i 843 [] h2) : lV Γ i 542 [] h := by
  refine l_aload1 dL_law_542 ?_
  refine l_arg (n := 1) rfl (by omega) (by omega) dL_law_543 dL_law_544 dL_law_545 dL_law_546 dL_law_547 ?_
  refine l_i2c dL_law_548 (fun a ha ea => ?_)
  obtain ⟨P1, c6, k6⟩ := l_type (a1 := a) I ha
  refine l_call c6 zo_LentParts rfl wi_X6_type wm_X6_type ⟨Nat.le_of_ble_eq_true rfl, Nat.le_of_ble_eq_true rfl⟩ wl_L_58 dL_law_549 rfl (Nat.le_of_ble_eq_true rfl) rfl (fun r h1 p1 => ?_)
  obtain ⟨x, rfl, P2, c7, k7⟩ := k6 r h1 p1
  refine l_aload2 dL_law_552 ?_
  refine l_arg (n := 1) rfl (by omega) (by omega) dL_law_553 dL_law_554 dL_law_555 dL_law_556 dL_law_557 ?_
  refine l_i2c dL_law_558 (fun a2 ha2 ea2 => ?_)
  rw [ea2, ← ea]
  refine l_call c7 zo_Model rfl wi_X7_type wm_X7_type ⟨Nat.le_of_ble_eq_true rfl, Nat.le_of_ble_eq_true rfl⟩ wl_L_62 dL_law_559 rfl (Nat.le_of_ble_eq_true rfl) rfl (fun r2 h2 p2 => ?_)
  obtain ⟨rfl, I2⟩ := k7 r2 h2 p2
  refine l_same (tgt := 843) dL_law_562 rfl ?_
  exact K h2 I2
theorem l_case_clearText {Γ : lCx} {i : Nat} {h : zH} {B : Int} (I : Inv B h) (hB : B ≤ 90000) (hi : i + 5 ≤ lL Γ) (hb : i < 99990) (K : ∀ h2 : zH, Inv (B + 100) h2 → lV Γ i 843 [] h2) : lV Γ i 567 [] h := by
  refine l_aload1 dL_law_567 ?_
  obtain ⟨P1, c6, k6⟩ := l_clearText  I
  refine l_call c6 zo_LentParts rfl wi_X6_clearText wm_X6_clearText ⟨Nat.le_of_ble_eq_true rfl, Nat.le_of_ble_eq_true rfl⟩ wl_L_63 dL_law_568 rfl (Nat.le_of_ble_eq_true rfl) rfl (fun r h1 p1 => ?_)
  obtain ⟨x, rfl, P2, c7, k7⟩ := k6 r h1 p1
  refine l_aload2 dL_law_571 ?_
  refine l_call c7 zo_Model rfl wi_X7_clearText wm_X7_clearText ⟨Nat.le_of_ble_eq_true rfl, Nat.le_of_ble_eq_true rfl⟩ wl_L_67 dL_law_572 rfl (Nat.le_of_ble_eq_true rfl) rfl (fun r2 h2 p2 => ?_)
  obtain ⟨rfl, I2⟩ := k7 r2 h2 p2
  refine l_same (tgt := 843) dL_law_575 rfl ?_
  exact K h2 I2
theorem l_case_perform {Γ : lCx} {i : Nat} {h : zH} {B : Int} (I : Inv B h) (hB : B ≤ 90000) (hi : i + 5 ≤ lL Γ) (hb : i < 99990) (K : ∀ h2 : zH, Inv (B + 100) h2 → lV Γ i 843 [] h2) : lV Γ i 580 [] h := by
  refine l_aload1 dL_law_580 ?_
  obtain ⟨P1, c6, k6⟩ := l_perform  I hB
  refine l_call c6 zo_LentParts rfl wi_X6_perform wm_X6_perform ⟨Nat.le_of_ble_eq_true rfl, Nat.le_of_ble_eq_true rfl⟩ wl_L_68 dL_law_581 rfl (Nat.le_of_ble_eq_true rfl) rfl (fun r h1 p1 => ?_)
  obtain ⟨x, rfl, P2, c7, k7⟩ := k6 r h1 p1
  refine l_aload2 dL_law_584 ?_
  refine l_call c7 zo_Model rfl wi_X7_perform wm_X7_perform ⟨Nat.le_of_ble_eq_true rfl, Nat.le_of_ble_eq_true rfl⟩ wl_L_71 dL_law_585 rfl (Nat.le_of_ble_eq_true rfl) rfl (fun r2 h2 p2 => ?_)
  obtain ⟨rfl, I2⟩ := k7 r2 h2 p2
  refine l_same (tgt := 843) dL_law_588 rfl ?_
  exact K h2 I2
theorem l_case_stop {Γ : lCx} {i : Nat} {h : zH} {B : Int} (I : Inv B h) (hB : B ≤ 90000) (hi : i + 5 ≤ lL Γ) (hb : i < 99990) (K : ∀ h2 : zH, Inv (B + 100) h2 → lV Γ i 843 [] h2) : lV Γ i 593 [] h := by
  refine l_aload1 dL_law_593 ?_
  refine l_arg (n := 1) rfl (by omega) (by omega) dL_law_594 dL_law_595 dL_law_596 dL_law_597 dL_law_598 ?_
  obtain ⟨P1, c6, k6⟩ := l_stop (a1 := (lX Γ (i + 1)).toInt) I
  refine l_call c6 zo_LentParts rfl wi_X6_stop wm_X6_stop ⟨Nat.le_of_ble_eq_true rfl, Nat.le_of_ble_eq_true rfl⟩ wl_L_72 dL_law_599 rfl (Nat.le_of_ble_eq_true rfl) rfl (fun r h1 p1 => ?_)
  obtain ⟨x, rfl, P2, c7, k7⟩ := k6 r h1 p1
  refine l_aload2 dL_law_602 ?_
  refine l_arg (n := 1) rfl (by omega) (by omega) dL_law_603 dL_law_604 dL_law_605 dL_law_606 dL_law_607 ?_
  refine l_call c7 zo_Model rfl wi_X7_stop wm_X7_stop ⟨Nat.le_of_ble_eq_true rfl, Nat.le_of_ble_eq_true rfl⟩ wl_L_75 dL_law_608 rfl (Nat.le_of_ble_eq_true rfl) rfl (fun r2 h2 p2 => ?_)
  obtain ⟨rfl, I2⟩ := k7 r2 h2 p2
  refine l_same (tgt := 843) dL_law_611 rfl ?_
  exact K h2 I2
theorem l_case_undo {Γ : lCx} {i : Nat} {h : zH} {B : Int} (I : Inv B h) (hB : B ≤ 90000) (hi : i + 5 ≤ lL Γ) (hb : i < 99990) (K : ∀ h2 : zH, Inv (B + 100) h2 → lV Γ i 843 [] h2) : lV Γ i 616 [] h := by
  refine l_aload1 dL_law_616 ?_
  obtain ⟨P1, c6, k6⟩ := l_undo  I
  refine l_call c6 zo_LentParts rfl wi_X6_undo wm_X6_undo ⟨Nat.le_of_ble_eq_true rfl, Nat.le_of_ble_eq_true rfl⟩ wl_L_76 dL_law_617 rfl (Nat.le_of_ble_eq_true rfl) rfl (fun r h1 p1 => ?_)
  obtain ⟨x, rfl, P2, c7, k7⟩ := k6 r h1 p1
  refine l_aload2 dL_law_620 ?_
  refine l_call c7 zo_Model rfl wi_X7_undo wm_X7_undo ⟨Nat.le_of_ble_eq_true rfl, Nat.le_of_ble_eq_true rfl⟩ wl_L_79 dL_law_621 rfl (Nat.le_of_ble_eq_true rfl) rfl (fun r2 h2 p2 => ?_)
  obtain ⟨rfl, I2⟩ := k7 r2 h2 p2
  refine l_same (tgt := 843) dL_law_624 rfl ?_
  exact K h2 I2
theorem l_case_keep {Γ : lCx} {i : Nat} {h : zH} {B : Int} (I : Inv B h) (hB : B ≤ 90000) (hi : i + 5 ≤ lL Γ) (hb : i < 99990) (K : ∀ h2 : zH, Inv (B + 100) h2 → lV Γ i 843 [] h2) : lV Γ i 629 [] h := by
  refine l_aload1 dL_law_629 ?_
  obtain ⟨P1, c6, k6⟩ := l_keep  I
  refine l_call c6 zo_LentParts rfl wi_X6_keep wm_X6_keep ⟨Nat.le_of_ble_eq_true rfl, Nat.le_of_ble_eq_true rfl⟩ wl_L_80 dL_law_630 rfl (Nat.le_of_ble_eq_true rfl) rfl (fun r h1 p1 => ?_)
  obtain ⟨x, rfl, P2, c7, k7⟩ := k6 r h1 p1
  refine l_aload2 dL_law_633 ?_
  refine l_call c7 zo_Model rfl wi_X7_keep wm_X7_keep ⟨Nat.le_of_ble_eq_true rfl, Nat.le_of_ble_eq_true rfl⟩ wl_L_83 dL_law_634 rfl (Nat.le_of_ble_eq_true rfl) rfl (fun r2 h2 p2 => ?_)
  obtain ⟨rfl, I2⟩ := k7 r2 h2 p2
  refine l_same (tgt := 843) dL_law_637 rfl ?_
  exact K h2 I2
theorem l_case_restore {Γ : lCx} {i : Nat} {h : zH} {B : Int} (I : Inv B h) (hB : B ≤ 90000) (hi : i + 5 ≤ lL Γ) (hb : i < 99990) (K : ∀ h2 : zH, Inv (B + 100) h2 → lV Γ i 843 [] h2) : lV Γ i 642 [] h := by
  refine l_aload1 dL_law_642 ?_
  obtain ⟨P1, c6, k6⟩ := l_restore  I
  refine l_call c6 zo_LentParts rfl wi_X6_restore wm_X6_restore ⟨Nat.le_of_ble_eq_true rfl, Nat.le_of_ble_eq_true rfl⟩ wl_L_84 dL_law_643 rfl (Nat.le_of_ble_eq_true rfl) rfl (fun r h1 p1 => ?_)
  obtain ⟨x, rfl, P2, c7, k7⟩ := k6 r h1 p1
  refine l_aload2 dL_law_646 ?_
  refine l_call c7 zo_Model rfl wi_X7_restore wm_X7_restore ⟨Nat.le_of_ble_eq_true rfl, Nat.le_of_ble_eq_true rfl⟩ wl_L_87 dL_law_647 rfl (Nat.le_of_ble_eq_true rfl) rfl (fun r2 h2 p2 => ?_)
  obtain ⟨rfl, I2⟩ := k7 r2 h2 p2
  refine l_same (tgt := 843) dL_law_650 rfl ?_
  exact K h2 I2
theorem l_case_cell {Γ : lCx} {i : Nat} {h : zH} {B : Int} (I : Inv B h) (hB : B ≤ 90000) (hi : i + 5 ≤ lL Γ) (hb : i < 99990) (K : ∀ h2 : zH, Inv (B + 100) h2 → lV Γ i 843 [] h2) : lV Γ i 655 [] h := by
  refine l_aload1 dL_law_655 ?_
  refine l_arg (n := 1) rfl (by omega) (by omega) dL_law_656 dL_law_657 dL_law_658 dL_law_659 dL_law_660 ?_
  refine l_arg (n := 2) rfl (by omega) (by omega) dL_law_661 dL_law_662 dL_law_663 dL_law_664 dL_law_665 ?_
  obtain ⟨P1, c6, k6⟩ := l_cell (a1 := (lX Γ (i + 1)).toInt) (a2 := (lX Γ (i + 2)).toInt) I
  refine l_call c6 zo_LentParts rfl wi_X6_cell wm_X6_cell ⟨Nat.le_of_ble_eq_true rfl, Nat.le_of_ble_eq_true rfl⟩ wl_L_88 dL_law_666 rfl (Nat.le_of_ble_eq_true rfl) rfl (fun r h1 p1 => ?_)
  obtain ⟨x, rfl, P2, c7, k7⟩ := k6 r h1 p1
  refine l_aload2 dL_law_669 ?_
  refine l_arg (n := 1) rfl (by omega) (by omega) dL_law_670 dL_law_671 dL_law_672 dL_law_673 dL_law_674 ?_
  refine l_arg (n := 2) rfl (by omega) (by omega) dL_law_675 dL_law_676 dL_law_677 dL_law_678 dL_law_679 ?_
  refine l_call c7 zo_Model rfl wi_X7_cell wm_X7_cell ⟨Nat.le_of_ble_eq_true rfl, Nat.le_of_ble_eq_true rfl⟩ wl_L_91 dL_law_680 rfl (Nat.le_of_ble_eq_true rfl) rfl (fun r2 h2 p2 => ?_)
  obtain ⟨rfl, I2⟩ := k7 r2 h2 p2
  refine l_same (tgt := 843) dL_law_683 rfl ?_
  exact K h2 I2
theorem l_case_part {Γ : lCx} {i : Nat} {h : zH} {B : Int} (I : Inv B h) (hB : B ≤ 90000) (hi : i + 5 ≤ lL Γ) (hb : i < 99990) (K : ∀ h2 : zH, Inv (B + 100) h2 → lV Γ i 843 [] h2) : lV Γ i 688 [] h := by
  refine l_aload1 dL_law_688 ?_
  refine l_arg (n := 1) rfl (by omega) (by omega) dL_law_689 dL_law_690 dL_law_691 dL_law_692 dL_law_693 ?_
  refine l_arg (n := 2) rfl (by omega) (by omega) dL_law_694 dL_law_695 dL_law_696 dL_law_697 dL_law_698 ?_
  refine l_arg (n := 3) rfl (by omega) (by omega) dL_law_699 dL_law_700 dL_law_701 dL_law_702 dL_law_703 ?_
  obtain ⟨P1, c6, k6⟩ := l_part (a1 := (lX Γ (i + 1)).toInt) (a2 := (lX Γ (i + 2)).toInt) (a3 := (lX Γ (i + 3)).toInt) I
  refine l_call c6 zo_LentParts rfl wi_X6_part wm_X6_part ⟨Nat.le_of_ble_eq_true rfl, Nat.le_of_ble_eq_true rfl⟩ wl_L_92 dL_law_704 rfl (Nat.le_of_ble_eq_true rfl) rfl (fun r h1 p1 => ?_)
  obtain ⟨x, rfl, P2, c7, k7⟩ := k6 r h1 p1
  refine l_aload2 dL_law_707 ?_
  refine l_arg (n := 1) rfl (by omega) (by omega) dL_law_708 dL_law_709 dL_law_710 dL_law_711 dL_law_712 ?_
  refine l_arg (n := 2) rfl (by omega) (by omega) dL_law_713 dL_law_714 dL_law_715 dL_law_716 dL_law_717 ?_
  refine l_arg (n := 3) rfl (by omega) (by omega) dL_law_718 dL_law_719 dL_law_720 dL_law_721 dL_law_722 ?_
  refine l_call c7 zo_Model rfl wi_X7_part wm_X7_part ⟨Nat.le_of_ble_eq_true rfl, Nat.le_of_ble_eq_true rfl⟩ wl_L_95 dL_law_723 rfl (Nat.le_of_ble_eq_true rfl) rfl (fun r2 h2 p2 => ?_)
  obtain ⟨rfl, I2⟩ := k7 r2 h2 p2
  refine l_same (tgt := 843) dL_law_726 rfl ?_
  exact K h2 I2
theorem l_case_loan {Γ : lCx} {i : Nat} {h : zH} {B : Int} (I : Inv B h) (hB : B ≤ 90000) (hi : i + 5 ≤ lL Γ) (hb : i < 99990) (K : ∀ h2 : zH, Inv (B + 100) h2 → lV Γ i 843 [] h2) : lV Γ i 731 [] h := by
  refine l_aload1 dL_law_731 ?_
  refine l_arg (n := 1) rfl (by omega) (by omega) dL_law_732 dL_law_733 dL_law_734 dL_law_735 dL_law_736 ?_
  refine l_arg (n := 2) rfl (by omega) (by omega) dL_law_737 dL_law_738 dL_law_739 dL_law_740 dL_law_741 ?_
  obtain ⟨P1, c6, k6⟩ := l_loan (a1 := (lX Γ (i + 1)).toInt) (a2 := (lX Γ (i + 2)).toInt) I
  refine l_call c6 zo_LentParts rfl wi_X6_loan wm_X6_loan ⟨Nat.le_of_ble_eq_true rfl, Nat.le_of_ble_eq_true rfl⟩ wl_L_96 dL_law_742 rfl (Nat.le_of_ble_eq_true rfl) rfl (fun r h1 p1 => ?_)
  obtain ⟨x, rfl, P2, c7, k7⟩ := k6 r h1 p1
  refine l_aload2 dL_law_745 ?_
  refine l_arg (n := 1) rfl (by omega) (by omega) dL_law_746 dL_law_747 dL_law_748 dL_law_749 dL_law_750 ?_
  refine l_arg (n := 2) rfl (by omega) (by omega) dL_law_751 dL_law_752 dL_law_753 dL_law_754 dL_law_755 ?_
  refine l_call c7 zo_Model rfl wi_X7_loan wm_X7_loan ⟨Nat.le_of_ble_eq_true rfl, Nat.le_of_ble_eq_true rfl⟩ wl_L_99 dL_law_756 rfl (Nat.le_of_ble_eq_true rfl) rfl (fun r2 h2 p2 => ?_)
  obtain ⟨rfl, I2⟩ := k7 r2 h2 p2
  refine l_same (tgt := 843) dL_law_759 rfl ?_
  exact K h2 I2
theorem l_case_reason {Γ : lCx} {i : Nat} {h : zH} {B : Int} (I : Inv B h) (hB : B ≤ 90000) (hi : i + 5 ≤ lL Γ) (hb : i < 99990) (K : ∀ h2 : zH, Inv (B + 100) h2 → lV Γ i 843 [] h2) : lV Γ i 764 [] h := by
  refine l_aload1 dL_law_764 ?_
  refine l_arg (n := 1) rfl (by omega) (by omega) dL_law_765 dL_law_766 dL_law_767 dL_law_768 dL_law_769 ?_
  refine l_arg (n := 2) rfl (by omega) (by omega) dL_law_770 dL_law_771 dL_law_772 dL_law_773 dL_law_774 ?_
  obtain ⟨P1, c6, k6⟩ := l_reason (a1 := (lX Γ (i + 1)).toInt) (a2 := (lX Γ (i + 2)).toInt) I
  refine l_call c6 zo_LentParts rfl wi_X6_reason wm_X6_reason ⟨Nat.le_of_ble_eq_true rfl, Nat.le_of_ble_eq_true rfl⟩ wl_L_100 dL_law_775 rfl (Nat.le_of_ble_eq_true rfl) rfl (fun r h1 p1 => ?_)
  obtain ⟨x, rfl, P2, c7, k7⟩ := k6 r h1 p1
  refine l_aload2 dL_law_778 ?_
  refine l_arg (n := 1) rfl (by omega) (by omega) dL_law_779 dL_law_780 dL_law_781 dL_law_782 dL_law_783 ?_
  refine l_arg (n := 2) rfl (by omega) (by omega) dL_law_784 dL_law_785 dL_law_786 dL_law_787 dL_law_788 ?_
  refine l_call c7 zo_Model rfl wi_X7_reason wm_X7_reason ⟨Nat.le_of_ble_eq_true rfl, Nat.le_of_ble_eq_true rfl⟩ wl_L_103 dL_law_789 rfl (Nat.le_of_ble_eq_true rfl) rfl (fun r2 h2 p2 => ?_)
  obtain ⟨rfl, I2⟩ := k7 r2 h2 p2
  refine l_same (tgt := 843) dL_law_792 rfl ?_
  exact K h2 I2
theorem l_case_chain {Γ : lCx} {i : Nat} {h : zH} {B : Int} (I : Inv B h) (hB : B ≤ 90000) (hi : i + 5 ≤ lL Γ) (hb : i < 99990) (K : ∀ h2 : zH, Inv (B + 100) h2 → lV Γ i 843 [] h2) : lV Γ i 797 [] h := by
  refine l_aload1 dL_law_797 ?_
  refine l_arg (n := 1) rfl (by omega) (by omega) dL_law_798 dL_law_799 dL_law_800 dL_law_801 dL_law_802 ?_
  obtain ⟨P1, c6, k6⟩ := l_chain (a1 := (lX Γ (i + 1)).toInt) I
  refine l_call c6 zo_LentParts rfl wi_X6_chain wm_X6_chain ⟨Nat.le_of_ble_eq_true rfl, Nat.le_of_ble_eq_true rfl⟩ wl_L_104 dL_law_803 rfl (Nat.le_of_ble_eq_true rfl) rfl (fun r h1 p1 => ?_)
  obtain ⟨x, rfl, P2, c7, k7⟩ := k6 r h1 p1
  refine l_aload2 dL_law_806 ?_
  refine l_arg (n := 1) rfl (by omega) (by omega) dL_law_807 dL_law_808 dL_law_809 dL_law_810 dL_law_811 ?_
  refine l_call c7 zo_Model rfl wi_X7_chain wm_X7_chain ⟨Nat.le_of_ble_eq_true rfl, Nat.le_of_ble_eq_true rfl⟩ wl_L_107 dL_law_812 rfl (Nat.le_of_ble_eq_true rfl) rfl (fun r2 h2 p2 => ?_)
  obtain ⟨rfl, I2⟩ := k7 r2 h2 p2
  refine l_same (tgt := 843) dL_law_815 rfl ?_
  exact K h2 I2
theorem l_case_count {Γ : lCx} {i : Nat} {h : zH} {B : Int} (I : Inv B h) (hB : B ≤ 90000) (hi : i + 5 ≤ lL Γ) (hb : i < 99990) (K : ∀ h2 : zH, Inv (B + 100) h2 → lV Γ i 843 [] h2) : lV Γ i 820 [] h := by
  refine l_aload1 dL_law_820 ?_
  refine l_arg (n := 1) rfl (by omega) (by omega) dL_law_821 dL_law_822 dL_law_823 dL_law_824 dL_law_825 ?_
  obtain ⟨P1, c6, k6⟩ := l_count (a1 := (lX Γ (i + 1)).toInt) I
  refine l_call c6 zo_LentParts rfl wi_X6_count wm_X6_count ⟨Nat.le_of_ble_eq_true rfl, Nat.le_of_ble_eq_true rfl⟩ wl_L_108 dL_law_826 rfl (Nat.le_of_ble_eq_true rfl) rfl (fun r h1 p1 => ?_)
  obtain ⟨x, rfl, P2, c7, k7⟩ := k6 r h1 p1
  refine l_aload2 dL_law_829 ?_
  refine l_arg (n := 1) rfl (by omega) (by omega) dL_law_830 dL_law_831 dL_law_832 dL_law_833 dL_law_834 ?_
  refine l_call c7 zo_Model rfl wi_X7_count wm_X7_count ⟨Nat.le_of_ble_eq_true rfl, Nat.le_of_ble_eq_true rfl⟩ wl_L_111 dL_law_835 rfl (Nat.le_of_ble_eq_true rfl) rfl (fun r2 h2 p2 => ?_)
  obtain ⟨rfl, I2⟩ := k7 r2 h2 p2
  refine l_same (tgt := 843) dL_law_838 rfl ?_
  exact K h2 I2
theorem l_loop {Γ : lCx} (hL : lL Γ ≤ 2560) (K : ∀ (i : Nat) (h : zH), lV Γ i 849 [] h) : ∀ (n i : Nat) (h : zH), lL Γ < i + 5 * n + 5 → i ≤ 2565 → Inv (20 * (i : Int)) h → lV Γ i 18 [] h := by
  intro n
  induction n with
  | zero =>
    intro i h hn hi I
    exact l_head (by omega) (by omega) dL_law_18 dL_law_19 dL_law_20 dL_law_21 dL_law_22 dL_law_23 (fun _ => K i h) (fun z => absurd z (by omega))
  | succ n ih =>
    intro i h hn hi I
    refine l_head (by omega) (by omega) dL_law_18 dL_law_19 dL_law_20 dL_law_21 dL_law_22 dL_law_23 (fun _ => K i h) (fun hle => ?_)
    have go : ∀ h2 : zH, Inv (20 * (i : Int) + 100) h2 → lV Γ i 843 [] h2 := fun h2 I2 => l_next dL_law_843 dL_law_846 (by omega) (ih (i + 5) h2 (by omega) (by omega) (by rw [show 20 * ((i + 5 : Nat) : Int) = 20 * (i : Int) + 100 by omega]; exact I2))
    refine l_sw (by omega) (by omega) dL_law_26 dL_law_27 dL_law_28 dL_law_29 dL_law_31 (fun a ha => ?_)
    by_cases hout : 22 < a
    · exact l_tableOut (tgt := 843) dL_law_32 (Or.inr hout) rfl (go h (Inv_up I (by omega)))
    rcases (show a = 0 ∨ a = 1 ∨ a = 2 ∨ a = 3 ∨ a = 4 ∨ a = 5 ∨ a = 6 ∨ a = 7 ∨ a = 8 ∨ a = 9 ∨ a = 10 ∨ a = 11 ∨ a = 12 ∨ a = 13 ∨ a = 14 ∨ a = 15 ∨ a = 16 ∨ a = 17 ∨ a = 18 ∨ a = 19 ∨ a = 20 ∨ a = 21 ∨ a = 22 by omega) with e | e | e | e | e | e | e | e | e | e | e | e | e | e | e | e | e | e | e | e | e | e | e
    · exact l_tableIn (n := 0) (off := 108) (tgt := 140) dL_law_32 e (by decide) rfl rfl (l_case_lend I (by omega) hle (by omega) go)
    · exact l_tableIn (n := 1) (off := 161) (tgt := 193) dL_law_32 e (by decide) rfl rfl (l_case_half I (by omega) hle (by omega) go)
    · exact l_tableIn (n := 2) (off := 204) (tgt := 236) dL_law_32 e (by decide) rfl rfl (l_case_giveBack I (by omega) hle (by omega) go)
    · exact l_tableIn (n := 3) (off := 227) (tgt := 259) dL_law_32 e (by decide) rfl rfl (l_case_gather I (by omega) hle (by omega) go)
    · exact l_tableIn (n := 4) (off := 260) (tgt := 292) dL_law_32 e (by decide) rfl rfl (l_case_hold I (by omega) hle (by omega) go)
    · exact l_tableIn (n := 5) (off := 319) (tgt := 351) dL_law_32 e (by decide) rfl rfl (l_case_write I (by omega) hle (by omega) go)
    · exact l_tableIn (n := 6) (off := 362) (tgt := 394) dL_law_32 e (by decide) rfl rfl (l_case_read I (by omega) hle (by omega) go)
    · exact l_tableIn (n := 7) (off := 395) (tgt := 427) dL_law_32 e (by decide) rfl rfl (l_case_claim I (by omega) hle (by omega) go)
    · exact l_tableIn (n := 8) (off := 454) (tgt := 486) dL_law_32 e (by decide) rfl rfl (l_case_serve I (by omega) hle (by omega) go)
    · exact l_tableIn (n := 9) (off := 477) (tgt := 509) dL_law_32 e (by decide) rfl rfl (l_case_handOver I (by omega) hle (by omega) go)
    · exact l_tableIn (n := 10) (off := 510) (tgt := 542) dL_law_32 e (by decide) rfl rfl (l_case_type I (by omega) hle (by omega) go)
    · exact l_tableIn (n := 11) (off := 535) (tgt := 567) dL_law_32 e (by decide) rfl rfl (l_case_clearText I (by omega) hle (by omega) go)
    · exact l_tableIn (n := 12) (off := 548) (tgt := 580) dL_law_32 e (by decide) rfl rfl (l_case_perform I (by omega) hle (by omega) go)
    · exact l_tableIn (n := 13) (off := 561) (tgt := 593) dL_law_32 e (by decide) rfl rfl (l_case_stop I (by omega) hle (by omega) go)
    · exact l_tableIn (n := 14) (off := 584) (tgt := 616) dL_law_32 e (by decide) rfl rfl (l_case_undo I (by omega) hle (by omega) go)
    · exact l_tableIn (n := 15) (off := 597) (tgt := 629) dL_law_32 e (by decide) rfl rfl (l_case_keep I (by omega) hle (by omega) go)
    · exact l_tableIn (n := 16) (off := 610) (tgt := 642) dL_law_32 e (by decide) rfl rfl (l_case_restore I (by omega) hle (by omega) go)
    · exact l_tableIn (n := 17) (off := 623) (tgt := 655) dL_law_32 e (by decide) rfl rfl (l_case_cell I (by omega) hle (by omega) go)
    · exact l_tableIn (n := 18) (off := 656) (tgt := 688) dL_law_32 e (by decide) rfl rfl (l_case_part I (by omega) hle (by omega) go)
    · exact l_tableIn (n := 19) (off := 699) (tgt := 731) dL_law_32 e (by decide) rfl rfl (l_case_loan I (by omega) hle (by omega) go)
    · exact l_tableIn (n := 20) (off := 732) (tgt := 764) dL_law_32 e (by decide) rfl rfl (l_case_reason I (by omega) hle (by omega) go)
    · exact l_tableIn (n := 21) (off := 765) (tgt := 797) dL_law_32 e (by decide) rfl rfl (l_case_chain I (by omega) hle (by omega) go)
    · exact l_tableIn (n := 22) (off := 788) (tgt := 820) dL_law_32 e (by decide) rfl rfl (l_case_count I (by omega) hle (by omega) go)
