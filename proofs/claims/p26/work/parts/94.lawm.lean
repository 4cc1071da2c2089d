/-! p26: the law's frame as a machine over the same cells; the script is the cell 128, out of the world -/
abbrev yCx : Type := Program × Launch × Env × State × MethodId × List Frame × Method × Code × va_G × (Nat → Nat) × gZ × Nat × Nat × (Nat → Int32) × (State → Prop)
abbrev yA (s : State) : Nat → Prop := fun q : Nat => s.heap.size ≤ q
def yHy (Γ : yCx) : Prop := match Γ with
  | (p, _, _, s, m, _, _, c, D, ad, Z, b, L, xs, _) => p.tables.exec = Jvm.exec ∧ c.code = code ∧ c.maxLocals = 10 ∧ s.vm.findClass RL = some m.cls ∧ (∀ w ∈ zT, w.before #[Value.ref b] s = true) ∧ va_K D vwCl (gK Z) s ∧ (∀ i j, i < 128 → j < 128 → ad i = ad j → i = j) ∧ (∀ i, i < 128 → s.heap.size ≤ ad i) ∧ zNe s ∧ va_X b L xs s s.heap ∧ b < s.heap.size ∧ ad 128 = b ∧ L ≤ 260
def yV (Γ : yCx) (pc : Nat) (ls : List (Nat × zA)) (st : List zA) (h : zH) : Prop := match Γ with
  | (p, l, e, s, m, below, meth, c, D, ad, Z, b, L, xs, Q) => yHy (p, l, e, s, m, below, meth, c, D, ad, Z, b, L, xs, Q) → (∀ q ∈ ls, zw q.2) → zwS st → zwH h → ∀ (H : Heap) (locs : List Loc) (sl : Array Slot), lv_has sl 10 (ls.map (fun q => (q.1, zc ad q.2))) → va_P D vwCl (zW ad Z.1 Z.2.1 Z.2.2 h) H → va_S (yA s) s.heap H locs → W p l e room_1 s m #[Value.ref b] below meth c H locs 128 3178 Q (F0 m pc sl (st.map (zc ad)))
section yrows
variable {Γ : yCx} {pc : Nat} {ls ls' : List (Nat × zA)} {st : List zA} {h : zH}
theorem y_iconst {n a : Int} (hd : decode code pc = .ok (.iconst n, 1)) (ha : (Int32.ofInt n).toInt = a) (k : yV Γ (pc + 1) ls (zI a :: st) h) : yV Γ (pc) ls (st) h := by
  obtain ⟨p, l, e, s, m, below, meth, c, D, ad, ZZ, bb, LL, xs, QQ⟩ := Γ
  intro Y hl hs hh H locs sl h1 h2 h3
  obtain ⟨yx, yb, ym, yo, yt, yK, yi, ya, yn, yX, yl, ye, y260⟩ := id Y
  refine lv_iconst yx yb hd (v := Int32.ofInt a) (by rw [← ha, Int32.ofInt_toInt]) ?_
  exact k Y hl ⟨by rw [← ha]; exact zw1_to _, hs⟩ hh H locs sl h1 h2 h3
theorem y_bipush {n a : Int} (hd : decode code pc = .ok (.bipush n, 2)) (ha : ((Int8.ofInt n).toInt32).toInt = a) (k : yV Γ (pc + 2) ls (zI a :: st) h) : yV Γ (pc) ls (st) h := by
  obtain ⟨p, l, e, s, m, below, meth, c, D, ad, ZZ, bb, LL, xs, QQ⟩ := Γ
  intro Y hl hs hh H locs sl h1 h2 h3
  obtain ⟨yx, yb, ym, yo, yt, yK, yi, ya, yn, yX, yl, ye, y260⟩ := id Y
  refine lv_bipush yx yb hd (v := Int32.ofInt a) (by rw [← ha, Int32.ofInt_toInt]) ?_
  exact k Y hl ⟨by rw [← ha]; exact zw1_to _, hs⟩ hh H locs sl h1 h2 h3
theorem y_iload {n i : Nat} {x : Int} (hd : decode code pc = .ok (.iload i, 2)) (hv : ls[n]? = some (i, zI x)) (k : yV Γ (pc + 2) ls (zI x :: st) h) : yV Γ (pc) ls (st) h := by
  obtain ⟨p, l, e, s, m, below, meth, c, D, ad, ZZ, bb, LL, xs, QQ⟩ := Γ
  intro Y hl hs hh H locs sl h1 h2 h3
  obtain ⟨yx, yb, ym, yo, yt, yK, yi, ya, yn, yX, yl, ye, y260⟩ := id Y
  refine lv_iload yx yb hd (z_at h1 hv) ?_
  exact k Y hl ⟨hl _ (List.mem_of_getElem? hv), hs⟩ hh H locs sl h1 h2 h3
theorem y_iload_n {n i : Nat} {f : Fin 4} {x : Int} (hd : decode code pc = .ok (.iload_n f, 1)) (hf : (f : Nat) = i) (hv : ls[n]? = some (i, zI x)) (k : yV Γ (pc + 1) ls (zI x :: st) h) : yV Γ (pc) ls (st) h := by
  obtain ⟨p, l, e, s, m, below, meth, c, D, ad, ZZ, bb, LL, xs, QQ⟩ := Γ
  intro Y hl hs hh H locs sl h1 h2 h3
  obtain ⟨yx, yb, ym, yo, yt, yK, yi, ya, yn, yX, yl, ye, y260⟩ := id Y
  refine lv_iload_n yx yb hd hf (z_at h1 hv) ?_
  exact k Y hl ⟨hl _ (List.mem_of_getElem? hv), hs⟩ hh H locs sl h1 h2 h3
theorem y_aload_n {n i : Nat} {f : Fin 4} {x : Nat} (hd : decode code pc = .ok (.aload_n f, 1)) (hf : (f : Nat) = i) (hv : ls[n]? = some (i, zR x)) (k : yV Γ (pc + 1) ls (zR x :: st) h) : yV Γ (pc) ls (st) h := by
  obtain ⟨p, l, e, s, m, below, meth, c, D, ad, ZZ, bb, LL, xs, QQ⟩ := Γ
  intro Y hl hs hh H locs sl h1 h2 h3
  obtain ⟨yx, yb, ym, yo, yt, yK, yi, ya, yn, yX, yl, ye, y260⟩ := id Y
  refine lv_aload_n yx yb hd hf (z_at h1 hv) ?_
  exact k Y hl ⟨hl _ (List.mem_of_getElem? hv), hs⟩ hh H locs sl h1 h2 h3
theorem y_istore {i : Nat} {x : Int} (hd : decode code pc = .ok (.istore i, 2)) (hn : i < 10) (he : (i, zI x) :: ls.filter (fun q => !(q.1 == i) && !(q.1 + 1 == i && zcat q.2 == 2)) = ls') (k : yV Γ (pc + 2) ls' (st) h) : yV Γ (pc) ls (zI x :: st) h := by
  obtain ⟨p, l, e, s, m, below, meth, c, D, ad, ZZ, bb, LL, xs, QQ⟩ := Γ
  intro Y hl hs hh H locs sl h1 h2 h3
  obtain ⟨yx, yb, ym, yo, yt, yK, yi, ya, yn, yX, yl, ye, y260⟩ := id Y
  refine lv_istore (lv' := ls'.map (fun q => (q.1, zc ad q.2))) yx yb hd h1 hn (by rw [z_filt ad, ← he]; rfl) (fun sl2 hs2 => ?_)
  exact k Y (z_filw hl hs.1 he) hs.2 hh H locs sl2 hs2 h2 h3
theorem y_istore_n {i : Nat} {f : Fin 4} {x : Int} (hd : decode code pc = .ok (.istore_n f, 1)) (hf : (f : Nat) = i) (hn : i < 10) (he : (i, zI x) :: ls.filter (fun q => !(q.1 == i) && !(q.1 + 1 == i && zcat q.2 == 2)) = ls') (k : yV Γ (pc + 1) ls' (st) h) : yV Γ (pc) ls (zI x :: st) h := by
  obtain ⟨p, l, e, s, m, below, meth, c, D, ad, ZZ, bb, LL, xs, QQ⟩ := Γ
  intro Y hl hs hh H locs sl h1 h2 h3
  obtain ⟨yx, yb, ym, yo, yt, yK, yi, ya, yn, yX, yl, ye, y260⟩ := id Y
  refine lv_istore_n (lv' := ls'.map (fun q => (q.1, zc ad q.2))) yx yb hd hf h1 hn (by rw [z_filt ad, ← he]; rfl) (fun sl2 hs2 => ?_)
  exact k Y (z_filw hl hs.1 he) hs.2 hh H locs sl2 hs2 h2 h3
theorem y_iinc {n i : Nat} {g a : Int} (hd : decode code pc = .ok (.iinc i g, 3)) (hv : ls[n]? = some (i, zI a)) (hn : i < 10) (he : (i, zI (zwr (a + g))) :: ls.filter (fun q => !(q.1 == i) && !(q.1 + 1 == i && zcat q.2 == 2)) = ls') (k : yV Γ (pc + 3) ls' (st) h) : yV Γ (pc) ls (st) h := by
  obtain ⟨p, l, e, s, m, below, meth, c, D, ad, ZZ, bb, LL, xs, QQ⟩ := Γ
  intro Y hl hs hh H locs sl h1 h2 h3
  obtain ⟨yx, yb, ym, yo, yt, yK, yi, ya, yn, yX, yl, ye, y260⟩ := id Y
  refine lv_iinc (k := n) (x := Int32.ofInt a) (v := Int32.ofInt (zwr (a + g))) (lv' := ls'.map (fun q => (q.1, zc ad q.2))) yx yb hd h1 (by rw [List.getElem?_map, hv]; rfl) (z_wr_add a g).symm hn (by rw [z_filt ad, ← he]; rfl) (fun sl2 hs2 => ?_)
  exact k Y (z_filw hl (v := zI (zwr (a + g))) (zw1_wr _) he) hs hh H locs sl2 hs2 h2 h3
theorem y_iadd {a b : Int} (hd : decode code pc = .ok (.iadd, 1)) (k : yV Γ (pc + 1) ls (zI (zwr (a + b)) :: st) h) : yV Γ (pc) ls (zI b :: zI a :: st) h := by
  obtain ⟨p, l, e, s, m, below, meth, c, D, ad, ZZ, bb, LL, xs, QQ⟩ := Γ
  intro Y hl hs hh H locs sl h1 h2 h3
  obtain ⟨yx, yb, ym, yo, yt, yK, yi, ya, yn, yX, yl, ye, y260⟩ := id Y
  refine lv_iadd yx yb hd ?_
  have k2 := k Y hl ⟨zw1_wr _, hs.2.2⟩ hh H locs sl h1 h2 h3
  rw [← z_wr_add]
  exact k2
theorem y_iand {a b : Int} (hd : decode code pc = .ok (.iand, 1)) (k : yV Γ (pc + 1) ls (zI (zand a b) :: st) h) : yV Γ (pc) ls (zI b :: zI a :: st) h := by
  obtain ⟨p, l, e, s, m, below, meth, c, D, ad, ZZ, bb, LL, xs, QQ⟩ := Γ
  intro Y hl hs hh H locs sl h1 h2 h3
  obtain ⟨yx, yb, ym, yo, yt, yK, yi, ya, yn, yX, yl, ye, y260⟩ := id Y
  refine lv_iand yx yb hd ?_
  have k2 := k Y hl ⟨zw1_to _, hs.2.2⟩ hh H locs sl h1 h2 h3
  simp only [List.map, zc, zand, Int32.ofInt_toInt] at k2
  exact k2
theorem y_ishr {a b : Int} (hd : decode code pc = .ok (.ishr, 1)) (k : yV Γ (pc + 1) ls (zI (zshr a b) :: st) h) : yV Γ (pc) ls (zI b :: zI a :: st) h := by
  obtain ⟨p, l, e, s, m, below, meth, c, D, ad, ZZ, bb, LL, xs, QQ⟩ := Γ
  intro Y hl hs hh H locs sl h1 h2 h3
  obtain ⟨yx, yb, ym, yo, yt, yK, yi, ya, yn, yX, yl, ye, y260⟩ := id Y
  refine lv_ishr yx yb hd ?_
  have k2 := k Y hl ⟨zw1_to _, hs.2.2⟩ hh H locs sl h1 h2 h3
  simp only [List.map, zc, zshr, Int32.ofInt_toInt] at k2
  exact k2
theorem y_irem {a b : Int} (hd : decode code pc = .ok (.irem, 1)) (hb : b ≠ 0) (k : yV Γ (pc + 1) ls (zI (zrem a b) :: st) h) : yV Γ (pc) ls (zI b :: zI a :: st) h := by
  obtain ⟨p, l, e, s, m, below, meth, c, D, ad, ZZ, bb, LL, xs, QQ⟩ := Γ
  intro Y hl hs hh H locs sl h1 h2 h3
  obtain ⟨yx, yb, ym, yo, yt, yK, yi, ya, yn, yX, yl, ye, y260⟩ := id Y
  refine lv_irem yx yb hd (fun q => hb (z_ofInt_inj hs.1 zw1_0 q)) ?_
  have k2 := k Y hl ⟨zw1_to _, hs.2.2⟩ hh H locs sl h1 h2 h3
  simp only [List.map, zc, zrem, Int32.ofInt_toInt] at k2
  exact k2
theorem y_goto {off : Int} {tgt : Nat} (hd : decode code pc = .ok (.goto off, 3)) (ht : (pc : Int) + off = (tgt : Int)) (k : yV Γ (tgt) ls (st) h) : yV Γ (pc) ls (st) h := by
  obtain ⟨p, l, e, s, m, below, meth, c, D, ad, ZZ, bb, LL, xs, QQ⟩ := Γ
  intro Y hl hs hh H locs sl h1 h2 h3
  obtain ⟨yx, yb, ym, yo, yt, yK, yi, ya, yn, yX, yl, ye, y260⟩ := id Y
  refine lv_goto yx yb hd ht ?_
  exact k Y hl hs hh H locs sl h1 h2 h3
theorem y_icmp_lt {a b off : Int} {tgt : Nat} (hd : decode code pc = .ok (.if_icmp .lt off, 3)) (ht : (pc : Int) + off = (tgt : Int)) (kt : a < b → yV Γ (tgt) ls (st) h) (kf : ¬ (a < b) → yV Γ (pc + 3) ls (st) h) : yV Γ (pc) ls (zI b :: zI a :: st) h := by
  obtain ⟨p, l, e, s, m, below, meth, c, D, ad, ZZ, bb, LL, xs, QQ⟩ := Γ
  intro Y hl hs hh H locs sl h1 h2 h3
  obtain ⟨yx, yb, ym, yo, yt, yK, yi, ya, yn, yX, yl, ye, y260⟩ := id Y
  exact lv_icmp_lt yx yb hd ht (fun q => kt ((z_lt hs.2.1 hs.1).mp q) Y hl hs.2.2 hh H locs sl h1 h2 h3) (fun q => kf (fun q2 => q ((z_lt hs.2.1 hs.1).mpr q2)) Y hl hs.2.2 hh H locs sl h1 h2 h3)
theorem y_icmp_eq {a b off : Int} {tgt : Nat} (hd : decode code pc = .ok (.if_icmp .eq off, 3)) (ht : (pc : Int) + off = (tgt : Int)) (kt : a = b → yV Γ (tgt) ls (st) h) (kf : ¬ (a = b) → yV Γ (pc + 3) ls (st) h) : yV Γ (pc) ls (zI b :: zI a :: st) h := by
  obtain ⟨p, l, e, s, m, below, meth, c, D, ad, ZZ, bb, LL, xs, QQ⟩ := Γ
  intro Y hl hs hh H locs sl h1 h2 h3
  obtain ⟨yx, yb, ym, yo, yt, yK, yi, ya, yn, yX, yl, ye, y260⟩ := id Y
  exact lv_icmp_eq yx yb hd ht (fun q => kt ((z_eq hs.2.1 hs.1).mp q) Y hl hs.2.2 hh H locs sl h1 h2 h3) (fun q => kf (fun q2 => q ((z_eq hs.2.1 hs.1).mpr q2)) Y hl hs.2.2 hh H locs sl h1 h2 h3)
theorem y_icmp_ge {a b off : Int} {tgt : Nat} (hd : decode code pc = .ok (.if_icmp .ge off, 3)) (ht : (pc : Int) + off = (tgt : Int)) (kt : b ≤ a → yV Γ (tgt) ls (st) h) (kf : ¬ (b ≤ a) → yV Γ (pc + 3) ls (st) h) : yV Γ (pc) ls (zI b :: zI a :: st) h := by
  obtain ⟨p, l, e, s, m, below, meth, c, D, ad, ZZ, bb, LL, xs, QQ⟩ := Γ
  intro Y hl hs hh H locs sl h1 h2 h3
  obtain ⟨yx, yb, ym, yo, yt, yK, yi, ya, yn, yX, yl, ye, y260⟩ := id Y
  exact lv_icmp_ge yx yb hd ht (fun q => kt ((z_le hs.1 hs.2.1).mp q) Y hl hs.2.2 hh H locs sl h1 h2 h3) (fun q => kf (fun q2 => q ((z_le hs.1 hs.2.1).mpr q2)) Y hl hs.2.2 hh H locs sl h1 h2 h3)
theorem y_icmp_ne {a b off : Int} {tgt : Nat} (hd : decode code pc = .ok (.if_icmp .ne off, 3)) (ht : (pc : Int) + off = (tgt : Int)) (kt : ¬ a = b → yV Γ (tgt) ls (st) h) (kf : a = b → yV Γ (pc + 3) ls (st) h) : yV Γ (pc) ls (zI b :: zI a :: st) h := by
  obtain ⟨p, l, e, s, m, below, meth, c, D, ad, ZZ, bb, LL, xs, QQ⟩ := Γ
  intro Y hl hs hh H locs sl h1 h2 h3
  obtain ⟨yx, yb, ym, yo, yt, yK, yi, ya, yn, yX, yl, ye, y260⟩ := id Y
  exact lv_icmp_ne yx yb hd ht (fun q => kt (fun q2 => q ((z_eq hs.2.1 hs.1).mpr q2)) Y hl hs.2.2 hh H locs sl h1 h2 h3) (fun q => kf ((z_eq hs.2.1 hs.1).mp q) Y hl hs.2.2 hh H locs sl h1 h2 h3)
theorem y_if_lt {a off : Int} {tgt : Nat} (hd : decode code pc = .ok (.ifCond .lt off, 3)) (ht : (pc : Int) + off = (tgt : Int)) (kt : a < 0 → yV Γ (tgt) ls (st) h) (kf : ¬ (a < 0) → yV Γ (pc + 3) ls (st) h) : yV Γ (pc) ls (zI a :: st) h := by
  obtain ⟨p, l, e, s, m, below, meth, c, D, ad, ZZ, bb, LL, xs, QQ⟩ := Γ
  intro Y hl hs hh H locs sl h1 h2 h3
  obtain ⟨yx, yb, ym, yo, yt, yK, yi, ya, yn, yX, yl, ye, y260⟩ := id Y
  exact lv_if_lt yx yb hd ht (fun q => kt ((z_lt hs.1 zw1_0).mp q) Y hl hs.2 hh H locs sl h1 h2 h3) (fun q => kf (fun q2 => q ((z_lt hs.1 zw1_0).mpr q2)) Y hl hs.2 hh H locs sl h1 h2 h3)
theorem y_if_eq {a off : Int} {tgt : Nat} (hd : decode code pc = .ok (.ifCond .eq off, 3)) (ht : (pc : Int) + off = (tgt : Int)) (kt : a = 0 → yV Γ (tgt) ls (st) h) (kf : ¬ (a = 0) → yV Γ (pc + 3) ls (st) h) : yV Γ (pc) ls (zI a :: st) h := by
  obtain ⟨p, l, e, s, m, below, meth, c, D, ad, ZZ, bb, LL, xs, QQ⟩ := Γ
  intro Y hl hs hh H locs sl h1 h2 h3
  obtain ⟨yx, yb, ym, yo, yt, yK, yi, ya, yn, yX, yl, ye, y260⟩ := id Y
  exact lv_if_eq yx yb hd ht (fun q => kt ((z_eq hs.1 zw1_0).mp q) Y hl hs.2 hh H locs sl h1 h2 h3) (fun q => kf (fun q2 => q ((z_eq hs.1 zw1_0).mpr q2)) Y hl hs.2 hh H locs sl h1 h2 h3)
theorem y_if_ne {a off : Int} {tgt : Nat} (hd : decode code pc = .ok (.ifCond .ne off, 3)) (ht : (pc : Int) + off = (tgt : Int)) (kt : ¬ a = 0 → yV Γ (tgt) ls (st) h) (kf : a = 0 → yV Γ (pc + 3) ls (st) h) : yV Γ (pc) ls (zI a :: st) h := by
  obtain ⟨p, l, e, s, m, below, meth, c, D, ad, ZZ, bb, LL, xs, QQ⟩ := Γ
  intro Y hl hs hh H locs sl h1 h2 h3
  obtain ⟨yx, yb, ym, yo, yt, yK, yi, ya, yn, yX, yl, ye, y260⟩ := id Y
  exact lv_if_ne yx yb hd ht (fun q => kt (fun q2 => q ((z_eq hs.1 zw1_0).mpr q2)) Y hl hs.2 hh H locs sl h1 h2 h3) (fun q => kf ((z_eq hs.1 zw1_0).mp q) Y hl hs.2 hh H locs sl h1 h2 h3)
theorem y_top {x : Int} (k : ∀ y, y = x → yV Γ pc ls (zI y :: st) h) : yV Γ pc ls (zI x :: st) h := k x rfl
theorem y_sub (ks : List Nat) (hp : ks.filterMap (fun k => ls[k]?) = ls') (k : yV Γ pc ls' st h) : yV Γ pc ls st h := by
  subst hp
  obtain ⟨p, l, e, s, m, below, meth, c, D, ad, ZZ, bb, LL, xs, QQ⟩ := Γ
  intro Y hl hs hh H locs sl h1 h2 h3
  refine k Y (fun q hq => ?_) hs hh H locs sl (lv_sub h1 ks ?_) h2 h3
  · obtain ⟨i, -, hi⟩ := List.mem_filterMap.mp hq
    exact hl q (List.mem_of_getElem? hi)
  · unfold lv_pick
    rw [List.map_filterMap]
    congr 1
    funext i
    rw [List.getElem?_map]
theorem y_iincg {n i : Nat} {g a : Int} {lf : Int → List (Nat × zA)} (hd : decode code pc = .ok (.iinc i g, 3)) (hv : ls[n]? = some (i, zI a)) (hn : i < 10) (he : ∀ y, (i, zI y) :: ls.filter (fun q => !(q.1 == i) && !(q.1 + 1 == i && zcat q.2 == 2)) = lf y) (k : ∀ y, y = zwr (a + g) → yV Γ (pc + 3) (lf y) st h) : yV Γ pc ls st h :=
  y_iinc hd hv hn (he _) (k _ rfl)
theorem y_callV {M : zM} {n ix d2 : Nat} {as full : List zA} {Post2 : Option zA → zH → Prop} {q ci N : Nat} {T : u_T} {fs : (Nat → Nat) → (Nat → Int32) → List Value} (hM : zSp d2 M (zR q :: as) h Post2) (ho : zObj q ci fs) (hc : vwCl[ci]? = some (M.1.cls, T, N)) (hmi : zMi M) (hm : zMv M n) (hd2 : d2 ≤ 100 ∧ M.2.2.1 ≤ 41) (hw : Cond.methodLink RL ix M.1 ∈ zT) (hd : decode code pc = .ok (.invokevirtual ix, 3)) (hn : as.length = n) (hst : (st.map zcat).sum ≤ 8) (hf : as.reverse ++ zR q :: st = full) (kk : ∀ r h', Post2 r h' → yV Γ (pc + 3) ls (r.toList ++ st) h') : yV Γ pc ls full h := by
  obtain ⟨p, l, e, s, m, below, meth, c, D, ad, ZZ, bb, LL, xs, QQ⟩ := Γ
  intro Y hl hs hh H locs sl h1 h2 h3
  obtain ⟨yx, yb, ym, yo, yt, yK, yi, ya, yn, yX, yl, ye, y260⟩ := id Y
  subst hf
  have hwa : zwS as := zwS_rev.mp (zwS_app.mp hs).1
  have hwst : zwS st := (zwS_app.mp hs).2.2
  have he : (zW ad ZZ.1 ZZ.2.1 ZZ.2.2 h)[q]? = some (ad q, .inr (ci, fs ad (fun j => Int32.ofInt (h q j)))) := by rw [zW_get ho.1, ho.2]
  have hcb := callB_of (R := room_1) (s := s) (args := #[Value.ref bb]) (Ts := zT) (ws := zws M) (own := RL) (index := ix) (y := M.1) (bytes := M.2.1) (maxL := M.2.2.1) (ret := M.2.2.2) (rm := zRm d2) (mc := 0) (ms := 0) n yt (z_gin hm) rfl rfl rfl (yt _ hm.2.1) (yt _ hw) ⟨hm.2.2.1.1, hm.2.2.1.2, hm.2.2.2⟩ ⟨by have := hd2.1; show d2 + 1 ≤ 2048; omega, by have := hd2.1; have := hd2.2; show 8 + (M.2.2.1 + 11) + 60 * d2 ≤ 84000; omega⟩
  have hr := va_runV (As := as.map (zc ad)) (rest := st.map (zc ad)) (b := ad q) (C := M.1.cls) (g := F0 m pc sl ((as.reverse ++ zR q :: st).map (zc ad))) ⟨yx, yb, ym, yo, yt⟩ (hM l D ad ZZ.1 ZZ.2.1 ZZ.2.2 yi) ⟨hcb, yt _ hmi.1, yt _ hmi.2⟩ ⟨z_blind, va_recv yK h2 hc he, fun U hU hW => ⟨rfl, ⟨trivial, hwa⟩, hh, by rw [hU]; exact h2, va_K.moved hW.alike yK, yn.warm hW⟩⟩ rfl (by rw [List.length_map]; exact hn) h1.1 (by simp [zc]) (lv_room (rest := st.map (zc ad)) (m := m) (pc := pc) (ls := sl) (by rw [z_sum]; exact hst)) hd ⟨Nat.le_of_ble_eq_true rfl, Nat.le_of_ble_eq_true rfl⟩ (cells := 128) (slots := 3178) (locs := locs) (p := p) (e := e) (R := room_1) (below := below) (meth := meth)
  intro T hT X
  obtain ⟨v, st₀, t, T', LL2, h0, X', hL, e1, e2, ⟨⟨r, h', hv, hvw, hwh', hpost, hP'⟩, hz, hk⟩, st'⟩ := hr T hT X
  cases hv
  rw [h0] at hz hk
  have out : ∀ x : Nat, zAd ad x → s.heap.size ≤ x := fun x hx => by
    obtain ⟨k, k1, rfl⟩ := hx
    exact ya k k1
  have hS1 : va_S (yA s) s.heap T'.heap (locs ++ LL2) := ⟨Nat.le_trans h3.1 (by rw [e1]; exact hz), fun q z1 z2 => by rw [e1, hk q (Nat.lt_of_lt_of_le z1 h3.1) (fun w => z2 (out q w))]; exact h3.2.1 q z1 z2, fun q hq => by
    rcases List.mem_append.mp hq with z | z
    · exact h3.2.2 q z
    · exact out _ (hL q z)⟩
  have hP1 : va_P D vwCl (zW ad ZZ.1 ZZ.2.1 ZZ.2.2 h') T'.heap := by rw [e1]; exact hP'
  obtain ⟨t2, a1, b1⟩ := kk r h' hpost Y hl (by rcases r with _ | v; exact hwst; exact ⟨hvw v rfl, hwst⟩) hwh' T'.heap (locs ++ LL2) sl h1 hP1 hS1 T' rfl X'
  have es : (r.map (zc ad)).toList ++ st.map (zc ad) = (r.toList ++ st).map (zc ad) := by cases r <;> rfl
  rw [es] at st'
  exact ⟨t2, st' t2 a1, b1⟩
theorem y_callS {M : zM} {n ix d2 : Nat} {as full : List zA} {Post2 : Option zA → zH → Prop} (hM : zSp d2 M as h Post2) (hms : Cond.static M.1 ∈ zT) (hm : zMv M n) (hd2 : d2 ≤ 100 ∧ M.2.2.1 ≤ 41) (hw : Cond.methodLink RL ix M.1 ∈ zT) (hd : decode code pc = .ok (.invokestatic ix, 3)) (hn : as.length = n) (hst : (st.map zcat).sum ≤ 8) (hf : as.reverse ++ st = full) (kk : ∀ r h', Post2 r h' → yV Γ (pc + 3) ls (r.toList ++ st) h') : yV Γ pc ls full h := by
  obtain ⟨p, l, e, s, m, below, meth, c, D, ad, ZZ, bb, LL, xs, QQ⟩ := Γ
  intro Y hl hs hh H locs sl h1 h2 h3
  obtain ⟨yx, yb, ym, yo, yt, yK, yi, ya, yn, yX, yl, ye, y260⟩ := id Y
  subst hf
  have hwa : zwS as := zwS_rev.mp (zwS_app.mp hs).1
  have hwst : zwS st := (zwS_app.mp hs).2
  have hcb := callB_of (R := room_1) (s := s) (args := #[Value.ref bb]) (Ts := zT) (ws := zws M) (own := RL) (index := ix) (y := M.1) (bytes := M.2.1) (maxL := M.2.2.1) (ret := M.2.2.2) (rm := zRm d2) (mc := 0) (ms := 0) n yt (z_gin hm) rfl rfl rfl (yt _ hm.2.1) (yt _ hw) ⟨hm.2.2.1.1, hm.2.2.1.2, hm.2.2.2⟩ ⟨by have := hd2.1; show d2 + 1 ≤ 2048; omega, by have := hd2.1; have := hd2.2; show 8 + (M.2.2.1 + 11) + 60 * d2 ≤ 84000; omega⟩
  have hr := va_runS (As := as.map (zc ad)) (rest := st.map (zc ad)) (g := F0 m pc sl ((as.reverse ++ st).map (zc ad))) ⟨yx, yb, ym, yo, yt⟩ (hM l D ad ZZ.1 ZZ.2.1 ZZ.2.2 yi) ⟨hcb, yt _ hms⟩ ⟨z_blind, fun U hU hW => ⟨rfl, hwa, hh, by rw [hU]; exact h2, va_K.moved hW.alike yK, yn.warm hW⟩⟩ rfl (by rw [List.length_map]; exact hn) h1.1 (by simp) (lv_room (rest := st.map (zc ad)) (m := m) (pc := pc) (ls := sl) (by rw [z_sum]; exact hst)) hd ⟨Nat.le_of_ble_eq_true rfl, Nat.le_of_ble_eq_true rfl⟩ (cells := 128) (slots := 3178) (locs := locs) (p := p) (e := e) (R := room_1) (below := below) (meth := meth)
  intro T hT X
  obtain ⟨v, st₀, t, T', LL2, h0, X', hL, e1, e2, ⟨⟨r, h', hv, hvw, hwh', hpost, hP'⟩, hz, hk⟩, st'⟩ := hr T hT X
  cases hv
  rw [h0] at hz hk
  have out : ∀ x : Nat, zAd ad x → s.heap.size ≤ x := fun x hx => by
    obtain ⟨k, k1, rfl⟩ := hx
    exact ya k k1
  have hS1 : va_S (yA s) s.heap T'.heap (locs ++ LL2) := ⟨Nat.le_trans h3.1 (by rw [e1]; exact hz), fun q z1 z2 => by rw [e1, hk q (Nat.lt_of_lt_of_le z1 h3.1) (fun w => z2 (out q w))]; exact h3.2.1 q z1 z2, fun q hq => by
    rcases List.mem_append.mp hq with z | z
    · exact h3.2.2 q z
    · exact out _ (hL q z)⟩
  have hP1 : va_P D vwCl (zW ad ZZ.1 ZZ.2.1 ZZ.2.2 h') T'.heap := by rw [e1]; exact hP'
  obtain ⟨t2, a1, b1⟩ := kk r h' hpost Y hl (by rcases r with _ | v; exact hwst; exact ⟨hvw v rfl, hwst⟩) hwh' T'.heap (locs ++ LL2) sl h1 hP1 hS1 T' rfl X'
  have es : (r.map (zc ad)).toList ++ st.map (zc ad) = (r.toList ++ st).map (zc ad) := by cases r <;> rfl
  rw [es] at st'
  exact ⟨t2, st' t2 a1, b1⟩
end yrows
/-- the law's 'cell': a number of the script, or one made of its place -/
theorem cell_met (l : Launch) (b L : Nat) (xs : Nat → Int32) (e : Int) (we : zw1 e) (e0 : 0 ≤ e) (hL : L ≤ 260) : Met l yL_cell (zws mL_cell) (zRm 1) (fun v U => v = #[.ref b, .int (Int32.ofInt e)] ∧ va_X b L xs U U.heap ∧ b < U.heap.size) (fun _ st o t => (∃ r : Int32, o = .returned (some (.int r))) ∧ va_F (fun _ => False) st t) 0 0 (fun _ => False) := by
  refine Met.ofW (cc := cL_cell) (maxL := 2) (ret := some .int) (by decide +kernel) rfl ?_
  intro p e1 s m args below meth c s₁ B hml hv
  obtain ⟨hv, hX, hbl⟩ := hv
  subst hv
  have hl := lv_entry ([Value.ref b, Value.int (Int32.ofInt e)]) (n := 2) (Nat.le_of_ble_eq_true rfl)
  rw [show (#[Value.ref b, Value.int (Int32.ofInt e)] : Array Value) = ([Value.ref b, Value.int (Int32.ofInt e)] : List Value).toArray from rfl, lg_entry_eq]
  generalize (lg_sl ([Value.ref b, Value.int (Int32.ofInt e)]) ++ List.replicate (2 - (lg_sl ([Value.ref b, Value.int (Int32.ofInt e)])).length) Slot.unset).toArray = sl at hl ⊢
  have hl : lv_has sl 2 [(0, .ref b), (1, .int (Int32.ofInt e))] := hl
  have hx := B.exec
  have hb := B.bytes
  have hlk := B.notSynchronized
  have hS : va_S (fun _ => False) s.heap s.heap [] := va_S.rf
  refine lv_iload_n hx hb dL_cell_0 rfl (lv_at hl 1 rfl) ?_
  refine lv_aload_n hx hb dL_cell_1 rfl (lv_at hl 0 rfl) ?_
  refine va_slen hx hb hX hbl (fun z => z) hS dL_cell_2 ?_
  refine lv_icmp_ge (tgt := 12) hx hb dL_cell_3 rfl (fun q => ?_) (fun q => ?_)
  · refine lv_sipush (v := 7919) hx hb dL_cell_12 (by decide +kernel) ?_
    refine lv_iload_n hx hb dL_cell_15 rfl (lv_at hl 1 rfl) ?_
    refine lv_iconst (v := 3) hx hb dL_cell_16 (by decide) ?_
    refine lv_iadd hx hb dL_cell_17 ?_
    refine lv_imul hx hb dL_cell_18 ?_
    refine lv_iload_n hx hb dL_cell_19 rfl (lv_at hl 1 rfl) ?_
    refine lv_bipush (v := 11) hx hb dL_cell_20 (by decide +kernel) ?_
    refine lv_iadd hx hb dL_cell_22 ?_
    refine lv_imul hx hb dL_cell_23 ?_
    exact W.iret hx hb B.returns (fun t ht hW => ⟨⟨_, rfl⟩, hS.F ht⟩) (fun q hq => by cases hq) dL_cell_24
  · refine lv_aload_n hx hb dL_cell_6 rfl (lv_at hl 0 rfl) ?_
    refine lv_iload_n hx hb dL_cell_7 rfl (lv_at hl 1 rfl) ?_
    have hlt : e < (L : Int) := by
      rw [show Int32.ofNat L = Int32.ofInt (L : Int) from (Int32.ofInt_eq_ofNat).symm] at q
      have wL : zw1 (L : Int) := zw1_of (by omega) (by omega)
      have : ¬ ((L : Int) ≤ e) := fun z => q ((z_le wL we).mpr z)
      omega
    refine va_sld hx hb hX hbl (fun z => z) hS (z_in we e0 hlt) dL_cell_8 ?_
    refine lv_goto (tgt := 24) hx hb dL_cell_9 rfl ?_
    exact W.iret hx hb B.returns (fun t ht hW => ⟨⟨_, rfl⟩, hS.F ht⟩) (fun q hq => by cases hq) dL_cell_24
theorem y_cell {Γ : yCx} {pc : Nat} {ls : List (Nat × zA)} {st : List zA} {h : zH} {a : Int} (a0 : 0 ≤ a) (hst : (st.map zcat).sum ≤ 8) (hd : decode code pc = .ok (.invokestatic 73, 3)) (k : ∀ x : Int, yV Γ (pc + 3) ls (zI x :: st) h) : yV Γ pc ls (zI a :: zR 128 :: st) h := by
  obtain ⟨p, l, e, s, m, below, meth, c, D, ad, ZZ, bb, LL, xs, QQ⟩ := Γ
  intro Y hl hs hh H locs sl h1 h2 h3
  obtain ⟨yx, yb, ym, yo, yt, yK, yi, ya, yn, yX, yl, ye, y260⟩ := id Y
  subst ye
  have hcb := callB_of (R := room_1) (s := s) (args := #[Value.ref (ad 128)]) (Ts := zT) (ws := zws mL_cell) (own := RL) (index := 73) (y := yL_cell) (bytes := cL_cell) (maxL := 2) (ret := some .int) (rm := zRm 1) (mc := 0) (ms := 0) 2 yt (z_gin wm_L_cell) rfl rfl rfl (yt _ wm_L_cell.2.1) (yt _ wl_L_73) ⟨wm_L_cell.2.2.1.1, wm_L_cell.2.2.1.2, wm_L_cell.2.2.2⟩ ⟨Nat.le_of_ble_eq_true rfl, Nat.le_of_ble_eq_true rfl⟩
  have yX1 : va_X (ad 128) LL xs s H := yX.kept (h3.2.1 _ yl (Nat.not_le.mpr yl))
  have hr2 := va_runS (H := H) (As := [.ref (ad 128), .int (Int32.ofInt a)]) (rest := st.map (zc ad)) (g := F0 m pc sl ((zI a :: zR 128 :: st).map (zc ad))) ⟨yx, yb, ym, yo, yt⟩ (cell_met l (ad 128) LL xs a hs.1 a0 y260) ⟨hcb, yt _ wt_L_cell⟩ ⟨fun a U g mk q => ⟨q.1, va_X.moved (u := U) (U := U.calling g mk a) (Vm.Alike.refl U.vm) q.2.1, q.2.2⟩, fun U hU hW => ⟨rfl, by rw [hU]; exact yX1.moved hW.alike, by rw [hU]; exact Nat.lt_of_lt_of_le yl h3.1⟩⟩ rfl rfl h1.1 rfl (lv_room (rest := st.map (zc ad)) (m := m) (pc := pc) (ls := sl) (by rw [z_sum]; exact hst)) hd ⟨Nat.le_of_ble_eq_true rfl, Nat.le_of_ble_eq_true rfl⟩ (cells := 128) (slots := 3178) (locs := locs) (p := p) (e := e) (R := room_1) (below := below) (meth := meth)
  intro T hT X
  obtain ⟨v, st₀, t, T', LL2, h0, X', hL, e1, e2, ⟨⟨r, hv⟩, hz, hk⟩, st'⟩ := hr2 T hT X
  cases hv
  rw [h0] at hz hk
  rw [← e1] at hk hz
  have kept : ∀ q : Nat, q < H.size → T'.heap[q]? = H[q]? := fun q hq => hk q hq (fun z => z)
  have hS1 : va_S (yA s) s.heap T'.heap (locs ++ LL2) := ⟨Nat.le_trans h3.1 hz, fun q z1 z2 => by rw [kept q (Nat.lt_of_lt_of_le z1 h3.1)]; exact h3.2.1 q z1 z2, fun q hq => by
    rcases List.mem_append.mp hq with z | z
    · exact h3.2.2 q z
    · exact (hL q z).elim⟩
  obtain ⟨t2, a1, b1⟩ := k r.toInt Y hl ⟨zw1_to _, hs.2.2⟩ hh T'.heap (locs ++ LL2) sl h1 (h2.kept (fun k q hq => kept q.1 ((h2 k q hq).lt))) hS1 T' rfl X'
  have ez : zc ad (zI r.toInt) = .int r := by
    show Value.int (Int32.ofInt r.toInt) = _
    rw [Int32.ofInt_toInt]
  have es : (zI r.toInt :: st).map (zc ad) = .int r :: st.map (zc ad) := by rw [List.map_cons, ez]
  rw [es] at a1
  exact ⟨t2, st' t2 a1, b1⟩
