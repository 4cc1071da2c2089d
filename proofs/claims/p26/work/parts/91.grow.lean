/-! worlds that grow: constructors -/
theorem gNe.warm {s U : State} (hW : s.WarmedH U.vm) (h : gNe s) : gNe U := ⟨va_Nw.warmM hW h.1, va_Nw.warmM hW h.2.1, va_Nw.warmM hW h.2.2.1, va_Nw.warmM hW h.2.2.2.1, va_AO.moved hW.alike h.2.2.2.2⟩
theorem gNe.same {u U : State} (e : u.vm = U.vm) (h : gNe u) : gNe U := ⟨va_Nw.same rfl e h.1, va_Nw.same rfl e h.2.1, va_Nw.same rfl e h.2.2.1, va_Nw.same rfl e h.2.2.2.1, va_AO.moved (by rw [e]; exact Vm.Alike.refl U.vm) h.2.2.2.2⟩
abbrev gZ : Type := ClassId × ClassId × ClassId
abbrev gK (Z : gZ) : List (ClassId × FieldType) := zK Z.1 Z.2.1 Z.2.2
abbrev gCx : Type := Program × Launch × Env × State × MethodId × Array Value × List Frame × Method × Code × va_G × gZ × (Nat → Prop) × (State → Prop)
def gHy (own : String) (cc : ByteArray) (nL : Nat) (Γ : gCx) : Prop := match Γ with
  | (p, _, _, s, m, args, _, _, c, D, Z, A, _) => p.tables.exec = Jvm.exec ∧ c.code = cc ∧ c.maxLocals = nL ∧ s.vm.findClass own = some m.cls ∧ (∀ w ∈ zT, w.before args s = true) ∧ va_K D vwCl (gK Z) s ∧ (∀ q : Nat, s.heap.size ≤ q → A q) ∧ gNe s
def gIni (Γ : gCx) : Prop := match Γ with
  | (_, _, _, _, _, _, _, meth, _, _, _, _, _) => meth.name = "<init>"
def gI (Γ : gCx) : ClassId := match Γ with
  | (_, _, _, _, _, _, _, _, _, _, Z, _, _) => Z.1
def gB (Γ : gCx) : ClassId := match Γ with
  | (_, _, _, _, _, _, _, _, _, _, Z, _, _) => Z.2.1
def gS (Γ : gCx) : ClassId := match Γ with
  | (_, _, _, _, _, _, _, _, _, _, Z, _, _) => Z.2.2
def gV (own : String) (cc : ByteArray) (nL : Nat) (R : Room) (Γ : gCx) (pc : Nat) (ls : List (Nat × Value)) (st : List Value) (ws : va_W) (cells slots : Nat) : Prop := match Γ with
  | (p, l, e, s, m, args, below, meth, c, D, Z, A, Q) => gHy own cc nL (p, l, e, s, m, args, below, meth, c, D, Z, A, Q) → ∀ (H : Heap) (locs : List Loc) (sl : Array Slot), lv_has sl nL ls → va_P D vwCl ws H → va_D A ws → va_S A s.heap H locs → W p l e R s m args below meth c H locs cells slots Q (F0 m pc sl st)
/-- a constructor's contract: frames, cells and slots that it takes; its object's fields at the start; the cells behind it -/
def gRm (fr mc ms : Nat) : Room := { frames := fr, cells := mc, slots := ms, locals := 60 * fr }
def gPs (D : va_G) (Z : gZ) (ci : Nat) (fs : List Value) (h0 sz : Nat) : Array Value → State → Prop := fun v U => v = #[.ref h0] ∧ U.heap.size = sz ∧ va_P D vwCl [(h0, .inr (ci, fs))] U.heap ∧ va_K D vwCl (gK Z) U ∧ gNe U
def gQe (D : va_G) (Z : gZ) (Post : gZ → Nat → va_W → Prop) (h0 : Nat) (A : Nat → Prop) : Array Value → State → Outcome → State → Prop := fun _ st o t => (o = .returned none ∧ ∃ w1 : va_W, Post Z h0 w1 ∧ va_P D vwCl w1 t.heap ∧ va_D A w1) ∧ va_F A st t
def gSp (fr mc ms : Nat) (M : zM) (ci : Nat) (fs : List Value) (Post : gZ → Nat → va_W → Prop) : Prop := ∀ (l : Launch) (D : va_G) (Z : gZ) (h0 sz : Nat), Met l M.1 (zws M) (gRm fr mc ms) (gPs D Z ci fs h0 sz) (gQe D Z Post h0 (va_A [(h0, .inr (ci, fs))] sz)) mc ms (va_A [(h0, .inr (ci, fs))] sz)
theorem gPs_blind {D : va_G} {Z : gZ} {ci : Nat} {fs : List Value} {h0 sz : Nat} : FrameBlind (gPs D Z ci fs h0 sz) := fun a U g mk q => ⟨q.1, q.2.1, q.2.2.1, va_K.moved (u := U) (U := U.calling g mk a) (Vm.Alike.refl U.vm) q.2.2.2.1, gNe.same (u := U) (U := U.calling g mk a) rfl q.2.2.2.2⟩
theorem g_join {A0 : Nat → Prop} {D : va_G} {cl : List vw_C} {ws w1 : va_W} {x : Nat × va_E} {H H1 : Heap} (hP : va_P D cl (ws ++ [x]) H) (hD : va_D A0 (ws ++ [x])) (hk : ∀ q : Nat, q < H.size → ¬ va_A [x] H.size q → H1[q]? = H[q]?) (hF : ∀ q, va_A [x] H.size q → A0 q) (hP1 : va_P D cl w1 H1) (hD1 : va_D (va_A [x] H.size) w1) : va_P D cl (ws ++ w1) H1 ∧ va_D A0 (ws ++ w1) := by
  have up : ∀ (k : Nat) (q : Nat × va_E), ws[k]? = some q → (ws ++ [x])[k]? = some q := fun k q hq => by
    rw [List.getElem?_append_left (List.getElem?_eq_some_iff.mp hq).1]; exact hq
  have top : (ws ++ [x])[ws.length]? = some x := by simp
  have apart : ∀ (k : Nat) (q : Nat × va_E), ws[k]? = some q → q.1 < H.size ∧ ¬ va_A [x] H.size q.1 := by
    intro k q hq
    have hl := (hP k q (up k q hq)).lt
    refine ⟨hl, fun h => ?_⟩
    rcases h with ⟨k2, e, h⟩ | h
    · have hk2 : k2 = 0 := by
        have := (List.getElem?_eq_some_iff.mp h).1
        simp at this; exact this
      rw [hk2] at h
      have hx : x = (q.1, e) := by simpa using h
      have := hD.1 k ws.length q x (up k q hq) top (by rw [hx])
      have := (List.getElem?_eq_some_iff.mp hq).1
      omega
    · omega
  refine ⟨va_P.app (fun k q hq => ?_) hP1, va_D.app ⟨fun i j p q hp hq e => hD.1 i j p q (up i p hp) (up j q hq) e, fun k q hq => hD.2 k q (up k q hq)⟩ (hD1.weaken (fun k q _ h => hF q.1 h)) (fun i j p q hp hq e => ?_)⟩
  · obtain ⟨g1, g2⟩ := apart k q hq
    exact (hP k q (up k q hq)).kept (hk q.1 g1 g2)
  · exact (apart i p hp).2 (by rw [e]; exact hD1.2 j q hq)
section grows
variable {own : String} {cc : ByteArray} {nL : Nat} {R : Room} {Γ : gCx} {pc : Nat} {ls ls' : List (Nat × Value)} {st : List Value} {ws ws' : va_W} {cells slots : Nat}
theorem g_aload_n {n i x : Nat} {f : Fin 4} (hd : decode cc pc = .ok (.aload_n f, 1)) (hf : (f : Nat) = i) (hv : ls[n]? = some (i, .ref x)) (k : gV own cc nL R Γ (pc + 1) ls (.ref x :: st) ws cells slots) : gV own cc nL R Γ pc ls st ws cells slots := by
  obtain ⟨p, l, e, s, m, args, below, meth, c, D, Z, A, Q⟩ := Γ
  intro Y H locs sl h1 h2 h3 h4
  obtain ⟨yx, yb, ym, yo, yt, yK, yA, yn⟩ := id Y
  refine lv_aload_n yx yb hd hf (lv_at h1 n hv) ?_
  exact k Y H locs sl h1 h2 h3 h4
theorem g_iload_n {n i : Nat} {x : Int32} {f : Fin 4} (hd : decode cc pc = .ok (.iload_n f, 1)) (hf : (f : Nat) = i) (hv : ls[n]? = some (i, .int x)) (k : gV own cc nL R Γ (pc + 1) ls (.int x :: st) ws cells slots) : gV own cc nL R Γ pc ls st ws cells slots := by
  obtain ⟨p, l, e, s, m, args, below, meth, c, D, Z, A, Q⟩ := Γ
  intro Y H locs sl h1 h2 h3 h4
  obtain ⟨yx, yb, ym, yo, yt, yK, yA, yn⟩ := id Y
  refine lv_iload_n yx yb hd hf (lv_at h1 n hv) ?_
  exact k Y H locs sl h1 h2 h3 h4
theorem g_iconst {n : Int} {v : Int32} (hd : decode cc pc = .ok (.iconst n, 1)) (ha : Int32.ofInt n = v) (k : gV own cc nL R Γ (pc + 1) ls (.int v :: st) ws cells slots) : gV own cc nL R Γ pc ls st ws cells slots := by
  obtain ⟨p, l, e, s, m, args, below, meth, c, D, Z, A, Q⟩ := Γ
  intro Y H locs sl h1 h2 h3 h4
  obtain ⟨yx, yb, ym, yo, yt, yK, yA, yn⟩ := id Y
  refine lv_iconst yx yb hd (v := v) ha ?_
  exact k Y H locs sl h1 h2 h3 h4
theorem g_bipush {n : Int} {v : Int32} (hd : decode cc pc = .ok (.bipush n, 2)) (ha : (Int8.ofInt n).toInt32 = v) (k : gV own cc nL R Γ (pc + 2) ls (.int v :: st) ws cells slots) : gV own cc nL R Γ pc ls st ws cells slots := by
  obtain ⟨p, l, e, s, m, args, below, meth, c, D, Z, A, Q⟩ := Γ
  intro Y H locs sl h1 h2 h3 h4
  obtain ⟨yx, yb, ym, yo, yt, yK, yA, yn⟩ := id Y
  refine lv_bipush yx yb hd (v := v) ha ?_
  exact k Y H locs sl h1 h2 h3 h4
theorem g_sipush {n : Int} {v : Int32} (hd : decode cc pc = .ok (.sipush n, 3)) (ha : (Int16.ofInt n).toInt32 = v) (k : gV own cc nL R Γ (pc + 3) ls (.int v :: st) ws cells slots) : gV own cc nL R Γ pc ls st ws cells slots := by
  obtain ⟨p, l, e, s, m, args, below, meth, c, D, Z, A, Q⟩ := Γ
  intro Y H locs sl h1 h2 h3 h4
  obtain ⟨yx, yb, ym, yo, yt, yK, yA, yn⟩ := id Y
  refine lv_sipush yx yb hd (v := v) ha ?_
  exact k Y H locs sl h1 h2 h3 h4
theorem g_iadd {a b : Int32} (hd : decode cc pc = .ok (.iadd, 1)) (k : gV own cc nL R Γ (pc + 1) ls (.int (a + b) :: st) ws cells slots) : gV own cc nL R Γ pc ls (.int b :: .int a :: st) ws cells slots := by
  obtain ⟨p, l, e, s, m, args, below, meth, c, D, Z, A, Q⟩ := Γ
  intro Y H locs sl h1 h2 h3 h4
  obtain ⟨yx, yb, ym, yo, yt, yK, yA, yn⟩ := id Y
  refine lv_iadd yx yb hd ?_
  exact k Y H locs sl h1 h2 h3 h4
theorem g_isub {a b : Int32} (hd : decode cc pc = .ok (.isub, 1)) (k : gV own cc nL R Γ (pc + 1) ls (.int (a - b) :: st) ws cells slots) : gV own cc nL R Γ pc ls (.int b :: .int a :: st) ws cells slots := by
  obtain ⟨p, l, e, s, m, args, below, meth, c, D, Z, A, Q⟩ := Γ
  intro Y H locs sl h1 h2 h3 h4
  obtain ⟨yx, yb, ym, yo, yt, yK, yA, yn⟩ := id Y
  refine lv_isub yx yb hd ?_
  exact k Y H locs sl h1 h2 h3 h4
theorem g_imul {a b : Int32} (hd : decode cc pc = .ok (.imul, 1)) (k : gV own cc nL R Γ (pc + 1) ls (.int (a * b) :: st) ws cells slots) : gV own cc nL R Γ pc ls (.int b :: .int a :: st) ws cells slots := by
  obtain ⟨p, l, e, s, m, args, below, meth, c, D, Z, A, Q⟩ := Γ
  intro Y H locs sl h1 h2 h3 h4
  obtain ⟨yx, yb, ym, yo, yt, yK, yA, yn⟩ := id Y
  refine lv_imul yx yb hd ?_
  exact k Y H locs sl h1 h2 h3 h4
theorem g_istore_n {i : Nat} {f : Fin 4} {x : Int32} (hd : decode cc pc = .ok (.istore_n f, 1)) (hf : (f : Nat) = i) (hn : i < nL) (he : (i, Value.int x) :: ls.filter (fun q => !(q.1 == i) && !(q.1 + 1 == i && q.2.category == 2)) = ls') (k : gV own cc nL R Γ (pc + 1) ls' st ws cells slots) : gV own cc nL R Γ pc ls (.int x :: st) ws cells slots := by
  obtain ⟨p, l, e, s, m, args, below, meth, c, D, Z, A, Q⟩ := Γ
  intro Y H locs sl h1 h2 h3 h4
  obtain ⟨yx, yb, ym, yo, yt, yK, yA, yn⟩ := id Y
  refine lv_istore_n (lv' := ls') yx yb hd hf h1 hn he (fun sl2 hs2 => ?_)
  exact k Y H locs sl2 hs2 h2 h3 h4
theorem g_astore_n {i x : Nat} {f : Fin 4} (hd : decode cc pc = .ok (.astore_n f, 1)) (hf : (f : Nat) = i) (hn : i < nL) (he : (i, Value.ref x) :: ls.filter (fun q => !(q.1 == i) && !(q.1 + 1 == i && q.2.category == 2)) = ls') (k : gV own cc nL R Γ (pc + 1) ls' st ws cells slots) : gV own cc nL R Γ pc ls (.ref x :: st) ws cells slots := by
  obtain ⟨p, l, e, s, m, args, below, meth, c, D, Z, A, Q⟩ := Γ
  intro Y H locs sl h1 h2 h3 h4
  obtain ⟨yx, yb, ym, yo, yt, yK, yA, yn⟩ := id Y
  refine lv_astore_n (lv' := ls') yx yb hd hf h1 hn he (fun sl2 hs2 => ?_)
  exact k Y H locs sl2 hs2 h2 h3 h4
theorem g_iinc {n i : Nat} {g : Int} {x v : Int32} (hd : decode cc pc = .ok (.iinc i g, 3)) (hv : ls[n]? = some (i, .int x)) (hx : x + Int32.ofInt g = v) (hn : i < nL) (he : (i, Value.int v) :: ls.filter (fun q => !(q.1 == i) && !(q.1 + 1 == i && q.2.category == 2)) = ls') (k : gV own cc nL R Γ (pc + 3) ls' st ws cells slots) : gV own cc nL R Γ pc ls st ws cells slots := by
  obtain ⟨p, l, e, s, m, args, below, meth, c, D, Z, A, Q⟩ := Γ
  intro Y H locs sl h1 h2 h3 h4
  obtain ⟨yx, yb, ym, yo, yt, yK, yA, yn⟩ := id Y
  refine lv_iinc (k := n) (x := x) (v := v) (lv' := ls') yx yb hd h1 hv hx hn he (fun sl2 hs2 => ?_)
  exact k Y H locs sl2 hs2 h2 h3 h4
theorem g_goto {off : Int} {tgt : Nat} (hd : decode cc pc = .ok (.goto off, 3)) (ht : (pc : Int) + off = (tgt : Int)) (k : gV own cc nL R Γ tgt ls st ws cells slots) : gV own cc nL R Γ pc ls st ws cells slots := by
  obtain ⟨p, l, e, s, m, args, below, meth, c, D, Z, A, Q⟩ := Γ
  intro Y H locs sl h1 h2 h3 h4
  obtain ⟨yx, yb, ym, yo, yt, yK, yA, yn⟩ := id Y
  refine lv_goto yx yb hd ht ?_
  exact k Y H locs sl h1 h2 h3 h4
theorem g_icmp_ge {a b : Int32} {off : Int} {tgt : Nat} (hd : decode cc pc = .ok (.if_icmp .ge off, 3)) (ht : (pc : Int) + off = (tgt : Int)) (kt : b ≤ a → gV own cc nL R Γ tgt ls st ws cells slots) (kf : ¬ b ≤ a → gV own cc nL R Γ (pc + 3) ls st ws cells slots) : gV own cc nL R Γ pc ls (.int b :: .int a :: st) ws cells slots := by
  obtain ⟨p, l, e, s, m, args, below, meth, c, D, Z, A, Q⟩ := Γ
  intro Y H locs sl h1 h2 h3 h4
  obtain ⟨yx, yb, ym, yo, yt, yK, yA, yn⟩ := id Y
  exact lv_icmp_ge yx yb hd ht (fun q => kt q Y H locs sl h1 h2 h3 h4) (fun q => kf q Y H locs sl h1 h2 h3 h4)
theorem g_dup {v : Value} (hd : decode cc pc = .ok (.dup, 1)) (hv : v.category = 1) (k : gV own cc nL R Γ (pc + 1) ls (v :: v :: st) ws cells slots) : gV own cc nL R Γ pc ls (v :: st) ws cells slots := by
  obtain ⟨p, l, e, s, m, args, below, meth, c, D, Z, A, Q⟩ := Γ
  intro Y H locs sl h1 h2 h3 h4
  obtain ⟨yx, yb, ym, yo, yt, yK, yA, yn⟩ := id Y
  refine lv_dup yx yb hd hv ?_
  exact k Y H locs sl h1 h2 h3 h4
theorem g_obj {ix x : Nat} (hw : Cond.methodLink own ix objectInit ∈ zT) (hR : 1 ≤ R.frames ∧ 12 ≤ R.locals) (hd : decode cc pc = .ok (.invokespecial ix, 3)) (k : gV own cc nL R Γ (pc + 3) ls [] ws cells slots) : gV own cc nL R Γ pc ls [.ref x] ws cells slots := by
  obtain ⟨p, l, e, s, m, args, below, meth, c, D, Z, A, Q⟩ := Γ
  intro Y H locs sl h1 h2 h3 h4
  obtain ⟨yx, yb, ym, yo, yt, yK, yA, yn⟩ := id Y
  refine W.objInit yx yb yo (yt _ hw) (yt _ wo_inst) (yt _ wo_code) rfl (by rw [ym]; exact h1.1) rfl hd hR.1 (by simpa using hR.2) ?_
  refine W.eq (g2 := F0 m (pc + 3) sl []) rfl ?_
  exact k Y H locs sl h1 h2 h3 h4
theorem g_newaI {N : Nat} {n : Int32} (hn : ¬ n < 0 ∧ n.toNatClampNeg = N) (hN : N * 4 ≤ 536870912) (hr : cells + 1 ≤ R.cells ∧ slots + N ≤ R.slots) (hd : decode cc pc = .ok (.newarray .int, 2)) (k : ∀ q : Nat, gV own cc nL R Γ (pc + 2) ls (.ref q :: st) (ws ++ [(q, .inl (gI Γ, N, .inl (fun _ => 0)))]) (cells + 1) (slots + N)) : gV own cc nL R Γ pc ls (.int n :: st) ws cells slots := by
  obtain ⟨p, l, e, s, m, args, below, meth, c, D, Z, A, Q⟩ := Γ
  intro Y H locs sl h1 h2 h3 h4
  obtain ⟨yx, yb, ym, yo, yt, yK, yA, yn⟩ := id Y
  refine va_newa (atype := .int) (ty := .int) (a0 := (N, .inl (fun _ => 0))) yx yb (yt _ wy_int) rfl yK h2 h3 h4 yA (fun _ => rfl) hn.1 hn.2 hN hr.1 hr.2 hd (fun q cA H1 hK1 hP1 hD1 hS1 => ?_)
  have e1 := (hK1.2 3 (cA, .int) rfl).2
  have e2 := (yK.2 0 (Z.1, .int) rfl).2
  have ec : cA = Z.1 := Option.some.inj (e1.symm.trans e2)
  rw [ec] at hP1 hD1
  exact k q Y H1 locs sl h1 hP1 hD1 hS1
theorem g_newaS {N ix : Nat} {n : Int32} (hw : Cond.classLink own ix "LentParts$State" ∈ zT) (hn : ¬ n < 0 ∧ n.toNatClampNeg = N) (hN : N * 4 ≤ 536870912) (hr : cells + 1 ≤ R.cells ∧ slots + N ≤ R.slots) (hd : decode cc pc = .ok (.anewarray ix, 3)) (k : ∀ q : Nat, gV own cc nL R Γ (pc + 3) ls (.ref q :: st) (ws ++ [(q, .inl (gS Γ, N, .inr (.inr (.inr (.inr (fun _ => none))))))]) (cells + 1) (slots + N)) : gV own cc nL R Γ pc ls (.int n :: st) ws cells slots := by
  obtain ⟨p, l, e, s, m, args, below, meth, c, D, Z, A, Q⟩ := Γ
  intro Y H locs sl h1 h2 h3 h4
  obtain ⟨yx, yb, ym, yo, yt, yK, yA, yn⟩ := id Y
  refine va_newq yx yb yo (yt _ hw) yn.2.2.2.2 yK h2 h3 h4 yA hn.1 hn.2 hN hr.1 hr.2 hd (fun q cA H1 hK1 hP1 hD1 hS1 => ?_)
  obtain ⟨_, _, _, _, _, e1⟩ := (hK1.2 3 (cA, .object "LentParts$State") rfl).2
  obtain ⟨_, _, _, _, _, e2⟩ := (yK.2 2 (Z.2.2, .object "LentParts$State") rfl).2
  have ec : cA = Z.2.2 := Option.some.inj (e1.symm.trans e2)
  rw [ec] at hP1 hD1
  exact k q Y H1 locs sl h1 hP1 hD1 hS1
theorem g_putF {ci N ix i x q0 : Nat} {C : String} {T : u_T} {fs : List Value} {v : Value} {ty : FieldType} (hI : gIni Γ) (he : ws[q0]? = some (x, .inr (ci, fs))) (hc : vwCl[ci]? = some (own, T, N)) (hin : ∀ w ∈ u_ws own T N, w ∈ zT) (ty0 : Nat → FieldType) (hty : ∀ k, k < N → parseFieldDescriptor (T k).2.2.1 = some (ty0 k)) (hnm : ∀ a, a < N → ∀ b, b < N → a ≠ b → (T a).2.1 ≠ (T b).2.1) (hi : i < N) (hw : Cond.fieldLink own ix C (T i).2.1 (T i).2.2.1 ∈ zT) (href : (T i).1 = C) (hfin : (T i).2.2.2 = true) (hdecl : (T i).1 = own) (hpd : parseFieldDescriptor (T i).2.2.1 = some ty) (hn : narrow ty v = v) (hfit : fits ty v = true) (hl : i < fs.length) (hs : ws.set q0 (x, .inr (ci, fs.set i v)) = ws') (hd : decode cc pc = .ok (.putfield ix, 3)) (k : gV own cc nL R Γ (pc + 3) ls st ws' cells slots) : gV own cc nL R Γ pc ls (v :: .ref x :: st) ws cells slots := by
  obtain ⟨p, l, e, s, m, args, below, meth, c, D, Z, A, Q⟩ := Γ
  intro Y H locs sl h1 h2 h3 h4
  obtain ⟨yx, yb, ym, yo, yt, yK, yA, yn⟩ := id Y
  subst hs
  exact va_putF (D := D) (ci := ci) (v := v) (ty := ty) yx yb yt hin ty0 hty hnm yo yK h2 h3 h4 q0 he hc i hi (yt _ hw) (fun z hz => by rw [← href]; exact hz) hfin hI hdecl hpd hn hfit hl hd (fun H1 locs1 g1 g2 g3 => k Y H1 locs1 sl h1 g1 g2 g3)
theorem g_put {ci N ix i x q0 : Nat} {C : String} {T : u_T} {fs : List Value} {v : Value} {ty : FieldType} (he : ws[q0]? = some (x, .inr (ci, fs))) (hc : vwCl[ci]? = some (own, T, N)) (hin : ∀ w ∈ u_ws own T N, w ∈ zT) (ty0 : Nat → FieldType) (hty : ∀ k, k < N → parseFieldDescriptor (T k).2.2.1 = some (ty0 k)) (hnm : ∀ a, a < N → ∀ b, b < N → a ≠ b → (T a).2.1 ≠ (T b).2.1) (hi : i < N) (hw : Cond.fieldLink own ix C (T i).2.1 (T i).2.2.1 ∈ zT) (href : (T i).1 = C) (hfin : (T i).2.2.2 = false) (hpd : parseFieldDescriptor (T i).2.2.1 = some ty) (hn : narrow ty v = v) (hfit : fits ty v = true) (hl : i < fs.length) (hs : ws.set q0 (x, .inr (ci, fs.set i v)) = ws') (hd : decode cc pc = .ok (.putfield ix, 3)) (k : gV own cc nL R Γ (pc + 3) ls st ws' cells slots) : gV own cc nL R Γ pc ls (v :: .ref x :: st) ws cells slots := by
  obtain ⟨p, l, e, s, m, args, below, meth, c, D, Z, A, Q⟩ := Γ
  intro Y H locs sl h1 h2 h3 h4
  obtain ⟨yx, yb, ym, yo, yt, yK, yA, yn⟩ := id Y
  subst hs
  exact va_put (D := D) (ci := ci) (v := v) (ty := ty) yx yb yt hin ty0 hty hnm yo yK h2 h3 h4 q0 he hc i hi (yt _ hw) (fun z hz => by rw [← href]; exact hz) hfin hpd hn hfit hl hd (fun H1 locs1 g1 g2 g3 => k Y H1 locs1 sl h1 g1 g2 g3)
theorem g_get {ci N ix i x q0 : Nat} {C : String} {T : u_T} {fs : List Value} {v : Value} (he : ws[q0]? = some (x, .inr (ci, fs))) (hc : vwCl[ci]? = some (own, T, N)) (hin : ∀ w ∈ u_ws own T N, w ∈ zT) (hi : i < N) (hw : Cond.fieldLink own ix C (T i).2.1 (T i).2.2.1 ∈ zT) (href : (T i).1 = C) (hv : fs[i]? = some v) (hd : decode cc pc = .ok (.getfield ix, 3)) (k : gV own cc nL R Γ (pc + 3) ls (v :: st) ws cells slots) : gV own cc nL R Γ pc ls (.ref x :: st) ws cells slots := by
  obtain ⟨p, l, e, s, m, args, below, meth, c, D, Z, A, Q⟩ := Γ
  intro Y H locs sl h1 h2 h3 h4
  obtain ⟨yx, yb, ym, yo, yt, yK, yA, yn⟩ := id Y
  exact va_get (D := D) (ci := ci) yx yb yt hin yo yK h2 q0 he hc i hi (yt _ hw) (fun z hz => by rw [← href]; exact hz) hv hd (k Y H locs sl h1 h2 h3 h4)
theorem g_iast {x q0 n : Nat} {f : Nat → Int32} {i v : Int32} (he : ws[q0]? = some (x, .inl (gI Γ, n, .inl f))) (hin : vp_in i n) (hs : ws.set q0 (x, .inl (gI Γ, n, .inl (upd f i.toNatClampNeg v))) = ws') (hd : decode cc pc = .ok (.iastore, 1)) (k : gV own cc nL R Γ (pc + 1) ls st ws' cells slots) : gV own cc nL R Γ pc ls (.int v :: .int i :: .ref x :: st) ws cells slots := by
  obtain ⟨p, l, e, s, m, args, below, meth, c, D, Z, A, Q⟩ := Γ
  intro Y H locs sl h1 h2 h3 h4
  obtain ⟨yx, yb, ym, yo, yt, yK, yA, yn⟩ := id Y
  subst hs
  exact va_iast yx yb yK h2 h3 h4 q0 0 he rfl hin hd (fun H1 locs1 g1 g2 g3 => k Y H1 locs1 sl h1 g1 g2 g3)
theorem g_astq {x q0 qk n w : Nat} {vs : List Value} {f : Nat → Option Nat} {i : Int32} (he : ws[q0]? = some (x, .inl (gS Γ, n, .inr (.inr (.inr (.inr f)))))) (hv : ws[qk]? = some (w, .inr (4, vs))) (hin : vp_in i n) (hs : ws.set q0 (x, .inl (gS Γ, n, .inr (.inr (.inr (.inr (va_up f i.toNatClampNeg (some w))))))) = ws') (hd : decode cc pc = .ok (.aastore, 1)) (k : gV own cc nL R Γ (pc + 1) ls st ws' cells slots) : gV own cc nL R Γ pc ls (.ref w :: .int i :: .ref x :: st) ws cells slots := by
  obtain ⟨p, l, e, s, m, args, below, meth, c, D, Z, A, Q⟩ := Γ
  intro Y H locs sl h1 h2 h3 h4
  obtain ⟨yx, yb, ym, yo, yt, yK, yA, yn⟩ := id Y
  subst hs
  exact va_astq yx yb yK h2 h3 h4 q0 2 qk 4 (r := (RX4, TX4, 8)) he rfl hv rfl hin hd (fun H1 locs1 g1 g2 g3 => k Y H1 locs1 sl h1 g1 g2 g3)
theorem g_new {ci N ix : Nat} {C : String} {T : u_T} {fs : List Value} (hc : vwCl[ci]? = some (C, T, N)) (hin : ∀ w ∈ u_ws C T N, w ∈ zT) (ty0 : Nat → FieldType) (hty : ∀ k, k < N → parseFieldDescriptor (T k).2.2.1 = some (ty0 k)) (hw1 : Cond.classLink own ix C ∈ zT) (hw2 : Cond.instantiable C N ∈ zT) (hw3 : Cond.initialized C ∈ zT) (hfs : ∀ j, j < N → defaultValue (ty0 j) = vp_V fs j) (hr : cells + 1 ≤ R.cells ∧ slots + N ≤ R.slots) (hd : decode cc pc = .ok (.new ix, 3)) (k : ∀ q : Nat, gV own cc nL R Γ (pc + 3) ls (.ref q :: st) (ws ++ [(q, .inr (ci, fs))]) (cells + 1) (slots + N)) : gV own cc nL R Γ pc ls st ws cells slots := by
  obtain ⟨p, l, e, s, m, args, below, meth, c, D, Z, A, Q⟩ := Γ
  intro Y H locs sl h1 h2 h3 h4
  obtain ⟨yx, yb, ym, yo, yt, yK, yA, yn⟩ := id Y
  exact va_new (ci := ci) (fs := fs) yx yb yt hin ty0 hty yo (yt _ hw1) (yt _ hw2) (yt _ hw3) yK h2 h3 h4 yA hc hfs hr.1 hr.2 hd (fun q H1 hP1 hD1 hS1 => k q Y H1 locs sl h1 hP1 hD1 hS1)
theorem g_free {A0 : Nat → Prop} {x : Nat × va_E} {H0 H : Heap} {locs : List Loc} (hD : va_D A0 (ws ++ [x])) (hS : va_S A0 H0 H locs) (hA : ∀ q, H0.size ≤ q → A0 q) : ∀ q, va_A [x] H.size q → A0 q := by
  intro q h
  rcases h with ⟨k, e, h⟩ | h
  · have hk2 : k = 0 := by
      have := (List.getElem?_eq_some_iff.mp h).1
      simp at this; exact this
    rw [hk2] at h
    have hx : x = (q, e) := by simpa using h
    have := hD.2 ws.length x (by simp)
    rw [hx] at this
    exact this
  · exact hA q (Nat.le_trans hS.1 h)
theorem g_init {M : zM} {ci ix x fr mc ms : Nat} {fs : List Value} {Post : gZ → Nat → va_W → Prop} (hM : gSp fr mc ms M ci fs Post) (hm : zMv M 0) (hmi : Cond.instanceMethod M.1 ∈ zT) (hnm : M.1.name = "<init>" ∧ M.2.2.2 = none) (hR : fr + 1 ≤ R.frames ∧ 8 + (M.2.2.1 + 11) + 60 * fr ≤ R.locals) (hr : cells + mc ≤ R.cells ∧ slots + ms ≤ R.slots) (hw : Cond.methodLink own ix M.1 ∈ zT) (hst : (st.map fun v => v.category).sum ≤ 8) (hd : decode cc pc = .ok (.invokespecial ix, 3)) (k : ∀ w1 : va_W, (∃ Z : gZ, Z.1 = gI Γ ∧ Z.2.1 = gB Γ ∧ Z.2.2 = gS Γ ∧ Post Z x w1) → gV own cc nL R Γ (pc + 3) ls st (ws ++ w1) (cells + mc) (slots + ms)) : gV own cc nL R Γ pc ls (.ref x :: st) (ws ++ [(x, .inr (ci, fs))]) cells slots := by
  obtain ⟨p, l, e, s, m, args, below, meth, c, D, Z, A, Q⟩ := Γ
  intro Y H locs sl h1 h2 h3 h4
  obtain ⟨yx, yb, ym, yo, yt, yK, yA, yn⟩ := id Y
  have hFc := g_free h3 h4 yA
  have hPc : va_P D vwCl [(x, .inr (ci, fs))] H := fun k q hq => h2 (ws.length + k) q (by rw [List.getElem?_append_right (by omega)]; simpa using hq)
  have hcb := callB_of (R := R) (s := s) (args := args) (Ts := zT) (ws := zws M) (own := own) (index := ix) (y := M.1) (bytes := M.2.1) (maxL := M.2.2.1) (ret := M.2.2.2) (rm := gRm fr mc ms) (mc := mc) (ms := ms) 0 yt (z_gin hm) rfl rfl rfl (yt _ hm.2.1) (yt _ hw) ⟨hm.2.2.1.1, hm.2.2.1.2, hm.2.2.2⟩ hR
  rw [hnm.2] at hcb
  have hr2 := va_runI (As := []) (rest := st) (b := x) (g := F0 m pc sl (.ref x :: st)) ⟨yx, yb, ym, yo, yt⟩ (hM l D Z x H.size) ⟨hcb, hnm.1, yt _ hmi⟩ ⟨gPs_blind, fun U hU hW => ⟨rfl, by rw [hU], by rw [hU]; exact hPc, va_K.moved hW.alike yK, yn.warm hW⟩⟩ rfl rfl h1.1 rfl (lv_room (rest := st) (m := m) (pc := pc) (ls := sl) hst) hd hr (locs := locs) (p := p) (e := e) (R := R) (below := below) (meth := meth)
  intro T hT X
  obtain ⟨v, st₀, t, T', L, h0, X', hL, e1, e2, ⟨⟨hv, w1, hpost, hP', hD'⟩, hz, hk⟩, st'⟩ := hr2 T hT X
  cases hv
  rw [h0] at hz hk
  rw [← e1] at hP' hk hz
  obtain ⟨j1, j2⟩ := g_join h2 h3 hk hFc hP' hD'
  have hS1 : va_S A s.heap T'.heap (locs ++ L) := ⟨Nat.le_trans h4.1 hz, fun q z1 z2 => by rw [hk q (Nat.lt_of_lt_of_le z1 h4.1) (fun w => z2 (hFc q w))]; exact h4.2.1 q z1 z2, fun q hq => by
    rcases List.mem_append.mp hq with z | z
    · exact h4.2.2 q z
    · exact hFc _ (hL q z)⟩
  obtain ⟨t2, a1, b1⟩ := k w1 ⟨Z, rfl, rfl, rfl, hpost⟩ Y T'.heap (locs ++ L) sl h1 j1 j2 hS1 T' rfl X'
  exact ⟨t2, st' t2 a1, b1⟩
theorem g_initN {M : zM} {ci ix x fr mc ms : Nat} {host : String} {fs : List Value} {Post : gZ → Nat → va_W → Prop} (hM : gSp fr mc ms M ci fs Post) (hm : zMv M 0) (hmi : Cond.instanceMethod M.1 ∈ zT) (hnm : M.1.name = "<init>" ∧ M.2.2.2 = none) (hR : fr + 1 ≤ R.frames ∧ 8 + (M.2.2.1 + 11) + 60 * fr ≤ R.locals) (hr : cells + mc ≤ R.cells ∧ slots + ms ≤ R.slots) (hw : ∀ U, gNe U → va_Nw (.methodLinkNest own ix M.1 host) U) (hst : (st.map fun v => v.category).sum ≤ 8) (hd : decode cc pc = .ok (.invokespecial ix, 3)) (k : ∀ w1 : va_W, (∃ Z : gZ, Z.1 = gI Γ ∧ Z.2.1 = gB Γ ∧ Z.2.2 = gS Γ ∧ Post Z x w1) → gV own cc nL R Γ (pc + 3) ls st (ws ++ w1) (cells + mc) (slots + ms)) : gV own cc nL R Γ pc ls (.ref x :: st) (ws ++ [(x, .inr (ci, fs))]) cells slots := by
  obtain ⟨p, l, e, s, m, args, below, meth, c, D, Z, A, Q⟩ := Γ
  intro Y H locs sl h1 h2 h3 h4
  obtain ⟨yx, yb, ym, yo, yt, yK, yA, yn⟩ := id Y
  have hFc := g_free h3 h4 yA
  have hPc : va_P D vwCl [(x, .inr (ci, fs))] H := fun k q hq => h2 (ws.length + k) q (by rw [List.getElem?_append_right (by omega)]; simpa using hq)
  have hcb := va_cnB (R := R) (s := s) (args := args) (Ts := zT) (ws := zws M) (own := own) (host := host) (index := ix) (y := M.1) (bytes := M.2.1) (maxL := M.2.2.1) (ret := M.2.2.2) (rm := gRm fr mc ms) (mc := mc) (ms := ms) 0 yt (z_gin hm) rfl rfl rfl (hw _ yn) (yt _ hm.2.1) ⟨hm.2.2.1.1, hm.2.2.1.2, hm.2.2.2⟩ hR
  rw [hnm.2] at hcb
  have hr2 := va_runIN (As := []) (rest := st) (b := x) (g := F0 m pc sl (.ref x :: st)) ⟨yx, yb, ym, yo, yt⟩ (hM l D Z x H.size) ⟨hcb, hnm.1, yt _ hmi⟩ ⟨gPs_blind, fun U hU hW => ⟨rfl, by rw [hU], by rw [hU]; exact hPc, va_K.moved hW.alike yK, yn.warm hW⟩⟩ rfl rfl h1.1 rfl (lv_room (rest := st) (m := m) (pc := pc) (ls := sl) hst) hd hr (locs := locs) (p := p) (e := e) (R := R) (below := below) (meth := meth)
  intro T hT X
  obtain ⟨v, st₀, t, T', L, h0, X', hL, e1, e2, ⟨⟨hv, w1, hpost, hP', hD'⟩, hz, hk⟩, st'⟩ := hr2 T hT X
  cases hv
  rw [h0] at hz hk
  rw [← e1] at hP' hk hz
  obtain ⟨j1, j2⟩ := g_join h2 h3 hk hFc hP' hD'
  have hS1 : va_S A s.heap T'.heap (locs ++ L) := ⟨Nat.le_trans h4.1 hz, fun q z1 z2 => by rw [hk q (Nat.lt_of_lt_of_le z1 h4.1) (fun w => z2 (hFc q w))]; exact h4.2.1 q z1 z2, fun q hq => by
    rcases List.mem_append.mp hq with z | z
    · exact h4.2.2 q z
    · exact hFc _ (hL q z)⟩
  obtain ⟨t2, a1, b1⟩ := k w1 ⟨Z, rfl, rfl, rfl, hpost⟩ Y T'.heap (locs ++ L) sl h1 j1 j2 hS1 T' rfl X'
  exact ⟨t2, st' t2 a1, b1⟩
end grows
/-- a constructor's contract out of its walk -/
theorem gSp_of {fr mc ms : Nat} {M : zM} {ci : Nat} {fs : List Value} {Post : gZ → Nat → va_W → Prop} (hp : plainName M.1.cls = true) (hn : 1 ≤ M.2.2.1) (hi : M.1.name = "<init>") (hret : M.2.2.2 = none) {pcr : Nat} (hd : decode M.2.1 pcr = .ok (.return_, 1)) (hV : ∀ (Γ : gCx) (h0 : Nat), gIni Γ → (∀ (ls : List (Nat × Value)) (w1 : va_W), (∃ Z : gZ, Z.1 = gI Γ ∧ Z.2.1 = gB Γ ∧ Z.2.2 = gS Γ ∧ Post Z h0 w1) → gV M.1.cls M.2.1 M.2.2.1 (gRm fr mc ms) Γ pcr ls [] w1 mc ms) → gV M.1.cls M.2.1 M.2.2.1 (gRm fr mc ms) Γ 0 [(0, .ref h0)] [] [(h0, .inr (ci, fs))] 0 0) : gSp fr mc ms M ci fs Post := by
  intro l D Z h0 sz
  refine Met.ofW (cc := M.2.1) (maxL := M.2.2.1) (ret := M.2.2.2) hp rfl ?_
  intro p e s m args below meth c s₁ B hml hv
  obtain ⟨rfl, hsz, hP, hK, hN⟩ := hv
  have hts := atoms_spec (ws := zws M) B.pre
  have hin : meth.name = "<init>" := by rw [← hi]; exact (name_of_methodNamed B.named B.method).1
  have hl := lv_entry ([Value.ref h0]) (n := M.2.2.1) hn
  rw [show (#[Value.ref h0] : Array Value) = ([Value.ref h0] : List Value).toArray from rfl, lg_entry_eq]
  generalize (lg_sl ([Value.ref h0]) ++ List.replicate (M.2.2.1 - (lg_sl ([Value.ref h0])).length) Slot.unset).toArray = sl at hl ⊢
  subst hsz
  have hD : va_D (va_A [(h0, .inr (ci, fs))] s.heap.size) [(h0, .inr (ci, fs))] := ⟨fun i j p q hp hq _ => by
    have a := (List.getElem?_eq_some_iff.mp hp).1
    have b := (List.getElem?_eq_some_iff.mp hq).1
    simp at a b
    omega, fun k q hq => va_A.in hq⟩
  have hA : ∀ q : Nat, s.heap.size ≤ q → va_A [(h0, .inr (ci, fs))] s.heap.size q := fun q h => Or.inr h
  have hret2 : meth.sig.returnType = none := by rw [B.returns, hret]
  refine hV (p, l, e, s, m, #[Value.ref h0], below, meth, c, D, Z, va_A [(h0, .inr (ci, fs))] s.heap.size, MQ below (gQe D Z Post h0 (va_A [(h0, .inr (ci, fs))] s.heap.size)) #[Value.ref h0] s mc ms (va_A [(h0, .inr (ci, fs))] s.heap.size)) h0 hin (fun ls w1 hw => ?_) ⟨B.exec, B.bytes, hml, findClass_of_methodNamed B.named, fun w hw => hts w (List.mem_cons_of_mem _ hw), hK, hA, hN⟩ s.heap [] sl hl hP hD va_S.rf
  intro Y H locs sl2 h1 h2 h3 h4
  obtain ⟨Z2, z1, z2, z3, hpost⟩ := hw
  have ez : Z2 = Z := by
    rcases Z2 with ⟨a, b, c⟩
    rcases Z with ⟨a', b', c'⟩
    have z1 : a = a' := z1
    have z2 : b = b' := z2
    have z3 : c = c' := z3
    rw [z1, z2, z3]
  rw [ez] at hpost
  have hlk := B.notSynchronized
  exact W.vret B.exec B.bytes hret2 (fun t ht hW => ⟨⟨rfl, w1, hpost, by rw [ht]; exact h2, h3⟩, h4.F ht⟩) h4.2.2 hd
