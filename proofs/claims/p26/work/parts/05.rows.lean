theorem zwH_u {h : zH} {k j : Nat} {a : Int} (hh : zwH h) (ha : zw1 a) : zwH (zu h k j a) := by
  intro k' j'
  unfold zu
  split
  · exact ha
  · exact hh _ _
theorem zwH_cp {h : zH} {ks sp kd dp n : Nat} (hh : zwH h) : zwH (zcp h ks sp kd dp n) := by
  intro k' j'
  unfold zcp
  split
  · exact hh _ _
  · exact hh _ _
theorem zwS_app {a b : List zA} : zwS (a ++ b) ↔ zwS a ∧ zwS b := by
  induction a with
  | nil => simp [zwS]
  | cons x r ih => simp [zwS, ih, and_assoc]
theorem zwS_rev {a : List zA} : zwS a.reverse ↔ zwS a := by
  induction a with
  | nil => simp
  | cons x r ih => simp [zwS, zwS_app, ih, and_comm]
theorem z_sum (ad : Nat → Nat) (st : List zA) : ((st.map (zc ad)).map fun v => v.category).sum = (st.map zcat).sum := by
  induction st with
  | nil => rfl
  | cons v r ih =>
    simp only [List.map_cons, List.sum_cons, zc_cat]
    rw [ih]
/-- a method's words -/
def zMv (M : zM) (n : Nat) : Prop := Cond.code M.1 M.2.1 M.2.2.1 M.2.2.2 ∈ zT ∧ Cond.initialized M.1.cls ∈ zT ∧ (M.1.cls ≠ "java/lang/invoke/MethodHandle" ∧ M.1.cls ≠ "java/lang/invoke/VarHandle") ∧ (parseMethodDescriptor M.1.desc).map (fun d => d.parameters.length) = some n
def zMi (M : zM) : Prop := Cond.instanceMethod M.1 ∈ zT ∧ Cond.selects M.1.cls M.1 M.1 ∈ zT
theorem z_gin {M : zM} {n : Nat} (hm : zMv M n) : GoodIn zT (zws M) := by
  intro w hw
  rcases List.mem_cons.mp hw with rfl | hw
  · exact ⟨hm.1, Or.inl rfl⟩
  · exact ⟨hw, zTg hw⟩
theorem z_blind {D : va_G} {ad : Nat → Nat} {cI cZ cS : ClassId} {as : List zA} {h : zH} : FrameBlind (zPs D ad cI cZ cS as h) := fun a U g mk q => ⟨q.1, q.2.1, q.2.2.1, q.2.2.2.1, va_K.moved (u := U) (U := U.calling g mk a) (Vm.Alike.refl U.vm) q.2.2.2.2.1, zNe.same (u := U) (U := U.calling g mk a) rfl q.2.2.2.2.2⟩
section zrows2
variable {own : String} {cc : ByteArray} {nL : Nat} {ret : Option FieldType} {d : Nat} {Post : Option zA → zH → Prop} {Γ : zCx} {pc : Nat} {ls : List (Nat × zA)} {st : List zA} {h : zH}
theorem z_iret {a : Int} (hr : ret = some .int) (hd : decode cc pc = .ok (.ireturn, 1)) (k : Post (some (zI a)) h) : zV own cc nL ret d Post Γ (pc) ls ([zI a]) h := by
  obtain ⟨p, l, e, s, m, args, below, meth, c, D, ad, cI, cZ, cS⟩ := Γ
  intro Y hl hs hh H locs sl h1 h2 h3
  obtain ⟨yx, yb, ym, yr, yk, yo, yt, yK, yi, yn⟩ := id Y
  exact W.iret (v := Int32.ofInt a) yx yb (by rw [yr, hr]) (fun t ht hW => ⟨⟨some (zI a), h, rfl, fun v hv => by cases hv; exact hs.1, hh, k, by rw [ht]; exact h2⟩, h3.F ht⟩) h3.2.2 hd
theorem z_zret {a : Int} (hr : ret = some .boolean) (ha : a = 0 ∨ a = 1) (hd : decode cc pc = .ok (.ireturn, 1)) (k : Post (some (zI a)) h) : zV own cc nL ret d Post Γ (pc) ls ([zI a]) h := by
  obtain ⟨p, l, e, s, m, args, below, meth, c, D, ad, cI, cZ, cS⟩ := Γ
  intro Y hl hs hh H locs sl h1 h2 h3
  obtain ⟨yx, yb, ym, yr, yk, yo, yt, yK, yi, yn⟩ := id Y
  exact W.zret (v := Int32.ofInt a) (ty := .boolean) yx yb (by rw [yr, hr]) (by rcases ha with rfl | rfl <;> rfl) (fun t ht hW => ⟨⟨some (zI a), h, rfl, fun v hv => by cases hv; exact hs.1, hh, k, by rw [ht]; exact h2⟩, h3.F ht⟩) h3.2.2 hd
theorem z_lret {x : Int64} (hr : ret = some .long) (hd : decode cc pc = .ok (.lreturn, 1)) (k : Post (some (zL x)) h) : zV own cc nL ret d Post Γ (pc) ls ([zL x]) h := by
  obtain ⟨p, l, e, s, m, args, below, meth, c, D, ad, cI, cZ, cS⟩ := Γ
  intro Y hl hs hh H locs sl h1 h2 h3
  obtain ⟨yx, yb, ym, yr, yk, yo, yt, yK, yi, yn⟩ := id Y
  exact W.lret (v := x) yx yb (by rw [yr, hr]) (fun t ht hW => ⟨⟨some (zL x), h, rfl, fun v hv => by cases hv; exact hs.1, hh, k, by rw [ht]; exact h2⟩, h3.F ht⟩) h3.2.2 hd
theorem z_vret (hr : ret = none) (hd : decode cc pc = .ok (.return_, 1)) (k : Post none h) : zV own cc nL ret d Post Γ (pc) ls ([]) h := by
  obtain ⟨p, l, e, s, m, args, below, meth, c, D, ad, cI, cZ, cS⟩ := Γ
  intro Y hl hs hh H locs sl h1 h2 h3
  obtain ⟨yx, yb, ym, yr, yk, yo, yt, yK, yi, yn⟩ := id Y
  exact W.vret yx yb (by rw [yr, hr]) (fun t ht hW => ⟨⟨none, h, rfl, (fun v hv => by cases hv), hh, k, by rw [ht]; exact h2⟩, h3.F ht⟩) h3.2.2 hd
theorem z_aret {x : Option Nat} {C : String} (hr : ret = some (.object C)) (hd : decode cc pc = .ok (.areturn, 1)) (k : Post (some (.inr (.inr x))) h) : zV own cc nL ret d Post Γ (pc) ls ([.inr (.inr x)]) h := by
  obtain ⟨p, l, e, s, m, args, below, meth, c, D, ad, cI, cZ, cS⟩ := Γ
  intro Y hl hs hh H locs sl h1 h2 h3
  obtain ⟨yx, yb, ym, yr, yk, yo, yt, yK, yi, yn⟩ := id Y
  exact W.aret (v := zc ad (.inr (.inr x))) (rt := .object C) yx yb (by rw [yr, hr]) (Or.inl ⟨_, rfl⟩) (by rcases x with _ | k; exact Or.inl rfl; exact Or.inr ⟨_, rfl⟩) (fun t ht hW => ⟨⟨some (.inr (.inr x)), h, rfl, fun v hv => by cases hv; exact hs.1, hh, k, by rw [ht]; exact h2⟩, h3.F ht⟩) h3.2.2 hd
theorem z_getI {ci N ix i q : Nat} {C ref : String} {T : u_T} {fs : (Nat → Nat) → (Nat → Int32) → List Value} (ho : zObj q ci fs) (hc : vwCl[ci]? = some (C, T, N)) (hin : ∀ w ∈ u_ws C T N, w ∈ zT) (hi : i < N) (hw : Cond.fieldLink own ix ref (T i).2.1 (T i).2.2.1 ∈ zT) (href : (T i).1 = ref) (hv : ∀ ad r, (fs ad r)[i]? = some (.int (r i))) (hd : decode cc pc = .ok (.getfield ix, 3)) (k : zV own cc nL ret d Post Γ (pc + 3) ls (zI (h q i) :: st) h) : zV own cc nL ret d Post Γ (pc) ls (zR q :: st) h := by
  obtain ⟨p, l, e, s, m, args, below, meth, c, D, ad, cI, cZ, cS⟩ := Γ
  intro Y hl hs hh H locs sl h1 h2 h3
  obtain ⟨yx, yb, ym, yr, yk, yo, yt, yK, yi, yn⟩ := id Y
  have he : (zW ad cI cZ cS h)[q]? = some (ad q, .inr (ci, fs ad (fun j => Int32.ofInt (h q j)))) := by rw [zW_get ho.1, ho.2]
  refine va_get (D := D) (v := .int (Int32.ofInt (h q i))) yx yb yt hin yo yK h2 q he hc i hi (yt _ hw) (fun x hx => href ▸ hx) (hv _ _) hd ?_
  exact k Y hl ⟨hh _ _, hs.2⟩ hh H locs sl h1 h2 h3
theorem z_getR {q2 : Nat} {ci N ix i q : Nat} {C ref : String} {T : u_T} {fs : (Nat → Nat) → (Nat → Int32) → List Value} (ho : zObj q ci fs) (hc : vwCl[ci]? = some (C, T, N)) (hin : ∀ w ∈ u_ws C T N, w ∈ zT) (hi : i < N) (hw : Cond.fieldLink own ix ref (T i).2.1 (T i).2.2.1 ∈ zT) (href : (T i).1 = ref) (hv : ∀ ad r, (fs ad r)[i]? = some (.ref (ad q2))) (hd : decode cc pc = .ok (.getfield ix, 3)) (k : zV own cc nL ret d Post Γ (pc + 3) ls (zR q2 :: st) h) : zV own cc nL ret d Post Γ (pc) ls (zR q :: st) h := by
  obtain ⟨p, l, e, s, m, args, below, meth, c, D, ad, cI, cZ, cS⟩ := Γ
  intro Y hl hs hh H locs sl h1 h2 h3
  obtain ⟨yx, yb, ym, yr, yk, yo, yt, yK, yi, yn⟩ := id Y
  have he : (zW ad cI cZ cS h)[q]? = some (ad q, .inr (ci, fs ad (fun j => Int32.ofInt (h q j)))) := by rw [zW_get ho.1, ho.2]
  refine va_get (D := D) (v := .ref (ad q2)) yx yb yt hin yo yK h2 q he hc i hi (yt _ hw) (fun x hx => href ▸ hx) (hv _ _) hd ?_
  exact k Y hl ⟨trivial, hs.2⟩ hh H locs sl h1 h2 h3
theorem z_putI {ci N ix i q : Nat} {C ref : String} {T : u_T} {fs : (Nat → Nat) → (Nat → Int32) → List Value} (ho : zObj q ci fs) (hc : vwCl[ci]? = some (C, T, N)) (hin : ∀ w ∈ u_ws C T N, w ∈ zT) (hi : i < N) (hw : Cond.fieldLink own ix ref (T i).2.1 (T i).2.2.1 ∈ zT) (href : (T i).1 = ref) (ty0 : Nat → FieldType) (hty0 : ∀ k, k < N → parseFieldDescriptor (T k).2.2.1 = some (ty0 k)) (hnm : ∀ a, a < N → ∀ b, b < N → a ≠ b → (T a).2.1 ≠ (T b).2.1) (hfin : (T i).2.2.2 = false) (hlen : ∀ ad r, i < (fs ad r).length) (hset : ∀ ad r v, (fs ad r).set i (.int v) = fs ad (fun j => if j = i then v else r j)) {a : Int} (hty : parseFieldDescriptor (T i).2.2.1 = some .int) (hd : decode cc pc = .ok (.putfield ix, 3)) (k : zV own cc nL ret d Post Γ (pc + 3) ls (st) (zu h q i a)) : zV own cc nL ret d Post Γ (pc) ls (zI a :: zR q :: st) h := by
  obtain ⟨p, l, e, s, m, args, below, meth, c, D, ad, cI, cZ, cS⟩ := Γ
  intro Y hl hs hh H locs sl h1 h2 h3
  obtain ⟨yx, yb, ym, yr, yk, yo, yt, yK, yi, yn⟩ := id Y
  have he : (zW ad cI cZ cS h)[q]? = some (ad q, .inr (ci, fs ad (fun j => Int32.ofInt (h q j)))) := by rw [zW_get ho.1, ho.2]
  refine va_put (D := D) (A := zAd ad) (v := .int (Int32.ofInt a)) (ty := .int) yx yb yt hin ty0 hty0 hnm yo yK h2 (zW_D yi) h3 q he hc i hi (yt _ hw) (fun x hx => href ▸ hx) hfin hty rfl rfl (hlen _ _) hd (fun H1 locs1 hP _ hS => ?_)
  rw [hset, zW_set (h' := zu h q i a) ho.1 (fun k' hk j => by unfold zu; rw [if_neg (fun z => hk z.1)]) ?_] at hP
  · exact k Y hl hs.2.2 (zwH_u hh hs.1) H1 locs1 sl h1 hP hS
  · rw [ho.2]
    congr 2
    congr 1
    funext j
    unfold zu
    by_cases hj : j = i
    · rw [if_pos hj, if_pos ⟨rfl, hj⟩]
    · rw [if_neg hj, if_neg (fun z => hj z.2)]
theorem z_putZ {ci N ix i q : Nat} {C ref : String} {T : u_T} {fs : (Nat → Nat) → (Nat → Int32) → List Value} (ho : zObj q ci fs) (hc : vwCl[ci]? = some (C, T, N)) (hin : ∀ w ∈ u_ws C T N, w ∈ zT) (hi : i < N) (hw : Cond.fieldLink own ix ref (T i).2.1 (T i).2.2.1 ∈ zT) (href : (T i).1 = ref) (ty0 : Nat → FieldType) (hty0 : ∀ k, k < N → parseFieldDescriptor (T k).2.2.1 = some (ty0 k)) (hnm : ∀ a, a < N → ∀ b, b < N → a ≠ b → (T a).2.1 ≠ (T b).2.1) (hfin : (T i).2.2.2 = false) (hlen : ∀ ad r, i < (fs ad r).length) (hset : ∀ ad r v, (fs ad r).set i (.int v) = fs ad (fun j => if j = i then v else r j)) {a : Int} (ha : a = 0 ∨ a = 1) (hty : parseFieldDescriptor (T i).2.2.1 = some .boolean) (hd : decode cc pc = .ok (.putfield ix, 3)) (k : zV own cc nL ret d Post Γ (pc + 3) ls (st) (zu h q i a)) : zV own cc nL ret d Post Γ (pc) ls (zI a :: zR q :: st) h := by
  obtain ⟨p, l, e, s, m, args, below, meth, c, D, ad, cI, cZ, cS⟩ := Γ
  intro Y hl hs hh H locs sl h1 h2 h3
  obtain ⟨yx, yb, ym, yr, yk, yo, yt, yK, yi, yn⟩ := id Y
  have he : (zW ad cI cZ cS h)[q]? = some (ad q, .inr (ci, fs ad (fun j => Int32.ofInt (h q j)))) := by rw [zW_get ho.1, ho.2]
  refine va_put (D := D) (A := zAd ad) (v := .int (Int32.ofInt a)) (ty := .boolean) yx yb yt hin ty0 hty0 hnm yo yK h2 (zW_D yi) h3 q he hc i hi (yt _ hw) (fun x hx => href ▸ hx) hfin hty (by rcases ha with rfl | rfl <;> rfl) (by rcases ha with rfl | rfl <;> rfl) (hlen _ _) hd (fun H1 locs1 hP _ hS => ?_)
  rw [hset, zW_set (h' := zu h q i a) ho.1 (fun k' hk j => by unfold zu; rw [if_neg (fun z => hk z.1)]) ?_] at hP
  · exact k Y hl hs.2.2 (zwH_u hh hs.1) H1 locs1 sl h1 hP hS
  · rw [ho.2]
    congr 2
    congr 1
    funext j
    unfold zu
    by_cases hj : j = i
    · rw [if_pos hj, if_pos ⟨rfl, hj⟩]
    · rw [if_neg hj, if_neg (fun z => hj z.2)]
theorem z_iald {q n : Nat} {a : Int} (ha : zArI q n) (b0 : 0 ≤ a) (b1 : a < (n : Int)) (hd : decode cc pc = .ok (.iaload, 1)) (k : zV own cc nL ret d Post Γ (pc + 1) ls (zI (h q a.toNat) :: st) h) : zV own cc nL ret d Post Γ (pc) ls (zI a :: zR q :: st) h := by
  obtain ⟨p, l, e, s, m, args, below, meth, c, D, ad, cI, cZ, cS⟩ := Γ
  intro Y hl hs hh H locs sl h1 h2 h3
  obtain ⟨yx, yb, ym, yr, yk, yo, yt, yK, yi, yn⟩ := id Y
  have he : (zW ad cI cZ cS h)[q]? = some (ad q, .inl (cI, n, .inl (fun j => Int32.ofInt (h q j)))) := by rw [zW_get ha.1, ha.2.2]
  refine va_iald (D := D) yx yb yK h2 q 0 he rfl (z_in hs.1 b0 b1) hd ?_
  rw [z_cl hs.1]
  exact k Y hl ⟨hh _ _, hs.2.2⟩ hh H locs sl h1 h2 h3
theorem z_iast {q n : Nat} {a x : Int} (ha : zArI q n) (b0 : 0 ≤ a) (b1 : a < (n : Int)) (hd : decode cc pc = .ok (.iastore, 1)) (k : zV own cc nL ret d Post Γ (pc + 1) ls (st) (zu h q a.toNat x)) : zV own cc nL ret d Post Γ (pc) ls (zI x :: zI a :: zR q :: st) h := by
  obtain ⟨p, l, e, s, m, args, below, meth, c, D, ad, cI, cZ, cS⟩ := Γ
  intro Y hl hs hh H locs sl h1 h2 h3
  obtain ⟨yx, yb, ym, yr, yk, yo, yt, yK, yi, yn⟩ := id Y
  have he : (zW ad cI cZ cS h)[q]? = some (ad q, .inl (cI, n, .inl (fun j => Int32.ofInt (h q j)))) := by rw [zW_get ha.1, ha.2.2]
  refine va_iast (D := D) (A := zAd ad) yx yb yK h2 (zW_D yi) h3 q 0 he rfl (z_in hs.2.1 b0 b1) hd (fun H1 locs1 hP _ hS => ?_)
  rw [zW_set (h' := zu h q a.toNat x) ha.1 (fun k' hk j => by unfold zu; rw [if_neg (fun z => hk z.1)]) ?_] at hP
  · exact k Y hl hs.2.2.2 (zwH_u hh hs.1) H1 locs1 sl h1 hP hS
  · rw [ha.2.2, z_cl hs.2.1]
    refine congrArg (fun f => (Sum.inl (cI, n, Sum.inl f) : va_E)) (funext fun j => ?_)
    show _ = upd (fun j => Int32.ofInt (h q j)) a.toNat (Int32.ofInt x) j
    unfold zu upd
    by_cases hj : j = a.toNat
    · rw [if_pos hj, if_pos ⟨rfl, hj⟩]
    · rw [if_neg hj, if_neg (fun z => hj z.2)]


theorem z_aald {a : Int} (b0 : 0 ≤ a) (b1 : a < 5) (hd : decode cc pc = .ok (.aaload, 1)) (k : zV own cc nL ret d Post Γ (pc + 1) ls (zR (48 + 15 * a.toNat) :: st) h) : zV own cc nL ret d Post Γ (pc) ls (zI a :: zR 47 :: st) h := by
  obtain ⟨p, l, e, s, m, args, below, meth, c, D, ad, cI, cZ, cS⟩ := Γ
  intro Y hl hs hh H locs sl h1 h2 h3
  obtain ⟨yx, yb, ym, yr, yk, yo, yt, yK, yi, yn⟩ := id Y
  have he : (zW ad cI cZ cS h)[47]? = some (ad 47, .inl (cS, 5, .inr (.inr (.inr (.inr (fun j => some (ad (48 + 15 * j)))))))) := by rw [zW_get (by decide)]; rfl
  refine va_aldq (D := D) yx yb yK h2 47 2 he rfl (z_in (n := 5) hs.1 b0 b1) hd ?_
  rw [z_cl hs.1]
  exact k Y hl ⟨trivial, hs.2.2⟩ hh H locs sl h1 h2 h3
theorem z_alen {q n : Nat} (ha : zArI q n) (hd : decode cc pc = .ok (.arraylength, 1)) (k : zV own cc nL ret d Post Γ (pc + 1) ls (zI (n : Int) :: st) h) : zV own cc nL ret d Post Γ (pc) ls (zR q :: st) h := by
  obtain ⟨p, l, e, s, m, args, below, meth, c, D, ad, cI, cZ, cS⟩ := Γ
  intro Y hl hs hh H locs sl h1 h2 h3
  obtain ⟨yx, yb, ym, yr, yk, yo, yt, yK, yi, yn⟩ := id Y
  have he : (zW ad cI cZ cS h)[q]? = some (ad q, .inl (cI, n, .inl (fun j => Int32.ofInt (h q j)))) := by rw [zW_get ha.1, ha.2.2]
  have hn := ha.2.1
  refine va_alen (D := D) (ty := .int) yx yb yK h2 q 0 he rfl (v := Int32.ofInt (n : Int)) (by show Int32.ofNat n = _; rw [← Int32.ofInt_eq_ofNat]) hd ?_
  exact k Y hl ⟨zw1_of (by omega) (by omega), hs.2⟩ hh H locs sl h1 h2 h3
theorem z_copy {ix qs qd ns nd : Nat} {sp dp n : Int} (hs_ : zArI qs ns) (hd_ : zArI qd nd) (hw : Cond.methodLink own ix arraycopyName ∈ zT) (hwn : Cond.native arraycopyName ∈ zT) (hws : Cond.static arraycopyName ∈ zT) (hwi : Cond.initialized "java/lang/System" ∈ zT) (b0 : 0 ≤ sp) (b1 : 0 ≤ dp) (b2 : 0 ≤ n) (b3 : sp + n ≤ ns) (b4 : dp + n ≤ nd) (hd1 : 1 ≤ d) (hst : (st.map zcat).sum ≤ 8) (hd : decode cc pc = .ok (.invokestatic ix, 3)) (k : zV own cc nL ret d Post Γ (pc + 3) ls (st) (zcp h qs sp.toNat qd dp.toNat n.toNat)) : zV own cc nL ret d Post Γ (pc) ls (zI n :: zI dp :: zR qd :: zI sp :: zR qs :: st) h := by
  obtain ⟨p, l, e, s, m, args, below, meth, c, D, ad, cI, cZ, cS⟩ := Γ
  intro Y hl hs hh H locs sl h1 h2 h3
  obtain ⟨yx, yb, ym, yr, yk, yo, yt, yK, yi, yn⟩ := id Y
  have hes : (zW ad cI cZ cS h)[qs]? = some (ad qs, .inl (cI, ns, .inl (fun j => Int32.ofInt (h qs j)))) := by rw [zW_get hs_.1, hs_.2.2]
  have hed : (zW ad cI cZ cS h)[qd]? = some (ad qd, .inl (cI, nd, .inl (fun j => Int32.ofInt (h qd j)))) := by rw [zW_get hd_.1, hd_.2.2]
  have wn := hs.1
  have wd := hs.2.1
  have ws := hs.2.2.2.1
  have wr := hs.2.2.2.2.2
  refine va_copyi (D := D) (A := zAd ad) (ty := .int) yx yb (by rw [ym]; exact h1.1.symm) yo (yt _ hw) (yt _ hwn) (yt _ hws) (yt _ hwi) yK h2 (zW_D yi) h3 qs qd 0 0 hes hed rfl rfl rfl
    (by rw [← z_0, z_lt ws zw1_0]; omega) (by rw [← z_0, z_lt wd zw1_0]; omega) (by rw [← z_0, z_lt wn zw1_0]; omega) (by rw [z_cl ws, z_cl wn]; omega) (by rw [z_cl wd, z_cl wn]; omega) (fun _ _ => rfl) hd1 (by rw [z_sum]; show _ + (7 + 11) ≤ 60 * d; omega) hd (fun H1 locs1 hP _ hS => ?_)
  rw [z_cl ws, z_cl wd, z_cl wn] at hP
  rw [zW_set (h' := zcp h qs sp.toNat qd dp.toNat n.toNat) hd_.1 (fun k' hk j => by unfold zcp; rw [if_neg (fun z => hk z.1)]) ?_] at hP
  · exact k Y hl wr (zwH_cp hh) H1 locs1 sl h1 hP hS
  · rw [hd_.2.2]
    refine congrArg (fun f => (Sum.inl (cI, nd, Sum.inl f) : va_E)) (funext fun j => ?_)
    unfold zcp va_cpy
    by_cases hj : dp.toNat ≤ j ∧ j < dp.toNat + n.toNat
    · rw [if_pos hj, if_pos ⟨rfl, hj⟩]
    · rw [if_neg hj, if_neg (fun z => hj z.2)]
theorem z_callV {M : zM} {n ix d2 : Nat} {as full : List zA} {Post2 : Option zA → zH → Prop} {q ci N : Nat} {T : u_T} {fs : (Nat → Nat) → (Nat → Int32) → List Value} (hM : zSp d2 M (zR q :: as) h Post2) (ho : zObj q ci fs) (hc : vwCl[ci]? = some (M.1.cls, T, N)) (hmi : zMi M) (hm : zMv M n) (hd2 : d2 + 1 ≤ d ∧ M.2.2.1 ≤ 41) (hw : Cond.methodLink own ix M.1 ∈ zT) (hd : decode cc pc = .ok (.invokevirtual ix, 3)) (hn : as.length = n) (hst : (st.map zcat).sum ≤ 8) (hf : as.reverse ++ zR q :: st = full) (kk : ∀ r h', Post2 r h' → zV own cc nL ret d Post Γ (pc + 3) ls (r.toList ++ st) h') : zV own cc nL ret d Post Γ (pc) ls (full) h := by
  obtain ⟨p, l, e, s, m, args, below, meth, c, D, ad, cI, cZ, cS⟩ := Γ
  intro Y hl hs hh H locs sl h1 h2 h3
  obtain ⟨yx, yb, ym, yr, yk, yo, yt, yK, yi, yn⟩ := id Y
  subst hf
  have hwa : zwS as := zwS_rev.mp (zwS_app.mp hs).1
  have hwst : zwS st := (zwS_app.mp hs).2.2
  have he : (zW ad cI cZ cS h)[q]? = some (ad q, .inr (ci, fs ad (fun j => Int32.ofInt (h q j)))) := by rw [zW_get ho.1, ho.2]
  have hcb := callB_of (R := zRm d) (s := s) (args := args) (Ts := zT) (ws := zws M) (own := own) (index := ix) (y := M.1) (bytes := M.2.1) (maxL := M.2.2.1) (ret := M.2.2.2) (rm := zRm d2) (mc := 0) (ms := 0) n yt (z_gin hm) rfl rfl rfl (yt _ hm.2.1) (yt _ hw) ⟨hm.2.2.1.1, hm.2.2.1.2, hm.2.2.2⟩ ⟨hd2.1, by have := hd2.1; have := hd2.2; show 8 + (M.2.2.1 + 11) + 60 * d2 ≤ 60 * d; omega⟩
  have hr := va_runV (As := as.map (zc ad)) (rest := st.map (zc ad)) (b := ad q) (C := M.1.cls) (g := F0 m pc sl ((as.reverse ++ zR q :: st).map (zc ad))) ⟨yx, yb, ym, yo, yt⟩ (hM l D ad cI cZ cS yi) ⟨hcb, yt _ hmi.1, yt _ hmi.2⟩ ⟨z_blind, va_recv yK h2 hc he, fun U hU hW => ⟨rfl, ⟨trivial, hwa⟩, hh, by rw [hU]; exact h2, va_K.moved hW.alike yK, yn.warm hW⟩⟩ rfl (by rw [List.length_map]; exact hn) h1.1 (by simp [zc]) (lv_room (rest := st.map (zc ad)) (m := m) (pc := pc) (ls := sl) (by rw [z_sum]; exact hst)) hd ⟨Nat.le_refl _, Nat.le_refl _⟩ (cells := 0) (slots := 0) (locs := locs) (p := p) (e := e) (R := zRm d) (below := below) (meth := meth)
  intro T hT X
  obtain ⟨v, st₀, t, T', L, h0, X', hL, e1, e2, ⟨⟨r, h', hv, hvw, hwh', hpost, hP'⟩, hz, hk⟩, st'⟩ := hr T hT X
  cases hv
  rw [h0] at hz hk
  have hS1 : va_S (zAd ad) s.heap T'.heap (locs ++ L) := ⟨Nat.le_trans h3.1 (by rw [e1]; exact hz), fun q z1 z2 => by rw [e1, hk q (Nat.lt_of_lt_of_le z1 h3.1) z2]; exact h3.2.1 q z1 z2, fun q hq => by
    rcases List.mem_append.mp hq with z | z
    · exact h3.2.2 q z
    · exact hL q z⟩
  have hP1 : va_P D vwCl (zW ad cI cZ cS h') T'.heap := by rw [e1]; exact hP'
  obtain ⟨t2, a1, b1⟩ := kk r h' hpost Y hl (by rcases r with _ | v; exact hwst; exact ⟨hvw v rfl, hwst⟩) hwh' T'.heap (locs ++ L) sl h1 hP1 hS1 T' rfl X'
  have es : (r.map (zc ad)).toList ++ st.map (zc ad) = (r.toList ++ st).map (zc ad) := by cases r <;> rfl
  rw [es] at st'
  exact ⟨t2, st' t2 a1, b1⟩
theorem z_callS {M : zM} {n ix d2 : Nat} {as full : List zA} {Post2 : Option zA → zH → Prop} (hM : zSp d2 M as h Post2) (hms : Cond.static M.1 ∈ zT) (hm : zMv M n) (hd2 : d2 + 1 ≤ d ∧ M.2.2.1 ≤ 41) (hw : Cond.methodLink own ix M.1 ∈ zT) (hd : decode cc pc = .ok (.invokestatic ix, 3)) (hn : as.length = n) (hst : (st.map zcat).sum ≤ 8) (hf : as.reverse ++ st = full) (kk : ∀ r h', Post2 r h' → zV own cc nL ret d Post Γ (pc + 3) ls (r.toList ++ st) h') : zV own cc nL ret d Post Γ (pc) ls (full) h := by
  obtain ⟨p, l, e, s, m, args, below, meth, c, D, ad, cI, cZ, cS⟩ := Γ
  intro Y hl hs hh H locs sl h1 h2 h3
  obtain ⟨yx, yb, ym, yr, yk, yo, yt, yK, yi, yn⟩ := id Y
  subst hf
  have hwa : zwS as := zwS_rev.mp (zwS_app.mp hs).1
  have hwst : zwS st := (zwS_app.mp hs).2
  have hcb := callB_of (R := zRm d) (s := s) (args := args) (Ts := zT) (ws := zws M) (own := own) (index := ix) (y := M.1) (bytes := M.2.1) (maxL := M.2.2.1) (ret := M.2.2.2) (rm := zRm d2) (mc := 0) (ms := 0) n yt (z_gin hm) rfl rfl rfl (yt _ hm.2.1) (yt _ hw) ⟨hm.2.2.1.1, hm.2.2.1.2, hm.2.2.2⟩ ⟨hd2.1, by have := hd2.1; have := hd2.2; show 8 + (M.2.2.1 + 11) + 60 * d2 ≤ 60 * d; omega⟩
  have hr := va_runS (As := as.map (zc ad)) (rest := st.map (zc ad)) (g := F0 m pc sl ((as.reverse ++ st).map (zc ad))) ⟨yx, yb, ym, yo, yt⟩ (hM l D ad cI cZ cS yi) ⟨hcb, yt _ hms⟩ ⟨z_blind, fun U hU hW => ⟨rfl, hwa, hh, by rw [hU]; exact h2, va_K.moved hW.alike yK, yn.warm hW⟩⟩ rfl (by rw [List.length_map]; exact hn) h1.1 (by simp) (lv_room (rest := st.map (zc ad)) (m := m) (pc := pc) (ls := sl) (by rw [z_sum]; exact hst)) hd ⟨Nat.le_refl _, Nat.le_refl _⟩ (cells := 0) (slots := 0) (locs := locs) (p := p) (e := e) (R := zRm d) (below := below) (meth := meth)
  intro T hT X
  obtain ⟨v, st₀, t, T', L, h0, X', hL, e1, e2, ⟨⟨r, h', hv, hvw, hwh', hpost, hP'⟩, hz, hk⟩, st'⟩ := hr T hT X
  cases hv
  rw [h0] at hz hk
  have hS1 : va_S (zAd ad) s.heap T'.heap (locs ++ L) := ⟨Nat.le_trans h3.1 (by rw [e1]; exact hz), fun q z1 z2 => by rw [e1, hk q (Nat.lt_of_lt_of_le z1 h3.1) z2]; exact h3.2.1 q z1 z2, fun q hq => by
    rcases List.mem_append.mp hq with z | z
    · exact h3.2.2 q z
    · exact hL q z⟩
  have hP1 : va_P D vwCl (zW ad cI cZ cS h') T'.heap := by rw [e1]; exact hP'
  obtain ⟨t2, a1, b1⟩ := kk r h' hpost Y hl (by rcases r with _ | v; exact hwst; exact ⟨hvw v rfl, hwst⟩) hwh' T'.heap (locs ++ L) sl h1 hP1 hS1 T' rfl X'
  have es : (r.map (zc ad)).toList ++ st.map (zc ad) = (r.toList ++ st).map (zc ad) := by cases r <;> rfl
  rw [es] at st'
  exact ⟨t2, st' t2 a1, b1⟩
theorem z_callN {M : zM} {n ix d2 : Nat} {as full : List zA} {Post2 : Option zA → zH → Prop} {host : String} (hM : zSp d2 M as h Post2) (hms : Cond.static M.1 ∈ zT) (hm : zMv M n) (hd2 : d2 + 1 ≤ d ∧ M.2.2.1 ≤ 41) (hw : ∀ U, zNe U → va_Nw (.methodLinkNest own ix M.1 host) U) (hd : decode cc pc = .ok (.invokestatic ix, 3)) (hn : as.length = n) (hst : (st.map zcat).sum ≤ 8) (hf : as.reverse ++ st = full) (kk : ∀ r h', Post2 r h' → zV own cc nL ret d Post Γ (pc + 3) ls (r.toList ++ st) h') : zV own cc nL ret d Post Γ (pc) ls (full) h := by
  obtain ⟨p, l, e, s, m, args, below, meth, c, D, ad, cI, cZ, cS⟩ := Γ
  intro Y hl hs hh H locs sl h1 h2 h3
  obtain ⟨yx, yb, ym, yr, yk, yo, yt, yK, yi, yn⟩ := id Y
  subst hf
  have hwa : zwS as := zwS_rev.mp (zwS_app.mp hs).1
  have hwst : zwS st := (zwS_app.mp hs).2
  have hcb := va_cnB (R := zRm d) (s := s) (args := args) (Ts := zT) (ws := zws M) (own := own) (host := host) (index := ix) (y := M.1) (bytes := M.2.1) (maxL := M.2.2.1) (ret := M.2.2.2) (rm := zRm d2) (mc := 0) (ms := 0) n yt (z_gin hm) rfl rfl rfl (hw _ yn) (yt _ hm.2.1) ⟨hm.2.2.1.1, hm.2.2.1.2, hm.2.2.2⟩ ⟨hd2.1, by have := hd2.1; have := hd2.2; show 8 + (M.2.2.1 + 11) + 60 * d2 ≤ 60 * d; omega⟩
  have hr := va_runSN (As := as.map (zc ad)) (rest := st.map (zc ad)) (g := F0 m pc sl ((as.reverse ++ st).map (zc ad))) ⟨yx, yb, ym, yo, yt⟩ (hM l D ad cI cZ cS yi) ⟨hcb, yt _ hms, trivial⟩ ⟨z_blind, fun U hU hW => ⟨rfl, hwa, hh, by rw [hU]; exact h2, va_K.moved hW.alike yK, yn.warm hW⟩⟩ rfl (by rw [List.length_map]; exact hn) h1.1 (by simp) (lv_room (rest := st.map (zc ad)) (m := m) (pc := pc) (ls := sl) (by rw [z_sum]; exact hst)) hd ⟨Nat.le_refl _, Nat.le_refl _⟩ (cells := 0) (slots := 0) (locs := locs) (p := p) (e := e) (R := zRm d) (below := below) (meth := meth)
  intro T hT X
  obtain ⟨v, st₀, t, T', L, h0, X', hL, e1, e2, ⟨⟨r, h', hv, hvw, hwh', hpost, hP'⟩, hz, hk⟩, st'⟩ := hr T hT X
  cases hv
  rw [h0] at hz hk
  have hS1 : va_S (zAd ad) s.heap T'.heap (locs ++ L) := ⟨Nat.le_trans h3.1 (by rw [e1]; exact hz), fun q z1 z2 => by rw [e1, hk q (Nat.lt_of_lt_of_le z1 h3.1) z2]; exact h3.2.1 q z1 z2, fun q hq => by
    rcases List.mem_append.mp hq with z | z
    · exact h3.2.2 q z
    · exact hL q z⟩
  have hP1 : va_P D vwCl (zW ad cI cZ cS h') T'.heap := by rw [e1]; exact hP'
  obtain ⟨t2, a1, b1⟩ := kk r h' hpost Y hl (by rcases r with _ | v; exact hwst; exact ⟨hvw v rfl, hwst⟩) hwh' T'.heap (locs ++ L) sl h1 hP1 hS1 T' rfl X'
  have es : (r.map (zc ad)).toList ++ st.map (zc ad) = (r.toList ++ st).map (zc ad) := by cases r <;> rfl
  rw [es] at st'
  exact ⟨t2, st' t2 a1, b1⟩
end zrows2
def zen : Nat → List zA → List (Nat × zA)
  | _, [] => []
  | i, v :: vs => (i, v) :: zen (if zcat v = 2 then i + 2 else i + 1) vs
theorem zen_map (ad : Nat → Nat) (as : List zA) : ∀ i, lv_args i (as.map (zc ad)) = (zen i as).map (fun q => (q.1, zc ad q.2)) := by
  induction as with
  | nil => intro i; rfl
  | cons v r ih =>
    intro i
    simp only [List.map_cons, lv_args, zen, zc_cat]
    rw [ih]
theorem zen_w {as : List zA} (h : zwS as) : ∀ i, ∀ q ∈ zen i as, zw q.2 := by
  induction as with
  | nil => intro i q hq; cases hq
  | cons v r ih =>
    intro i q hq
    rcases List.mem_cons.mp hq with rfl | hq
    · exact h.1
    · exact ih h.2 _ q hq
theorem z_lgl (ad : Nat → Nat) (as : List zA) : (lg_sl (as.map (zc ad))).length = (as.map zcat).sum := by
  induction as with
  | nil => rfl
  | cons v r ih =>
    have e : lg_sl ((v :: r).map (zc ad)) = lg_sl [zc ad v] ++ lg_sl (r.map (zc ad)) := by simp [lg_sl]
    rw [e, List.length_append, ih, List.map_cons, List.sum_cons]
    congr 1
    rcases v with a | x | (_ | k) <;> rfl
/-- a contract out of the walk from the method's entry -/
theorem zSp_of {d : Nat} {M : zM} {as : List zA} {h : zH} {Post : Option zA → zH → Prop} {en : List (Nat × zA)} (hp : plainName M.1.cls = true) (hn : (as.map zcat).sum ≤ M.2.2.1) (he : zen 0 as = en) (hV : ∀ Γ, zV M.1.cls M.2.1 M.2.2.1 M.2.2.2 d Post Γ 0 en [] h) : zSp d M as h Post := by
  subst he
  intro l D ad cI cZ cS hi
  refine Met.ofW (cc := M.2.1) (maxL := M.2.2.1) (ret := M.2.2.2) hp rfl ?_
  intro p e s m args below meth c s₁ B hml hv
  obtain ⟨rfl, hw, hwh, hP, hK, hn9⟩ := hv
  have hts := atoms_spec (ws := zws M) B.pre
  have hl := lv_entry (as.map (zc ad)) (n := M.2.2.1) (by rw [z_lgl]; exact hn)
  rw [lg_entry_eq]
  generalize (lg_sl (as.map (zc ad)) ++ List.replicate (M.2.2.1 - (lg_sl (as.map (zc ad))).length) Slot.unset).toArray = sl at hl ⊢
  rw [zen_map] at hl
  exact hV (p, l, e, s, m, (as.map (zc ad)).toArray, below, meth, c, D, ad, cI, cZ, cS) ⟨B.exec, B.bytes, hml, B.returns, B.notSynchronized, findClass_of_methodNamed B.named, fun w hw => hts w (List.mem_cons_of_mem _ hw), hK, hi, hn9⟩ (zen_w hw 0) trivial hwh s.heap [] sl hl hP va_S.rf
