/-! the layout of the cells, and rows that the walker writes -/
theorem zSt_1 : zSt 1 := Or.inl rfl
theorem zSt_16 : zSt 16 := Or.inr (Or.inl rfl)
theorem zSt_31 : zSt 31 := Or.inr (Or.inr (Or.inl rfl))
theorem zSt_row {a : Int} (h0 : 0 ≤ a) (h1 : a < 5) : zSt (48 + 15 * a.toNat) := by
  unfold zSt
  omega
def fsState (b : Nat) : (Nat → Nat) → (Nat → Int32) → List Value := fun ad r => [.ref (ad (b + 1)), .ref (ad (b + 2)), .ref (ad (b + 3)), .ref (ad (b + 4)), .ref (ad (b + 5)), .ref (ad (b + 6)), .ref (ad (b + 9)), .int (r 7)]
def fsClaims (b : Nat) : (Nat → Nat) → (Nat → Int32) → List Value := fun ad _ => [.ref (ad (b + 7)), .ref (ad (b + 8))]
def fsLoans (b : Nat) : (Nat → Nat) → (Nat → Int32) → List Value := fun ad r => [.ref (ad (b + 10)), .ref (ad (b + 11)), .ref (ad (b + 12)), .ref (ad (b + 13)), .ref (ad (b + 14)), .int (r 5), .int (r 6), .int (r 7)]
theorem zo_State {b : Nat} (hb : zSt b) : zObj b 4 (fsState b) := by
  refine ⟨by unfold zSt at hb; omega, fun ad cI cZ cS r => ?_⟩
  rcases hb with rfl | rfl | rfl | rfl | rfl | rfl | rfl | rfl <;> rfl
theorem zo_Claims {b : Nat} (hb : zSt b) : zObj (b + 6) 0 (fsClaims b) := by
  refine ⟨by unfold zSt at hb; omega, fun ad cI cZ cS r => ?_⟩
  rcases hb with rfl | rfl | rfl | rfl | rfl | rfl | rfl | rfl <;> rfl
theorem zo_Loans {b : Nat} (hb : zSt b) : zObj (b + 9) 3 (fsLoans b) := by
  refine ⟨by unfold zSt at hb; omega, fun ad cI cZ cS r => ?_⟩
  rcases hb with rfl | rfl | rfl | rfl | rfl | rfl | rfl | rfl <;> rfl
theorem za_value {b : Nat} (hb : zSt b) : zArI (b + 1) 6 := by
  refine ⟨by unfold zSt at hb; omega, by decide, fun ad cI cZ cS r => ?_⟩
  rcases hb with rfl | rfl | rfl | rfl | rfl | rfl | rfl | rfl <;> rfl
theorem za_version {b : Nat} (hb : zSt b) : zArI (b + 2) 6 := by
  refine ⟨by unfold zSt at hb; omega, by decide, fun ad cI cZ cS r => ?_⟩
  rcases hb with rfl | rfl | rfl | rfl | rfl | rfl | rfl | rfl <;> rfl
theorem za_owner {b : Nat} (hb : zSt b) : zArI (b + 3) 6 := by
  refine ⟨by unfold zSt at hb; omega, by decide, fun ad cI cZ cS r => ?_⟩
  rcases hb with rfl | rfl | rfl | rfl | rfl | rfl | rfl | rfl <;> rfl
theorem za_held {b : Nat} (hb : zSt b) : zArI (b + 4) 36 := by
  refine ⟨by unfold zSt at hb; omega, by decide, fun ad cI cZ cS r => ?_⟩
  rcases hb with rfl | rfl | rfl | rfl | rfl | rfl | rfl | rfl <;> rfl
theorem za_holding {b : Nat} (hb : zSt b) : zArI (b + 5) 6 := by
  refine ⟨by unfold zSt at hb; omega, by decide, fun ad cI cZ cS r => ?_⟩
  rcases hb with rfl | rfl | rfl | rfl | rfl | rfl | rfl | rfl <;> rfl
theorem za_agents {b : Nat} (hb : zSt b) : zArI (b + 7) 36 := by
  refine ⟨by unfold zSt at hb; omega, by decide, fun ad cI cZ cS r => ?_⟩
  rcases hb with rfl | rfl | rfl | rfl | rfl | rfl | rfl | rfl <;> rfl
theorem za_sizes {b : Nat} (hb : zSt b) : zArI (b + 8) 6 := by
  refine ⟨by unfold zSt at hb; omega, by decide, fun ad cI cZ cS r => ?_⟩
  rcases hb with rfl | rfl | rfl | rfl | rfl | rfl | rfl | rfl <;> rfl
theorem za_number {b : Nat} (hb : zSt b) : zArI (b + 10) 40 := by
  refine ⟨by unfold zSt at hb; omega, by decide, fun ad cI cZ cS r => ?_⟩
  rcases hb with rfl | rfl | rfl | rfl | rfl | rfl | rfl | rfl <;> rfl
theorem za_lender {b : Nat} (hb : zSt b) : zArI (b + 11) 40 := by
  refine ⟨by unfold zSt at hb; omega, by decide, fun ad cI cZ cS r => ?_⟩
  rcases hb with rfl | rfl | rfl | rfl | rfl | rfl | rfl | rfl <;> rfl
theorem za_borrower {b : Nat} (hb : zSt b) : zArI (b + 12) 40 := by
  refine ⟨by unfold zSt at hb; omega, by decide, fun ad cI cZ cS r => ?_⟩
  rcases hb with rfl | rfl | rfl | rfl | rfl | rfl | rfl | rfl <;> rfl
theorem za_lcell {b : Nat} (hb : zSt b) : zArI (b + 13) 40 := by
  refine ⟨by unfold zSt at hb; omega, by decide, fun ad cI cZ cS r => ?_⟩
  rcases hb with rfl | rfl | rfl | rfl | rfl | rfl | rfl | rfl <;> rfl
theorem za_parts {b : Nat} (hb : zSt b) : zArI (b + 14) 40 := by
  refine ⟨by unfold zSt at hb; omega, by decide, fun ad cI cZ cS r => ?_⟩
  rcases hb with rfl | rfl | rfl | rfl | rfl | rfl | rfl | rfl <;> rfl
theorem zo_LentParts : zObj 0 6 (fun ad r => [.ref (ad 1), .ref (ad 16), .ref (ad 31), .ref (ad 46), .ref (ad 123), .ref (ad 125), .int (r 6), .int (r 7), .int (r 8), .int (r 9)]) := ⟨by decide, fun _ _ _ _ _ => rfl⟩
theorem zo_History : zObj 46 2 (fun ad r => [.ref (ad 47), .int (r 1), .int (r 2)]) := ⟨by decide, fun _ _ _ _ _ => rfl⟩
theorem zo_Gathering : zObj 123 1 (fun ad _ => [.ref (ad 124)]) := ⟨by decide, fun _ _ _ _ _ => rfl⟩
theorem zo_Text : zObj 125 5 (fun ad r => [.ref (ad 126), .int (r 1), .int (r 2), .ref (ad 127), .int (r 4)]) := ⟨by decide, fun _ _ _ _ _ => rfl⟩
theorem za_idleAt : zArI 124 384 := ⟨by decide, by decide, fun _ _ _ _ _ => rfl⟩
theorem za_signs : zArI 126 60 := ⟨by decide, by decide, fun _ _ _ _ _ => rfl⟩
theorem za_slots : zArI 127 150 := ⟨by decide, by decide, fun _ _ _ _ _ => rfl⟩
theorem z_b01 (P : Prop) [Decidable P] : (if P then 1 else 0 : Int) = 0 ∨ (if P then 1 else 0 : Int) = 1 := by
  by_cases h : P
  · exact Or.inr (if_pos h)
  · exact Or.inl (if_neg h)
theorem z_off0 (d x : Int) : Op.lookupswitch.offset [] d x = d := rfl
def zlow (v n : Int) : Int := zrem (zand v 2147483647) n
section zrows3
variable {own : String} {cc : ByteArray} {nL : Nat} {ret : Option FieldType} {d : Nat} {Post : Option zA → zH → Prop} {Γ : zCx} {pc : Nat} {ls ls' : List (Nat × zA)} {st : List zA} {h : zH}
theorem z_top {x : Int} (k : ∀ y, y = x → zV own cc nL ret d Post Γ pc ls (zI y :: st) h) : zV own cc nL ret d Post Γ pc ls (zI x :: st) h := k x rfl
theorem z_topl {x : Int64} (k : ∀ y, y = x → zV own cc nL ret d Post Γ pc ls (zL y :: st) h) : zV own cc nL ret d Post Γ pc ls (zL x :: st) h := k x rfl
theorem z_heap (k : ∀ y, y = h → zV own cc nL ret d Post Γ pc ls st y) : zV own cc nL ret d Post Γ pc ls st h := k h rfl
theorem z_iincg {n i : Nat} {g a : Int} {lf : Int → List (Nat × zA)} (hd : decode cc pc = .ok (.iinc i g, 3)) (hv : ls[n]? = some (i, zI a)) (hn : i < nL) (he : ∀ y, (i, zI y) :: ls.filter (fun q => !(q.1 == i) && !(q.1 + 1 == i && zcat q.2 == 2)) = lf y) (k : ∀ y, y = zwr (a + g) → zV own cc nL ret d Post Γ (pc + 3) (lf y) st h) : zV own cc nL ret d Post Γ pc ls st h :=
  z_iinc hd hv hn (he _) (k _ rfl)
theorem z_sub (ks : List Nat) (hp : ks.filterMap (fun k => ls[k]?) = ls') (k : zV own cc nL ret d Post Γ pc ls' st h) : zV own cc nL ret d Post Γ pc ls st h := by
  subst hp
  obtain ⟨p, l, e, s, m, args, below, meth, c, D, ad, cI, cZ, cS⟩ := Γ
  intro Y hl hs hh H locs sl h1 h2 h3
  refine k Y (fun q hq => ?_) hs hh H locs sl (lv_sub h1 ks ?_) h2 h3
  · obtain ⟨i, -, hi⟩ := List.mem_filterMap.mp hq
    exact hl q (List.mem_of_getElem? hi)
  · unfold lv_pick
    rw [List.map_filterMap]
    congr 1
    funext i
    rw [List.getElem?_map]
theorem z_ifb_eq {P : Prop} [Decidable P] {off : Int} {tgt : Nat} (hd : decode cc pc = .ok (.ifCond .eq off, 3)) (ht : (pc : Int) + off = (tgt : Int)) (kt : ¬ P → zV own cc nL ret d Post Γ tgt ls st h) (kf : P → zV own cc nL ret d Post Γ (pc + 3) ls st h) : zV own cc nL ret d Post Γ pc ls (zI (if P then 1 else 0) :: st) h :=
  z_if_eq hd ht (fun q => kt (fun p => by rw [if_pos p] at q; exact absurd q (by decide))) (fun q => kf (by by_cases p : P; exact p; rw [if_neg p] at q; exact absurd rfl q))
theorem z_ifb_ne {P : Prop} [Decidable P] {off : Int} {tgt : Nat} (hd : decode cc pc = .ok (.ifCond .ne off, 3)) (ht : (pc : Int) + off = (tgt : Int)) (kt : P → zV own cc nL ret d Post Γ tgt ls st h) (kf : ¬ P → zV own cc nL ret d Post Γ (pc + 3) ls st h) : zV own cc nL ret d Post Γ pc ls (zI (if P then 1 else 0) :: st) h :=
  z_if_ne hd ht (fun q => kt (by by_cases p : P; exact p; rw [if_neg p] at q; exact absurd rfl q)) (fun q => kf (fun p => by rw [if_pos p] at q; exact absurd q (by decide)))
theorem z_ifnonnullN {off : Int} (hd : decode cc pc = .ok (.ifnonnull off, 3)) (k : zV own cc nL ret d Post Γ (pc + 3) ls st h) : zV own cc nL ret d Post Γ pc ls (zN :: st) h := by
  obtain ⟨p, l, e, s, m, args, below, meth, c, D, ad, cI, cZ, cS⟩ := Γ
  intro Y hl hs hh H locs sl h1 h2 h3
  refine lv_ifnonnullN Y.1 Y.2.1 hd ?_
  exact k Y hl hs.2 hh H locs sl h1 h2 h3
theorem z_lcmp {x y : Int64} (hd : decode cc pc = .ok (.lcmp, 1)) (k : zV own cc nL ret d Post Γ (pc + 1) ls (zI (lg_cmp x y).toInt :: st) h) : zV own cc nL ret d Post Γ pc ls (zL y :: zL x :: st) h := by
  obtain ⟨p, l, e, s, m, args, below, meth, c, D, ad, cI, cZ, cS⟩ := Γ
  intro Y hl hs hh H locs sl h1 h2 h3
  refine W.lcmp Y.1 Y.2.1 hd ?_
  have k2 := k Y hl ⟨zw1_to _, hs.2.2⟩ hh H locs sl h1 h2 h3
  simp only [List.map, zc, Int32.ofInt_toInt] at k2
  exact k2
theorem z_max {a b : Int} {ix : Nat} (hw : Cond.methodLink own ix yJ9_max_7cf53 ∈ zT) (hd1 : 1 ≤ d) (hst : (st.map zcat).sum ≤ 8) (hd : decode cc pc = .ok (.invokestatic ix, 3)) (k : zV own cc nL ret d Post Γ (pc + 3) ls (zI (if a < b then b else a) :: st) h) : zV own cc nL ret d Post Γ pc ls (zI b :: zI a :: st) h := by
  obtain ⟨p, l, e, s, m, args, below, meth, c, D, ad, cI, cZ, cS⟩ := Γ
  intro Y hl hs hh H locs sl h1 h2 h3
  obtain ⟨yx, yb, ym, yr, yk, yo, yt, yK, yi, yn⟩ := id Y
  refine va_mmax yx yb (by rw [ym]; exact h1.1.symm) yo (yt _ hw) (yt _ wt_J9_max_7cf53) (yt _ wm_J9_max_7cf53.2.1) (yt _ wm_J9_max_7cf53.1) hd1 (by rw [z_sum]; show _ + 13 ≤ 60 * d; omega) (Nat.le_refl _) (Nat.le_refl _) hd ?_
  have k2 := k Y hl ⟨by show zw1 _; split; exact hs.1; exact hs.2.1, hs.2.2⟩ hh H locs sl h1 h2 h3
  have e2 : (if Int32.ofInt a < Int32.ofInt b then Int32.ofInt b else Int32.ofInt a) = Int32.ofInt (if a < b then b else a) := by
    by_cases q : a < b
    · rw [if_pos q, if_pos ((z_lt hs.2.1 hs.1).mpr q)]
    · rw [if_neg q, if_neg (fun q2 => q ((z_lt hs.2.1 hs.1).mp q2))]
  rw [e2]
  exact k2
theorem z_min {a b : Int} {ix : Nat} (hw : Cond.methodLink own ix yJ9_min_7cf53 ∈ zT) (hd1 : 1 ≤ d) (hst : (st.map zcat).sum ≤ 8) (hd : decode cc pc = .ok (.invokestatic ix, 3)) (k : zV own cc nL ret d Post Γ (pc + 3) ls (zI (if b < a then b else a) :: st) h) : zV own cc nL ret d Post Γ pc ls (zI b :: zI a :: st) h := by
  obtain ⟨p, l, e, s, m, args, below, meth, c, D, ad, cI, cZ, cS⟩ := Γ
  intro Y hl hs hh H locs sl h1 h2 h3
  obtain ⟨yx, yb, ym, yr, yk, yo, yt, yK, yi, yn⟩ := id Y
  refine va_mmin yx yb (by rw [ym]; exact h1.1.symm) yo (yt _ hw) (yt _ wt_J9_min_7cf53) (yt _ wm_J9_min_7cf53.2.1) (yt _ wm_J9_min_7cf53.1) hd1 (by rw [z_sum]; show _ + 13 ≤ 60 * d; omega) (Nat.le_refl _) (Nat.le_refl _) hd ?_
  have k2 := k Y hl ⟨by show zw1 _; split; exact hs.1; exact hs.2.1, hs.2.2⟩ hh H locs sl h1 h2 h3
  have e2 : (if Int32.ofInt b < Int32.ofInt a then Int32.ofInt b else Int32.ofInt a) = Int32.ofInt (if b < a then b else a) := by
    by_cases q : b < a
    · rw [if_pos q, if_pos ((z_lt hs.1 hs.2.1).mpr q)]
    · rw [if_neg q, if_neg (fun q2 => q ((z_lt hs.1 hs.2.1).mp q2))]
  rw [e2]
  exact k2
theorem z_aload_nN {n i : Nat} {f : Fin 4} (hd : decode cc pc = .ok (.aload_n f, 1)) (hf : (f : Nat) = i) (hv : ls[n]? = some (i, zN)) (k : zV own cc nL ret d Post Γ (pc + 1) ls (zN :: st) h) : zV own cc nL ret d Post Γ pc ls st h := by
  obtain ⟨p, l, e, s, m, args, below, meth, c, D, ad, cI, cZ, cS⟩ := Γ
  intro Y hl hs hh H locs sl h1 h2 h3
  refine lv_aload_nN Y.1 Y.2.1 hd hf (z_at h1 hv) ?_
  exact k Y hl ⟨trivial, hs⟩ hh H locs sl h1 h2 h3
theorem z_astore_nN {i : Nat} {f : Fin 4} (hd : decode cc pc = .ok (.astore_n f, 1)) (hf : (f : Nat) = i) (hn : i < nL) (he : (i, zN) :: ls.filter (fun q => !(q.1 == i) && !(q.1 + 1 == i && zcat q.2 == 2)) = ls') (k : zV own cc nL ret d Post Γ (pc + 1) ls' st h) : zV own cc nL ret d Post Γ pc ls (zN :: st) h := by
  obtain ⟨p, l, e, s, m, args, below, meth, c, D, ad, cI, cZ, cS⟩ := Γ
  intro Y hl hs hh H locs sl h1 h2 h3
  refine lv_astore_nN (lv' := ls'.map (fun q => (q.1, zc ad q.2))) Y.1 Y.2.1 hd hf h1 hn (by rw [z_filt ad, ← he]; rfl) (fun sl2 hs2 => ?_)
  exact k Y (z_filw hl hs.1 he) hs.2 hh H locs sl2 hs2 h2 h3
theorem z_ldc {ix : Nat} {v : Int32} {a : Int} (hw : Cond.constant own ix v ∈ zT) (hd : decode cc pc = .ok (.ldc ix, 2)) (ha : v.toInt = a) (k : zV own cc nL ret d Post Γ (pc + 2) ls (zI a :: st) h) : zV own cc nL ret d Post Γ pc ls st h := by
  obtain ⟨p, l, e, s, m, args, below, meth, c, D, ad, cI, cZ, cS⟩ := Γ
  intro Y hl hs hh H locs sl h1 h2 h3
  obtain ⟨yx, yb, ym, yr, yk, yo, yt, yK, yi, yn⟩ := id Y
  refine lv_ldc yx yb yo (v := Int32.ofInt a) (by rw [← ha, Int32.ofInt_toInt]; exact yt _ hw) hd ?_
  exact k Y hl ⟨by rw [← ha]; exact zw1_to _, hs⟩ hh H locs sl h1 h2 h3
end zrows3
