/-! the reference reads an order -/
theorem mO_138 {h : zH} {i : Nat} {v : Int} : mO h (zu h 138 i v) := ⟨fun k _ k2 => zu_nekr _ _ _ k2, fun i _ _ => zu_nek _ _ _ _ (by decide)⟩
theorem mZ_138 {z : zZ} {h : zH} {i : Nat} {v : Int} (hz : mZ z h) : mZ z (zu h 138 i v) := ⟨by rw [zu_nek _ _ _ _ (by decide)]; exact hz.1, by rw [zu_nek _ _ _ _ (by decide)]; exact hz.2.1, hz.2.2⟩
theorem c_X7_order_233 {Post : Option zA → zH → Prop} {Γ : zCx} {T : zs} {len : Nat} {h : zH} {z : zZ} {c v2 w0 : Int} (ht : mT T len h) (hz : mZ z h) (hp : ∀ h' : zH, mZ (o7 T len c z).2 h' → mO h h' → h' 138 4 = (o7 T len c z).1 → (∀ i : Nat, i ≠ 4 → h' 138 i = h 138 i) → Post none h') : (fun (d : Nat) => zV RX7 cX7_order 3 none d Post Γ 233 [(0, zR 128), (1, zI c), (2, zI v2)] [zI w0] h) 4 := by
  unfold o7 at hp
  refine k_X7_order_233 (by decide) ⟨fun c1 => ⟨fun c2 => ?_, fun c2 => ?_⟩, fun c1 => ?_⟩
  · rw [if_neg c1, if_neg c2] at hp
    rintro _ rfl
    exact hp _ (mZ_138 hz) mO_138 (zu_same _ _ _ _) (fun i hi => zu_nej _ _ _ hi)
  · rw [if_neg c1, if_pos c2] at hp
    refine ⟨3, _, by decide, c_X7_number ht hz (by decide) (by decide), ?_⟩
    rintro _ h1 ⟨rfl, z1, f1⟩
    refine ⟨_, rfl, ?_⟩
    rintro _ rfl
    exact hp _ (mZ_138 z1) (f1.1.trans mO_138) (zu_same _ _ _ _) (fun i hi => by rw [zu_nej _ _ _ hi, f1.2])
  · rw [if_pos c1] at hp
    refine ⟨3, _, by decide, c_X7_number ht hz (by decide) (by decide), ?_⟩
    rintro _ h1 ⟨rfl, z1, f1⟩
    refine ⟨_, rfl, ?_⟩
    rintro _ rfl
    exact hp _ (mZ_138 z1) (f1.1.trans mO_138) (zu_same _ _ _ _) (fun i hi => by rw [zu_nej _ _ _ hi, f1.2])
theorem c_X7_order_197 {Post : Option zA → zH → Prop} {Γ : zCx} {T : zs} {len : Nat} {h : zH} {z : zZ} {c v2 w0 : Int} (ht : mT T len h) (hz : mZ z h) (hp : ∀ h' : zH, mZ (o7 T len c (o6 T len c z)).2 h' → mO h h' → h' 138 3 = w0 → h' 138 4 = (o7 T len c (o6 T len c z)).1 → (∀ i : Nat, i ≠ 3 → i ≠ 4 → h' 138 i = h 138 i) → Post none h') : (fun (d : Nat) => zV RX7 cX7_order 3 none d Post Γ 197 [(0, zR 128), (1, zI c), (2, zI v2)] [zI w0, zI 3, zR 138] h) 4 := by
  refine k_X7_order_197 (by decide) ⟨by decide, by decide, ?_⟩
  rintro _ rfl
  have go : ∀ (h1 : zH) (w : Int), mZ (o6 T len c z) h1 → mOs (zu h 138 3 w0) h1 → (fun (d : Nat) => zV RX7 cX7_order 3 none d Post Γ 233 [(0, zR 128), (1, zI c), (2, zI v2)] [zI w] h1) 4 := by
    intro h1 w z1 f1
    refine c_X7_order_233 (mT_o ht (mO_138.trans f1.1)) z1 (fun h' q1 q2 q3 q4 => hp h' q1 (mO_138.trans (f1.1.trans q2)) ?_ q3 (fun i i3 i4 => ?_))
    · rw [q4 3 (by decide), f1.2]; exact zu_same _ _ _ _
    · rw [q4 i i4, f1.2]; exact zu_nej _ _ _ i3
  refine ⟨fun c1 => ⟨fun c2 => ?_, fun c2 => ?_⟩, fun c1 => ?_⟩
  · refine go _ _ ?_ ⟨mO.rfl', rfl⟩
    unfold o6
    rw [if_neg c1, if_neg c2]
    exact mZ_138 hz
  · refine ⟨2, _, by decide, c_X7_sign (mT_o ht mO_138) (mZ_138 hz) (by decide), ?_⟩
    rintro _ h1 ⟨rfl, z1, f1⟩
    refine ⟨_, rfl, go _ _ ?_ f1⟩
    unfold o6
    rw [if_neg c1, if_pos c2]
    exact z1
  · refine ⟨2, _, by decide, c_X7_sign (mT_o ht mO_138) (mZ_138 hz) (by decide), ?_⟩
    rintro _ h1 ⟨rfl, z1, f1⟩
    refine ⟨_, rfl, go _ _ ?_ f1⟩
    unfold o6
    rw [if_pos c1]
    exact z1
theorem c_X7_order_177 {Post : Option zA → zH → Prop} {Γ : zCx} {T : zs} {len : Nat} {h : zH} {z : zZ} {c v2 w0 : Int} (ht : mT T len h) (hz : mZ z h) (hp : ∀ h' : zH, mZ (o7 T len c (o6 T len c (o5 T len c z).2)).2 h' → mO h h' → h' 138 3 = (o5 T len c z).1 → h' 138 4 = (o7 T len c (o6 T len c (o5 T len c z).2)).1 → (∀ i : Nat, i ≠ 3 → i ≠ 4 → h' 138 i = h 138 i) → Post none h') : (fun (d : Nat) => zV RX7 cX7_order 3 none d Post Γ 177 [(0, zR 128), (1, zI c), (2, zI v2)] [zI w0] h) 4 := by
  unfold o5 at hp
  refine k_X7_order_177 (by decide) ⟨fun c1 => ?_, fun c1 => ?_⟩
  · rw [if_neg c1] at hp
    refine ⟨3, _, by decide, c_X7_digit ht hz, ?_⟩
    rintro _ h1 ⟨rfl, z1, f1⟩
    refine ⟨_, rfl, c_X7_order_197 (mT_o ht f1.1) z1 (fun h' q1 q2 q3 q4 q5 => hp h' q1 (f1.1.trans q2) q3 q4 (fun i i3 i4 => by rw [q5 i i3 i4, f1.2]))⟩
  · rw [if_pos c1] at hp
    exact c_X7_order_197 ht hz (fun h' q1 q2 q3 q4 q5 => hp h' q1 q2 q3 q4 q5)
theorem c_X7_order_158 {Post : Option zA → zH → Prop} {Γ : zCx} {T : zs} {len : Nat} {h : zH} {z : zZ} {c v2 w0 : Int} (ht : mT T len h) (hz : mZ z h) (hp : ∀ h' : zH, mZ (o7 T len c (o6 T len c (o5 T len c (o4 T len c z)).2)).2 h' → mO h h' → h' 138 2 = w0 → h' 138 3 = (o5 T len c (o4 T len c z)).1 → h' 138 4 = (o7 T len c (o6 T len c (o5 T len c (o4 T len c z)).2)).1 → (∀ i : Nat, i ≠ 2 → i ≠ 3 → i ≠ 4 → h' 138 i = h 138 i) → Post none h') : (fun (d : Nat) => zV RX7 cX7_order 3 none d Post Γ 158 [(0, zR 128), (1, zI c), (2, zI v2)] [zI w0, zI 2, zR 138] h) 4 := by
  refine k_X7_order_158 (by decide) ⟨by decide, by decide, ?_⟩
  rintro _ rfl
  have go : ∀ (h1 : zH) (w : Int), mZ (o4 T len c z) h1 → mOs (zu h 138 2 w0) h1 → (fun (d : Nat) => zV RX7 cX7_order 3 none d Post Γ 177 [(0, zR 128), (1, zI c), (2, zI v2)] [zI w] h1) 4 := by
    intro h1 w z1 f1
    refine c_X7_order_177 (mT_o ht (mO_138.trans f1.1)) z1 (fun h' q1 q2 q3 q4 q5 => hp h' q1 (mO_138.trans (f1.1.trans q2)) ?_ q3 q4 (fun i i2 i3 i4 => ?_))
    · rw [q5 2 (by decide) (by decide), f1.2]; exact zu_same _ _ _ _
    · rw [q5 i i3 i4, f1.2]; exact zu_nej _ _ _ i2
  refine ⟨fun c1 => ?_, fun c1 => ?_⟩
  · refine ⟨2, _, by decide, c_X7_sign (mT_o ht mO_138) (mZ_138 hz) (by decide), ?_⟩
    rintro _ h1 ⟨rfl, z1, f1⟩
    refine ⟨_, rfl, go _ _ ?_ f1⟩
    unfold o4
    rw [if_neg c1]
    exact z1
  · refine go _ _ ?_ ⟨mO.rfl', rfl⟩
    unfold o4
    rw [if_pos c1]
    exact mZ_138 hz
def oTail (T : zs) (len : Nat) (c : Int) (r3 : Int × zZ) : (Int × Int × Int) × zZ := ((r3.1, (o5 T len c (o4 T len c r3.2)).1, (o7 T len c (o6 T len c (o5 T len c (o4 T len c r3.2)).2)).1), (o7 T len c (o6 T len c (o5 T len c (o4 T len c r3.2)).2)).2)
theorem c_X7_order_138 {Post : Option zA → zH → Prop} {Γ : zCx} {T : zs} {len : Nat} {h : zH} {z : zZ} {c w0 : Int} (ht : mT T len h) (hz : mZ z h) (hp : ∀ h' : zH, mZ (oTail T len c (o3 T len c z)).2 h' → mO h h' → h' 138 2 = (oTail T len c (o3 T len c z)).1.1 → h' 138 3 = (oTail T len c (o3 T len c z)).1.2.1 → h' 138 4 = (oTail T len c (o3 T len c z)).1.2.2 → (∀ i : Nat, i ≠ 2 → i ≠ 3 → i ≠ 4 → h' 138 i = h 138 i) → Post none h') : (fun (d : Nat) => zV RX7 cX7_order 3 none d Post Γ 138 [(0, zR 128), (1, zI c)] [zI w0] h) 4 := by
  refine k_X7_order_138 (by decide) ⟨fun c1 => ?_, fun c1 => ?_⟩
  · have e : o3 T len c z = (0, z) := by unfold o3; rw [if_neg c1]
    rw [e] at hp
    exact c_X7_order_158 ht hz (fun h' q1 q2 q3 q4 q5 q6 => hp h' q1 q2 q3 q4 q5 q6)
  · have e : o3 T len c z = (sg T len z.2 - 48, xS T len 48 53 z) := by unfold o3; rw [if_pos c1]
    rw [e] at hp
    refine ⟨3, _, by decide, c_X7_digit ht hz, ?_⟩
    rintro _ h1 ⟨rfl, z1, f1⟩
    refine ⟨_, rfl, c_X7_order_158 (mT_o ht f1.1) z1 (fun h' q1 q2 q3 q4 q5 q6 => hp h' q1 (f1.1.trans q2) q3 q4 q5 (fun i i2 i3 i4 => by rw [q6 i i2 i3 i4, f1.2]))⟩
theorem c_X7_order_119 {Post : Option zA → zH → Prop} {Γ : zCx} {T : zs} {len : Nat} {h : zH} {z : zZ} {c w0 : Int} (ht : mT T len h) (hz : mZ z h) (hp : ∀ h' : zH, mZ (oTail T len c (o3 T len c (o2 T len c z))).2 h' → mO h h' → h' 138 1 = w0 → h' 138 2 = (oTail T len c (o3 T len c (o2 T len c z))).1.1 → h' 138 3 = (oTail T len c (o3 T len c (o2 T len c z))).1.2.1 → h' 138 4 = (oTail T len c (o3 T len c (o2 T len c z))).1.2.2 → h' 138 0 = h 138 0 → Post none h') : (fun (d : Nat) => zV RX7 cX7_order 3 none d Post Γ 119 [(0, zR 128), (1, zI c)] [zI w0, zI 1, zR 138] h) 4 := by
  refine k_X7_order_119 (by decide) ⟨by decide, by decide, ?_⟩
  rintro _ rfl
  have go : ∀ (h1 : zH) (w : Int), mZ (o2 T len c z) h1 → mOs (zu h 138 1 w0) h1 → (fun (d : Nat) => zV RX7 cX7_order 3 none d Post Γ 138 [(0, zR 128), (1, zI c)] [zI w] h1) 4 := by
    intro h1 w z1 f1
    refine c_X7_order_138 (mT_o ht (mO_138.trans f1.1)) z1 (fun h' q1 q2 q3 q4 q5 q6 => hp h' q1 (mO_138.trans (f1.1.trans q2)) ?_ q3 q4 q5 ?_)
    · rw [q6 1 (by decide) (by decide) (by decide), f1.2]; exact zu_same _ _ _ _
    · rw [q6 0 (by decide) (by decide) (by decide), f1.2]; exact zu_nej _ _ _ (by decide)
  refine ⟨fun c1 => ?_, fun c1 => ?_⟩
  · refine go _ _ ?_ ⟨mO.rfl', rfl⟩
    unfold o2
    rw [if_neg c1]
    exact mZ_138 hz
  · refine ⟨2, _, by decide, c_X7_sign (mT_o ht mO_138) (mZ_138 hz) (by decide), ?_⟩
    rintro _ h1 ⟨rfl, z1, f1⟩
    refine ⟨_, rfl, go _ _ ?_ f1⟩
    unfold o2
    rw [if_pos c1]
    exact z1
def oDone (T : zs) (len : Nat) (c : Int) (z : zZ) (h h' : zH) : Prop := mZ (oTail T len c (o3 T len c (o2 T len c (o1 T len c z).2))).2 h' ∧ mO h h' ∧ h' 138 0 = c ∧ h' 138 1 = (o1 T len c z).1 ∧ h' 138 2 = (oTail T len c (o3 T len c (o2 T len c (o1 T len c z).2))).1.1 ∧ h' 138 3 = (oTail T len c (o3 T len c (o2 T len c (o1 T len c z).2))).1.2.1 ∧ h' 138 4 = (oTail T len c (o3 T len c (o2 T len c (o1 T len c z).2))).1.2.2
theorem c_X7_order_82 {Post : Option zA → zH → Prop} {Γ : zCx} {T : zs} {len : Nat} {h h0 : zH} {z : zZ} {c w0 w1 : Int} (ht : mT T len h) (hz : mZ z (zu h 128 15 (zwr (w1 + w0)))) (f0 : mO h0 (zu h 128 15 (zwr (w1 + w0)))) (hp : ∀ h' : zH, oDone T len c z h0 h' → Post none h') : (fun (d : Nat) => zV RX7 cX7_order 3 none d Post Γ 82 [(0, zR 128), (1, zI c)] [zI w0, zI w1, zR 128] h) 4 := by
  refine k_X7_order_82 (by decide) ?_
  intro h1 e1
  rw [← e1] at hz f0
  have t1 : mT T len h1 := mT_o ht (by rw [e1]; exact ⟨fun k k1 _ => zu_nekr _ _ _ k1, fun i i1 _ => zu_nej _ _ _ i1⟩)
  rintro _ rfl
  have go : ∀ (h2 : zH), mZ (o1 T len c z).2 h2 → mOs (zu h1 138 0 c) h2 → (fun (d : Nat) => zV RX7 cX7_order 3 none d Post Γ 119 [(0, zR 128), (1, zI c)] [zI ((o1 T len c z).1), zI 1, zR 138] h2) 4 := by
    intro h2 z2 f2
    refine c_X7_order_119 (mT_o t1 (mO_138.trans f2.1)) z2 (fun h' q1 q2 q3 q4 q5 q6 q7 => hp h' ⟨q1, f0.trans (mO_138.trans (f2.1.trans q2)), ?_, q3, q4, q5, q6⟩)
    rw [q7, f2.2]; exact zu_same _ _ _ _
  refine ⟨fun c1 => ?_, fun c1 => ?_⟩
  · have e : o1 T len c z = (sg T len z.2 - 48, xS T len 48 53 z) := by unfold o1; rw [if_neg c1]
    rw [e] at go
    refine ⟨3, _, by decide, c_X7_digit (mT_o t1 mO_138) (mZ_138 hz), ?_⟩
    rintro _ h2 ⟨rfl, z2, f2⟩
    exact ⟨_, rfl, go h2 z2 f2⟩
  · have e : o1 T len c z = xN T len 0 999 z := by unfold o1; rw [if_pos c1]
    rw [e] at go
    refine ⟨3, _, by decide, c_X7_number (mT_o t1 mO_138) (mZ_138 hz) (by decide) (by decide), ?_⟩
    rintro _ h2 ⟨rfl, z2, f2⟩
    exact ⟨_, rfl, go h2 z2 f2⟩
theorem c_X7_order_62 {Post : Option zA → zH → Prop} {Γ : zCx} {T : zs} {len : Nat} {h : zH} {z : zZ} {c w0 : Int} (ht : mT T len h) (hz : mZ z h) (hlt : w0 = 0 → z.2 < len) (hw : w0 = if z.1 = false ∧ (c = 108 ∨ c = 98 ∨ c = 119 ∨ c = 103) then 0 else 1) (hp : ∀ h' : zH, oDone T len c (oL c z) h h' → Post none h') : (fun (d : Nat) => zV RX7 cX7_order 3 none d Post Γ 62 [(0, zR 128), (1, zI c)] [zI w0, zR 128] h) 4 := by
  obtain ⟨z1, z2, z3⟩ := hz
  have l60 := ht.2.1
  have t1 : mT T len (zu h 128 16 w0) := mT_o ht ⟨fun k k1 _ => zu_nekr _ _ _ k1, fun i _ i2 => zu_nej _ _ _ i2⟩
  by_cases cc : z.1 = false ∧ (c = 108 ∨ c = 98 ∨ c = 119 ∨ c = 103)
  · rw [if_pos cc] at hw
    have e : oL c z = (false, z.2 + 1) := by unfold oL; rw [if_pos cc]
    rw [e] at hp
    have hlt2 := hlt hw
    rw [hw] at t1 ⊢
    refine k_X7_order_62 (by decide) ⟨Or.inl rfl, ?_⟩
    rintro _ rfl
    refine ⟨fun _ => ?_, fun q => absurd (zu_same _ _ _ _) q⟩
    rw [zu_nej (j := 16) (j' := 15) _ _ _ (by decide), z1]
    refine c_X7_order_82 (h0 := h) (z := (false, z.2 + 1)) t1 ⟨?_, ?_, ?_⟩ ⟨fun k k1 k2 => by rw [zu_nekr _ _ _ k1, zu_nekr _ _ _ k1], fun i i1 i2 => by rw [zu_nej _ _ _ i1, zu_nej _ _ _ i2]⟩ hp
    · rw [zu_same, zwr_eq (by omega) (by omega)]; show (z.2 : Int) + 1 = ((z.2 + 1 : Nat) : Int); omega
    · rw [zu_nej _ _ _ (by decide), zu_same]; rfl
    · show z.2 + 1 ≤ 60; omega
  · rw [if_neg cc] at hw
    have e : oL c z = (true, z.2) := by unfold oL; rw [if_neg cc]
    rw [e] at hp
    rw [hw] at t1 ⊢
    refine k_X7_order_62 (by decide) ⟨Or.inr rfl, ?_⟩
    rintro _ rfl
    refine ⟨fun q => absurd (show (1 : Int) = 0 from (zu_same h 128 16 1).symm.trans q) (by decide), fun _ => ?_⟩
    rw [zu_nej (j := 16) (j' := 15) _ _ _ (by decide), z1]
    refine c_X7_order_82 (h0 := h) (z := (true, z.2)) t1 ⟨?_, ?_, z3⟩ ⟨fun k k1 k2 => by rw [zu_nekr _ _ _ k1, zu_nekr _ _ _ k1], fun i i1 i2 => by rw [zu_nej _ _ _ i1, zu_nej _ _ _ i2]⟩ hp
    · rw [zu_same, zwr_eq (by omega) (by omega)]; show (z.2 : Int) + 0 = (z.2 : Int); omega
    · rw [zu_nej _ _ _ (by decide), zu_same]; rfl
theorem c_X7_order_24 {Post : Option zA → zH → Prop} {Γ : zCx} {T : zs} {len : Nat} {h : zH} {z : zZ} {c : Int} (ht : mT T len h) (hz : mZ z h) (hc : c = sg T len z.2) (hp : ∀ h' : zH, oDone T len c (oL c z) h h' → Post none h') : (fun (d : Nat) => zV RX7 cX7_order 3 none d Post Γ 24 [(0, zR 128)] [zI c] h) 4 := by
  have z2 := hz.2.1
  have lt : c = 108 ∨ c = 98 ∨ c = 119 ∨ c = 103 → z.2 < len := by
    intro q
    unfold sg at hc
    by_cases w : z.2 < len
    · exact w
    · rw [if_neg w] at hc; omega
  have wrong : ¬ (z.1 = false ∧ (c = 108 ∨ c = 98 ∨ c = 119 ∨ c = 103)) → (fun (d : Nat) => zV RX7 cX7_order 3 none d Post Γ 57 [(0, zR 128), (1, zI c)] [zR 128] h) 4 := fun q => k_X7_order_57 (by decide) (c_X7_order_62 ht hz (fun z => absurd z (by decide)) (by rw [if_neg q]) hp)
  have right : z.1 = false ∧ (c = 108 ∨ c = 98 ∨ c = 119 ∨ c = 103) → (fun (d : Nat) => zV RX7 cX7_order 3 none d Post Γ 61 [(0, zR 128), (1, zI c)] [zR 128] h) 4 := fun q => k_X7_order_61 (by decide) (c_X7_order_62 ht hz (fun _ => lt q.2) (by rw [if_pos q]) hp)
  refine k_X7_order_24 (by decide) ⟨fun cw => wrong (fun q => ?_), fun cw => ?_⟩
  · rw [q.1] at z2; exact cw z2
  have e : z.1 = false := by
    cases q : z.1
    · rfl
    · rw [q] at z2; rw [z2] at cw; exact absurd cw (by decide)
  exact ⟨fun c1 => right ⟨e, Or.inl c1⟩, fun c1 => ⟨fun c2 => right ⟨e, Or.inr (Or.inl c2)⟩, fun c2 => ⟨fun c3 => right ⟨e, Or.inr (Or.inr (Or.inl c3))⟩, fun c3 => ⟨fun c4 => right ⟨e, Or.inr (Or.inr (Or.inr c4))⟩, fun c4 => wrong (fun q => by omega)⟩⟩⟩⟩
theorem c_X7_order {T : zs} {len : Nat} {h : zH} {z : zZ} (ht : mT T len h) (hz : mZ z h) : zSp 4 mX7_order [zR 128] h (fun q h' => q = none ∧ mZ (oZ T len z) h' ∧ mO h h' ∧ ∀ i : Nat, i < 5 → h' 138 i = oTold T len z i) := by
  refine zSp_of (by decide +kernel) (Nat.le_of_ble_eq_true rfl) rfl (fun Γ => k_X7_order_0  (by decide) ?_)
  have z1 := hz.1
  have z3 := hz.2.2
  have key := c_X7_order_24 (Post := fun q h' => q = none ∧ mZ (oZ T len z) h' ∧ mO h h' ∧ ∀ i : Nat, i < 5 → h' 138 i = oTold T len z i) (Γ := Γ) ht hz rfl (fun h' q => ⟨rfl, q.1, q.2.1, fun i hi => by
    obtain ⟨-, -, q0, q1, q2, q3, q4⟩ := q
    rcases (show i = 0 ∨ i = 1 ∨ i = 2 ∨ i = 3 ∨ i = 4 by omega) with e | e | e | e | e <;> rw [e]
    · exact q0
    · exact q1
    · exact q2
    · exact q3
    · exact q4⟩)
  have t1 := ht.1
  have t2 := ht.2.1
  refine ⟨fun c => ?_, fun c => ⟨by omega, by omega, ?_⟩⟩
  · rw [show sg T len z.2 = 0 from if_neg (by omega)] at key
    exact key
  · rw [z1, Int.toNat_natCast, ht.2.2.1 z.2 (by omega)]
    rw [show sg T len z.2 = T z.2 from if_pos (by omega)] at key
    exact key
