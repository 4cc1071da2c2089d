/-! the class's gathering, with what it remembers, against the recursion -/
def gJ (c : Int) (s : zs) (h : zH) : Prop := ∀ m : Nat, m < 64 → ∀ a : Int, 0 ≤ a ∧ a ≤ 5 → m.testBit a.toNat = false → h 124 (6 * m + a.toNat) ≤ s 135 ∧ (h 124 (6 * m + a.toNat) = s 135 → gat c (6 - pc6 m) m s a = s)
theorem gJ_row {c : Int} {s : zs} {h h' : zH} (j : gJ c s h) (e : h' 124 = h 124) : gJ c s h' := by
  intro m hm a ha hb
  rw [e]
  exact j m hm a ha hb
theorem gJ_give {c : Int} {s s' : zs} {h : zH} (j : gJ c s h) (e : s' 135 = s 135 + 1) : gJ c s' h := by
  intro m hm a ha hb
  have := (j m hm a ha hb).1
  exact ⟨by omega, fun q => by omega⟩
theorem gJ_back {B c : Int} {s : zs} {h : zH} {x : Int} (j : gJ c s h) (hW : WF B s) (hx : 0 ≤ x ∧ x < s 132) : gJ c (gBack s x) h := by
  unfold gBack
  by_cases q : sCan s x
  · rw [if_pos q]
    exact gJ_give j (sGive_cnt hW.l hx hW.n).2.2.2
  · rw [if_neg q]
    exact j
/-- nothing but the state b and what gathering remembers has changed -/
def zFg (b : Nat) (h h' : zH) : Prop := ∀ k : Nat, k ≠ 124 → (k < b ∨ b + 15 ≤ k) → h' k = h k
theorem zFg.trans {b : Nat} {h h1 h2 : zH} (a : zFg b h h1) (c : zFg b h1 h2) : zFg b h h2 := fun k h0 hk => by rw [c k h0 hk, a k h0 hk]
theorem zFr.g {b : Nat} {h h1 : zH} (a : zFr b h h1) : zFg b h h1 := fun k _ hk => a k hk
theorem zSt_124 {b : Nat} (hb : zSt b) : 124 < b ∨ b + 15 ≤ 124 := by unfold zSt at hb; omega
theorem zFr.r124 {b : Nat} {h h1 : zH} (hb : zSt b) (a : zFr b h h1) : h1 124 = h 124 := a 124 (zSt_124 hb |>.imp id id)
theorem zorbit : ∀ m, m < 64 → ∀ a, a < 6 → zor (m : Nat) (zshl 1 (a : Nat)) = ((m ||| 1 <<< a : Nat) : Int) := by decide +kernel
theorem zbusy : ∀ m, m < 64 → ∀ a, a < 6 → (zand (zshr (m : Nat) (a : Nat)) 1 = 0 ↔ Nat.testBit m a = false) := by decide +kernel
def cGF (B c : Int) (n : Nat) : Prop := ∀ (b : Nat) (h : zH) (s : zs) (a : Int) (m t : Nat), zSt b → n + t = 6 → WF B s → Rep s h b → m < 64 → pc6 m = t → 0 ≤ a ∧ a ≤ 5 → m.testBit a.toNat = false → gJ c s h → zSp (2 * n + 4) mX1_gatherFor [zR b, zR 124, zI a, zI c, zI (m : Int), zI (t : Int)] h (fun q h' => q = none ∧ Rep (gat c n m s a) h' b ∧ gJ c (gat c n m s a) h' ∧ zFg b h h')
theorem opGive_back {s : zs} {n : Int} (h : sPlace s n ≠ -5) : (opGive s n).2 = gBack s (sPlace s n) := by
  unfold opGive gBack
  rw [if_neg h]
  by_cases c : sCan s (sPlace s n)
  · rw [if_pos c, if_pos c]
  · rw [if_neg c, if_neg c]
theorem c_X1_needyBorrower {B : Int} {b : Nat} {h : zH} {s : zs} {x : Int} {M : Nat} (hb : zSt b) (hW : WF B s) (r : Rep s h b) (hM : M < 64) (hx : 0 ≤ x ∧ x < s 132) : zSp 2 mX1_needyBorrower [zR b, zI (s (136 + 5 * x + 0).toNat), zI (M : Int)] h (fun q h' => q = some (zI (if s (6 * s (136 + 5 * x + 3).toNat + s (136 + 5 * x + 2).toNat).toNat < s (136 + 5 * x + 4).toNat ∧ M.testBit (s (136 + 5 * x + 2).toNat).toNat = false then s (136 + 5 * x + 2).toNat else -1)) ∧ h = h') := by
  refine zSp_of (by decide +kernel) (Nat.le_of_ble_eq_true rfl) rfl (fun Γ => k_X1_needyBorrower_0 hb (by omega) ?_)
  have n2 := hW.n.2.1
  obtain ⟨l0, l1, l2, l3, l4⟩ := r.l x hx.1 hx.2
  obtain ⟨a0, p1, p2, p3, p4⟩ := hW.l x hx.1 hx.2
  refine ⟨1, _, by omega, c_X3_rowOf hb r hW.n, ?_⟩
  rintro _ _ ⟨rfl, rfl⟩
  have ep := sPlc_of hW.o hx
  rw [ep, if_neg (by omega)]
  refine ⟨_, rfl, fun _ => ⟨by omega, by omega, ?_⟩, fun q => absurd hx.1 q⟩
  rw [l2]
  intro x10 e10
  rw [e10]
  have hbusy := zbusy M hM (s (136 + 5 * x + 2).toNat).toNat (by omega)
  rw [show (((s (136 + 5 * x + 2).toNat).toNat : Nat) : Int) = s (136 + 5 * x + 2).toNat by omega] at hbusy
  refine ⟨fun c1 => ?_, fun c1 => ?_⟩
  · have hnb := hbusy.mp c1
    refine k_X1_needyBorrower_40 hb (by omega) ⟨by omega, by omega, p2, ?_⟩
    rw [l3, l4, r.h _ _ p2 p3]
    refine ⟨p3, by omega, by omega, fun c3 => ⟨fun c4 => absurd rfl c4, fun _ => ?_⟩, fun c3 => ⟨fun c4 => absurd rfl c4, fun _ => ?_⟩⟩
    · rw [if_pos ⟨c3, hnb⟩]
      exact ⟨rfl, rfl⟩
    · rw [if_neg (fun q => c3 q.1)]
      exact ⟨rfl, rfl⟩
  · have hnb : ¬ M.testBit (s (136 + 5 * x + 2).toNat).toNat = false := fun q => c1 (hbusy.mpr q)
    refine k_X1_needyBorrower_40 hb (by omega) ⟨by omega, by omega, p2, ?_⟩
    rw [l3, l4, r.h _ _ p2 p3, if_neg (fun q => hnb q.2)]
    exact ⟨p3, by omega, by omega, fun c3 => ⟨fun _ => ⟨rfl, rfl⟩, fun c4 => absurd c4 (by decide)⟩, fun c3 => ⟨fun _ => ⟨rfl, rfl⟩, fun c4 => absurd c4 (by decide)⟩⟩
theorem cOne {B c : Int} {n1 D : Nat} {C : zH → Prop} (hD : 2 * n1 + 5 ≤ D) (hc : 0 ≤ c ∧ c ≤ 5) (hG : cGF B c n1) {b : Nat} {h : zH} {s : zs} {x : Int} {M t : Nat} (hb : zSt b) (hnt : n1 + (t + 1) = 6) (hW : WF B s) (r : Rep s h b) (hM : M < 64) (hpc : pc6 M = t + 1) (hx : 0 ≤ x ∧ x < s 132) (hlend : M.testBit (s (136 + 5 * x + 1).toNat).toNat = true) (hcell : s (136 + 5 * x + 3).toNat = c) (hJ : gJ c s h)
    (K : ∀ h' : zH, Rep (gOne (fun s' b => gat c n1 M s' b) M s x) h' b → gJ c (gOne (fun s' b => gat c n1 M s' b) M s x) h' → zFg b h h' → C h') :
    ∃ (d7 : Nat) (P8 : Option zA → zH → Prop), d7 + 1 ≤ D ∧ zSp d7 mX1_needyBorrower [zR b, zI (s (136 + 5 * x + 0).toNat), zI (M : Int)] h P8 ∧ ∀ r9 h10, P8 r9 h10 →
      ∃ x13 : Int, r9 = some (zI x13) ∧
      ((x13 < 0 → ∃ (d14 : Nat) (P15 : Option zA → zH → Prop), d14 + 1 ≤ D ∧ zSp d14 mX4_endLoan [zR b, zI (s (136 + 5 * x + 0).toNat)] h10 P15 ∧ ∀ r16 h17, P15 r16 h17 → ∃ x20 : Int, r16 = some (zI x20) ∧ C h17) ∧
      (¬ x13 < 0 → ∃ (d29 : Nat) (P30 : Option zA → zH → Prop), d29 + 1 ≤ D ∧ zSp d29 mX1_gatherFor [zR b, zR 124, zI x13, zI c, zI (M : Int), zI (zwr ((t : Int) + 1))] h10 P30 ∧ ∀ r31 h32, P30 r31 h32 → r31 = none ∧
        ∃ (d35 : Nat) (P36 : Option zA → zH → Prop), d35 + 1 ≤ D ∧ zSp d35 mX4_endLoan [zR b, zI (s (136 + 5 * x + 0).toNat)] h32 P36 ∧ ∀ r37 h38, P36 r37 h38 → ∃ x41 : Int, r37 = some (zI x41) ∧ C h38)) := by
  obtain ⟨a0, p1, p2, p3, p4⟩ := hW.l x hx.1 hx.2
  have ep := sPlc_of hW.o hx
  refine ⟨2, _, by omega, c_X1_needyBorrower hb hW r hM hx, ?_⟩
  rintro _ _ ⟨rfl, rfl⟩
  refine ⟨_, rfl, ?_⟩
  by_cases q : s (6 * s (136 + 5 * x + 3).toNat + s (136 + 5 * x + 2).toNat).toNat < s (136 + 5 * x + 4).toNat ∧ M.testBit (s (136 + 5 * x + 2).toNat).toNat = false
  · rw [if_pos q]
    refine ⟨fun c1 => by omega, fun _ => ?_⟩
    have ht1 : zwr ((t : Int) + 1) = ((t + 1 : Nat) : Int) := by rw [zwr_eq (by omega) (by omega)]; omega
    rw [ht1]
    refine ⟨2 * n1 + 4, _, by omega, hG b h s (s (136 + 5 * x + 2).toNat) M (t + 1) hb hnt hW r hM hpc p2 q.2 hJ, ?_⟩
    rintro _ h1 ⟨rfl, r1, j1, f1⟩
    obtain ⟨g1, g2⟩ := gat_ok (c := c) n1 M s (s (136 + 5 * x + 2).toNat) hW q.2
    obtain ⟨y1, y2⟩ := gRow g1 g2 hx hlend
    refine ⟨rfl, 3, _, by omega, c_X4_endLoan hb r1 g1, ?_⟩
    rintro _ h2 ⟨rfl, r2, f2⟩
    rw [opGive_back (by omega)] at r2
    have e : gOne (fun s' b => gat c n1 M s' b) M s x = gBack (gat c n1 M s (s (136 + 5 * x + 2).toNat)) (sPlace (gat c n1 M s (s (136 + 5 * x + 2).toNat)) (s (136 + 5 * x + 0).toNat)) := by
      unfold gOne
      simp only [if_pos q]
    rw [e] at K
    exact ⟨_, rfl, K h2 r2 (gJ_row (gJ_back j1 g1 y1) (f2.r124 hb)) (f1.trans f2.g)⟩
  · rw [if_neg q]
    refine ⟨fun _ => ?_, fun c1 => absurd (by decide) c1⟩
    refine ⟨3, _, by omega, c_X4_endLoan hb r hW, ?_⟩
    rintro _ h2 ⟨rfl, r2, f2⟩
    rw [opGive_back (by omega), ep] at r2
    have e : gOne (fun s' b => gat c n1 M s' b) M s x = gBack s x := by
      unfold gOne
      simp only [if_neg q]
      rw [ep]
    rw [e] at K
    exact ⟨_, rfl, K h2 r2 (gJ_row (gJ_back hJ hW hx) (f2.r124 hb)) f2.g⟩
theorem sLatN_neg {s : zs} (hn : WFn s) (hl : WFl s) {a c k : Int} : sLatN s a c k < 0 ↔ sLatest s a c k = -5 := by
  unfold sLatN
  by_cases e : sLatest s a c k = -5
  · rw [if_pos e]
    exact ⟨fun _ => e, fun _ => by decide⟩
  · rw [if_neg e]
    obtain ⟨b1, -⟩ := sLatest_ok e hn.1
    have := (hl _ b1.1 b1.2).1.1
    exact ⟨fun q => by omega, fun q => absurd q e⟩
theorem cGF_loop {B c : Int} {n1 : Nat} {Post : Option zA → zH → Prop} {Γ : zCx} (hc : 0 ≤ c ∧ c ≤ 5) (hG : cGF B c n1) {b : Nat} {h0 : zH} {s0 : zs} {a : Int} {m t : Nat} (hb : zSt b) (hnt : n1 + 1 + t = 6) (hm : m < 64) (hpc : pc6 m = t) (ha : 0 ≤ a ∧ a ≤ 5) (hma : m.testBit a.toNat = false)
    (hP : ∀ h' : zH, Rep (gat c (n1 + 1) m s0 a) h' b → gJ c (gat c (n1 + 1) m s0 a) h' → zFg b h0 h' → Post none h') : ∀ (f v10 : Nat) (s : zs) (h : zH) (k : Int), f + v10 = 40 → WF B s → Rep s h b → gJ c s h → zFg b h0 h → gSub m s0 s → gIn (fun s' b => gat c n1 (m ||| 1 <<< a.toNat) s' b) (m ||| 1 <<< a.toNat) a c f k s = gat c (n1 + 1) m s0 a → (fun (d : Nat) => zV RX1 cX1_gatherFor 13 none d Post Γ 62 [(0, zR b), (1, zR 124), (2, zI a), (3, zI c), (4, zI (m : Int)), (5, zI (t : Int)), (6, zR (b + 9)), (7, zI (s0 135)), (8, zI ((6 * m + a.toNat : Nat) : Int)), (9, zI ((m ||| 1 <<< a.toNat : Nat) : Int)), (10, zI (sLatN s a c k)), (11, zI (v10 : Int))] [] h) (2 * (n1 + 1) + 4) := by
  -- the end: it may remember that nothing came of it
  have hend : ∀ (s : zs) (h : zH), WF B s → Rep s h b → gJ c s h → zFg b h0 h → gSub m s0 s → s = gat c (n1 + 1) m s0 a → ((¬ (h (b + 9) 7) = s0 135 → Post none h) ∧ ((h (b + 9) 7) = s0 135 → 0 ≤ ((6 * m + a.toNat : Nat) : Int) ∧ ((6 * m + a.toNat : Nat) : Int) < 384 ∧ ∀ h3 : zH, h3 = zu h 124 ((6 * m + a.toNat : Nat) : Int).toNat (s0 135) → Post none h3)) := by
    intro s h hW r hJ hf hg e
    rw [← e] at hP
    refine ⟨fun _ => hP h r hJ hf, fun q => ⟨by omega, by omega, ?_⟩⟩
    rintro _ rfl
    rw [r.n.2.2.2] at q
    have es : s = s0 := hg.2.2.1 q
    rw [Int.toNat_natCast]
    refine hP _ (Rep_congr r (fun k h0 h1 => zu_nekr _ _ _ (by have := zSt_124 hb; omega))) (fun m' hm' a' ha' hb' => ?_) (hf.trans (fun k h0 _ => zu_nekr _ _ _ h0))
    by_cases e2 : 6 * m' + a'.toNat = 6 * m + a.toNat
    · rw [e2, zu_same]
      have e3 : m' = m := by omega
      have e4 : a' = a := by omega
      rw [e3, e4, hpc, show 6 - t = n1 + 1 by omega]
      refine ⟨by rw [q]; omega, fun _ => ?_⟩
      rw [es]
      rw [es] at e
      exact e.symm
    · rw [zu_nej _ _ _ e2]
      exact hJ m' hm' a' ha' hb'
  intro f
  induction f with
  | zero =>
    intro v10 s h k hv hW r hJ hf hg e
    refine k_X1_gatherFor_62 hb (by omega) ⟨fun _ => hend s h hW r hJ hf hg e, fun c1 => absurd c1 (by omega)⟩
  | succ f ih =>
    intro v10 s h k hv hW r hJ hf hg e
    refine k_X1_gatherFor_62 hb (by omega) ⟨fun c1 => by omega, fun _ => ⟨fun c2 => ?_, fun c2 => ?_⟩⟩
    · have e2 := (sLatN_neg hW.n hW.l).mp c2
      unfold gIn at e
      rw [if_pos e2] at e
      exact hend s h hW r hJ hf hg e
    · have e2 : ¬ sLatest s a c k = -5 := fun q => c2 ((sLatN_neg hW.n hW.l).mpr q)
      obtain ⟨b1, b2, b3, b4⟩ := sLatest_ok e2 hW.n.1
      have eN : sLatN s a c k = s (136 + 5 * sLatest s a c k + 0).toNat := by unfold sLatN; rw [if_neg e2]
      rw [eN]
      obtain ⟨o1, o2⟩ := pc6_or m hm a.toNat (by omega) hma
      refine cOne (D := 2 * (n1 + 1) + 4) (by omega) hc hG hb (by omega) hW r o2 (by rw [o1, hpc]) b1 (by rw [b2]; exact tb_or_self _ _) b3 hJ ?_
      intro h1 r1 j1 f1
      obtain ⟨g1, g2⟩ := gOne_ok hW b1 b2 hma (gat_call (c := c) n1 _)
      refine ⟨1, _, by omega, c_X3_latestAhead hb r1 g1.n, ?_⟩
      rintro _ _ ⟨rfl, rfl⟩
      refine ⟨_, rfl, ?_⟩
      intro x20 e20
      rw [zstep e20 (by omega)]
      refine ih (v10 + 1) _ h1 (s (136 + 5 * sLatest s a c k + 0).toNat) (by omega) g1 r1 j1 (hf.trans f1) (hg.trans g2) ?_
      rw [← e]
      conv => rhs; unfold gIn
      rw [if_neg e2]
theorem cGF_all {B c : Int} (hc : 0 ≤ c ∧ c ≤ 5) : ∀ n : Nat, cGF B c n := by
  intro n
  induction n with
  | zero =>
    intro b h s a m t hb hnt hW r hm hpc ha hma hJ
    refine zSp_of (by decide +kernel) (Nat.le_of_ble_eq_true rfl) rfl (fun Γ => k_X1_gatherFor_0 hb (by omega) ?_)
    intro x1 _ x2 _ x3 _
    exact ⟨fun _ => ⟨rfl, r, hJ, fun _ _ _ => rfl⟩, fun q => absurd q (by omega)⟩
  | succ n1 ih =>
    intro b h s a m t hb hnt hW r hm hpc ha hma hJ
    refine zSp_of (by decide +kernel) (Nat.le_of_ble_eq_true rfl) rfl (fun Γ => k_X1_gatherFor_0 hb (by omega) ?_)
    intro x1 e1 x2 e2 x3 e4
    have ez := zorbit m hm a.toNat (by omega)
    rw [show ((a.toNat : Nat) : Int) = a by omega] at ez
    rw [ez] at e4
    rw [r.n.2.2.2] at e1
    have e3 : x2 = ((6 * m + a.toNat : Nat) : Int) := by
      rw [e2]
      simp (disch := omega) only [zwr_eq]
      omega
    rw [e1, e3, e4]
    refine ⟨fun q => by omega, fun _ => ⟨by omega, by omega, fun c1 => ?_, fun c1 => ?_⟩⟩
    · refine ⟨1, _, by omega, c_X3_latestAhead hb r hW.n, ?_⟩
      rintro _ _ ⟨rfl, rfl⟩
      refine ⟨_, rfl, ?_⟩
      exact cGF_loop hc ih hb hnt hm hpc ha hma (h0 := h) (s0 := s) (fun h' r' j' f' => ⟨rfl, r', j', f'⟩) 40 0 s h 1000 rfl hW r hJ (fun _ _ _ => rfl) (gSub.refl _ _) rfl
    · rw [Int.toNat_natCast] at c1
      have := (hJ m hm a ha hma).2 c1
      rw [hpc, show 6 - t = n1 + 1 by omega] at this
      rw [this]
      exact ⟨rfl, r, hJ, fun _ _ _ => rfl⟩
