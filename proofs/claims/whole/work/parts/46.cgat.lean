/-! the class's gathering, with what it remembers, against the recursion -/
def gJ (c : Int) (s : zs) (h : zH) : Prop := ∀ m : Nat, m < 64 → ∀ a : Int, 0 ≤ a ∧ a ≤ 5 → m.testBit a.toNat = false → h 124 (6 * m + a.toNat) ≤ s 135 ∧ (h 124 (6 * m + a.toNat) = s 135 → gat c (6 - pc6 m) m s a = s)
theorem gJ_row {c : Int} {s : zs} {h h' : zH} (j : gJ c s h) (e : h' 124 = h 124) : gJ c s h' := by
  intro m hm a ha hb
  rw [e]
  exact j m hm a ha hb
theorem gJ_give {c : Int} {s s' : zs} {h : zH} (j : gJ c s h) (e : s' 135 = s 135 + 1) : gJ c s' h := by
  intro m hm a ha hb
  have := (j m hm a ha hb).1
  exact ⟨by omega, fun q => by omega⟩
theorem gJ_back {B c : Int} {s : zs} {h : zH} {x : Int} (j : gJ c s h) (hW : WF B s) (hx : 0 ≤ x ∧ x < s 132) : gJ c (gBack s x) h := by
  unfold gBack
  by_cases q : sCan s x
  · rw [if_pos q]
    exact gJ_give j (sGive_cnt hW.l hx hW.n).2.2.2
  · rw [if_neg q]
    exact j
/-- nothing but the state b and what gathering remembers has changed -/
def zFg (b : Nat) (h h' : zH) : Prop := ∀ k : Nat, k ≠ 124 → (k < b ∨ b + 15 ≤ k) → h' k = h k
theorem zFg.trans {b : Nat} {h h1 h2 : zH} (a : zFg b h h1) (c : zFg b h1 h2) : zFg b h h2 := fun k h0 hk => by rw [c k h0 hk, a k h0 hk]
theorem zFr.g {b : Nat} {h h1 : zH} (a : zFr b h h1) : zFg b h h1 := fun k _ hk => a k hk
theorem zSt_124 {b : Nat} (hb : zSt b) : 124 < b ∨ b + 15 ≤ 124 := by unfold zSt at hb; omega
theorem zFr.r124 {b : Nat} {h h1 : zH} (hb : zSt b) (a : zFr b h h1) : h1 124 = h 124 := a 124 (zSt_124 hb |>.imp id id)
theorem zorbit : ∀ m, m < 64 → ∀ a, a < 6 → zor (m : Nat) (zshl 1 (a : Nat)) = ((m ||| 1 <<< a : Nat) : Int) := by decide +kernel
theorem zbusy : ∀ m, m < 64 → ∀ a, a < 6 → (zand (zshr (m : Nat) (a : Nat)) 1 = 0 ↔ Nat.testBit m a = false) := by decide +kernel
theorem cTail {B : Int} {D : Nat} {Post : Option zA → zH → Prop} {h : zH} {b : Nat} {s : zs} {x : Int} (hD : 3 ≤ D) (hb : zSt b) (r : Rep s h b) (hW : WF B s) (hx : 0 ≤ x ∧ x < s 132) (K : ∀ h' : zH, Rep (gBack s x) h' b → zFr b h h' → Post none h') :
    ∃ (d1 : Nat) (P2 : Option zA → zH → Prop), d1 + 1 ≤ D ∧ zSp d1 mX4_canEndLoan [zR b, zI x] h P2 ∧ ∀ r3 h4, P2 r3 h4 → ∃ x7 : Int, r3 = some (zI x7) ∧ ((x7 = 0 → Post none h4) ∧ (¬ x7 = 0 → ∃ (d8 : Nat) (P9 : Option zA → zH → Prop), d8 + 1 ≤ D ∧ zSp d8 mX4_returnParts [zR b, zI x] h4 P9 ∧ ∀ r10 h11, P9 r10 h11 → r10 = none ∧ Post none h11)) := by
  refine ⟨2, _, hD, c_X4_canEndLoan hb r hW.n hW.l hW.h hx, ?_⟩
  rintro _ _ ⟨⟨y, rfl, hq⟩, rfl⟩
  refine ⟨_, rfl, fun c2 => ?_, fun c2 => ?_⟩
  · have hcan : ¬ sCan s x := by
      rcases hq with ⟨-, z⟩ | ⟨z, -⟩
      · exact z
      · omega
    refine K h ?_ (fun _ _ => rfl)
    unfold gBack
    rw [if_neg hcan]
    exact r
  · have hcan : sCan s x := by
      rcases hq with ⟨z, -⟩ | ⟨-, z⟩
      · exact absurd z c2
      · exact z
    refine ⟨2, _, hD, c_X4_returnParts hb r hW hx, ?_⟩
    rintro _ h2 ⟨rfl, r2, f2⟩
    refine ⟨rfl, K h2 ?_ f2⟩
    unfold gBack
    rw [if_pos hcan]
    exact r2
def cGF (B c : Int) (n : Nat) : Prop := ∀ (b : Nat) (h : zH) (s : zs) (a : Int) (m t : Nat), zSt b → n + t = 6 → WF B s → Rep s h b → m < 64 → pc6 m = t → 0 ≤ a ∧ a ≤ 5 → m.testBit a.toNat = false → gJ c s h → zSp (2 * n + 4) mX1_gatherFor [zR 123, zR b, zI a, zI c, zI (m : Int), zI (t : Int)] h (fun q h' => q = none ∧ Rep (gat c n m s a) h' b ∧ gJ c (gat c n m s a) h' ∧ zFg b h h')
theorem c_X1_callIn {B c : Int} {n1 : Nat} (hc : 0 ≤ c ∧ c ≤ 5) (hG : cGF B c n1) {b : Nat} {h : zH} {s : zs} {x : Int} {M t : Nat} (hb : zSt b) (hnt : n1 + (t + 1) = 6) (hW : WF B s) (r : Rep s h b) (hM : M < 64) (hpc : pc6 M = t + 1) (hx : 0 ≤ x ∧ x < s 132) (hlend : M.testBit (s (136 + 5 * x + 1).toNat).toNat = true) (hcell : s (136 + 5 * x + 3).toNat = c) (hJ : gJ c s h) : zSp (2 * n1 + 5) mX1_callIn [zR 123, zR b, zI (s (136 + 5 * x + 0).toNat), zI (M : Int), zI (t : Int)] h (fun q h' => q = none ∧ Rep (gOne (fun s' b => gat c n1 M s' b) M s x) h' b ∧ gJ c (gOne (fun s' b => gat c n1 M s' b) M s x) h' ∧ zFg b h h') := by
  refine zSp_of (by decide +kernel) (Nat.le_of_ble_eq_true rfl) rfl (fun Γ => k_X1_callIn_0 hb (by omega) ?_)
  have n2 := hW.n.2.1
  obtain ⟨l0, l1, l2, l3, l4⟩ := r.l x hx.1 hx.2
  obtain ⟨a0, p1, p2, p3, p4⟩ := hW.l x hx.1 hx.2
  refine ⟨1, _, by omega, c_X3_rowOf hb r hW.n, ?_⟩
  rintro _ _ ⟨rfl, rfl⟩
  have ep := sPlc_of hW.o hx
  rw [ep, if_neg (by omega)]
  refine ⟨_, rfl, fun _ => ⟨by omega, by omega, ?_⟩, fun q => absurd hx.1 q⟩
  rw [l2, l3]
  intro x10 e10
  refine ⟨by omega, by omega, ?_⟩
  intro x13 e13
  rw [hcell] at e13
  rw [e13, e10]
  have hbusy := zbusy M hM (s (136 + 5 * x + 2).toNat).toNat (by omega)
  rw [show (((s (136 + 5 * x + 2).toNat).toNat : Nat) : Int) = s (136 + 5 * x + 2).toNat by omega] at hbusy
  -- not called
  have hno : ¬ (s (6 * s (136 + 5 * x + 3).toNat + s (136 + 5 * x + 2).toNat).toNat < s (136 + 5 * x + 4).toNat ∧ M.testBit (s (136 + 5 * x + 2).toNat).toNat = false) → ∀ h' : zH, Rep (gBack s x) h' b → zFr b h h' → (none : Option zA) = none ∧ Rep (gOne (fun s' b => gat c n1 M s' b) M s x) h' b ∧ gJ c (gOne (fun s' b => gat c n1 M s' b) M s x) h' ∧ zFg b h h' := by
    intro hcn h' r' f'
    have e : gOne (fun s' b => gat c n1 M s' b) M s x = gBack s x := by
      unfold gOne
      simp only [if_neg hcn]
      rw [ep]
    rw [e]
    exact ⟨rfl, r', gJ_row (gJ_back hJ hW hx) (f'.r124 hb), f'.g⟩
  refine ⟨fun c1 => ?_, fun c1 => ?_⟩
  · have hnb := hbusy.mp c1
    refine k_X1_callIn_54 hb (by omega) ⟨fun c2 => absurd rfl c2, fun _ => ⟨p2, hc, by omega, by omega, fun c3 => ⟨fun c4 => by omega, fun c4 => ?_⟩, fun c3 => ?_⟩⟩
    · refine cTail (D := 2 * n1 + 5) (Post := fun q h' => q = none ∧ Rep (gOne (fun s' b => gat c n1 M s' b) M s x) h' b ∧ gJ c (gOne (fun s' b => gat c n1 M s' b) M s x) h' ∧ zFg b h h') (by omega) hb r hW hx (hno (fun q => ?_))
      rw [l4, r.h _ _ p2 hc] at c3
      have := q.1
      rw [hcell] at this
      omega
    · rw [l4, r.h _ _ p2 hc] at c3
      have ht1 : zwr ((t : Int) + 1) = ((t + 1 : Nat) : Int) := by rw [zwr_eq (by omega) (by omega)]; omega
      rw [ht1]
      refine ⟨2 * n1 + 4, _, by omega, hG b h s (s (136 + 5 * x + 2).toNat) M (t + 1) hb hnt hW r hM hpc p2 hnb hJ, ?_⟩
      rintro _ h1 ⟨rfl, r1, j1, f1⟩
      obtain ⟨g1, g2⟩ := gat_ok (c := c) n1 M s (s (136 + 5 * x + 2).toNat) hW hnb
      obtain ⟨y1, y2⟩ := gRow g1 g2 hx hlend
      refine ⟨rfl, 1, _, by omega, c_X3_rowOf hb r1 g1.n, ?_⟩
      rintro _ _ ⟨rfl, rfl⟩
      rw [if_neg (by omega)]
      refine ⟨_, rfl, fun c4 => by omega, fun _ => ?_⟩
      refine cTail (D := 2 * n1 + 5) (Post := fun q h' => q = none ∧ Rep (gOne (fun s' b => gat c n1 M s' b) M s x) h' b ∧ gJ c (gOne (fun s' b => gat c n1 M s' b) M s x) h' ∧ zFg b h h') (by omega) hb r1 g1 y1 (fun h2 r2 f2 => ?_)
      have e : gOne (fun s' b => gat c n1 M s' b) M s x = gBack (gat c n1 M s (s (136 + 5 * x + 2).toNat)) (sPlace (gat c n1 M s (s (136 + 5 * x + 2).toNat)) (s (136 + 5 * x + 0).toNat)) := by
        unfold gOne
        simp only [if_pos (And.intro (show s (6 * s (136 + 5 * x + 3).toNat + s (136 + 5 * x + 2).toNat).toNat < s (136 + 5 * x + 4).toNat by rw [hcell]; omega) hnb)]
      rw [e]
      exact ⟨rfl, r2, gJ_row (gJ_back j1 g1 y1) (f2.r124 hb), f1.trans f2.g⟩
  · have hnb : ¬ M.testBit (s (136 + 5 * x + 2).toNat).toNat = false := fun q => c1 (hbusy.mpr q)
    refine k_X1_callIn_54 hb (by omega) ⟨fun _ => ⟨fun c4 => by omega, fun c4 => ?_⟩, fun c2 => absurd c2 (by decide)⟩
    exact cTail (D := 2 * n1 + 5) (Post := fun q h' => q = none ∧ Rep (gOne (fun s' b => gat c n1 M s' b) M s x) h' b ∧ gJ c (gOne (fun s' b => gat c n1 M s' b) M s x) h' ∧ zFg b h h') (by omega) hb r hW hx (hno (fun q => hnb q.2))
theorem sLatN_neg {s : zs} (hn : WFn s) (hl : WFl s) {a c k : Int} : sLatN s a c k < 0 ↔ sLatest s a c k = -5 := by
  unfold sLatN
  by_cases e : sLatest s a c k = -5
  · rw [if_pos e]
    exact ⟨fun _ => e, fun _ => by decide⟩
  · rw [if_neg e]
    obtain ⟨b1, -⟩ := sLatest_ok e hn.1
    have := (hl _ b1.1 b1.2).1.1
    exact ⟨fun q => by omega, fun q => absurd q e⟩
theorem cGF_loop {B c : Int} {n1 : Nat} {Post : Option zA → zH → Prop} {Γ : zCx} (hc : 0 ≤ c ∧ c ≤ 5) (hG : cGF B c n1) {b : Nat} {h0 : zH} {s0 : zs} {a : Int} {m t : Nat} (hb : zSt b) (hnt : n1 + 1 + t = 6) (hm : m < 64) (hpc : pc6 m = t) (ha : 0 ≤ a ∧ a ≤ 5) (hma : m.testBit a.toNat = false)
    (hP : ∀ h' : zH, Rep (gat c (n1 + 1) m s0 a) h' b → gJ c (gat c (n1 + 1) m s0 a) h' → zFg b h0 h' → Post none h') : ∀ (f v10 : Nat) (s : zs) (h : zH) (k : Int), f + v10 = 40 → WF B s → Rep s h b → gJ c s h → zFg b h0 h → gSub m s0 s → gIn (fun s' b => gat c n1 (m ||| 1 <<< a.toNat) s' b) (m ||| 1 <<< a.toNat) a c f k s = gat c (n1 + 1) m s0 a → (fun (d : Nat) => zV RX1 cX1_gatherFor 11 none d Post Γ 57 [(0, zR 123), (1, zR b), (2, zI a), (3, zI c), (4, zI (m : Int)), (5, zI (t : Int)), (6, zR (b + 9)), (7, zI (s0 135)), (8, zI ((6 * m + a.toNat : Nat) : Int)), (9, zI (sLatN s a c k)), (10, zI (v10 : Int))] [] h) (2 * (n1 + 1) + 4) := by
  -- the end: it may remember that nothing came of it
  have hend : ∀ (s : zs) (h : zH), WF B s → Rep s h b → gJ c s h → zFg b h0 h → gSub m s0 s → s = gat c (n1 + 1) m s0 a → ((¬ (h (b + 9) 7) = s0 135 → Post none h) ∧ ((h (b + 9) 7) = s0 135 → 0 ≤ ((6 * m + a.toNat : Nat) : Int) ∧ ((6 * m + a.toNat : Nat) : Int) < 384 ∧ ∀ h3 : zH, h3 = zu h 124 ((6 * m + a.toNat : Nat) : Int).toNat (s0 135) → Post none h3)) := by
    intro s h hW r hJ hf hg e
    rw [← e] at hP
    refine ⟨fun _ => hP h r hJ hf, fun q => ⟨by omega, by omega, ?_⟩⟩
    rintro _ rfl
    rw [r.n.2.2.2] at q
    have es : s = s0 := hg.2.2.1 q
    rw [Int.toNat_natCast]
    refine hP _ (Rep_congr r (fun k h0 h1 => zu_nekr _ _ _ (by have := zSt_124 hb; omega))) (fun m' hm' a' ha' hb' => ?_) (hf.trans (fun k h0 _ => zu_nekr _ _ _ h0))
    by_cases e2 : 6 * m' + a'.toNat = 6 * m + a.toNat
    · rw [e2, zu_same]
      have e3 : m' = m := by omega
      have e4 : a' = a := by omega
      rw [e3, e4, hpc, show 6 - t = n1 + 1 by omega]
      refine ⟨by rw [q]; omega, fun _ => ?_⟩
      rw [es]
      rw [es] at e
      exact e.symm
    · rw [zu_nej _ _ _ e2]
      exact hJ m' hm' a' ha' hb'
  intro f
  induction f with
  | zero =>
    intro v10 s h k hv hW r hJ hf hg e
    refine k_X1_gatherFor_57 hb (by omega) ⟨fun _ => hend s h hW r hJ hf hg e, fun c1 => absurd c1 (by omega)⟩
  | succ f ih =>
    intro v10 s h k hv hW r hJ hf hg e
    refine k_X1_gatherFor_57 hb (by omega) ⟨fun c1 => by omega, fun _ => ⟨fun c2 => ?_, fun c2 => ?_⟩⟩
    · have e2 := (sLatN_neg hW.n hW.l).mp c2
      unfold gIn at e
      rw [if_pos e2] at e
      exact hend s h hW r hJ hf hg e
    · have e2 : ¬ sLatest s a c k = -5 := fun q => c2 ((sLatN_neg hW.n hW.l).mpr q)
      obtain ⟨b1, b2, b3, b4⟩ := sLatest_ok e2 hW.n.1
      have eN : sLatN s a c k = s (136 + 5 * sLatest s a c k + 0).toNat := by unfold sLatN; rw [if_neg e2]
      rw [eN]
      obtain ⟨o1, o2⟩ := pc6_or m hm a.toNat (by omega) hma
      have ez := zorbit m hm a.toNat (by omega)
      rw [show ((a.toNat : Nat) : Int) = a by omega] at ez
      rw [ez]
      refine ⟨2 * n1 + 5, _, by omega, c_X1_callIn hc hG hb (by omega) hW r o2 (by rw [o1, hpc]) b1 (by rw [b2]; exact tb_or_self _ _) b3 hJ, ?_⟩
      rintro _ h1 ⟨rfl, r1, j1, f1⟩
      obtain ⟨g1, g2⟩ := gOne_ok hW b1 b2 hma (gat_call (c := c) n1 _)
      refine ⟨rfl, 1, _, by omega, c_X3_latestAhead hb r1 g1.n, ?_⟩
      rintro _ _ ⟨rfl, rfl⟩
      refine ⟨_, rfl, ?_⟩
      intro x20 e20
      rw [zstep e20 (by omega)]
      refine ih (v10 + 1) _ h1 (s (136 + 5 * sLatest s a c k + 0).toNat) (by omega) g1 r1 j1 (hf.trans f1) (hg.trans g2) ?_
      rw [← e]
      conv => rhs; unfold gIn
      rw [if_neg e2]
theorem cGF_all {B c : Int} (hc : 0 ≤ c ∧ c ≤ 5) : ∀ n : Nat, cGF B c n := by
  intro n
  induction n with
  | zero =>
    intro b h s a m t hb hnt hW r hm hpc ha hma hJ
    refine zSp_of (by decide +kernel) (Nat.le_of_ble_eq_true rfl) rfl (fun Γ => k_X1_gatherFor_0 hb (by omega) ?_)
    intro x1 _ x2 _
    exact ⟨fun _ => ⟨rfl, r, hJ, fun _ _ _ => rfl⟩, fun q => absurd q (by omega)⟩
  | succ n1 ih =>
    intro b h s a m t hb hnt hW r hm hpc ha hma hJ
    refine zSp_of (by decide +kernel) (Nat.le_of_ble_eq_true rfl) rfl (fun Γ => k_X1_gatherFor_0 hb (by omega) ?_)
    intro x1 e1 x2 e2
    rw [r.n.2.2.2] at e1
    have e3 : x2 = ((6 * m + a.toNat : Nat) : Int) := by
      rw [e2]
      simp (disch := omega) only [zwr_eq]
      omega
    rw [e1, e3]
    refine ⟨fun q => by omega, fun _ => ⟨by omega, by omega, fun c1 => ?_, fun c1 => ?_⟩⟩
    · refine ⟨1, _, by omega, c_X3_latestAhead hb r hW.n, ?_⟩
      rintro _ _ ⟨rfl, rfl⟩
      refine ⟨_, rfl, ?_⟩
      exact cGF_loop hc ih hb hnt hm hpc ha hma (h0 := h) (s0 := s) (fun h' r' j' f' => ⟨rfl, r', j', f'⟩) 40 0 s h 1000 rfl hW r hJ (fun _ _ _ => rfl) (gSub.refl _ _) rfl
    · rw [Int.toNat_natCast] at c1
      have := (hJ m hm a ha hma).2 c1
      rw [hpc, show 6 - t = n1 + 1 by omega] at this
      rw [this]
      exact ⟨rfl, r, hJ, fun _ _ _ => rfl⟩
