/-! a state of the class against a row of the reference -/
def RepV (s : zs) (h : zH) (b : Nat) : Prop := ∀ c : Int, 0 ≤ c ∧ c ≤ 5 → h (b + 1) c.toNat = s (114 + c).toNat ∧ h (b + 2) c.toNat = s (120 + c).toNat ∧ h (b + 3) c.toNat = s (126 + c).toNat ∧ h (b + 8) c.toNat = s (108 + c).toNat
def RepH (s : zs) (h : zH) (b : Nat) : Prop := ∀ a c : Int, 0 ≤ a ∧ a ≤ 5 → 0 ≤ c ∧ c ≤ 5 → h (b + 4) (6 * c + a).toNat = s (6 * c + a).toNat
def RepB (s : zs) (h : zH) (b : Nat) : Prop := ∀ c : Int, 0 ≤ c ∧ c ≤ 5 → (0 ≤ h (b + 5) c.toNat ∧ h (b + 5) c.toNat < 64) ∧ ∀ a : Int, 0 ≤ a ∧ a ≤ 5 → ((h (b + 5) c.toNat).toNat.testBit a.toNat = true ↔ s (36 + 6 * c + a).toNat = 1)
def RepC (s : zs) (h : zH) (b : Nat) : Prop := ∀ c k : Int, 0 ≤ c ∧ c ≤ 5 → 0 ≤ k → k < s (108 + c).toNat → h (b + 7) (6 * c + k).toNat = s (72 + 6 * c + k).toNat
def RepN (s : zs) (h : zH) (b : Nat) : Prop := h b 7 = s 134 ∧ h (b + 9) 5 = s 132 ∧ h (b + 9) 6 = s 133 ∧ h (b + 9) 7 = s 135
def RepL (s : zs) (h : zH) (b : Nat) : Prop := ∀ x : Int, 0 ≤ x → x < s 132 → h (b + 10) x.toNat = s (136 + 5 * x + 0).toNat ∧ h (b + 11) x.toNat = s (136 + 5 * x + 1).toNat ∧ h (b + 12) x.toNat = s (136 + 5 * x + 2).toNat ∧ h (b + 13) x.toNat = s (136 + 5 * x + 3).toNat ∧ h (b + 14) x.toNat = s (136 + 5 * x + 4).toNat
def Rep (s : zs) (h : zH) (b : Nat) : Prop := RepV s h b ∧ RepH s h b ∧ RepB s h b ∧ RepC s h b ∧ RepN s h b ∧ RepL s h b
theorem Rep.v {s : zs} {h : zH} {b : Nat} (r : Rep s h b) : RepV s h b := r.1
theorem Rep.h {s : zs} {h : zH} {b : Nat} (r : Rep s h b) : RepH s h b := r.2.1
theorem Rep.b {s : zs} {h : zH} {b : Nat} (r : Rep s h b) : RepB s h b := r.2.2.1
theorem Rep.c {s : zs} {h : zH} {b : Nat} (r : Rep s h b) : RepC s h b := r.2.2.2.1
theorem Rep.n {s : zs} {h : zH} {b : Nat} (r : Rep s h b) : RepN s h b := r.2.2.2.2.1
theorem Rep.l {s : zs} {h : zH} {b : Nat} (r : Rep s h b) : RepL s h b := r.2.2.2.2.2
/-- nothing but the cells of the state b has changed -/
def zFr (b : Nat) (h h' : zH) : Prop := ∀ k : Nat, (k < b ∨ b + 15 ≤ k) → h' k = h k
theorem zFr.trans {b : Nat} {h h1 h2 : zH} (a : zFr b h h1) (c : zFr b h1 h2) : zFr b h h2 := fun k hk => by rw [c k hk, a k hk]
theorem Rep_congr {s : zs} {h h' : zH} {b : Nat} (r : Rep s h b) (e : ∀ k : Nat, b ≤ k → k < b + 15 → h' k = h k) : Rep s h' b := by
  refine ⟨fun c hc => ?_, fun a c ha hc => ?_, fun c hc => ?_, fun c k hc h0 h1 => ?_, ?_, fun x h0 h1 => ?_⟩
  · rw [e (b + 1) (by omega) (by omega), e (b + 2) (by omega) (by omega), e (b + 3) (by omega) (by omega), e (b + 8) (by omega) (by omega)]
    exact r.v c hc
  · rw [e (b + 4) (by omega) (by omega)]
    exact r.h a c ha hc
  · rw [e (b + 5) (by omega) (by omega)]
    exact r.b c hc
  · rw [e (b + 7) (by omega) (by omega)]
    exact r.c c k hc h0 h1
  · unfold RepN
    rw [e b (by omega) (by omega), e (b + 9) (by omega) (by omega)]
    exact r.n
  · rw [e (b + 10) (by omega) (by omega), e (b + 11) (by omega) (by omega), e (b + 12) (by omega) (by omega), e (b + 13) (by omega) (by omega), e (b + 14) (by omega) (by omega)]
    exact r.l x h0 h1
theorem Rep_fr {s : zs} {h h' : zH} {b b' : Nat} (r : Rep s h b) (f : zFr b' h h') (hd : b + 15 ≤ b' ∨ b' + 15 ≤ b) : Rep s h' b := Rep_congr r (fun k h0 h1 => f k (by omega))
theorem zbit : ∀ v, v < 64 → ∀ a, a < 6 → (¬ zand (v : Nat) (zshl 1 (a : Nat)) = 0 ↔ Nat.testBit v a = true) := by decide +kernel
theorem Rep_hold {s : zs} {h : zH} {b : Nat} (r : Rep s h b) {a c : Int} (ha : 0 ≤ a ∧ a ≤ 5) (hc : 0 ≤ c ∧ c ≤ 5) : ¬ zand (h (b + 5) c.toNat) (zshl 1 a) = 0 ↔ s (36 + 6 * c + a).toNat = 1 := by
  obtain ⟨h1, h2⟩ := r.b c hc
  rw [← h2 a ha, ← zbit (h (b + 5) c.toNat).toNat (by omega) a.toNat (by omega)]
  rw [show (((h (b + 5) c.toNat).toNat : Nat) : Int) = h (b + 5) c.toNat by omega, show ((a.toNat : Nat) : Int) = a by omega]
theorem zcp_ne (h : zH) {ks sp kd dp n k : Nat} (hk : k ≠ kd) : zcp h ks sp kd dp n k = h k := funext fun j => if_neg (fun q => hk q.1)
theorem zcp_in (h : zH) {ks sp kd dp n j : Nat} (h1 : dp ≤ j) (h2 : j < dp + n) : zcp h ks sp kd dp n kd j = h ks (sp + (j - dp)) := if_pos ⟨rfl, h1, h2⟩
theorem zcp_out (h : zH) {ks sp kd dp n j : Nat} (h1 : j < dp ∨ dp + n ≤ j) : zcp h ks sp kd dp n kd j = h kd j := if_neg (fun q => by omega)
theorem zSt_sep {b b1 : Nat} (hb : zSt b) (hb1 : zSt b1) (hne : b ≠ b1) : b + 15 ≤ b1 ∨ b1 + 15 ≤ b := by
  unfold zSt at hb hb1
  omega
theorem c_X3_rowOf_l {Post : Option zA → zH → Prop} {Γ : zCx} {h : zH} {b : Nat} {s : zs} (hb : zSt b) (r : Rep s h b) (hW : WFn s) {v1 : Int} (hp : Post (some (zI (if sPlace s v1 = -5 then -1 else sPlace s v1))) h) : ∀ n m : Nat, n + m = (s 132).toNat → sPlc s v1 m = -5 → (fun (d : Nat) => zV RX3 cX3_rowOf 3 (some .int) d Post Γ 2 [(0, zR (b + 9)), (1, zI v1), (2, zI (m : Int))] [] h) 1 := by
  have hn := r.n.2.1
  obtain ⟨w1, w2, -⟩ := hW
  intro n
  induction n with
  | zero =>
    intro m hm h2
    refine k_X3_rowOf_2 hb (by decide) ⟨fun c => ?_, fun c => absurd c (by omega)⟩
    rw [show sPlace s v1 = -5 by rw [sPlace, ← hm, Nat.zero_add]; exact h2, if_pos rfl] at hp
    exact hp
  | succ n ih =>
    intro m hm h2
    have hl := (r.l (m : Int) (by omega) (by omega)).1
    refine k_X3_rowOf_2 hb (by decide) ⟨fun c => absurd c (by omega), fun c => ⟨by omega, by omega, fun c2 => ?_, fun c2 => ?_⟩⟩
    · intro x e
      rw [zstep e (by omega)]
      refine ih (m + 1) (by omega) ?_
      unfold sPlc
      rw [if_pos h2, if_neg (by rw [← hl]; exact c2)]
    · rw [hl] at c2
      rw [show sPlace s v1 = (m : Int) from sPlc_first h2 c2 _ (by omega), if_neg (by omega)] at hp
      exact hp
theorem c_X3_rowOf {h : zH} {b : Nat} {s : zs} {a1 : Int} (hb : zSt b) (r : Rep s h b) (hW : WFn s) : zSp 1 mX3_rowOf [zR (b + 9), zI a1] h (fun q h' => q = some (zI (if sPlace s a1 = -5 then -1 else sPlace s a1)) ∧ h = h') := by
  refine zSp_of (by decide +kernel) (Nat.le_of_ble_eq_true rfl) rfl (fun Γ => k_X3_rowOf_0 hb (by decide) ?_)
  exact c_X3_rowOf_l hb r hW ⟨rfl, rfl⟩ (s 132).toNat 0 (by omega) rfl
/-- the number of the latest loan ahead of k, or -1 -/
def sLatN (s : zs) (a c k : Int) : Int := if sLatest s a c k = -5 then -1 else s (136 + 5 * sLatest s a c k + 0).toNat
theorem c_X3_latestAhead_l {Post : Option zA → zH → Prop} {Γ : zCx} {h : zH} {b : Nat} {s : zs} (hb : zSt b) (r : Rep s h b) (hW : WFn s) {v1 v2 v3 : Int} (hp : Post (some (zI (sLatN s v2 v3 v1))) h) : ∀ n : Nat, (n : Int) ≤ s 132 → sLatest s v2 v3 v1 = sLat s v2 v3 v1 n → (fun (d : Nat) => zV RX3 cX3_latestAhead 5 (some .int) d Post Γ 8 [(0, zR (b + 9)), (1, zI v1), (2, zI v2), (3, zI v3), (4, zI ((n : Int) - 1))] [] h) 1 := by
  obtain ⟨w1, w2, -⟩ := hW
  intro n
  induction n with
  | zero =>
    intro hm h2
    refine k_X3_latestAhead_8 hb (by decide) ⟨fun c => ?_, fun c => absurd c (by omega)⟩
    unfold sLatN at hp
    have h3 : sLatest s v2 v3 v1 = -5 := h2
    rw [h3, if_pos rfl] at hp
    exact hp
  | succ n ih =>
    intro hm h2
    obtain ⟨l0, l1, -, l3, -⟩ := r.l (n : Int) (by omega) (by omega)
    have e0 : (((n + 1 : Nat) : Int) - 1) = (n : Int) := by omega
    have nxt : ∀ x : Int, x = zwr ((n : Int) + (-1)) → x = (n : Int) - 1 := fun x e => by rw [e, zwr_eq (by omega) (by omega)]; omega
    rw [show sLat s v2 v3 v1 (n + 1) = (if s (136 + 5 * (n : Int) + 1).toNat = v2 ∧ s (136 + 5 * (n : Int) + 3).toNat = v3 ∧ s (136 + 5 * (n : Int) + 0).toNat < v1 then (n : Int) else sLat s v2 v3 v1 n) from rfl] at h2
    refine k_X3_latestAhead_8 hb (by decide) ?_
    rw [e0, Int.toNat_natCast]
    rw [Int.toNat_natCast] at l0 l1 l3
    refine ⟨fun c => absurd c (by omega), fun c => ⟨by omega, by omega, fun c2 => ?_, fun c2 => ⟨by omega, by omega, fun c3 => ?_, fun c3 => ⟨by omega, by omega, fun c4 => ?_, fun c4 => ⟨by omega, by omega, ?_⟩⟩⟩⟩⟩
    · intro x e
      rw [nxt x e]
      rw [if_neg (fun q => by omega)] at h2
      exact ih (by omega) h2
    · intro x e
      rw [nxt x e]
      rw [if_neg (fun q => c3 (by rw [l1]; exact q.1))] at h2
      exact ih (by omega) h2
    · intro x e
      rw [nxt x e]
      rw [if_neg (fun q => c4 (by rw [l3]; exact q.2.1))] at h2
      exact ih (by omega) h2
    · rw [if_pos ⟨by rw [← l1]; exact c3, by rw [← l3]; exact c4, by omega⟩] at h2
      unfold sLatN at hp
      rw [h2, if_neg (by omega), ← l0] at hp
      exact hp
theorem c_X3_latestAhead {h : zH} {b : Nat} {s : zs} {a1 a2 a3 : Int} (hb : zSt b) (r : Rep s h b) (hW : WFn s) : zSp 1 mX3_latestAhead [zR (b + 9), zI a1, zI a2, zI a3] h (fun q h' => q = some (zI (sLatN s a2 a3 a1)) ∧ h = h') := by
  refine zSp_of (by decide +kernel) (Nat.le_of_ble_eq_true rfl) rfl (fun Γ => k_X3_latestAhead_0 hb (by decide) ?_)
  intro x e
  have hn := r.n.2.1
  have w := hW
  obtain ⟨w1, w2, -⟩ := w
  rw [hn, zwr_eq (by omega) (by omega)] at e
  have e2 : x = (((s 132).toNat : Nat) : Int) - 1 := by omega
  rw [e2]
  exact c_X3_latestAhead_l hb r hW ⟨rfl, rfl⟩ (s 132).toNat (by omega) rfl
theorem c_X3_hasRoom {h : zH} {b : Nat} {s : zs} (hb : zSt b) (r : Rep s h b) (hW : WFn s) : zSp 1 mX3_hasRoom [zR (b + 9)] h (fun q h' => q = some (zI (if s 132 = 40 ∨ s 133 = 1000 then 0 else 1)) ∧ h = h') := by
  refine zSp_of (by decide +kernel) (Nat.le_of_ble_eq_true rfl) rfl (fun Γ => k_X3_hasRoom_0 hb (by decide) ?_)
  obtain ⟨w1, w2, w3, w4, w5⟩ := hW
  obtain ⟨-, n1, n2, -⟩ := r.n
  rw [n1, n2]
  refine ⟨fun c => ⟨?_, rfl⟩, fun c => ⟨fun c2 => ⟨?_, rfl⟩, fun c2 => ⟨?_, rfl⟩⟩⟩
  · rw [if_pos (by omega)]
  · rw [if_pos (by omega)]
  · rw [if_neg (by omega)]
theorem c_X4_canEndLoan {h : zH} {b : Nat} {s : zs} {a1 : Int} (hb : zSt b) (r : Rep s h b) (hW : WFn s) (hl : WFl s) (hh : WFh s) (hx : 0 ≤ a1 ∧ a1 < s 132) : zSp 2 mX4_canEndLoan [zR b, zI a1] h (fun q h' => (∃ x : Int, q = some (zI x) ∧ (x = 0 ∧ ¬ sCan s a1 ∨ x = 1 ∧ sCan s a1)) ∧ h = h') := by
  refine zSp_of (by decide +kernel) (Nat.le_of_ble_eq_true rfl) rfl (fun Γ => k_X4_canEndLoan_0 hb (by decide) ?_)
  obtain ⟨w1, w2, -⟩ := hW
  obtain ⟨l0, l1, l2, l3, l4⟩ := r.l a1 hx.1 hx.2
  obtain ⟨a0, p1, p2, p3, p4⟩ := hl a1 hx.1 hx.2
  refine ⟨by omega, by omega, ?_⟩
  intro x3 e3
  refine ⟨by omega, by omega, ?_⟩
  intro x6 e6
  rw [l2] at e3
  rw [l3] at e6
  have k3 : 0 ≤ x3 ∧ x3 ≤ 5 := by omega
  have k6 : 0 ≤ x6 ∧ x6 ≤ 5 := by omega
  rw [r.h x3 x6 k3 k6, l4]
  refine ⟨k3, k6, by omega, by omega, fun c => ⟨⟨0, rfl, Or.inl ⟨rfl, fun q => ?_⟩⟩, rfl⟩, fun c => ⟨k3, k6, fun c2 => ⟨⟨0, rfl, Or.inl ⟨rfl, fun q => ?_⟩⟩, rfl⟩, fun c2 => ⟨⟨1, rfl, Or.inr ⟨rfl, ?_, ?_⟩⟩, rfl⟩⟩⟩
  · have := q.1
    rw [← e3, ← e6] at this
    omega
  · have := q.2
    rw [← e3, ← e6] at this
    have := (Rep_hold r k3 k6).mp c2
    omega
  · rw [← e3, ← e6]
    omega
  · rw [← e3, ← e6]
    have c3 : ¬ s (36 + 6 * x6 + x3).toNat = 1 := fun q => c2 ((Rep_hold r k3 k6).mpr q)
    have := (hh x3 x6 k3 k6).2
    omega
