/-! claims and owners -/
theorem sPc_none {s : zs} {a c : Int} : ∀ n : Nat, (∀ k : Nat, k < n → s (72 + 6 * c + (k : Int)).toNat ≠ a) → sPc s a c n = -5 := by
  intro n
  induction n with
  | zero => intro _; rfl
  | succ n ih =>
    intro h
    unfold sPc
    rw [if_neg (h n (by omega)), ih (fun k hk => h k (by omega))]
theorem sPc_at {s : zs} {a c : Int} {m : Nat} : ∀ n : Nat, m < n → s (72 + 6 * c + (m : Int)).toNat = a → (∀ k : Nat, m < k → k < n → s (72 + 6 * c + (k : Int)).toNat ≠ a) → sPc s a c n = (m : Int) := by
  intro n
  induction n with
  | zero => intro h; omega
  | succ n ih =>
    intro h1 h2 h3
    unfold sPc
    by_cases e : m = n
    · rw [← e, if_pos h2]
    · rw [if_neg (h3 n (by omega) (by omega)), ih (by omega) h2 (fun k k1 k2 => h3 k k1 (by omega))]
theorem sPc_ok {s : zs} {a c : Int} (n : Nat) : sPc s a c n = -5 ∧ (∀ k : Nat, k < n → s (72 + 6 * c + (k : Int)).toNat ≠ a) ∨ (0 ≤ sPc s a c n ∧ sPc s a c n < (n : Int) ∧ s (72 + 6 * c + sPc s a c n).toNat = a) := by
  induction n with
  | zero => exact Or.inl ⟨rfl, fun k hk => absurd hk (by omega)⟩
  | succ n ih =>
    unfold sPc
    by_cases e : s (72 + 6 * c + (n : Int)).toNat = a
    · rw [if_pos e]
      exact Or.inr ⟨by omega, by omega, e⟩
    · rw [if_neg e]
      rcases ih with ⟨h1, h2⟩ | ⟨h1, h2, h3⟩
      · refine Or.inl ⟨h1, fun k hk => ?_⟩
        by_cases e2 : k = n
        · rw [e2]; exact e
        · exact h2 k (by omega)
      · exact Or.inr ⟨h1, by omega, h3⟩
abbrev sPlC (s : zs) (a c : Int) : Int := sPc s a c (s (108 + c).toNat).toNat
theorem c_X0_placeOf_l {B : Int} {Post : Option zA → zH → Prop} {Γ : zCx} {h : zH} {b : Nat} {s : zs} {v1 v2 : Int} (hb : zSt b) (r : Rep s h b) (hW : WF B s) (h2 : 0 ≤ v2 ∧ v2 ≤ 5) (hp : Post (some (zI (sPlC s v1 v2))) h) : ∀ n m : Nat, n + m = (s (108 + v2).toNat).toNat → (∀ k : Nat, k < m → s (72 + 6 * v2 + (k : Int)).toNat ≠ v1) → (fun (d : Nat) => zV RX0 cX0_placeOf 4 (some .int) d Post Γ 2 [(0, zR (b + 6)), (1, zI v1), (2, zI v2), (3, zI (m : Int))] [] h) 1 := by
  have hn := (hW.c v2 h2).1
  have e8 := (r.v v2 h2).2.2.2
  intro n
  induction n with
  | zero =>
    intro m hm hne
    refine k_X0_placeOf_2 hb (by decide) ?_
    rw [e8]
    refine ⟨by omega, by omega, fun c => ?_, fun c => absurd c (by omega)⟩
    have := sPc_none (s := s) (a := v1) (c := v2) m hne
    rw [sPlC, ← hm, Nat.zero_add, this] at hp
    exact hp
  | succ n ih =>
    intro m hm hne
    refine k_X0_placeOf_2 hb (by decide) ?_
    rw [e8, show zwr (zwr (v2 * 6) + (m : Int)) = 6 * v2 + (m : Int) by simp (disch := omega) only [zwr_eq]; omega]
    have e7 := r.c v2 (m : Int) h2 (by omega) (by omega)
    rw [e7]
    refine ⟨by omega, by omega, fun c => absurd c (by omega), fun c => ⟨by omega, by omega, fun c2 => ?_, fun c2 => ?_⟩⟩
    · intro x e
      rw [zstep e (by omega)]
      refine ih (m + 1) (by omega) (fun k hk => ?_)
      by_cases e2 : k = m
      · rw [e2]; exact c2
      · exact hne k (by omega)
    · have := sPc_at (s := s) (a := v1) (c := v2) (m := m) (s (108 + v2).toNat).toNat (by omega) c2 (fun k k1 k2 q => (hW.c v2 h2).2.2 (m : Int) (k : Int) (by omega) (by omega) (by omega) (by rw [c2, q]))
      rw [sPlC, this] at hp
      exact hp
theorem c_X0_placeOf {B : Int} {h : zH} {b : Nat} {s : zs} {a1 a2 : Int} (hb : zSt b) (r : Rep s h b) (hW : WF B s) (h2 : 0 ≤ a2 ∧ a2 ≤ 5) : zSp 1 mX0_placeOf [zR (b + 6), zI a1, zI a2] h (fun q h' => q = some (zI (sPlC s a1 a2)) ∧ h = h') := by
  refine zSp_of (by decide +kernel) (Nat.le_of_ble_eq_true rfl) rfl (fun Γ => k_X0_placeOf_0 hb (by decide) ?_)
  exact c_X0_placeOf_l hb r hW h2 ⟨rfl, rfl⟩ (s (108 + a2).toNat).toNat 0 (by omega) (fun k hk => absurd hk (by omega))
theorem c_X0_append {h : zH} {b : Nat} {a1 a2 : Int} (hb : zSt b) (h2 : 0 ≤ a2 ∧ a2 ≤ 5) (hn : 0 ≤ h (b + 8) a2.toNat ∧ h (b + 8) a2.toNat ≤ 5) : zSp 1 mX0_append [zR (b + 6), zI a1, zI a2] h (fun q h' => q = none ∧ h' = zu (zu h (b + 7) (6 * a2 + h (b + 8) a2.toNat).toNat a1) (b + 8) a2.toNat (h (b + 8) a2.toNat + 1)) := by
  refine zSp_of (by decide +kernel) (Nat.le_of_ble_eq_true rfl) rfl (fun Γ => k_X0_append_0 hb (by decide) ?_)
  rw [show zwr (zwr (a2 * 6) + h (b + 8) a2.toNat) = 6 * a2 + h (b + 8) a2.toNat by simp (disch := omega) only [zwr_eq]; omega]
  refine ⟨by omega, by omega, by omega, by omega, ?_⟩
  rintro _ rfl
  refine ⟨by omega, by omega, by omega, by omega, ?_⟩
  rw [zu_nek _ _ _ _ (by omega), zwr_eq (by omega) (by omega)]
  rintro _ rfl
  exact ⟨rfl, rfl⟩
theorem c_X0_remove_l {Post : Option zA → zH → Prop} {Γ : zCx} {h0 : zH} {b : Nat} {f : zs} {v1 v2 i n1 : Int} (hb : zSt b) (h1 : 0 ≤ v1 ∧ v1 ≤ 5) (hi : 0 ≤ i) (h8 : h0 (b + 8) v1.toNat = n1) (hn : 0 ≤ n1 ∧ n1 ≤ 5) (hp : Post none (zrow h0 (b + 7) (sShC f (6 * v1 + i) (6 * v1 + n1)))) :
    ∀ (n : Nat) (v4 : Int), n = (n1 - v4).toNat → i ≤ v4 → v4 ≤ n1 → (fun (d : Nat) => zV RX0 cX0_remove 5 none d Post Γ 18 [(0, zR (b + 6)), (1, zI v1), (2, zI v2), (3, zI (6 * v1)), (4, zI v4)] [] (zrow h0 (b + 7) (sShC f (6 * v1 + i) (6 * v1 + v4)))) 1 := by
  intro n
  induction n with
  | zero =>
    intro v4 hm hlo hhi
    have ev : v4 = n1 := by omega
    refine k_X0_remove_18 hb (by decide) ?_
    rw [zrow_ne _ _ (by omega), h8]
    refine ⟨by omega, by omega, fun c => ?_, fun c => absurd c (by omega)⟩
    rw [ev]
    exact hp
  | succ n ih =>
    intro v4 hm hlo hhi
    refine k_X0_remove_18 hb (by decide) ?_
    rw [zrow_ne _ _ (by omega), h8, zrow_get]
    rw [zwr_eq (a := 6 * v1 + v4) (by omega) (by omega), zwr_eq (a := 6 * v1 + v4 + 1) (by omega) (by omega), zwr_eq (a := v4 + 1) (by omega) (by omega)]
    refine ⟨by omega, by omega, fun c => absurd c (by omega), fun c => ⟨by omega, by omega, by omega, by omega, ?_⟩⟩
    rintro _ rfl
    rintro _ rfl
    have e2 : zu (zrow h0 (b + 7) (sShC f (6 * v1 + i) (6 * v1 + v4))) (b + 7) (6 * v1 + v4).toNat (sShC f (6 * v1 + i) (6 * v1 + v4) (6 * v1 + v4 + 1).toNat) = zrow h0 (b + 7) (sShC f (6 * v1 + i) (6 * v1 + (v4 + 1))) := by
      rw [zu_row, zrow_get, zrow_row]
      congr 1
      funext j
      unfold su sShC
      by_cases hj : j = (6 * v1 + v4).toNat
      · rw [if_pos hj, if_neg (by omega), if_pos (by omega)]
        congr 1
        omega
      · rw [if_neg hj]
        by_cases hj2 : 6 * v1 + i ≤ (j : Int) ∧ (j : Int) < 6 * v1 + v4
        · rw [if_pos hj2, if_pos (by omega)]
        · rw [if_neg hj2, if_neg (by omega)]
    rw [e2]
    exact ih (v4 + 1) (by omega) (by omega) (by omega)
theorem c_X0_remove {h : zH} {b : Nat} {a1 a2 : Int} (hb : zSt b) (h1 : 0 ≤ a1 ∧ a1 ≤ 5) (h2 : 0 ≤ a2 ∧ a2 < h (b + 8) a1.toNat) (hn : h (b + 8) a1.toNat ≤ 6) : zSp 1 mX0_remove [zR (b + 6), zI a1, zI a2] h (fun q h' => q = none ∧ h' = zrow (zu h (b + 8) a1.toNat (h (b + 8) a1.toNat - 1)) (b + 7) (sShC (h (b + 7)) (6 * a1 + a2) (6 * a1 + (h (b + 8) a1.toNat - 1)))) := by
  refine zSp_of (by decide +kernel) (Nat.le_of_ble_eq_true rfl) rfl (fun Γ => k_X0_remove_0 hb (by decide) ?_)
  intro x1 e1
  rw [zwr_eq (by omega) (by omega)] at e1
  have e1 : x1 = 6 * a1 := by omega
  rw [e1, zwr_eq (a := h (b + 8) a1.toNat - 1) (by omega) (by omega)]
  refine ⟨by omega, by omega, by omega, by omega, ?_⟩
  rintro _ rfl
  have key := c_X0_remove_l (Post := fun q h' => q = none ∧ h' = zrow (zu h (b + 8) a1.toNat (h (b + 8) a1.toNat - 1)) (b + 7) (sShC (h (b + 7)) (6 * a1 + a2) (6 * a1 + (h (b + 8) a1.toNat - 1)))) (Γ := Γ) (h0 := zu h (b + 8) a1.toNat (h (b + 8) a1.toNat - 1)) (f := h (b + 7)) (v1 := a1) (v2 := a2) (i := a2) (n1 := h (b + 8) a1.toNat - 1) hb h1 h2.1 (zu_same _ _ _ _) (by omega) ⟨rfl, rfl⟩ _ a2 rfl (Int.le_refl _) (by omega)
  have e0 : zrow (zu h (b + 8) a1.toNat (h (b + 8) a1.toNat - 1)) (b + 7) (sShC (h (b + 7)) (6 * a1 + a2) (6 * a1 + a2)) = zu h (b + 8) a1.toNat (h (b + 8) a1.toNat - 1) := by
    have : sShC (h (b + 7)) (6 * a1 + a2) (6 * a1 + a2) = zu h (b + 8) a1.toNat (h (b + 8) a1.toNat - 1) (b + 7) := by
      rw [zu_nekr _ _ _ (by omega)]
      exact funext fun j => if_neg (by omega)
    rw [this, zrow_self]
  rw [e0] at key
  exact key
theorem Rep_of {s s' : zs} {h h' : zH} {b : Nat} (r : Rep s h b) (hW : WFn s) (hr : ∀ j : Nat, j < 72 ∨ 114 ≤ j → s' j = s j) (hf : ∀ k : Nat, b ≤ k → k < b + 15 → k ≠ b + 7 → k ≠ b + 8 → h' k = h k) (h8 : ∀ c : Int, 0 ≤ c ∧ c ≤ 5 → h' (b + 8) c.toNat = s' (108 + c).toNat) (h7 : RepC s' h' b) : Rep s' h' b := by
  obtain ⟨w1, w2, -⟩ := hW
  refine ⟨fun c hc => ?_, fun a c ha hc => ?_, fun c hc => ?_, h7, ?_, fun x x0 x1 => ?_⟩
  · obtain ⟨v1, v2, v3, v4⟩ := r.v c hc
    rw [hf (b + 1) (by omega) (by omega) (by omega) (by omega), hf (b + 2) (by omega) (by omega) (by omega) (by omega), hf (b + 3) (by omega) (by omega) (by omega) (by omega), hr _ (by omega), hr _ (by omega), hr (126 + c).toNat (by omega)]
    exact ⟨v1, v2, v3, h8 c hc⟩
  · rw [hf (b + 4) (by omega) (by omega) (by omega) (by omega), hr _ (by omega)]
    exact r.h a c ha hc
  · rw [hf (b + 5) (by omega) (by omega) (by omega) (by omega)]
    refine ⟨(r.b c hc).1, fun a ha => ?_⟩
    rw [hr _ (by omega)]
    exact (r.b c hc).2 a ha
  · unfold RepN
    rw [hf b (by omega) (by omega) (by omega) (by omega), hf (b + 9) (by omega) (by omega) (by omega) (by omega), hr _ (by omega), hr _ (by omega), hr _ (by omega), hr _ (by omega)]
    exact r.n
  · rw [hr 132 (by omega)] at x1
    rw [hf (b + 10) (by omega) (by omega) (by omega) (by omega), hf (b + 11) (by omega) (by omega) (by omega) (by omega), hf (b + 12) (by omega) (by omega) (by omega) (by omega), hf (b + 13) (by omega) (by omega) (by omega) (by omega), hf (b + 14) (by omega) (by omega) (by omega) (by omega)]
    rw [hr (136 + 5 * x + 0).toNat (by omega), hr (136 + 5 * x + 1).toNat (by omega), hr (136 + 5 * x + 2).toNat (by omega), hr (136 + 5 * x + 3).toNat (by omega), hr (136 + 5 * x + 4).toNat (by omega)]
    exact r.l x x0 x1
theorem Rep_drop {B : Int} {s : zs} {h : zH} {b : Nat} {c k : Int} (r : Rep s h b) (hW : WF B s) (hc : 0 ≤ c ∧ c ≤ 5) (hk : 0 ≤ k ∧ k < s (108 + c).toNat) : Rep (sDrop s c k) (zrow (zu h (b + 8) c.toNat (h (b + 8) c.toNat - 1)) (b + 7) (sShC (h (b + 7)) (6 * c + k) (6 * c + (h (b + 8) c.toNat - 1)))) b := by
  have hn := (hW.c c hc).1
  have e8 := (r.v c hc).2.2.2
  rw [e8]
  have off := fun {j : Nat} (h1 : (j : Int) < 72 + 6 * c + k ∨ 72 + 6 * c + s (108 + c).toNat - 1 ≤ (j : Int)) (h2 : j ≠ (108 + c).toNat) => sDrop_off (s := s) hc hk.1 hn h1 h2
  refine Rep_of r hW.n (fun j hj => off (by omega) (by omega)) (fun k' k0 k1 k2 k3 => by rw [zrow_ne _ _ k2, zu_nekr _ _ _ k3]) (fun c' hc' => ?_) (fun c' i hc' i0 i1 => ?_)
  · rw [zrow_ne _ _ (by omega)]
    by_cases e : c' = c
    · rw [e, zu_same, sDrop_n hc hk.1 hn]
    · rw [zu_nej _ _ _ (by omega), off (by omega) (by omega)]
      exact (r.v c' hc').2.2.2
  · rw [zrow_get]
    by_cases e : c' = c
    · rw [e] at i1 ⊢
      rw [sDrop_n hc hk.1 hn] at i1
      unfold sShC
      by_cases e2 : i < k
      · rw [if_neg (by omega), off (by omega) (by omega)]
        exact r.c c i hc i0 (by omega)
      · rw [if_pos (by omega), sDrop_in hc hk.1 hn (by omega) i1]
        have := r.c c (i + 1) hc (by omega) (by omega)
        rw [← this]
        congr 1
        omega
    · have hc6 := (hW.c c' hc').1
      rw [off (by omega) (by omega)] at i1
      unfold sShC
      rw [if_neg (by omega), off (by omega) (by omega)]
      exact r.c c' i hc' i0 i1
theorem Rep_claim {B : Int} {s : zs} {h : zH} {b : Nat} {a c : Int} (r : Rep s h b) (hW : WF B s) (hc : 0 ≤ c ∧ c ≤ 5) (hn5 : s (108 + c).toNat ≤ 5) : Rep (sClaim s a c) (zu (zu h (b + 7) (6 * c + h (b + 8) c.toNat).toNat a) (b + 8) c.toNat (h (b + 8) c.toNat + 1)) b := by
  have hn := (hW.c c hc).1
  have e8 := (r.v c hc).2.2.2
  rw [e8]
  have off : ∀ j : Nat, j ≠ (108 + c).toNat → j ≠ (72 + 6 * c + s (108 + c).toNat).toNat → sClaim s a c j = s j := by
    intro j h1 h2
    unfold sClaim sAdd
    rw [su_ne _ _ h1, su_ne _ _ h2]
  have en : sClaim s a c (108 + c).toNat = s (108 + c).toNat + 1 := by
    unfold sClaim sAdd
    rw [su_same, su_ne _ _ (by omega), zwr_eq (by omega) (by omega)]
  have ea : sClaim s a c (72 + 6 * c + s (108 + c).toNat).toNat = a := by
    unfold sClaim sAdd
    rw [su_ne _ _ (by omega), su_same]
  refine Rep_of r hW.n (fun j hj => off j (by omega) (by omega)) (fun k' k0 k1 k2 k3 => by rw [zu_nekr _ _ _ k3, zu_nekr _ _ _ k2]) (fun c' hc' => ?_) (fun c' i hc' i0 i1 => ?_)
  · by_cases e : c' = c
    · rw [e, zu_same, en]
    · rw [zu_nej _ _ _ (by omega), zu_nek _ _ _ _ (by omega), off _ (by omega) (by omega)]
      exact (r.v c' hc').2.2.2
  · rw [zu_nek _ _ _ _ (by omega)]
    by_cases e : c' = c
    · rw [e] at i1 ⊢
      rw [en] at i1
      by_cases e2 : i = s (108 + c).toNat
      · rw [e2, zu_same, ea]
      · rw [zu_nej _ _ _ (by omega), off _ (by omega) (by omega)]
        exact r.c c i hc i0 (by omega)
    · have hc6 := (hW.c c' hc').1
      rw [off _ (by omega) (by omega)] at i1
      rw [zu_nej _ _ _ (by omega), off _ (by omega) (by omega)]
      exact r.c c' i hc' i0 i1
def cMask (s : zs) (c : Int) : Nat → Nat
  | 0 => 0
  | n + 1 => cMask s c n ||| 1 <<< (s (72 + 6 * c + (n : Int)).toNat).toNat
theorem cMask_ok {s : zs} {c : Int} (h : WFc s) (hc : 0 ≤ c ∧ c ≤ 5) : ∀ n : Nat, (n : Int) ≤ s (108 + c).toNat → cMask s c n < 64 ∧ pc6 (cMask s c n) = n ∧ ∀ i : Int, 0 ≤ i ∧ i ≤ 5 → ((cMask s c n).testBit i.toNat = true ↔ ∃ k : Nat, k < n ∧ s (72 + 6 * c + (k : Int)).toNat = i) := by
  obtain ⟨c1, c2, c3⟩ := h c hc
  intro n
  induction n with
  | zero =>
    intro _
    exact ⟨show (0 : Nat) < 64 by decide, show pc6 0 = 0 by decide, fun i _ => ⟨fun q => (by unfold cMask at q; rw [Nat.zero_testBit] at q; exact absurd q (by decide)), fun ⟨k, hk, _⟩ => absurd hk (by omega)⟩⟩
  | succ n ih =>
    intro hn
    obtain ⟨i1, i2, i3⟩ := ih (by omega)
    have hv := c2 (n : Int) (by omega) (by omega)
    have hnb : (cMask s c n).testBit (s (72 + 6 * c + (n : Int)).toNat).toNat = false := by
      rw [← Bool.not_eq_true]
      intro q
      obtain ⟨k, k1, k2⟩ := (i3 _ hv).mp q
      exact c3 (k : Int) (n : Int) (by omega) (by omega) (by omega) k2
    obtain ⟨o1, o2⟩ := pc6_or _ i1 (s (72 + 6 * c + (n : Int)).toNat).toNat (by omega) hnb
    refine ⟨o2, by rw [show cMask s c (n + 1) = cMask s c n ||| 1 <<< (s (72 + 6 * c + (n : Int)).toNat).toNat from rfl, o1, i2], fun i hi => ?_⟩
    rw [show cMask s c (n + 1) = cMask s c n ||| 1 <<< (s (72 + 6 * c + (n : Int)).toNat).toNat from rfl, tb_or, Bool.or_eq_true, decide_eq_true_eq, i3 i hi]
    constructor
    · rintro (⟨k, k1, k2⟩ | q)
      · exact ⟨k, by omega, k2⟩
      · exact ⟨n, by omega, by omega⟩
    · rintro ⟨k, k1, k2⟩
      by_cases e : k = n
      · rw [e] at k2
        exact Or.inr (by rw [k2])
      · exact Or.inl ⟨k, by omega, k2⟩
theorem claim_room {s : zs} {a c : Int} (h : WFc s) (hc : 0 ≤ c ∧ c ≤ 5) (ha : 0 ≤ a ∧ a ≤ 5) (hne : ∀ k : Int, 0 ≤ k → k < s (108 + c).toNat → s (72 + 6 * c + k).toNat ≠ a) : s (108 + c).toNat ≤ 5 := by
  have hn := (h c hc).1
  by_cases e : s (108 + c).toNat ≤ 5
  · exact e
  · obtain ⟨i1, i2, i3⟩ := cMask_ok h hc 6 (by omega)
    have := pc6_full _ i1 i2 a.toNat (by omega)
    obtain ⟨k, k1, k2⟩ := (i3 a ha).mp this
    exact absurd k2 (hne (k : Int) (by omega) (by omega))
def opClaim (s : zs) (a c v : Int) : Int × zs := if ¬ ((0 ≤ a ∧ a ≤ 5) ∧ 0 ≤ c ∧ c ≤ 5) then (-1, s) else if v = (if sPlC s a c = -5 then 0 else 1) then (-5, s) else if v = 0 then (s (108 + c).toNat - 1, sDrop s c (sPlC s a c)) else (s (108 + c).toNat + 1, sClaim s a c)
theorem sPlC_free {s : zs} {a c : Int} (h : sPlC s a c = -5) : ∀ k : Int, 0 ≤ k → k < s (108 + c).toNat → s (72 + 6 * c + k).toNat ≠ a := by
  intro k k0 k1
  rcases sPc_ok (s := s) (a := a) (c := c) (s (108 + c).toNat).toNat with ⟨-, q⟩ | ⟨q1, q2, q3⟩
  · have := q k.toNat (by omega)
    rw [show ((k.toNat : Nat) : Int) = k by omega] at this
    exact this
  · unfold sPlC at h
    omega
theorem sPlC_in {s : zs} {a c : Int} (h : ¬ sPlC s a c = -5) : 0 ≤ sPlC s a c ∧ sPlC s a c < s (108 + c).toNat := by
  rcases sPc_ok (s := s) (a := a) (c := c) (s (108 + c).toNat).toNat with ⟨q, -⟩ | ⟨q1, q2, q3⟩
  · exact absurd q h
  · exact ⟨q1, by unfold sPlC; omega⟩
theorem WF_opClaim {B : Int} {s : zs} {a c v : Int} (h : WF B s) (hv : v = 0 ∨ v = 1) : WF B (opClaim s a c v).2 := by
  unfold opClaim
  by_cases c1 : (0 ≤ a ∧ a ≤ 5) ∧ 0 ≤ c ∧ c ≤ 5
  · rw [if_neg (fun q => q c1)]
    by_cases c2 : sPlC s a c = -5
    · rw [if_pos c2]
      have hf := sPlC_free c2
      repeat' split
      · exact h
      · exact WF_claim h c1.1 c1.2 (claim_room h.c c1.2 c1.1 hf) hf
    · rw [if_neg c2]
      repeat' split
      · exact h
      · exact WF_drop h c1.2 (sPlC_in c2)
      · omega
  · rw [if_pos c1]; exact h
theorem c_X4_setClaim {B : Int} {h : zH} {b : Nat} {s : zs} {a1 a2 a3 : Int} (hb : zSt b) (r : Rep s h b) (hW : WF B s) (hv : a3 = 0 ∨ a3 = 1) : zSp 2 mX4_setClaim [zR b, zI a1, zI a2, zI a3] h (fun q h' => q = some (zI (opClaim s a1 a2 a3).1) ∧ Rep (opClaim s a1 a2 a3).2 h' b ∧ zFr b h h') := by
  refine zSp_of (by decide +kernel) (Nat.le_of_ble_eq_true rfl) rfl (fun Γ => k_X4_setClaim_0 hb (by decide) ?_)
  unfold opClaim
  refine ⟨fun c => ?_, fun c => ⟨fun c2 => ?_, fun c2 => ?_⟩⟩
  · rw [if_pos (fun q => c q.1)]; exact ⟨rfl, r, fun _ _ => rfl⟩
  · rw [if_neg (fun q => q ⟨c, c2⟩)]
    have hn := (hW.c a2 c2).1
    have e8 := (r.v a2 c2).2.2.2
    refine ⟨_, _, by decide, c_X0_placeOf hb r hW c2, ?_⟩
    rintro _ _ ⟨rfl, rfl⟩
    refine ⟨_, rfl, fun c3 => ?_, fun c3 => ?_⟩
    · have e5 : sPlC s a1 a2 = -5 := by
        rcases sPc_ok (s := s) (a := a1) (c := a2) (s (108 + a2).toNat).toNat with ⟨q, -⟩ | ⟨q1, -⟩
        · exact q
        · unfold sPlC at c3; omega
      have hf := sPlC_free e5
      have h5 := claim_room hW.c c2 c hf
      rw [e5]
      refine k_X4_setClaim_38 hb (by decide) ⟨fun c4 => ⟨fun c5 => absurd c5 c4, fun c5 => ?_⟩, fun c4 => ?_⟩
      · refine ⟨_, _, by decide, c_X0_append hb c2 (by omega), ?_⟩
        rintro _ _ ⟨rfl, rfl⟩
        refine ⟨rfl, c2, ?_⟩
        rw [if_neg (by rw [if_pos rfl]; exact c4), if_neg c5, zu_same, e8]
        refine ⟨rfl, ?_, fun k hk => by rw [zu_nekr _ _ _ (by omega), zu_nekr _ _ _ (by omega)]⟩
        have := Rep_claim (a := a1) r hW c2 h5
        rw [e8] at this
        exact this
      · rw [if_pos (by rw [if_pos rfl]; exact c4)]; exact ⟨rfl, r, fun _ _ => rfl⟩
    · have e5 : ¬ sPlC s a1 a2 = -5 := by omega
      have hp := sPlC_in e5
      refine k_X4_setClaim_38 hb (by decide) ⟨fun c4 => ⟨fun c5 => ?_, fun c5 => absurd (show a3 = 1 by omega) c4⟩, fun c4 => ?_⟩
      · refine ⟨_, _, by decide, c_X0_remove hb c2 (by rw [e8]; exact hp) (by omega), ?_⟩
        rintro _ _ ⟨rfl, rfl⟩
        refine ⟨rfl, c2, ?_⟩
        rw [if_neg (by rw [if_neg e5]; exact c4), if_pos c5, zrow_ne _ _ (by omega), zu_same, e8]
        refine ⟨rfl, ?_, fun k hk => by rw [zrow_ne _ _ (by omega), zu_nekr _ _ _ (by omega)]⟩
        have := Rep_drop r hW c2 hp
        rw [e8] at this
        exact this
      · rw [if_pos (by rw [if_neg e5]; exact c4)]; exact ⟨rfl, r, fun _ _ => rfl⟩
  · rw [if_pos (fun q => c2 q.2)]; exact ⟨rfl, r, fun _ _ => rfl⟩
