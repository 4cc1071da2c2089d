/-! acts on a state, as functions; the class's methods for them -/
def opLend (s : zs) (a b c p : Int) : Int × zs := if sFault s a b c p < 0 then (sFault s a b c p, s) else (s 133, sLend s a b c p)
theorem sFault_ok {s : zs} {a b c p : Int} (h : ¬ sFault s a b c p < 0) : (0 ≤ a ∧ a ≤ 5) ∧ (0 ≤ b ∧ b ≤ 5) ∧ (0 ≤ c ∧ c ≤ 5) ∧ (1 ≤ p ∧ p ≤ 64) ∧ a ≠ b ∧ p ≤ s (6 * c + a).toNat ∧ s (36 + 6 * c + a).toNat ≠ 1 ∧ s 132 ≠ 40 ∧ s 133 ≠ 1000 := by
  unfold sFault at h
  by_cases c1 : 0 ≤ a ∧ a ≤ 5
  · rw [if_neg (fun q => q c1)] at h
    by_cases c2 : 0 ≤ b ∧ b ≤ 5
    · rw [if_neg (fun q => q c2)] at h
      by_cases c3 : 0 ≤ c ∧ c ≤ 5
      · rw [if_neg (fun q => q c3)] at h
        by_cases c4 : 1 ≤ p ∧ p ≤ 64
        · rw [if_neg (fun q => q c4)] at h
          by_cases c5 : a = b
          · rw [if_pos c5] at h; exact absurd (by decide) h
          · rw [if_neg c5] at h
            by_cases c6 : s (6 * c + a).toNat < p
            · rw [if_pos c6] at h; exact absurd (by decide) h
            · rw [if_neg c6] at h
              by_cases c7 : s (36 + 6 * c + a).toNat = 1
              · rw [if_pos c7] at h; exact absurd (by decide) h
              · rw [if_neg c7] at h
                by_cases c8 : s 132 = 40 ∨ s 133 = 1000
                · rw [if_pos c8] at h; exact absurd (by decide) h
                · exact ⟨c1, c2, c3, c4, c5, by omega, c7, by omega, by omega⟩
        · rw [if_pos c4] at h; exact absurd (by decide) h
      · rw [if_pos c3] at h; exact absurd (by decide) h
    · rw [if_pos c2] at h; exact absurd (by decide) h
  · rw [if_pos c1] at h; exact absurd (by decide) h
theorem sFault_0 {s : zs} {a b c p : Int} (h : ¬ sFault s a b c p < 0) : sFault s a b c p = 0 := by
  obtain ⟨c1, c2, c3, c4, c5, c6, c7, c8, c9⟩ := sFault_ok h
  unfold sFault
  rw [if_neg (fun q => q c1), if_neg (fun q => q c2), if_neg (fun q => q c3), if_neg (fun q => q c4), if_neg c5, if_neg (by omega), if_neg c7, if_neg (by omega)]
theorem opLend_err {s : zs} {a b c p e : Int} (h : sFault s a b c p = e) (he : e < 0) : opLend s a b c p = (e, s) := by unfold opLend; rw [h, if_pos he]
theorem WF_opLend {B : Int} {s : zs} {a b c p : Int} (h : WF B s) : WF B (opLend s a b c p).2 := by
  unfold opLend
  by_cases q : sFault s a b c p < 0
  · rw [if_pos q]; exact h
  · rw [if_neg q]
    obtain ⟨c1, c2, c3, c4, c5, c6, c7, c8, c9⟩ := sFault_ok q
    have n := h.n
    unfold WFn at n
    exact WF_lend h (by omega) c1 c2 c3 c4 c6
theorem Rep_lend {B : Int} {s : zs} {h h1 h2 : zH} {b : Nat} {x y c p : Int} (r : Rep s h b) (hW : WF B s) (hx : 0 ≤ x ∧ x ≤ 5) (hy : 0 ≤ y ∧ y ≤ 5) (hc : 0 ≤ c ∧ c ≤ 5) (hn : s 132 < 40 ∧ s 133 < 1000) (e1 : h1 = zrow h (b + 4) (sMove (h (b + 4)) x y c p)) (g10 : h2 (b + 10) = su (h1 (b + 10)) (h1 (b + 9) 5).toNat (h1 (b + 9) 6)) (g11 : h2 (b + 11) = su (h1 (b + 11)) (h1 (b + 9) 5).toNat x) (g12 : h2 (b + 12) = su (h1 (b + 12)) (h1 (b + 9) 5).toNat y) (g13 : h2 (b + 13) = su (h1 (b + 13)) (h1 (b + 9) 5).toNat c) (g14 : h2 (b + 14) = su (h1 (b + 14)) (h1 (b + 9) 5).toNat p) (g9 : h2 (b + 9) = su (su (h1 (b + 9)) 5 (zwr (h1 (b + 9) 5 + 1))) 6 (zwr (h1 (b + 9) 6 + 1))) (gf : ∀ k : Nat, (k < b + 9 ∨ b + 15 ≤ k) → h2 k = h1 k) : Rep (sLend s x y c p) h2 b := by
  obtain ⟨n1, n2, n3, n4, n5⟩ := hW.n
  have hn1 : 0 ≤ s 132 ∧ s 132 < 40 := ⟨n1, hn.1⟩
  obtain ⟨c1, c2⟩ := sLend_cnt (p := p) hn1 ⟨by omega, n3⟩ hx hy hc
  obtain ⟨w0, w1, w2, w3, w4⟩ := sLend_new (p := p) hn1 hx hy hc
  have off := fun {j : Nat} (h1 : 36 ≤ j) (h2 : j < 132 ∨ j = 134 ∨ j = 135 ∨ 336 ≤ j) => sLend_off (p := p) hn1 hx hy hc h1 h2
  have row := fun {y' w : Int} (hy' : 0 ≤ y' ∧ y' < s 132) (hw : 0 ≤ w ∧ w ≤ 4) => sLend_row (p := p) hn1 hx hy hc hy' hw
  obtain ⟨r0, r1, r2, r3⟩ := r.n
  have m : ∀ k : Nat, k ≠ b + 4 → h1 k = h k := fun k hk => by rw [e1, zrow_ne _ _ hk]
  have hk : ∀ k : Nat, (k < b + 9 ∨ b + 15 ≤ k) → k ≠ b + 4 → h2 k = h k := fun k q1 q2 => by rw [gf k q1, m k q2]
  rw [m _ (by omega), m _ (by omega), r1, r2] at g10
  rw [m _ (by omega), m _ (by omega), r1] at g11 g12 g13 g14
  rw [m _ (by omega), r1, r2] at g9
  refine ⟨fun c' hc' => ?_, fun a' c' ha' hc' => ?_, fun c' hc' => ?_, fun c' k hc' k0 k1 => ?_, ?_, fun z z0 z1 => ?_⟩
  · rw [hk _ (by omega) (by omega), hk _ (by omega) (by omega), hk _ (by omega) (by omega), hk _ (by omega) (by omega), off (by omega) (by omega), off (by omega) (by omega), off (by omega) (by omega), off (by omega) (by omega)]
    exact r.v c' hc'
  · rw [gf _ (by omega), e1, zrow_get]
    have es : sLend s x y c p (6 * c' + a').toNat = sMove s x y c p (6 * c' + a').toNat := by
      have ep : ∀ j : Nat, j < 36 → sPut s (s 132) (s 133) x y c p j = s j := by
        intro j hj
        unfold sPut
        simp (disch := omega) only [su_ne]
      unfold sLend
      rw [show ∀ t : zs, sAdd (sAdd t 132 1) 133 1 (6 * c' + a').toNat = t (6 * c' + a').toNat from fun t => by unfold sAdd; rw [su_ne _ _ (by omega), su_ne _ _ (by omega)]]
      unfold sMove sAdd sSub su
      rw [ep _ (by omega), ep _ (by omega), ep _ (by omega)]
    rw [es]
    have f1 := r.h _ _ hx hc
    have f2 := r.h _ _ hy hc
    have f3 := r.h a' c' ha' hc'
    unfold sMove sAdd sSub su
    rw [f1, f2, f3]
  · rw [hk _ (by omega) (by omega)]
    refine ⟨(r.b c' hc').1, fun a' ha' => ?_⟩
    rw [off (by omega) (by omega)]
    exact (r.b c' hc').2 a' ha'
  · rw [off (by omega) (by omega)] at k1
    have hc6 := (hW.c c' hc').1
    rw [hk _ (by omega) (by omega), off (by omega) (by omega)]
    exact r.c c' k hc' k0 k1
  · refine ⟨by rw [hk _ (by omega) (by omega), off (by omega) (by omega)]; exact r0, ?_, ?_, ?_⟩
    · rw [g9, c1, su_ne _ _ (by decide), su_same, zwr_eq (by omega) (by omega)]
    · rw [g9, c2, su_same, zwr_eq (by omega) (by omega)]
    · rw [g9, off (by omega) (by omega), su_ne _ _ (by decide), su_ne _ _ (by decide)]
      exact r3
  · rw [c1] at z1
    rw [g10, g11, g12, g13, g14]
    by_cases e : z = s 132
    · rw [e, w0, w1, w2, w3, w4, su_same, su_same, su_same, su_same, su_same]
      exact ⟨rfl, rfl, rfl, rfl, rfl⟩
    · rw [su_ne _ _ (by omega), su_ne _ _ (by omega), su_ne _ _ (by omega), su_ne _ _ (by omega), su_ne _ _ (by omega)]
      rw [row ⟨z0, by omega⟩ (by omega), row ⟨z0, by omega⟩ (by omega), row ⟨z0, by omega⟩ (by omega), row ⟨z0, by omega⟩ (by omega), row ⟨z0, by omega⟩ (by omega)]
      exact r.l z z0 (by omega)
theorem c_X4_makeLoan {B : Int} {h : zH} {b : Nat} {s : zs} {a1 a2 a3 a4 : Int} (hb : zSt b) (r : Rep s h b) (hW : WF B s) : zSp 2 mX4_makeLoan [zR b, zI a1, zI a2, zI a3, zI a4] h (fun q h' => q = some (zI (opLend s a1 a2 a3 a4).1) ∧ Rep (opLend s a1 a2 a3 a4).2 h' b ∧ zFr b h h') := by
  refine zSp_of (by decide +kernel) (Nat.le_of_ble_eq_true rfl) rfl (fun Γ => k_X4_makeLoan_0 hb (by decide) ?_)
  have err : ∀ e : Int, e < 0 → sFault s a1 a2 a3 a4 = e → (some (zI e) = some (zI (opLend s a1 a2 a3 a4).1) ∧ Rep (opLend s a1 a2 a3 a4).2 h b ∧ zFr b h h) := fun e he q => by
    rw [opLend_err q he]
    exact ⟨rfl, r, fun _ _ => rfl⟩
  refine ⟨fun c => err _ (by decide) ?_, fun c => ⟨fun c2 => err _ (by decide) ?_, fun c2 => ⟨fun c3 => ⟨fun c4 => err _ (by decide) ?_, fun c4 => ⟨fun c5 => err _ (by decide) ?_, fun c5 => ⟨fun c6 => ⟨c, c3, ?_⟩, fun c6 => err _ (by decide) ?_⟩⟩⟩, fun c3 => err _ (by decide) ?_⟩⟩⟩
  · unfold sFault; rw [if_pos c]
  · unfold sFault; rw [if_neg (fun q => q c), if_pos c2]
  · unfold sFault; rw [if_neg (fun q => q c), if_neg (fun q => q c2), if_neg (fun q => q c3), if_pos (by omega)]
  · unfold sFault; rw [if_neg (fun q => q c), if_neg (fun q => q c2), if_neg (fun q => q c3), if_pos (by omega)]
  · rw [r.h a1 a3 c c3]
    refine ⟨fun c7 => err _ (by decide) ?_, fun c7 => ⟨c, c3, fun c8 => ?_, fun c8 => err _ (by decide) ?_⟩⟩
    · unfold sFault; rw [if_neg (fun q => q c), if_neg (fun q => q c2), if_neg (fun q => q c3), if_neg (by omega), if_neg c6, if_pos c7]
    · have c9 : ¬ s (36 + 6 * a3 + a1).toNat = 1 := fun q => c8 ((Rep_hold r c c3).mpr q)
      have n := hW.n
      have n0 := r.n
      unfold WFn at n
      unfold RepN at n0
      refine ⟨_, _, by decide, c_X3_hasRoom hb r hW.n, ?_⟩
      rintro _ _ ⟨rfl, rfl⟩
      refine ⟨_, rfl, ?_⟩
      by_cases cf : s 132 = 40 ∨ s 133 = 1000
      · rw [if_pos cf]
        refine ⟨fun q => absurd rfl q, fun _ => err _ (by decide) ?_⟩
        unfold sFault; rw [if_neg (fun q => q c), if_neg (fun q => q c2), if_neg (fun q => q c3), if_neg (by omega), if_neg c6, if_neg c7, if_neg c9, if_pos cf]
      · rw [if_neg cf]
        refine ⟨fun _ => ?_, fun q => absurd q (by decide)⟩
        have e0 : sFault s a1 a2 a3 a4 = 0 := by
          unfold sFault; rw [if_neg (fun q => q c), if_neg (fun q => q c2), if_neg (fun q => q c3), if_neg (by omega), if_neg c6, if_neg c7, if_neg c9, if_neg cf]
        refine ⟨_, _, by decide, c_X4_moveParts hb c c2 c3, ?_⟩
        rintro _ h1 ⟨rfl, e1⟩
        have m9 : h1 (b + 9) = h (b + 9) := by rw [e1, zrow_ne _ _ (by omega)]
        refine ⟨rfl, _, _, by decide, c_X3_append (h := h1) hb (by rw [m9]; omega), ?_⟩
        rintro _ h2 ⟨rfl, g10, g11, g12, g13, g14, g9, gf⟩
        refine ⟨_, rfl, ?_⟩
        have eo : opLend s a1 a2 a3 a4 = (s 133, sLend s a1 a2 a3 a4) := by unfold opLend; rw [if_neg (by omega)]
        rw [eo]
        refine ⟨?_, Rep_lend r hW c c2 c3 (by omega) e1 g10 g11 g12 g13 g14 g9 gf, fun k hk => by rw [gf k (by omega), e1, zrow_ne _ _ (by omega)]⟩
        rw [m9, show h (b + 9) 6 = s 133 from n0.2.2.1, zwr_eq (a := s 133 + 1) (by omega) (by omega), zwr_eq (by omega) (by omega)]
        congr 2
        omega
    · have c9 : s (36 + 6 * a3 + a1).toNat = 1 := (Rep_hold r c c3).mp c8
      unfold sFault; rw [if_neg (fun q => q c), if_neg (fun q => q c2), if_neg (fun q => q c3), if_neg (by omega), if_neg c6, if_neg c7, if_pos c9]
  · unfold sFault; rw [if_neg (fun q => q c), if_neg (fun q => q c2), if_neg (fun q => q c3), if_neg (by omega), if_pos c6]
  · unfold sFault; rw [if_neg (fun q => q c), if_neg (fun q => q c2), if_pos c3]
def sHalf (s : zs) (a c : Int) : Int := zdiv (s (6 * c + a).toNat) 2
theorem zdiv2 : ∀ v : Nat, v < 65 → 0 ≤ zdiv (v : Int) 2 ∧ zdiv (v : Int) 2 ≤ 32 ∧ zdiv (v : Int) 2 ≤ v := by decide +kernel
theorem sHalf_bd {B : Int} {s : zs} {a c : Int} (hW : WF B s) (ha : 0 ≤ a ∧ a ≤ 5) (hc : 0 ≤ c ∧ c ≤ 5) : 0 ≤ sHalf s a c ∧ sHalf s a c ≤ 32 ∧ sHalf s a c ≤ s (6 * c + a).toNat := by
  have b0 := WF_held hW.h hW.s ha hc
  have := zdiv2 (s (6 * c + a).toNat).toNat (by omega)
  rw [show (((s (6 * c + a).toNat).toNat : Nat) : Int) = s (6 * c + a).toNat by omega] at this
  exact this
def opHalf (s : zs) (a b c : Int) : Int × zs :=
  if ¬ (0 ≤ a ∧ a ≤ 5) then (-1, s) else if ¬ (0 ≤ b ∧ b ≤ 5) then (-1, s) else if ¬ (0 ≤ c ∧ c ≤ 5) then (-1, s) else if a = b then (-2, s) else if sHalf s a c < 1 then (-4, s) else if s (36 + 6 * c + a).toNat = 1 then (-4, s) else if s 132 = 40 ∨ s 133 = 1000 then (-3, s) else (sHalf s a c, sLend s a b c (sHalf s a c))
theorem WF_opHalf {B : Int} {s : zs} {a b c : Int} (h : WF B s) : WF B (opHalf s a b c).2 := by
  unfold opHalf
  by_cases c1 : 0 ≤ a ∧ a ≤ 5
  · rw [if_neg (fun q => q c1)]
    by_cases c2 : 0 ≤ b ∧ b ≤ 5
    · rw [if_neg (fun q => q c2)]
      by_cases c3 : 0 ≤ c ∧ c ≤ 5
      · rw [if_neg (fun q => q c3)]
        have hb := sHalf_bd h c1 c3
        have n := h.n
        unfold WFn at n
        repeat' split
        all_goals first | exact h | exact WF_lend h (by omega) c1 c2 c3 (by omega) hb.2.2
      · rw [if_pos c3]; exact h
    · rw [if_pos c2]; exact h
  · rw [if_pos c1]; exact h
theorem c_X4_makeHalfLoan {B : Int} {h : zH} {b : Nat} {s : zs} {a1 a2 a3 : Int} (hb : zSt b) (r : Rep s h b) (hW : WF B s) : zSp 3 mX4_makeHalfLoan [zR b, zI a1, zI a2, zI a3] h (fun q h' => q = some (zI (opHalf s a1 a2 a3).1) ∧ Rep (opHalf s a1 a2 a3).2 h' b ∧ zFr b h h') := by
  refine zSp_of (by decide +kernel) (Nat.le_of_ble_eq_true rfl) rfl (fun Γ => k_X4_makeHalfLoan_0 hb (by decide) ?_)
  unfold opHalf
  refine ⟨fun c => ?_, fun c => ⟨fun c2 => ?_, fun c2 => ⟨fun c3 => ⟨fun c4 => ⟨c, c3, ?_⟩, fun c4 => ?_⟩, fun c3 => ?_⟩⟩⟩
  · rw [if_pos c]; exact ⟨rfl, r, fun _ _ => rfl⟩
  · rw [if_neg (fun q => q c), if_pos c2]; exact ⟨rfl, r, fun _ _ => rfl⟩
  · rw [r.h a1 a3 c c3]
    rw [if_neg (fun q => q c), if_neg (fun q => q c2), if_neg (fun q => q c3), if_neg c4]
    have hbd := sHalf_bd hW c c3
    have n := hW.n
    unfold WFn at n
    intro x3 e3
    have e3 : x3 = sHalf s a1 a3 := e3
    rw [e3]
    refine ⟨fun c5 => ?_, fun c5 => ?_⟩
    · rw [if_neg (by omega)]
      refine ⟨_, _, by decide, c_X4_makeLoan hb r hW, ?_⟩
      rintro _ h7 ⟨rfl, r7, f7⟩
      refine ⟨_, rfl, ?_⟩
      have key : sFault s a1 a2 a3 (sHalf s a1 a3) = if s (36 + 6 * a3 + a1).toNat = 1 then -4 else if s 132 = 40 ∨ s 133 = 1000 then -3 else 0 := by
        unfold sFault
        rw [if_neg (fun q => q c), if_neg (fun q => q c2), if_neg (fun q => q c3), if_neg (by omega), if_neg c4, if_neg (by omega)]
      by_cases q1 : s (36 + 6 * a3 + a1).toNat = 1
      · rw [if_pos q1] at key
        rw [opLend_err key (by decide)] at r7 ⊢
        rw [if_pos q1]
        exact ⟨fun q => absurd q (show ¬ (0 : Int) ≤ -4 by decide), fun _ => ⟨rfl, r7, f7⟩⟩
      · rw [if_neg q1] at key
        rw [if_neg q1]
        by_cases q2 : s 132 = 40 ∨ s 133 = 1000
        · rw [if_pos q2] at key
          rw [opLend_err key (by decide)] at r7 ⊢
          rw [if_pos q2]
          exact ⟨fun q => absurd q (show ¬ (0 : Int) ≤ -3 by decide), fun _ => ⟨rfl, r7, f7⟩⟩
        · rw [if_neg q2] at key
          rw [if_neg q2]
          have eo : opLend s a1 a2 a3 (sHalf s a1 a3) = (s 133, sLend s a1 a2 a3 (sHalf s a1 a3)) := by unfold opLend; rw [if_neg (by omega)]
          rw [eo] at r7 ⊢
          exact ⟨fun _ => ⟨rfl, r7, f7⟩, fun q => absurd (show 0 ≤ s 133 by omega) q⟩
    · rw [if_pos (by omega)]; exact ⟨rfl, r, fun _ _ => rfl⟩
  · rw [if_neg (fun q => q c), if_neg (fun q => q c2), if_neg (fun q => q c3), if_pos c4]; exact ⟨rfl, r, fun _ _ => rfl⟩
  · rw [if_neg (fun q => q c), if_neg (fun q => q c2), if_pos c3]; exact ⟨rfl, r, fun _ _ => rfl⟩
noncomputable def opGive (s : zs) (n : Int) : Int × zs :=
  if sPlace s n = -5 then (-1, s) else @ite _ (sCan s (sPlace s n)) (Classical.propDecidable _) (sGive s (sPlace s n) (6 * s (136 + 5 * sPlace s n + 3).toNat + s (136 + 5 * sPlace s n + 1).toNat).toNat, sGive s (sPlace s n)) (-4, s)
theorem sPlace_ok {s : zs} {n : Int} (h : sPlace s n ≠ -5) (hn : 0 ≤ s 132) : 0 ≤ sPlace s n ∧ sPlace s n < s 132 := by
  rcases sPlc_le (s := s) (k := n) (s 132).toNat with q | ⟨q1, q2, q3⟩
  · exact absurd q h
  · exact ⟨q1, by unfold sPlace; omega⟩
theorem WF_opGive {B : Int} {s : zs} {n : Int} (h : WF B s) : WF B (opGive s n).2 := by
  unfold opGive
  by_cases c1 : sPlace s n = -5
  · rw [if_pos c1]; exact h
  · rw [if_neg c1]
    by_cases c2 : sCan s (sPlace s n)
    · rw [if_pos c2]; exact WF_give h (sPlace_ok c1 h.n.1) c2
    · rw [if_neg c2]; exact h
theorem c_X4_endLoan {B : Int} {h : zH} {b : Nat} {s : zs} {a1 : Int} (hb : zSt b) (r : Rep s h b) (hW : WF B s) : zSp 3 mX4_endLoan [zR b, zI a1] h (fun q h' => q = some (zI (opGive s a1).1) ∧ Rep (opGive s a1).2 h' b ∧ zFr b h h') := by
  refine zSp_of (by decide +kernel) (Nat.le_of_ble_eq_true rfl) rfl (fun Γ => k_X4_endLoan_0 hb (by decide) ?_)
  refine ⟨_, _, by decide, c_X3_rowOf hb r hW.n, ?_⟩
  rintro _ _ ⟨rfl, rfl⟩
  refine ⟨_, rfl, ?_⟩
  unfold opGive
  by_cases c1 : sPlace s a1 = -5
  · rw [if_pos c1, if_pos c1]
    exact ⟨fun q => absurd q (by decide), fun _ => ⟨rfl, r, fun _ _ => rfl⟩⟩
  · rw [if_neg c1, if_neg c1]
    have hx := sPlace_ok c1 hW.n.1
    have n2 := hW.n.2.1
    obtain ⟨l0, l1, l2, l3, l4⟩ := r.l _ hx.1 hx.2
    obtain ⟨a0, p1, p2, p3, p4⟩ := hW.l _ hx.1 hx.2
    refine ⟨fun _ => ?_, fun q => absurd hx.1 q⟩
    refine ⟨_, _, by decide, c_X4_canEndLoan hb r hW.n hW.l hW.h hx, ?_⟩
    rintro _ _ ⟨⟨x, rfl, hq⟩, rfl⟩
    refine ⟨_, rfl, fun c2 => ?_, fun c2 => ?_⟩
    · have hcan : sCan s (sPlace s a1) := by
        rcases hq with ⟨z, -⟩ | ⟨-, z⟩
        · exact absurd z c2
        · exact z
      rw [if_pos hcan]
      refine ⟨by omega, by omega, ?_⟩
      rw [l1, l2, l3, l4]
      rintro _ rfl
      refine ⟨by omega, by omega, ?_⟩
      rintro _ rfl
      refine ⟨by omega, by omega, by omega, by omega, ?_⟩
      refine cGiveTwo (by decide) hb r hW hx ?_
      intro h2 r2 f2
      refine ⟨p1, p3, ?_⟩
      rw [r2.h _ _ p1 p3]
      exact ⟨rfl, r2, f2⟩
    · have hcan : ¬ sCan s (sPlace s a1) := by
        rcases hq with ⟨-, z⟩ | ⟨z, -⟩
        · exact z
        · omega
      rw [if_neg hcan]
      exact ⟨rfl, r, fun _ _ => rfl⟩
