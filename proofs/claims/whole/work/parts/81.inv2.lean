/-! the text, perform, undo, keep: both sides -/
theorem l_type {B : Int} {h : zH} {a1 : Int} (I : Inv B h) (ha : 0 ≤ a1 ∧ a1 ≤ 65535) : lCall B 2 1 mX6_type mX7_type [zI a1] h := by
  obtain ⟨⟨n, hn, c⟩, i2, ⟨len, l60, t1, t2, t3⟩, i4⟩ := I
  refine ⟨_, c_X6_type (T := fun _ => 0) t1 l60, ?_⟩
  rintro _ h1 (⟨a, rfl, e⟩ | ⟨a, rfl, e⟩)
  · refine ⟨_, rfl, _, c_X7_type (t := len) (by rw [e]; exact t2) l60, ?_⟩
    rintro _ h2 (⟨b, rfl, e2⟩ | ⟨b, -, -⟩)
    · rw [e2, e]
      exact ⟨rfl, Inv_up ⟨⟨n, hn, c⟩, i2, ⟨len, l60, t1, t2, t3⟩, i4⟩ (by omega)⟩
    · omega
  · refine ⟨_, rfl, _, c_X7_type (t := len) (by rw [e, zu_nek _ _ _ _ (by decide), zu_nek _ _ _ _ (by decide)]; exact t2) l60, ?_⟩
    rintro _ h2 (⟨b, -, -⟩ | ⟨b, rfl, e2⟩)
    · omega
    have g : ∀ k : Nat, k ≠ 125 → k ≠ 126 → k ≠ 128 → k ≠ 134 → h2 k = h k := fun k k1 k2 k3 k4 => by rw [e2, e, zu_nekr _ _ _ k3, zu_nekr _ _ _ k4, zu_nekr _ _ _ k1, zu_nekr _ _ _ k2]
    have g8 : ∀ i : Nat, i ≠ 8 → h2 128 i = h 128 i := fun i hi => by rw [e2, e, zu_nej _ _ _ hi, zu_nek _ _ _ _ (by decide), zu_nek _ _ _ _ (by decide), zu_nek _ _ _ _ (by decide)]
    refine ⟨rfl, Inv_up (B := B) ⟨⟨n, by rw [g8 4 (by decide)]; exact hn, ?_⟩, iKept_fr i2 (Int.le_refl _) (by rw [g 0 (by decide) (by decide) (by decide) (by decide)]) (g8 6 (by decide)) (g 133 (by decide) (by decide) (by decide) (by decide)) (fun k k0 k1 => g k (by omega) (by omega) (by omega) (by omega)), ⟨len + 1, by omega, ?_, ?_, fun j hj => ?_⟩, iStop_fr i4 (by rw [g 0 (by decide) (by decide) (by decide) (by decide)]) (by rw [g 0 (by decide) (by decide) (by decide) (by decide)]) (by rw [g 0 (by decide) (by decide) (by decide) (by decide)]) (g8 9 (by decide)) (g8 10 (by decide))⟩ (by omega)⟩
    · rw [g 129 (by decide) (by decide) (by decide) (by decide)]
      exact CInv_H (CInv_fr c (fun k hk => g k (by omega) (by omega) (by omega) (by omega))) (fun i _ => mH_congr (g 132 (by decide) (by decide) (by decide) (by decide)) i)
    · rw [e2, e, zu_nek _ _ _ _ (by decide), zu_nek _ _ _ _ (by decide), zu_same]
    · rw [e2, zu_same]
    · have ex : h2 126 = (zu h 126 len a1) 126 := by rw [e2, e, zu_nekr _ _ _ (by decide), zu_nekr _ _ _ (by decide), zu_nekr _ _ _ (by decide)]
      have ey : h2 134 = (zu h1 134 len a1) 134 := by rw [e2, zu_nekr _ _ _ (by decide)]
      rw [ex, ey]
      by_cases q : j = len
      · rw [q, zu_same, zu_same]; exact ⟨rfl, ha⟩
      · rw [zu_nej _ _ _ q, zu_nej _ _ _ q, e, zu_nek _ _ _ _ (by decide), zu_nek _ _ _ _ (by decide)]
        exact t3 j (by omega)
theorem l_clearText {B : Int} {h : zH} (I : Inv B h) : lCall B 2 1 mX6_clearText mX7_clearText [] h := by
  obtain ⟨⟨n, hn, c⟩, i2, ⟨len, l60, t1, t2, t3⟩, i4⟩ := I
  refine ⟨_, c_X6_clearText, ?_⟩
  rintro _ h1 ⟨rfl, e⟩
  refine ⟨_, rfl, _, c_X7_clearText, ?_⟩
  rintro _ h2 ⟨rfl, e2⟩
  have g : ∀ k : Nat, k ≠ 125 → k ≠ 128 → h2 k = h k := fun k k1 k2 => by rw [e2, e, zu_nekr _ _ _ k2, zu_nekr _ _ _ k1]
  have g8 : ∀ i : Nat, i ≠ 8 → h2 128 i = h 128 i := fun i hi => by rw [e2, e, zu_nej _ _ _ hi, zu_nek _ _ _ _ (by decide)]
  refine ⟨by rw [e, zu_nek _ _ _ _ (by decide), t1, t2], Inv_up (B := B) ⟨⟨n, by rw [g8 4 (by decide)]; exact hn, ?_⟩, iKept_fr i2 (Int.le_refl _) (by rw [g 0 (by decide) (by decide)]) (g8 6 (by decide)) (g 133 (by decide) (by decide)) (fun k k0 k1 => g k (by omega) (by omega)), ⟨0, by omega, ?_, ?_, fun j hj => absurd hj (Nat.not_lt_zero _)⟩, iStop_fr i4 (by rw [g 0 (by decide) (by decide)]) (by rw [g 0 (by decide) (by decide)]) (by rw [g 0 (by decide) (by decide)]) (g8 9 (by decide)) (g8 10 (by decide))⟩ (by omega)⟩
  · rw [g 129 (by decide) (by decide)]
    exact CInv_H (CInv_fr c (fun k hk => g k (by omega) (by omega))) (fun i _ => mH_congr (g 132 (by decide) (by decide)) i)
  · rw [e2, e, zu_nek _ _ _ _ (by decide), zu_same]; rfl
  · rw [e2, zu_same]; rfl
theorem l_undo {B : Int} {h : zH} (I : Inv B h) : lCall B 3 1 mX6_undo mX7_undo [] h := by
  have I0 := I
  obtain ⟨⟨n, hn, c⟩, i2, i3, i4⟩ := I
  refine ⟨_, c_X6_undo c, ?_⟩
  rintro _ h1 (⟨a, rfl, e⟩ | ⟨a, rfl, c1, fa⟩)
  · refine ⟨_, rfl, _, c_X7_undo (n := n) (by rw [e]; exact c.2.1.z) (by rw [e]; exact hn) c.2.2.2.2.1, ?_⟩
    rintro _ h2 (⟨b, rfl, e2⟩ | ⟨b, -⟩)
    · rw [e2, e]
      exact ⟨rfl, Inv_up I0 (by omega)⟩
    · exact absurd a b
  · have e128 : h1 128 = h 128 := fa 128 (by omega)
    have e132 : h1 132 = h 132 := fa 132 (by omega)
    refine ⟨_, rfl, _, c_X7_undo (n := n) (by rw [fa 129 (by omega)]; exact c.2.1.z) (by rw [e128]; exact hn) c.2.2.2.2.1, ?_⟩
    rintro _ h2 (⟨b, -⟩ | ⟨b, rfl, e129, e4, f132, g⟩)
    · exact absurd b a
    refine ⟨rfl, Inv_up (B := B) ⟨⟨n - 1, e4, ?_⟩, ?_, ?_, ?_⟩ (by omega)⟩
    · rw [e129, mH_congr e132]
      exact CInv_H (CInv_fr c1 (fun k hk => g.1 k (by omega))) (fun i _ => by rw [mH_congr f132, mH_congr e132])
    · exact iKept_fr i2 (Int.le_refl _) (by rw [g.1 0 (by omega), fa 0 (by omega)]) (by rw [g.2 6 (by decide) (by decide) (by decide) (by decide) (by decide), e128]) (by rw [g.1 133 (by omega), fa 133 (by omega)]) (fun k k0 k1 => by rw [g.1 k (by omega), fa k (by omega)])
    · exact iText_fr i3 (by rw [g.1 125 (by omega), fa 125 (by omega)]) (by rw [g.1 126 (by omega), fa 126 (by omega)]) (by rw [g.2 8 (by decide) (by decide) (by decide) (by decide) (by decide), e128]) (by rw [g.1 134 (by omega), fa 134 (by omega)])
    · exact iStop_fr i4 (by rw [g.1 0 (by omega), fa 0 (by omega)]) (by rw [g.1 0 (by omega), fa 0 (by omega)]) (by rw [g.1 0 (by omega), fa 0 (by omega)]) (by rw [g.2 9 (by decide) (by decide) (by decide) (by decide) (by decide), e128]) (by rw [g.2 10 (by decide) (by decide) (by decide) (by decide) (by decide), e128])
theorem l_keep {B : Int} {h : zH} (I : Inv B h) : lCall B 3 1 mX6_keep mX7_keep [] h := by
  obtain ⟨⟨n, hn, c⟩, i2, i3, i4⟩ := I
  refine ⟨_, c_X6_keep c, ?_⟩
  rintro _ h1 ⟨rfl, c1, r1, e6, e0, fa⟩
  refine ⟨_, rfl, _, c_X7_keep, ?_⟩
  rintro _ h2 ⟨rfl, e2⟩
  have g : ∀ k : Nat, k ≠ 128 → k ≠ 133 → h2 k = h1 k := fun k k1 k2 => by rw [e2, zu_nekr _ _ _ k1, zrow_ne _ _ k2]
  have g8 : ∀ i : Nat, i ≠ 6 → h2 128 i = h 128 i := fun i hi => by rw [e2, zu_nej _ _ _ hi, zrow_ne _ _ (by decide), fa 128 (by omega)]
  have e133 : h2 133 = h 129 := by
    rw [e2, zu_nekr _ _ _ (by decide), zrow_get, fa 129 (by omega), fa 133 (by omega)]
    exact sCp_z c.2.1.z i2.2.2
  refine ⟨by rw [fa 129 (by omega)], Inv_up (B := B) ⟨⟨n, by rw [g8 4 (by decide)]; exact hn, ?_⟩, ⟨?_, fun _ => ?_, by rw [e133]; exact c.2.1.z⟩, ?_, ?_⟩ (by omega)⟩
  · rw [g 129 (by decide) (by decide), fa 129 (by omega)]
    exact CInv_H (CInv_fr c1 (fun k hk => g k (by omega) (by omega))) (fun i _ => by rw [mH_congr (g 132 (by decide) (by decide)), mH_congr (fa 132 (by omega))])
  · rw [g 0 (by decide) (by decide), e6, e2, zu_same]
  · rw [e133]
    exact ⟨Rep_congr r1 (fun k k0 k1 => g k (by omega) (by omega)), c.2.1⟩
  · exact iText_fr i3 (by rw [g 125 (by decide) (by decide), fa 125 (by omega)]) (by rw [g 126 (by decide) (by decide), fa 126 (by omega)]) (g8 8 (by decide)) (by rw [g 134 (by decide) (by decide), fa 134 (by omega)])
  · exact iStop_fr i4 (by rw [g 0 (by decide) (by decide), e0 7 (by decide)]) (by rw [g 0 (by decide) (by decide), e0 8 (by decide)]) (by rw [g 0 (by decide) (by decide), e0 9 (by decide)]) (g8 9 (by decide)) (g8 10 (by decide))
theorem l_perform {B : Int} {h : zH} (I : Inv B h) (hB : B ≤ 90000) : lCall B 21 7 mX6_perform mX7_perform [] h := by
  obtain ⟨⟨n, hn, c⟩, i2, i3, i4⟩ := I
  have i3' := i3
  obtain ⟨len, l60, t1, t2, t3⟩ := i3
  have gT : ∃ T : zs, T = (fun j => if j < len then h 134 j else 0) := ⟨_, rfl⟩
  obtain ⟨T, eT⟩ := gT
  have T1 : ∀ j : Nat, j < len → h 134 j = T j := fun j hj => by rw [eT]; exact (if_pos hj).symm
  have T2 : ∀ j : Nat, 0 ≤ T j ∧ T j ≤ 65535 := fun j => by
    by_cases q : j < len
    · rw [← T1 j q]; exact (t3 j q).2
    · rw [eT]
      show 0 ≤ (if j < len then h 134 j else 0) ∧ (if j < len then h 134 j else 0) ≤ 65535
      rw [if_neg q]; decide
  refine ⟨_, c_X6_perform (T := T) (len := len) c hB ⟨t1, l60, fun j hj => by rw [(t3 j hj).1]; exact T1 j hj, T2⟩, ?_⟩
  rintro _ h1 ⟨x, rfl, fb, o⟩
  have e129 : h1 129 = h 129 := fb.1 129 (by omega)
  have e128 : h1 128 = h 128 := fb.1 128 (by omega)
  have e132 : h1 132 = h 132 := fb.1 132 (by omega)
  have mt : mT T len h1 := ⟨by rw [e128]; exact t2, l60, fun j hj => by rw [fb.1 134 (by omega)]; exact T1 j hj, T2⟩
  have n4 := c.2.2.2.2.1
  refine ⟨x, rfl, ?_⟩
  have em2 : mH h1 = mH h := funext (mH_congr e132)
  rcases o with ⟨qf, hq, q60, ex, c1, e0⟩ | ⟨m, hm, ⟨ho, ex, c1, e0⟩ | ⟨kf, ef, ho, ex, c1, e7, e8, e9, e0⟩⟩
  · refine ⟨_, c_X7_perform_flt mt hq q60, ?_⟩
    rintro _ h2 ⟨rfl, b, f⟩
    refine ⟨by rw [ex], Inv_up (B := B) ⟨⟨n, by rw [f.2 4 (by decide) (by decide) (by decide) (by decide), e128]; exact hn, ?_⟩, ?_, ?_, ?_⟩ (by omega)⟩
    · rw [b, e129]
      exact CInv_H (CInv_fr c1 (fun k hk => f.1 k (by omega))) (fun i _ => by rw [mH_congr (f.1 132 (by omega)), em2])
    · exact iKept_fr i2 (Int.le_refl _) (by rw [f.1 0 (by omega), e0]) (by rw [f.2 6 (by decide) (by decide) (by decide) (by decide), e128]) (by rw [f.1 133 (by omega), fb.1 133 (by omega)]) (fun k k0 k1 => by rw [f.1 k (by omega), fb.1 k (by omega)])
    · exact iText_fr i3' (by rw [f.1 125 (by omega), fb.2]) (by rw [f.1 126 (by omega), fb.1 126 (by omega)]) (by rw [f.2 8 (by decide) (by decide) (by decide) (by decide), e128]) (by rw [f.1 134 (by omega), fb.1 134 (by omega)])
    · exact iStop_fr i4 (by rw [f.1 0 (by omega), e0]) (by rw [f.1 0 (by omega), e0]) (by rw [f.1 0 (by omega), e0]) (by rw [f.2 9 (by decide) (by decide) (by decide) (by decide), e128]) (by rw [f.2 10 (by decide) (by decide) (by decide) (by decide), e128])
  · refine ⟨_, c_X7_perform_run (B := B) (n := n) mt hm (by rw [e129]; exact c.2.1) hB (by rw [e128]; exact hn) n4 (by rw [e129]; exact ho), ?_⟩
    rintro _ h2 ⟨rfl, b, p1, p2, p3⟩
    refine ⟨by rw [ex], ⟨pushN n, p1, ?_⟩, ?_, ?_, ?_⟩
    · rw [b, e129]
      refine CInv_H (CInv_fr c1 (fun k hk => p3.1 k (by omega))) (fun i hi => ?_)
      rw [p2 i hi, em2, e129]
    · exact iKept_fr i2 (by omega) (by rw [p3.1 0 (by omega), e0]) (by rw [p3.2 6 (by decide) (by decide) (by decide) (by decide) (by decide), e128]) (by rw [p3.1 133 (by omega), fb.1 133 (by omega)]) (fun k k0 k1 => by rw [p3.1 k (by omega), fb.1 k (by omega)])
    · exact iText_fr i3' (by rw [p3.1 125 (by omega), fb.2]) (by rw [p3.1 126 (by omega), fb.1 126 (by omega)]) (by rw [p3.2 8 (by decide) (by decide) (by decide) (by decide) (by decide), e128]) (by rw [p3.1 134 (by omega), fb.1 134 (by omega)])
    · exact iStop_fr i4 (by rw [p3.1 0 (by omega), e0]) (by rw [p3.1 0 (by omega), e0]) (by rw [p3.1 0 (by omega), e0]) (by rw [p3.2 9 (by decide) (by decide) (by decide) (by decide) (by decide), e128]) (by rw [p3.2 10 (by decide) (by decide) (by decide) (by decide) (by decide), e128])
  · refine ⟨_, c_X7_perform_stop (B := B) mt hm (by rw [e129]; exact c.2.1) hB (by rw [e129]; exact ho), ?_⟩
    rintro _ h2 ⟨rfl, b, b9, b10, f⟩
    have f8 : ∀ i : Nat, i ≠ 9 → i ≠ 10 → i ≠ 14 → i ≠ 15 → i ≠ 16 → i ≠ 18 → h2 128 i = h 128 i := fun i x1 x2 x3 x4 x5 x6 => by rw [f.2 i x1 x2 x3 x4 x5 x6, e128]
    refine ⟨by rw [ex], Inv_up (B := B) ⟨⟨n, by rw [f8 4 (by decide) (by decide) (by decide) (by decide) (by decide) (by decide)]; exact hn, ?_⟩, ?_, ?_, Or.inr ⟨by rw [f.1 0 (by omega)]; exact e7, by rw [f.1 0 (by omega), e8, b9], by rw [f.1 0 (by omega), e9, b10]⟩⟩ (by omega)⟩
    · rw [b, e129]
      exact CInv_H (CInv_fr c1 (fun k hk => f.1 k (by omega))) (fun i _ => by rw [mH_congr (f.1 132 (by omega)), em2])
    · exact iKept_fr i2 (Int.le_refl _) (by rw [f.1 0 (by omega), e0 6 (by decide) (by decide) (by decide)]) (f8 6 (by decide) (by decide) (by decide) (by decide) (by decide) (by decide)) (by rw [f.1 133 (by omega), fb.1 133 (by omega)]) (fun k k0 k1 => by rw [f.1 k (by omega), fb.1 k (by omega)])
    · exact iText_fr i3' (by rw [f.1 125 (by omega), fb.2]) (by rw [f.1 126 (by omega), fb.1 126 (by omega)]) (f8 8 (by decide) (by decide) (by decide) (by decide) (by decide) (by decide)) (by rw [f.1 134 (by omega), fb.1 134 (by omega)])
