def opRest (k : Int) (s sk : zs) : Int × zs := if k = 0 then (-5, s) else (sk 132, sk)
/-! what is told of a state -/
def qRead (s : zs) (a c : Int) : Int := if (0 ≤ a ∧ a ≤ 5) ∧ 0 ≤ c ∧ c ≤ 5 then (if s (6 * c + a).toNat = 0 then -4 else s (114 + c).toNat) else -1
def qCell1 (s : zs) (c w : Int) : Int := if w = 0 then s (114 + c).toNat else if w = 1 then s (120 + c).toNat else if w = 2 then s (126 + c).toNat else if w = 3 then sAg s c 3 6 else if w = 4 then s (108 + c).toNat else if w = 5 then (if s (108 + c).toNat = 0 then -5 else s (72 + 6 * c).toNat) else if w = 6 then sCnt s c (s 132).toNat else if w = 7 then sWh s c 6 else if w = 8 then sAg s c 8 6 else -2
def qCell (s : zs) (c w : Int) : Int := if 0 ≤ c ∧ c ≤ 5 then qCell1 s c w else -1
noncomputable def qPart1 (s : zs) (a c w : Int) : Int := if w = 0 then s (6 * c + a).toNat else if w = 1 then sSum s a c 1 (s 132).toNat else if w = 2 then sSum s a c 2 (s 132).toNat else if w = 3 then s (36 + 6 * c + a).toNat else if w = 4 then sPlC s a c else if w = 5 then gat c 6 0 s a (6 * c + a).toNat else -2
noncomputable def qPart (s : zs) (a c w : Int) : Int := if (0 ≤ a ∧ a ≤ 5) ∧ 0 ≤ c ∧ c ≤ 5 then qPart1 s a c w else -1
noncomputable def qLoan1 (s : zs) (p w : Int) : Int := if w = 0 then s (136 + 5 * p + 1).toNat else if w = 1 then s (136 + 5 * p + 2).toNat else if w = 2 then s (136 + 5 * p + 3).toNat else if w = 3 then s (136 + 5 * p + 4).toNat else if w = 4 then @ite _ (sCan s p) (Classical.propDecidable _) 1 0 else -2
noncomputable def qLoan (s : zs) (k w : Int) : Int := if sPlace s k = -5 then -1 else qLoan1 s (sPlace s k) w
noncomputable def qReason (s : zs) (a c : Int) : Int := if (0 ≤ a ∧ a ≤ 5) ∧ 0 ≤ c ∧ c ≤ 5 then (if gat c 6 0 s a (6 * c + a).toNat = 64 then 0 else if 0 < sAg s c 8 6 then 1 else 2) else -1
def qChain (s : zs) (c : Int) : Int := if 0 ≤ c ∧ c ≤ 5 then ((cTot (fun i j => sLk s c i j (s 132).toNat) : Nat) : Int) else -1
def qCount (s : zs) (k t w : Int) : Int := if w = 0 then s 132 else if w = 1 then s 133 else if w = 2 then sSumC s 2 6 else if w = 3 then sSumC s 3 6 else if w = 4 then s 134 else if w = 5 then s 135 else if w = 6 then sSumC s 6 6 else if w = 7 then k else if w = 8 then t else -2
theorem qLoan1_4 {s : zs} {p : Int} : qLoan1 s p 4 = @ite _ (sCan s p) (Classical.propDecidable _) 1 0 := rfl