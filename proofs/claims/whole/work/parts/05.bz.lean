/-! ===== kindOf: the text's index ===== -/
abbrev kX2_kindOf : Cfg := (RX2, cX2_kindOf, 1, (some .int), 6)
def kix (c : Int32) : Int32 := if c = 115 then 0 else if c = 102 then 1 else if c = 118 then 2 else if c = 106 then 3 else if c = 101 then 4 else if c = 108 then 5 else -1
def fX2_kindOf (n : Nat) (a0 : Int32) (μ : Mem) : Option (Int32 × Mem) := if a0 < 0 then some (-1, μ) else if 255 < a0 then some (-1, μ) else some (kix a0, μ)
theorem ctX2_kindOf (ad : Nat → Nat) (n : Nat) (a0 : Int32) (μ : Mem) : Ct yX2_kindOf kX2_kindOf ad encI [.int a0] μ (fX2_kindOf n a0 μ) := by
  sorry
