/-! the faces: steps -/
theorem zup_up (M : Nat → Int → Int) (k : Nat) (i a b : Int) : zup (zup M k i a) k i b = zup M k i b := by
  funext q y
  by_cases h : q = k ∧ y = i <;> simp [zup, h]
section FC
variable {Ln S P : Nat} {mv tg : Nat → Nat → Nat} {ln : Nat → Int} {sz : Nat → Nat} {it : Int → Int} {M : Nat → Int → Int}
end FC
