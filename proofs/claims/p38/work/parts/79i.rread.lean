/-! the tape's reader: the reference -/
def zRng (M : Nat → Int → Int) : Prop := ∀ k : Nat, k < 24 → (0 ≤ M 61 k ∧ M 61 k < 2147483648) ∧ 0 ≤ M 62 k ∧ M 62 k < 2147483648
section RR
variable {Ln q P : Nat} {tb : Nat → Nat} {M : Nat → Int → Int}
end RR
