/-! the reference: the net, what a group can force -/
def zNetR (S P : Nat) (mv tg : Nat → Nat → Nat) (M : Nat → Int → Int) : Prop := M 48 0 = S ∧ M 48 1 = P ∧ (∀ s p : Nat, s < 12 → p < 4 → M 49 (4 * (s : Int) + p) = mv s p) ∧ ∀ s j : Nat, s < 12 → j < 81 → M 50 (81 * (s : Int) + j) = tg s j
section RE
variable {Ln S P : Nat} {mv tg : Nat → Nat → Nat} {M : Nat → Int → Int}
end RE
