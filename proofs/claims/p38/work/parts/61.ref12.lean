/-! the reference: rows of moves, laid -/
def zHpR (hp : Nat → Nat → Nat) (M : Nat → Int → Int) : Prop := ∀ p s : Nat, p < 4 → s < 12 → M 53 (4 * (s : Int) + p) = hp p s
section RE
variable {Ln S P n : Nat} {mv tg hp : Nat → Nat → Nat} {M : Nat → Int → Int} {g : Int} {b : Nat → Nat}
end RE
