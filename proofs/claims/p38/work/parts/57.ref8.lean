/-! the reference: what is chosen, goals -/
def zGlR (S P : Nat) (gl : Nat → Nat → Bool) (M : Nat → Int → Int) : Prop := ∀ p : Nat, p < P → M 55 (p : Int) = zset S (gl p)
def zPkR (ch : Nat → Nat → Nat) (M : Nat → Int → Int) : Prop := ∀ s p : Nat, s < 12 → p < 4 → M 54 (4 * (s : Int) + p) = ch s p
section RE
variable {Ln S P : Nat} {mv tg ch : Nat → Nat → Nat} {gl : Nat → Nat → Bool} {M : Nat → Int → Int}
end RE
