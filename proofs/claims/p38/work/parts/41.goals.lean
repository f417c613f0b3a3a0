/-! goals: the class -/
def zGlC (S P : Nat) (gl : Nat → Nat → Bool) (M : Nat → Int → Int) : Prop := ∀ p : Nat, p < P → M 42 (p : Int) = zset S (gl p)
section GO
variable {Ln S P : Nat} {mv tg ch : Nat → Nat → Nat} {gl : Nat → Nat → Bool} {M : Nat → Int → Int}
end GO
