/-! the reference: tolls -/
def zPrR (pr : Nat → Nat → Nat → Nat) (M : Nat → Int → Int) : Prop := ∀ s p a : Nat, s < 12 → p < 4 → a < 3 → M 51 (12 * (s : Int) + 3 * (p : Int) + a) = pr s p a
section RE
variable {Ln S P n : Nat} {mv tg : Nat → Nat → Nat} {lt kd lf rt gp : Nat → Nat} {pr : Nat → Nat → Nat → Nat} {M : Nat → Int → Int} {g : Int} {V : Nat → Nat}
end RE
