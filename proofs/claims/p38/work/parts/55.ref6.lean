/-! the reference: the toll -/
def zTlA (S P : Nat) (mv tg : Nat → Nat → Nat) (pr : Nat → Nat → Nat → Nat) (lt kd lf rt gp : Nat → Nat) (x : Int) : Int := if 0 ≤ x ∧ x < S then (if kd 0 = 7 ∨ kd 0 = 8 then (if zHp mv tg P lt kd lf rt gp 0 x.toNat = true then (zTl S P mv tg pr (zbit (gp 0 : Int)) (fun s => decide (zRd mv tg P lt kd lf rt gp s = 0)) (zHp mv tg P lt kd lf rt gp 0) S x.toNat : Int) else -4) else -2) else -1
section RE
variable {Ln S P n : Nat} {mv tg : Nat → Nat → Nat} {lt kd lf rt gp : Nat → Nat} {pr : Nat → Nat → Nat → Nat} {M : Nat → Int → Int}
end RE
