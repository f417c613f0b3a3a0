/-! the reference: where a form holds -/
def zkr (k : Nat) : Nat := if k = 8 then 9 else if k = 9 then 8 else k
def zFormR (n : Nat) (kd lf rt gp : Nat → Nat) (M : Nat → Int → Int) : Prop := M 48 10 = n ∧ (∀ k : Nat, k < n → M 56 k = zkr (kd k) ∧ (1 ≤ kd k → M 57 k = lf k) ∧ (ztwo (kd k) = true → M 58 k = rt k) ∧ (5 ≤ kd k → M 59 k = gp k)) ∧ ∀ k : Nat, k < 24 → (0 ≤ M 57 k ∧ M 57 k < 2147483648) ∧ 0 ≤ M 58 k ∧ M 58 k < 2147483648
def zLetR (lt : Nat → Nat) (M : Nat → Int → Int) : Prop := ∀ s : Nat, s < 12 → M 52 (s : Int) = lt s
section RE
variable {Ln S P n : Nat} {mv tg : Nat → Nat → Nat} {lt kd lf rt gp : Nat → Nat} {M : Nat → Int → Int} {g : Int}
end RE
