/-! the reference's face: calls that change nothing -/
def zPaA (S n : Nat) (mv tg : Nat → Nat → Nat) (P : Nat) (lt kd lf rt gp : Nat → Nat) (k : Int) : Int := if 0 ≤ k ∧ k < n then zset S (zHp mv tg P lt kd lf rt gp k.toNat) else -1
def zRoA (S P : Nat) (mv tg : Nat → Nat → Nat) (lt kd lf rt gp : Nat → Nat) (x : Int) : Int := if 0 ≤ x ∧ x < S then (if 7 ≤ kd 0 then (if zHp mv tg P lt kd lf rt gp 0 x.toNat = true then (zRd mv tg P lt kd lf rt gp x.toNat : Int) else -4) else -2) else -1
def zPlA (S P : Nat) (mv tg : Nat → Nat → Nat) (lt kd lf rt gp : Nat → Nat) (x : Int) : Int := if 0 ≤ x ∧ x < S then (if 5 ≤ kd 0 then zPlan (mv x.toNat) (tg x.toNat) (zbit (gp 0 : Int)) P (zHp mv tg P lt kd lf rt gp 0 x.toNat) (zAim (kd 0) (zHp mv tg P lt kd lf rt gp (lf 0)) (zHp mv tg P lt kd lf rt gp 0) (zRd mv tg P lt kd lf rt gp) x.toNat) else -2) else -1
def zAnA (S P : Nat) (mv tg : Nat → Nat → Nat) (lt kd lf rt gp : Nat → Nat) (x a : Int) : Int := if 0 ≤ x ∧ x < S then (if 5 ≤ kd 0 then (if 0 ≤ a ∧ a < zcnt (mv x.toNat) (zbit (gp 0 : Int)) P then zAns (mv x.toNat) (tg x.toNat) (zbit (gp 0 : Int)) P (if kd 0 = 5 then zHp mv tg P lt kd lf rt gp (lf 0) else zHp mv tg P lt kd lf rt gp 0) a.toNat else -1) else -2) else -1
def zJoA (S P : Nat) (mv : Nat → Nat → Nat) (x g : Int) : Int := if (0 ≤ x ∧ x < S) ∧ (0 ≤ g ∧ g ≤ zset P fun _ => true) then (zcnt (mv x.toNat) (zbit g) P : Int) else -1
section RE
variable {Ln S P n : Nat} {mv tg hp : Nat → Nat → Nat} {lt kd lf rt gp : Nat → Nat} {M : Nat → Int → Int}
end RE
