/-! the reference's face: blind, the trail, sheets -/
def zTraR (n : Nat) (tr : Nat → Nat) (M : Nat → Int → Int) : Prop := M 48 31 = n ∧ ∀ k : Nat, k < n → M 71 (k : Int) = tr k
def zShR (ln : Nat → Int) (sz : Nat → Nat) (it : Int → Int) (M : Nat → Int → Int) : Prop := (∀ k : Nat, k < 4 → M 72 (k : Int) = ln k ∧ M 73 (k : Int) = sz k) ∧ ∀ x : Int, 0 ≤ x → x < 324 → M 74 x = it x
/-- what a place of a sheet answers to a reader -/
def zWrg (ln : Nat → Int) (sz : Nat → Nat) (k : Nat) (l i n : Int) : Int := if ln k = -1 then -11 else if ln k = l then (if 0 ≤ i ∧ i + n ≤ sz k then 0 else -13) else -12
theorem zWrg_0 {ln : Nat → Int} {sz : Nat → Nat} {k : Nat} {l i n : Int} (h : zWrg ln sz k l i n = 0) : ln k = l ∧ 0 ≤ i ∧ i + n ≤ sz k := by
  unfold zWrg at h
  split at h
  · omega
  · split at h
    · split at h
      · exact ⟨by assumption, by omega, by omega⟩
      · omega
    · omega
section RE
variable {Ln S P n : Nat} {mv tg hp : Nat → Nat → Nat} {lt kd lf rt gp : Nat → Nat} {M : Nat → Int → Int} {ln : Nat → Int} {sz : Nat → Nat} {it : Int → Int}
end RE
