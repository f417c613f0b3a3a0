/-! the reference: plans -/
/-- where the outermost has rounds, it holds where there is one -/
theorem zRd_iff {S P n : Nat} {mv tg : Nat → Nat → Nat} {lt kd lf rt gp : Nat → Nat} (hN : zNet S P mv tg) (hF : zForm P n kd lf rt gp) (h7 : 7 ≤ kd 0) {s : Nat} (hs : s < S) : zHp mv tg P lt kd lf rt gp 0 s = true ↔ zRd mv tg P lt kd lf rt gp s < 13 := by
  have hCg : zCg S (zCn mv tg P (zbit (gp 0 : Int))) := zcan_Cg hN _
  have hk9 := (hF.2.2 0 hF.1).1
  have hS := hN.2.1
  unfold zRd
  rw [← zrd_iff hs, zHp_eq hF hF.1]
  generalize zHp mv tg P lt kd lf rt gp (lf 0) = one
  generalize zHp mv tg P lt kd lf rt gp (rt 0) = two
  generalize zCn mv tg P (zbit (gp 0 : Int)) = C at hCg
  have e : kd 0 = 7 ∨ kd 0 = 8 ∨ kd 0 = 9 := by omega
  rcases e with e | e | e <;> rw [e]
  · have e1 : zJ C lt 7 (lf 0) one two = zUn C (fun _ => true) one 12 := by simp [zJ]
    rw [e1]; simp only [zJA, zJB, Nat.reduceEqDiff, if_true, if_false]
  · have e1 : zJ C lt 8 (lf 0) one two = zUn C one two 12 := by simp [zJ]
    rw [e1]; simp only [zJA, zJB, Nat.reduceEqDiff, if_true, if_false]
  · have e1 : zJ C lt 9 (lf 0) one two = zAg C one 13 := by simp [zJ]
    rw [e1]; simp only [zJA, zJB, Nat.reduceEqDiff, if_true, if_false]
    have e2 := zAg_stay (A := one) hCg 13 14 (Or.inr (by omega)) (by omega) s hs
    rw [← e2]
    exact Iff.rfl
section RE
variable {Ln S P n : Nat} {mv tg : Nat → Nat → Nat} {lt kd lf rt gp : Nat → Nat} {M : Nat → Int → Int} {g : Int}
end RE
