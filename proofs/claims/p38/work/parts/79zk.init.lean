/-! how it begins, and the whole run -/
def zA0 : zAbs := (4, 2, fun _ _ => 1, fun s _ => s, fun _ => 0, fun _ s => if s < 12 then s else 0, fun _ _ _ => 0, fun _ _ => 0, -1, 1, fun _ => 0, fun _ => 0, fun _ => 0, fun _ => 0, 0, fun _ => 0, fun _ => -1, fun _ => 0, fun _ => 0, fun _ _ => false, 0, fun _ => 0)
theorem zP_0 : zJP zA0 := zJP_mk
  (Nz := ⟨by show 2 ≤ 4; omega, by show 4 ≤ 12; omega, by show 1 ≤ 2; omega, by show 2 ≤ 4; omega, fun s p => ⟨Nat.le_refl 1, by show 1 ≤ 3; omega⟩, fun s j hs hj => hs⟩)
  (ltz := fun s => by show 0 < 256; omega)
  (hpz := fun p s => by show (if s < 12 then s else 0) < 12; split <;> omega)
  (prz := fun s p q => Nat.zero_le _)
  (chz := fun s p => Nat.zero_lt_one)
  (loz := by show (-1 : Int) ≤ -1 ∧ (-1 : Int) < 2; omega)
  (Fz := ⟨Nat.le_refl 1, by show 1 ≤ 24; omega, fun k hk => ⟨Nat.zero_le _, fun z => absurd z (show ¬ (0 = 1) by omega), fun z => absurd z (show ¬ (2 ≤ 0) by omega), fun z => absurd z (show ¬ (ztwo 0 = true) by decide), fun z => absurd z (show ¬ (5 ≤ 0) by omega)⟩⟩)
  (qz := Nat.zero_le _) (tbz := fun j hj => absurd hj (Nat.not_lt_zero _))
  (szz := fun k hk => Nat.zero_le _) (lnz := fun k hk => by show (-1 : Int) ≤ -1; omega)
  (itz := fun z => by show (0 : Int) < 2147483648; omega) (tnz := Nat.zero_le _)
