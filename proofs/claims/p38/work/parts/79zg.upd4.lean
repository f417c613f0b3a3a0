/-! what is true of the numbers all calls along -/
section UP
variable {a : zAbs}
theorem zi2b_lt (x : Int) : zi2b x < 2147483648 := by
  unfold zi2b
  exact (zin32_toInt _).2
theorem zP_letters {x b : Int} (hP : zJP a) : zJP (zU_letters a x b) := by
  unfold zU_letters
  by_cases g : (0 ≤ x ∧ x < (a.S : Int)) ∧ (0 ≤ b ∧ b ≤ 255)
  · rw [if_pos g]
    exact zJP_mk (Nz := hP.N) (ltz := fun s => by show (if s = x.toNat then b.toNat else a.lt s) < 256; split <;> first | omega | exact hP.lt s) (hpz := hP.hp) (prz := hP.pr) (chz := hP.ch) (loz := hP.lo) (Fz := hP.F) (qz := hP.q) (tbz := hP.tb) (szz := hP.sz) (lnz := hP.ln) (itz := hP.it) (tnz := hP.tn)
  · rw [if_neg g]
    exact hP
theorem zP_price {x y z w : Int} (hP : zJP a) : zJP (zU_price a x y z w) := by
  unfold zU_price
  by_cases g : (0 ≤ x ∧ x < (a.S : Int)) ∧ (0 ≤ y ∧ y < (a.P : Int)) ∧ (0 ≤ z ∧ z < (a.mv x.toNat y.toNat : Int)) ∧ 0 ≤ w ∧ w ≤ 9
  · rw [if_pos g]
    exact zJP_mk (Nz := hP.N) (ltz := hP.lt) (hpz := hP.hp) (prz := fun s p q => by show (if s = x.toNat ∧ p = y.toNat ∧ q = z.toNat then w.toNat else a.pr s p q) ≤ 9; split <;> first | omega | exact hP.pr s p q) (chz := hP.ch) (loz := hP.lo) (Fz := hP.F) (qz := hP.q) (tbz := hP.tb) (szz := hP.sz) (lnz := hP.ln) (itz := hP.it) (tnz := hP.tn)
  · rw [if_neg g]
    exact hP
theorem zP_step {x c t : Int} (hP : zJP a) : zJP (zU_step a x c t) := by
  unfold zU_step
  by_cases g : ((0 ≤ x ∧ x < (a.S : Int)) ∧ 0 ≤ c ∧ c < (zcnt (a.mv x.toNat) zall1 a.P : Int)) ∧ (0 ≤ t ∧ t < (a.S : Int))
  · rw [if_pos g]
    exact zJP_mk (Nz := ⟨hP.N.1, hP.N.2.1, hP.N.2.2.1, hP.N.2.2.2.1, hP.N.2.2.2.2.1, fun s j hs hj => by
      show (if s = x.toNat ∧ j = c.toNat then t.toNat else a.tg s j) < a.S
      split
      · omega
      · exact hP.N.2.2.2.2.2 s j hs hj⟩) (ltz := hP.lt) (hpz := hP.hp) (prz := hP.pr) (chz := hP.ch) (loz := hP.lo) (Fz := hP.F) (qz := hP.q) (tbz := hP.tb) (szz := hP.sz) (lnz := hP.ln) (itz := hP.it) (tnz := hP.tn)
  · rw [if_neg g]
    exact hP
theorem zP_moves {x y m : Int} (hP : zJP a) : zJP (zU_moves a x y m) := by
  unfold zU_moves
  by_cases g : (0 ≤ x ∧ x < (a.S : Int)) ∧ (0 ≤ y ∧ y < (a.P : Int)) ∧ (1 ≤ m ∧ m ≤ 3)
  · rw [if_pos g]
    exact zJP_mk (Nz := ⟨hP.N.1, hP.N.2.1, hP.N.2.2.1, hP.N.2.2.2.1, fun s p => by
      show 1 ≤ (if s = x.toNat ∧ p = y.toNat then m.toNat else a.mv s p) ∧ (if s = x.toNat ∧ p = y.toNat then m.toNat else a.mv s p) ≤ 3
      split
      · omega
      · exact hP.N.2.2.2.2.1 s p, fun s j hs hj => by
      show (if s = x.toNat then x.toNat else a.tg s j) < a.S
      split
      · omega
      · exact hP.N.2.2.2.2.2 s j hs hj⟩) (ltz := hP.lt) (hpz := hP.hp) (prz := fun s p q => by show (if s = x.toNat then 0 else a.pr s p q) ≤ 9; split <;> first | omega | exact hP.pr s p q) (chz := fun s p => by
      show (if s = x.toNat then 0 else a.ch s p) < (if s = x.toNat ∧ p = y.toNat then m.toNat else a.mv s p)
      have h1 := (hP.N.2.2.2.2.1 s p).1
      have h2 := hP.ch s p
      split <;> split <;> omega) (loz := hP.lo) (Fz := hP.F) (qz := hP.q) (tbz := hP.tb) (szz := hP.sz) (lnz := hP.ln) (itz := hP.it) (tnz := hP.tn)
  · rw [if_neg g]
    exact hP
theorem zP_type {w n : Int} (hP : zJP a) : zJP (zU_type a w n) := by
  unfold zU_type
  by_cases g : zTyG a.q w n
  · rw [if_pos g]
    exact zJP_mk (Nz := hP.N) (ltz := hP.lt) (hpz := hP.hp) (prz := hP.pr) (chz := hP.ch) (loz := hP.lo) (Fz := hP.F) (qz := by show a.q + n.toNat ≤ 100; have := g.2.2; omega) (tbz := fun j hj => by
      have hj : j < a.q + n.toNat := hj
      show 32 ≤ (if j < a.q then a.tb j else zby w (n.toNat - 1 - (j - a.q))) ∧ (if j < a.q then a.tb j else zby w (n.toNat - 1 - (j - a.q))) ≤ 126
      split
      · next e => exact hP.tb j e
      · have := of_decide_eq_true ((zfa_iff _ _).mp g.2.1 (n.toNat - 1 - (j - a.q)) (by omega))
        exact this) (szz := hP.sz) (lnz := hP.ln) (itz := hP.it) (tnz := hP.tn)
  · rw [if_neg g]
    exact hP
theorem zP_form (hP : zJP a) : zJP (zU_form a) := by
  unfold zU_form
  cases e : zqT a.q a.P a.tb with
  | inl p => exact zJP_mk (Nz := hP.N) (ltz := hP.lt) (hpz := hP.hp) (prz := hP.pr) (chz := hP.ch) (loz := hP.lo) (Fz := hP.F) (qz := Nat.zero_le _) (tbz := fun j hj => absurd hj (Nat.not_lt_zero _)) (szz := hP.sz) (lnz := hP.ln) (itz := hP.it) (tnz := hP.tn)
  | inr l => exact zJP_mk (Nz := hP.N) (ltz := hP.lt) (hpz := hP.hp) (prz := hP.pr) (chz := hP.ch) (loz := hP.lo) (Fz := zqT_r e) (qz := Nat.zero_le _) (tbz := fun j hj => absurd hj (Nat.not_lt_zero _)) (szz := hP.sz) (lnz := hP.ln) (itz := hP.it) (tnz := hP.tn)
theorem zP_walk {x y l i c : Int} (hP : zJP a) : zJP (zU_walk a x y l i c) := by
  unfold zU_walk
  by_cases g : zWlG a.S (a.kd 0) a.ln a.sz a.it x y l i c
  · rw [if_pos g]
    exact zJP_mk (Nz := hP.N) (ltz := hP.lt) (hpz := hP.hp) (prz := hP.pr) (chz := hP.ch) (loz := hP.lo) (Fz := hP.F) (qz := hP.q) (tbz := hP.tb) (szz := hP.sz) (lnz := hP.ln) (itz := hP.it) (tnz := by show c.toNat + 1 ≤ 41; have := g.1.2.2; omega)
  · rw [if_neg g]
    exact hP
theorem zP_net {x y : Int} (hP : zJP a) : zJP (zU_net a x y) := by
  unfold zU_net
  by_cases g : zNwG x y
  · rw [if_pos g]
    exact zJP_mk (Nz := ⟨by show 2 ≤ x.toNat; omega, by show x.toNat ≤ 12; omega, by show 1 ≤ y.toNat; omega, by show y.toNat ≤ 4; omega, fun s p => ⟨Nat.le_refl 1, by show 1 ≤ 3; omega⟩, fun s j hs hj => hs⟩) (ltz := fun s => by show 0 < 256; omega) (hpz := fun p s => by show (if s < 12 then s else 0) < 12; split <;> omega) (prz := fun s p q => Nat.zero_le _) (chz := fun s p => Nat.zero_lt_one) (loz := by show (-1 : Int) ≤ -1 ∧ (-1 : Int) < (y.toNat : Int); omega) (Fz := ⟨Nat.le_refl 1, by show 1 ≤ 24; omega, fun k hk => ⟨Nat.zero_le _, fun z => absurd z (show ¬ (0 = 1) by omega), fun z => absurd z (show ¬ (2 ≤ 0) by omega), fun z => absurd z (show ¬ (ztwo 0 = true) by decide), fun z => absurd z (show ¬ (5 ≤ 0) by omega)⟩⟩) (qz := hP.q) (tbz := hP.tb) (szz := hP.sz) (lnz := hP.ln) (itz := hP.it) (tnz := Nat.zero_le _)
  · rw [if_neg g]
    exact hP
theorem zP_sheet {x y n : Int} (hP : zJP a) : zJP (zU_sheet a x y n) := by
  unfold zU_sheet
  by_cases g : zShtG x y n
  · rw [if_pos g]
    exact zJP_mk (Nz := hP.N) (ltz := hP.lt) (hpz := hP.hp) (prz := hP.pr) (chz := hP.ch) (loz := hP.lo) (Fz := hP.F) (qz := hP.q) (tbz := hP.tb) (szz := fun k hk => by show (if k = x.toNat then n.toNat else a.sz k) ≤ 81; have := g.1.2; split <;> first | omega | exact hP.sz k hk) (lnz := fun k hk => by show -1 ≤ (if k = x.toNat then y else a.ln k); have := g.1.1.2; split <;> first | omega | exact hP.ln k hk) (itz := fun z => by
      show zrng a.it (x.toNat * 81) 81 0 z < 2147483648
      unfold zrng
      split
      · omega
      · exact hP.it z) (tnz := hP.tn)
  · rw [if_neg g]
    exact hP
theorem zP_item {x y i w : Int} (hP : zJP a) (hw : w < 2147483648) : zJP (zU_item a x y i w) := by
  unfold zU_item
  by_cases g : zItG a.ln a.sz x y i
  · rw [if_pos g]
    exact zJP_mk (Nz := hP.N) (ltz := hP.lt) (hpz := hP.hp) (prz := hP.pr) (chz := hP.ch) (loz := hP.lo) (Fz := hP.F) (qz := hP.q) (tbz := hP.tb) (szz := hP.sz) (lnz := hP.ln) (itz := fun z => by
      show zf a.it (x * 81 + i) (if y = 0 then zi2b w else w) z < 2147483648
      unfold zf
      split
      · split
        · exact zi2b_lt w
        · exact hw
      · exact hP.it z) (tnz := hP.tn)
  · rw [if_neg g]
    exact hP
end UP
