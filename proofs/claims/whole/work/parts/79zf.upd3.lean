/-! what the reference's calls do to what it stands for -/
section UQ
variable {Ln : Nat} {a : zAbs} {M M' : Nat → Int → Int}
theorem zR_letters {x b : Int} (hP : zJP a) (h : zJR a M) : zF (zSH Ln) 100 i_Md_letters [zR 48, zI x, zI b] M fun r M' => r = some (zI (if (0 ≤ x ∧ x < (a.S : Int)) ∧ (0 ≤ b ∧ b ≤ 255) then (a.lt x.toNat : Int) else -1)) ∧ zJR (zU_letters a x b) M' ∧ zRl M M' := by
  refine zW_mono (F_Md_letters hP.N h.N h.L (by omega)) ?_
  rintro _ _ ⟨rfl, rfl⟩
  refine ⟨rfl, ?_⟩
  unfold zU_letters
  by_cases g : (0 ≤ x ∧ x < (a.S : Int)) ∧ (0 ≤ b ∧ b ≤ 255)
  · rw [if_pos g, if_pos g]
    have eL : zLetR (fun s => if s = x.toNat then b.toNat else a.lt s) (zup M 52 x b) := by
      intro s hs
      by_cases e : s = x.toNat
      · rw [show (s : Int) = x by omega, zup_s]
        show b = ((if s = x.toNat then b.toNat else a.lt s : Nat) : Int)
        rw [if_pos e]
        omega
      · rw [zup_d (by omega)]
        show M 52 (s : Int) = ((if s = x.toNat then b.toNat else a.lt s : Nat) : Int)
        rw [if_neg e]
        exact h.L s hs
    refine ⟨?_, zRl_kp (l := [52]) (zKp_up (by decide) (zKp_rf _ _)) (by decide)⟩
    exact zJR_mk (Nz := zNetR_k h.N rfl rfl rfl rfl) (Lz := eL) (Hz := zHpR_k h.H rfl) (Qz := zPrR_k h.Q rfl) (Kz := zPkR_k h.K rfl) (loz := h.lo) (Fz := zFormR_k h.F rfl rfl rfl rfl rfl) (Tz := zTpR_k h.T rfl rfl) (Shz := zShR_k h.Sh rfl rfl rfl) (Gz := zGlR_k h.G rfl) (Wz := zTraR_k h.W rfl rfl) (rgz := zRng_k h.rg rfl rfl)
  · rw [if_neg g, if_neg g]
    exact ⟨h, fun _ _ => rfl⟩
theorem zR_heap {y x c : Int} (hP : zJP a) (h : zJR a M) : zF (zSH Ln) 100 i_Md_heap [zR 48, zI y, zI x, zI c] M fun r M' => r = some (zI (if (0 ≤ y ∧ y < (a.P : Int)) ∧ (0 ≤ x ∧ x < (a.S : Int)) ∧ (0 ≤ c ∧ c ≤ 11) then (a.hp y.toNat x.toNat : Int) else -1)) ∧ zJR (zU_heap a y x c) M' ∧ zRl M M' := by
  refine zW_mono (F_Md_heap hP.N h.N h.H (by omega)) ?_
  rintro _ _ ⟨rfl, rfl⟩
  refine ⟨rfl, ?_⟩
  unfold zU_heap
  by_cases g : (0 ≤ y ∧ y < (a.P : Int)) ∧ (0 ≤ x ∧ x < (a.S : Int)) ∧ (0 ≤ c ∧ c ≤ 11)
  · rw [if_pos g, if_pos g]
    have hP4 := hP.N.2.2.2.1
    have eH : zHpR (fun p s => if p = y.toNat ∧ s = x.toNat then c.toNat else a.hp p s) (zup M 53 (4 * x + y) c) := by
      intro p s hp hs
      by_cases e : p = y.toNat ∧ s = x.toNat
      · rw [show 4 * (s : Int) + p = 4 * x + y by omega, zup_s]
        show c = ((if p = y.toNat ∧ s = x.toNat then c.toNat else a.hp p s : Nat) : Int)
        rw [if_pos e]
        omega
      · rw [zup_d (by omega)]
        show M 53 (4 * (s : Int) + p) = ((if p = y.toNat ∧ s = x.toNat then c.toNat else a.hp p s : Nat) : Int)
        rw [if_neg e]
        exact h.H p s hp hs
    refine ⟨?_, zRl_kp (l := [53]) (zKp_up (by decide) (zKp_rf _ _)) (by decide)⟩
    exact zJR_mk (Nz := zNetR_k h.N rfl rfl rfl rfl) (Lz := zLetR_k h.L rfl) (Hz := eH) (Qz := zPrR_k h.Q rfl) (Kz := zPkR_k h.K rfl) (loz := h.lo) (Fz := zFormR_k h.F rfl rfl rfl rfl rfl) (Tz := zTpR_k h.T rfl rfl) (Shz := zShR_k h.Sh rfl rfl rfl) (Gz := zGlR_k h.G rfl) (Wz := zTraR_k h.W rfl rfl) (rgz := zRng_k h.rg rfl rfl)
  · rw [if_neg g, if_neg g]
    exact ⟨h, fun _ _ => rfl⟩
theorem zR_price {x y z w : Int} (hP : zJP a) (h : zJR a M) : zF (zSH Ln) 100 i_Md_price [zR 48, zI x, zI y, zI z, zI w] M fun r M' => r = some (zI (if (0 ≤ x ∧ x < (a.S : Int)) ∧ (0 ≤ y ∧ y < (a.P : Int)) ∧ (0 ≤ z ∧ z < (a.mv x.toNat y.toNat : Int)) ∧ 0 ≤ w ∧ w ≤ 9 then (a.pr x.toNat y.toNat z.toNat : Int) else -1)) ∧ zJR (zU_price a x y z w) M' ∧ zRl M M' := by
  refine zW_mono (F_Md_price hP.N h.N h.Q (by omega)) ?_
  rintro _ _ ⟨rfl, rfl⟩
  refine ⟨rfl, ?_⟩
  unfold zU_price
  by_cases g : (0 ≤ x ∧ x < (a.S : Int)) ∧ (0 ≤ y ∧ y < (a.P : Int)) ∧ (0 ≤ z ∧ z < (a.mv x.toNat y.toNat : Int)) ∧ 0 ≤ w ∧ w ≤ 9
  · rw [if_pos g, if_pos g]
    have hP4 := hP.N.2.2.2.1
    have hm := (hP.N.2.2.2.2.1 x.toNat y.toNat).2
    have eQ : zPrR (fun s p q => if s = x.toNat ∧ p = y.toNat ∧ q = z.toNat then w.toNat else a.pr s p q) (zup M 51 (12 * x + 3 * y + z) w) := by
      intro s p q hs hp hq
      by_cases e : s = x.toNat ∧ p = y.toNat ∧ q = z.toNat
      · rw [show 12 * (s : Int) + 3 * (p : Int) + q = 12 * x + 3 * y + z by omega, zup_s]
        show w = ((if s = x.toNat ∧ p = y.toNat ∧ q = z.toNat then w.toNat else a.pr s p q : Nat) : Int)
        rw [if_pos e]
        omega
      · rw [zup_d (by omega)]
        show M 51 (12 * (s : Int) + 3 * (p : Int) + q) = ((if s = x.toNat ∧ p = y.toNat ∧ q = z.toNat then w.toNat else a.pr s p q : Nat) : Int)
        rw [if_neg e]
        exact h.Q s p q hs hp hq
    refine ⟨?_, zRl_kp (l := [51]) (zKp_up (by decide) (zKp_rf _ _)) (by decide)⟩
    exact zJR_mk (Nz := zNetR_k h.N rfl rfl rfl rfl) (Lz := zLetR_k h.L rfl) (Hz := zHpR_k h.H rfl) (Qz := eQ) (Kz := zPkR_k h.K rfl) (loz := h.lo) (Fz := zFormR_k h.F rfl rfl rfl rfl rfl) (Tz := zTpR_k h.T rfl rfl) (Shz := zShR_k h.Sh rfl rfl rfl) (Gz := zGlR_k h.G rfl) (Wz := zTraR_k h.W rfl rfl) (rgz := zRng_k h.rg rfl rfl)
  · rw [if_neg g, if_neg g]
    exact ⟨h, fun _ _ => rfl⟩
theorem zR_choose {y x z : Int} (hP : zJP a) (h : zJR a M) : zF (zSH Ln) 100 i_Md_choose [zR 48, zI y, zI x, zI z] M fun r M' => r = some (zI (if (0 ≤ y ∧ y < (a.P : Int)) ∧ (0 ≤ x ∧ x < (a.S : Int)) ∧ 0 ≤ z ∧ z < (a.mv x.toNat y.toNat : Int) then (a.ch x.toNat y.toNat : Int) else -1)) ∧ zJR (zU_choose a y x z) M' ∧ zRl M M' := by
  refine zW_mono (F_Md_choose hP.N h.N h.K (by omega)) ?_
  rintro _ _ ⟨rfl, rfl⟩
  refine ⟨rfl, ?_⟩
  unfold zU_choose
  by_cases g : (0 ≤ y ∧ y < (a.P : Int)) ∧ (0 ≤ x ∧ x < (a.S : Int)) ∧ 0 ≤ z ∧ z < (a.mv x.toNat y.toNat : Int)
  · rw [if_pos g, if_pos g]
    have hP4 := hP.N.2.2.2.1
    have eK : zPkR (fun s p => if s = x.toNat ∧ p = y.toNat then z.toNat else a.ch s p) (zup M 54 (4 * x + y) z) := by
      intro s p hs hp
      by_cases e : s = x.toNat ∧ p = y.toNat
      · rw [show 4 * (s : Int) + p = 4 * x + y by omega, zup_s]
        show z = ((if s = x.toNat ∧ p = y.toNat then z.toNat else a.ch s p : Nat) : Int)
        rw [if_pos e]
        omega
      · rw [zup_d (by omega)]
        show M 54 (4 * (s : Int) + p) = ((if s = x.toNat ∧ p = y.toNat then z.toNat else a.ch s p : Nat) : Int)
        rw [if_neg e]
        exact h.K s p hs hp
    refine ⟨?_, zRl_kp (l := [54]) (zKp_up (by decide) (zKp_rf _ _)) (by decide)⟩
    exact zJR_mk (Nz := zNetR_k h.N rfl rfl rfl rfl) (Lz := zLetR_k h.L rfl) (Hz := zHpR_k h.H rfl) (Qz := zPrR_k h.Q rfl) (Kz := eK) (loz := h.lo) (Fz := zFormR_k h.F rfl rfl rfl rfl rfl) (Tz := zTpR_k h.T rfl rfl) (Shz := zShR_k h.Sh rfl rfl rfl) (Gz := zGlR_k h.G rfl) (Wz := zTraR_k h.W rfl rfl) (rgz := zRng_k h.rg rfl rfl)
  · rw [if_neg g, if_neg g]
    exact ⟨h, fun _ _ => rfl⟩
theorem zR_lot {y : Int} (hP : zJP a) (h : zJR a M) : zF (zSH Ln) 100 i_Md_lot [zR 48, zI y] M fun r M' => r = some (zI (if -1 ≤ y ∧ y ≤ (a.P : Int) - 1 then a.lo else -11)) ∧ zJR (zU_lot a y) M' ∧ zRl M M' := by
  refine zW_mono (F_Md_lot hP.N h.N h.lo (by omega)) ?_
  rintro _ _ ⟨rfl, rfl⟩
  refine ⟨rfl, ?_⟩
  unfold zU_lot
  by_cases g : -1 ≤ y ∧ y ≤ (a.P : Int) - 1
  · rw [if_pos g, if_pos g]
    refine ⟨?_, zRl_kp (l := [48]) (zKp_up (by decide) (zKp_rf _ _)) (by decide)⟩
    exact zJR_mk (Nz := zNetR_k h.N rfl rfl rfl rfl) (Lz := zLetR_k h.L rfl) (Hz := zHpR_k h.H rfl) (Qz := zPrR_k h.Q rfl) (Kz := zPkR_k h.K rfl) (loz := rfl) (Fz := zFormR_k h.F rfl rfl rfl rfl rfl) (Tz := zTpR_k h.T rfl rfl) (Shz := zShR_k h.Sh rfl rfl rfl) (Gz := zGlR_k h.G rfl) (Wz := zTraR_k h.W rfl rfl) (rgz := zRng_k h.rg rfl rfl)
  · rw [if_neg g, if_neg g]
    exact ⟨h, fun _ _ => rfl⟩
theorem zR_goal {y b : Int} (hP : zJP a) (h : zJR a M) : zF (zSH Ln) 100 i_Md_goal [zR 48, zI y, zI b] M fun r M' => r = some (zI (if (0 ≤ y ∧ y < (a.P : Int)) ∧ (0 ≤ b ∧ b ≤ zset a.S fun _ => true) then zset a.S (a.gl y.toNat) else -1)) ∧ zJR (zU_goal a y b) M' ∧ zRl M M' := by
  refine zW_mono (F_Md_goal hP.N h.N h.G (by omega)) ?_
  rintro _ _ ⟨rfl, rfl⟩
  refine ⟨rfl, ?_⟩
  unfold zU_goal
  by_cases g : (0 ≤ y ∧ y < (a.P : Int)) ∧ (0 ≤ b ∧ b ≤ zset a.S fun _ => true)
  · rw [if_pos g, if_pos g]
    have hS := hP.N.2.1
    have eG : zGlR a.S a.P (fun p s => if p = y.toNat then zbit b s else a.gl p s) (zup M 55 y b) := by
      intro p hp
      by_cases e : p = y.toNat
      · rw [show (p : Int) = y by omega, zup_s, show (fun p s => if p = y.toNat then zbit b s else a.gl p s) p = zbit b from funext fun s => if_pos e]
        have h2 := g.2.2
        rw [zset_all] at h2
        exact zset_of (by omega) g.2.1 (by omega)
      · rw [zup_d (by omega), show (fun p s => if p = y.toNat then zbit b s else a.gl p s) p = a.gl p from funext fun s => if_neg e]
        exact h.G p hp
    refine ⟨?_, zRl_kp (l := [55]) (zKp_up (by decide) (zKp_rf _ _)) (by decide)⟩
    exact zJR_mk (Nz := zNetR_k h.N rfl rfl rfl rfl) (Lz := zLetR_k h.L rfl) (Hz := zHpR_k h.H rfl) (Qz := zPrR_k h.Q rfl) (Kz := zPkR_k h.K rfl) (loz := h.lo) (Fz := zFormR_k h.F rfl rfl rfl rfl rfl) (Tz := zTpR_k h.T rfl rfl) (Shz := zShR_k h.Sh rfl rfl rfl) (Gz := eG) (Wz := zTraR_k h.W rfl rfl) (rgz := zRng_k h.rg rfl rfl)
  · rw [if_neg g, if_neg g]
    exact ⟨h, fun _ _ => rfl⟩
theorem zR_step {x c t : Int} (hP : zJP a) (h : zJR a M) : zF (zSH Ln) 100 i_Md_step [zR 48, zI x, zI c, zI t] M fun r M' => r = some (zI (if ((0 ≤ x ∧ x < (a.S : Int)) ∧ 0 ≤ c ∧ c < (zcnt (a.mv x.toNat) zall1 a.P : Int)) ∧ (0 ≤ t ∧ t < (a.S : Int)) then (a.tg x.toNat c.toNat : Int) else -1)) ∧ zJR (zU_step a x c t) M' ∧ zRl M M' := by
  refine zW_mono (F_Md_step hP.N h.N (by omega)) ?_
  rintro _ _ ⟨rfl, rfl⟩
  refine ⟨rfl, ?_⟩
  unfold zU_step
  by_cases g : ((0 ≤ x ∧ x < (a.S : Int)) ∧ 0 ≤ c ∧ c < (zcnt (a.mv x.toNat) zall1 a.P : Int)) ∧ (0 ≤ t ∧ t < (a.S : Int))
  · rw [if_pos g, if_pos g]
    have hP4 := hP.N.2.2.2.1
    have h81 := zcnt_81 (hP.N.2.2.2.2.1 x.toNat) zall1 hP4
    have eN : zNetR a.S a.P a.mv (fun s j => if s = x.toNat ∧ j = c.toNat then t.toNat else a.tg s j) (zup M 50 (81 * x + c) t) := by
      refine ⟨h.N.1, h.N.2.1, h.N.2.2.1, fun s j hs hj => ?_⟩
      by_cases e : s = x.toNat ∧ j = c.toNat
      · rw [show 81 * (s : Int) + j = 81 * x + c by omega, zup_s]
        show t = ((if s = x.toNat ∧ j = c.toNat then t.toNat else a.tg s j : Nat) : Int)
        rw [if_pos e]
        omega
      · rw [zup_d (by omega)]
        show M 50 (81 * (s : Int) + j) = ((if s = x.toNat ∧ j = c.toNat then t.toNat else a.tg s j : Nat) : Int)
        rw [if_neg e]
        exact h.N.2.2.2 s j hs hj
    refine ⟨?_, zRl_kp (l := [50]) (zKp_up (by decide) (zKp_rf _ _)) (by decide)⟩
    exact zJR_mk (Nz := eN) (Lz := zLetR_k h.L rfl) (Hz := zHpR_k h.H rfl) (Qz := zPrR_k h.Q rfl) (Kz := zPkR_k h.K rfl) (loz := h.lo) (Fz := zFormR_k h.F rfl rfl rfl rfl rfl) (Tz := zTpR_k h.T rfl rfl) (Shz := zShR_k h.Sh rfl rfl rfl) (Gz := zGlR_k h.G rfl) (Wz := zTraR_k h.W rfl rfl) (rgz := zRng_k h.rg rfl rfl)
  · rw [if_neg g, if_neg g]
    exact ⟨h, fun _ _ => rfl⟩
theorem zR_moves {x y m : Int} (hP : zJP a) (h : zJR a M) : zF (zSH Ln) 100 i_Md_moves [zR 48, zI x, zI y, zI m] M fun r M' => r = some (zI (if (0 ≤ x ∧ x < (a.S : Int)) ∧ (0 ≤ y ∧ y < (a.P : Int)) ∧ (1 ≤ m ∧ m ≤ 3) then (a.mv x.toNat y.toNat : Int) else -1)) ∧ zJR (zU_moves a x y m) M' ∧ zRl M M' := by
  refine zW_mono (F_Md_moves hP.N h.N (by omega)) ?_
  rintro _ _ ⟨rfl, rfl⟩
  refine ⟨rfl, ?_⟩
  unfold zU_moves
  by_cases g : (0 ≤ x ∧ x < (a.S : Int)) ∧ (0 ≤ y ∧ y < (a.P : Int)) ∧ (1 ≤ m ∧ m ≤ 3)
  · rw [if_pos g, if_pos g]
    have hP4 := hP.N.2.2.2.1
    have eN : zNetR a.S a.P (fun s p => if s = x.toNat ∧ p = y.toNat then m.toNat else a.mv s p) (fun s j => if s = x.toNat then x.toNat else a.tg s j) (zst (zst (zst (zup M 49 (4 * x + y) m) 50 (zrng (M 50) (x.toNat * 81) 81 x)) 51 (zrng (M 51) (x.toNat * 12) 12 0)) 54 (zrng (M 54) (x.toNat * 4) 4 0)) := by
      refine ⟨h.N.1, h.N.2.1, fun s p hs hp => ?_, fun s j hs hj => ?_⟩
      · show zup M 49 (4 * x + y) m 49 (4 * (s : Int) + p) = ((if s = x.toNat ∧ p = y.toNat then m.toNat else a.mv s p : Nat) : Int)
        by_cases e : s = x.toNat ∧ p = y.toNat
        · rw [show 4 * (s : Int) + p = 4 * x + y by omega, zup_s, if_pos e]
          omega
        · rw [zup_d (by omega), if_neg e]
          exact h.N.2.2.1 s p hs hp
      · show zrng (M 50) (x.toNat * 81) 81 x (81 * (s : Int) + j) = ((if s = x.toNat then x.toNat else a.tg s j : Nat) : Int)
        by_cases e : s = x.toNat
        · rw [zrng_in (by omega), if_pos e]
          omega
        · rw [zrng_out (by omega), if_neg e]
          exact h.N.2.2.2 s j hs hj
    have eK : zPkR (fun s p => if s = x.toNat then 0 else a.ch s p) (zst (zst (zst (zup M 49 (4 * x + y) m) 50 (zrng (M 50) (x.toNat * 81) 81 x)) 51 (zrng (M 51) (x.toNat * 12) 12 0)) 54 (zrng (M 54) (x.toNat * 4) 4 0)) := by
      intro s p hs hp
      show zrng (M 54) (x.toNat * 4) 4 0 (4 * (s : Int) + p) = ((if s = x.toNat then 0 else a.ch s p : Nat) : Int)
      by_cases e : s = x.toNat
      · rw [zrng_in (by omega), if_pos e]
        rfl
      · rw [zrng_out (by omega), if_neg e]
        exact h.K s p hs hp
    have eQ : zPrR (fun s p q => if s = x.toNat then 0 else a.pr s p q) (zst (zst (zst (zup M 49 (4 * x + y) m) 50 (zrng (M 50) (x.toNat * 81) 81 x)) 51 (zrng (M 51) (x.toNat * 12) 12 0)) 54 (zrng (M 54) (x.toNat * 4) 4 0)) := by
      intro s p q hs hp hq
      show zrng (M 51) (x.toNat * 12) 12 0 (12 * (s : Int) + 3 * (p : Int) + q) = ((if s = x.toNat then 0 else a.pr s p q : Nat) : Int)
      by_cases e : s = x.toNat
      · rw [zrng_in (by omega), if_pos e]
        rfl
      · rw [zrng_out (by omega), if_neg e]
        exact h.Q s p q hs hp hq
    refine ⟨?_, zRl_kp (l := [49, 50, 51, 54]) (zKp_st (by decide) (zKp_st (by decide) (zKp_st (by decide) (zKp_up (by decide) (zKp_rf _ _))))) (by decide)⟩
    exact zJR_mk (Nz := eN) (Lz := zLetR_k h.L rfl) (Hz := zHpR_k h.H rfl) (Qz := eQ) (Kz := eK) (loz := h.lo) (Fz := zFormR_k h.F rfl rfl rfl rfl rfl) (Tz := zTpR_k h.T rfl rfl) (Shz := zShR_k h.Sh rfl rfl rfl) (Gz := zGlR_k h.G rfl) (Wz := zTraR_k h.W rfl rfl) (rgz := zRng_k h.rg rfl rfl)
  · rw [if_neg g, if_neg g]
    exact ⟨h, fun _ _ => rfl⟩
theorem zR_steps {x y l i n : Int} (hP : zJP a) (h : zJR a M) (hi : i < 2147483648) (hn2 : -2147483648 ≤ n ∧ n < 2147483648) : zF (zSH Ln) 100 i_Md_steps [zR 48, zI x, zI y, zI l, zI i, zI n] M fun r M' => r = some (zI (zSpA a.S a.P a.mv a.ln a.sz a.it x y l i n)) ∧ zJR (zU_steps a x y l i n) M' ∧ zRl M M' := by
  refine zW_mono (F_Md_steps hP.N h.N h.Sh hP.sz hP.ln hi hn2 (by omega)) ?_
  rintro _ M2 ⟨rfl, h1, h2⟩
  refine ⟨rfl, ?_⟩
  unfold zU_steps
  by_cases g : zSpG a.S a.P a.mv a.ln a.sz a.it x y l i n
  · have h81 := zcnt_81 (hP.N.2.2.2.2.1 x.toNat) zall1 hP.N.2.2.2.1
    have hn := g.1.2.2
    have hts := (zfa_iff _ _).mp g.2.2
    rw [h1 g]
    by_cases g2 : 0 < n
    · rw [if_pos ⟨g, g2⟩]
      have eN : zNetR a.S a.P a.mv (fun s j => if s = x.toNat ∧ (j : Int) < n then (a.it (y * 81 + i + j)).toNat else a.tg s j) (zst M 50 (zput (M 50) (81 * x) n fun u => a.it (y * 81 + i + u))) := by
        refine ⟨h.N.1, h.N.2.1, h.N.2.2.1, fun s j hs hj => ?_⟩
        show zput (M 50) (81 * x) n (fun u => a.it (y * 81 + i + u)) (81 * (s : Int) + j) = ((if s = x.toNat ∧ (j : Int) < n then (a.it (y * 81 + i + j)).toNat else a.tg s j : Nat) : Int)
        unfold zput
        by_cases e : s = x.toNat ∧ (j : Int) < n
        · have := hts j (by omega)
          have := of_decide_eq_true this
          rw [if_pos (by omega), if_pos e, show 81 * (s : Int) + j - 81 * x = (j : Int) by omega]
          show a.it (y * 81 + i + j) = ((a.it (y * 81 + i + j)).toNat : Int)
          omega
        · rw [if_neg (by omega), if_neg e]
          exact h.N.2.2.2 s j hs hj
      refine ⟨?_, zRl_kp (l := [50]) (zKp_st (by decide) (zKp_rf _ _)) (by decide)⟩
      exact zJR_mk (Nz := eN) (Lz := zLetR_k h.L rfl) (Hz := zHpR_k h.H rfl) (Qz := zPrR_k h.Q rfl) (Kz := zPkR_k h.K rfl) (loz := h.lo) (Fz := zFormR_k h.F rfl rfl rfl rfl rfl) (Tz := zTpR_k h.T rfl rfl) (Shz := zShR_k h.Sh rfl rfl rfl) (Gz := zGlR_k h.G rfl) (Wz := zTraR_k h.W rfl rfl) (rgz := zRng_k h.rg rfl rfl)
    · rw [if_neg (fun z => g2 z.2)]
      have e0 : n = ((0 : Nat) : Int) := by omega
      subst e0
      rw [zput_0, zst_id]
      exact ⟨h, fun _ _ => rfl⟩
  · rw [if_neg (fun z => g z.1), h2 g]
    exact ⟨h, fun _ _ => rfl⟩
theorem zR_type {w n : Int} (hP : zJP a) (h : zJR a M) : zF (zSH Ln) 100 i_Md_type [zR 48, zL w, zI n] M fun r M' => r = some (zI (zTyA a.q w n)) ∧ zJR (zU_type a w n) M' ∧ zRl M M' := by
  refine zW_mono (F_Md_type h.T hP.q (by omega)) ?_
  rintro _ M2 ⟨rfl, h1, h2⟩
  refine ⟨rfl, ?_⟩
  unfold zU_type
  by_cases g : zTyG a.q w n
  · obtain ⟨hk, h8, hT⟩ := h1 g
    rw [if_pos g]
    exact ⟨zJR_mk (Nz := zNetR_k h.N (h8 0 (by decide)) (h8 1 (by decide)) (hk 49 (by decide)) (hk 50 (by decide))) (Lz := zLetR_k h.L (hk 52 (by decide))) (Hz := zHpR_k h.H (hk 53 (by decide))) (Qz := zPrR_k h.Q (hk 51 (by decide))) (Kz := zPkR_k h.K (hk 54 (by decide))) (loz := (h8 9 (by decide)).trans h.lo) (Fz := zFormR_k h.F (h8 10 (by decide)) (hk 56 (by decide)) (hk 57 (by decide)) (hk 58 (by decide)) (hk 59 (by decide))) (Tz := hT) (Shz := zShR_k h.Sh (hk 72 (by decide)) (hk 73 (by decide)) (hk 74 (by decide))) (Gz := zGlR_k h.G (hk 55 (by decide))) (Wz := zTraR_k h.W (h8 31 (by decide)) (hk 71 (by decide))) (rgz := zRng_k h.rg (hk 61 (by decide)) (hk 62 (by decide))), zRl_kp hk (by decide)⟩
  · rw [if_neg g, h2 g]
    exact ⟨h, fun _ _ => rfl⟩
theorem zR_form (hP : zJP a) (h : zJR a M) : zF (zSH Ln) 100 i_Md_form [zR 48] M fun r M' => r = some (zI (zFoR (zqT a.q a.P a.tb))) ∧ zJR (zU_form a) M' ∧ zRl M M' := by
  refine zW_mono (F_Md_form h.T hP.q h.N.2.1 hP.N.2.2.2.1 hP.tb h.rg h.F.2.2 (by omega)) ?_
  rintro _ M2 ⟨rfl, h0, hr, h1, h2⟩
  refine ⟨rfl, ?_⟩
  have hT : zTpR 0 a.tb M2 := ⟨h0, fun j hj => by omega⟩
  unfold zU_form
  cases e : zqT a.q a.P a.tb with
  | inl p =>
    obtain ⟨hk, h8⟩ := h1 p e
    exact ⟨zJR_mk (Nz := zNetR_k h.N (h8 0 (by decide) (by decide) (by decide) (by decide) (by decide)) (h8 1 (by decide) (by decide) (by decide) (by decide) (by decide)) (hk 49 (by decide)) (hk 50 (by decide))) (Lz := zLetR_k h.L (hk 52 (by decide))) (Hz := zHpR_k h.H (hk 53 (by decide))) (Qz := zPrR_k h.Q (hk 51 (by decide))) (Kz := zPkR_k h.K (hk 54 (by decide))) (loz := (h8 9 (by decide) (by decide) (by decide) (by decide) (by decide)).trans h.lo) (Fz := zFormR_k h.F (h8 10 (by decide) (by decide) (by decide) (by decide) (by decide)) (hk 56 (by decide)) (hk 57 (by decide)) (hk 58 (by decide)) (hk 59 (by decide))) (Tz := hT) (Shz := zShR_k h.Sh (hk 72 (by decide)) (hk 73 (by decide)) (hk 74 (by decide))) (Gz := zGlR_k h.G (hk 55 (by decide))) (Wz := zTraR_k h.W (h8 31 (by decide) (by decide) (by decide) (by decide) (by decide)) (hk 71 (by decide))) (rgz := hr), zRl_kp hk (by decide)⟩
  | inr l =>
    obtain ⟨hk, h8, hF⟩ := h2 l e
    exact ⟨zJR_mk (Nz := zNetR_k h.N (h8 0 (by decide) (by decide) (by decide) (by decide) (by decide) (by decide)) (h8 1 (by decide) (by decide) (by decide) (by decide) (by decide) (by decide)) (hk 49 (by decide)) (hk 50 (by decide))) (Lz := zLetR_k h.L (hk 52 (by decide))) (Hz := zHpR_k h.H (hk 53 (by decide))) (Qz := zPrR_k h.Q (hk 51 (by decide))) (Kz := zPkR_k h.K (hk 54 (by decide))) (loz := (h8 9 (by decide) (by decide) (by decide) (by decide) (by decide) (by decide)).trans h.lo) (Fz := hF) (Tz := hT) (Shz := zShR_k h.Sh (hk 72 (by decide)) (hk 73 (by decide)) (hk 74 (by decide))) (Gz := zGlR_k h.G (hk 55 (by decide))) (Wz := zTraR_k h.W (h8 31 (by decide) (by decide) (by decide) (by decide) (by decide) (by decide)) (hk 71 (by decide))) (rgz := hr), zRl_kp hk (by decide)⟩
theorem zR_walk {x y l i c : Int} (hP : zJP a) (h : zJR a M) (hi : i < 2147483648) (hn2 : -2147483648 ≤ c ∧ c < 2147483648) : zF (zSH Ln) 100 i_Md_walk [zR 48, zI x, zI y, zI l, zI i, zI c] M fun r M' => r = some (zI (zWlA a.S a.P a.mv a.tg a.lt a.kd a.lf a.rt a.gp a.ln a.sz a.it x y l i c)) ∧ zJR (zU_walk a x y l i c) M' ∧ zRl M M' := by
  refine zW_mono (F_Md_walk hP.N h.N h.L hP.lt hP.F h.F h.Sh hP.sz hP.ln hP.it hi hn2 (by omega)) ?_
  rintro _ M2 ⟨rfl, h1, h2⟩
  refine ⟨rfl, ?_⟩
  unfold zU_walk
  by_cases g : zWlG a.S (a.kd 0) a.ln a.sz a.it x y l i c
  · obtain ⟨hk, h8, hW⟩ := h1 g
    rw [if_pos g]
    exact ⟨zJR_mk (Nz := zNetR_k h.N (h8 0 (by decide)) (h8 1 (by decide)) (hk 49 (by decide)) (hk 50 (by decide))) (Lz := zLetR_k h.L (hk 52 (by decide))) (Hz := zHpR_k h.H (hk 53 (by decide))) (Qz := zPrR_k h.Q (hk 51 (by decide))) (Kz := zPkR_k h.K (hk 54 (by decide))) (loz := (h8 9 (by decide)).trans h.lo) (Fz := zFormR_k h.F (h8 10 (by decide)) (hk 56 (by decide)) (hk 57 (by decide)) (hk 58 (by decide)) (hk 59 (by decide))) (Tz := zTpR_k h.T (h8 24 (by decide)) (hk 66 (by decide))) (Shz := zShR_k h.Sh (hk 72 (by decide)) (hk 73 (by decide)) (hk 74 (by decide))) (Gz := zGlR_k h.G (hk 55 (by decide))) (Wz := hW) (rgz := zRng_k h.rg (hk 61 (by decide)) (hk 62 (by decide))), zRl_kp hk (by decide)⟩
  · rw [if_neg g, h2 g]
    exact ⟨h, fun _ _ => rfl⟩
theorem zR_settle {x : Int} (hP : zJP a) (h : zJR a M) : zF (zSH Ln) 100 i_Md_settle [zR 48, zI x] M fun r M' => r = some (zI (zSeA a.S a.P a.mv a.tg a.gl x)) ∧ zJR (zU_settle a x) M' ∧ zRl M M' := by
  refine zW_mono (F_Md_settle hP.N h.N h.G h.K (by omega)) ?_
  rintro _ M2 ⟨rfl, hk, h1, h2⟩
  refine ⟨rfl, ?_⟩
  unfold zU_settle
  by_cases g : zSeF a.S a.P a.mv a.tg a.gl x
  · have hK := h1 g
    rw [if_pos g]
    exact ⟨zJR_mk (Nz := zNetR_k h.N (by rw [hk 48 (by decide)]) (by rw [hk 48 (by decide)]) (hk 49 (by decide)) (hk 50 (by decide))) (Lz := zLetR_k h.L (hk 52 (by decide))) (Hz := zHpR_k h.H (hk 53 (by decide))) (Qz := zPrR_k h.Q (hk 51 (by decide))) (Kz := hK) (loz := by rw [hk 48 (by decide)]; exact h.lo) (Fz := zFormR_k h.F (by rw [hk 48 (by decide)]) (hk 56 (by decide)) (hk 57 (by decide)) (hk 58 (by decide)) (hk 59 (by decide))) (Tz := zTpR_k h.T (by rw [hk 48 (by decide)]) (hk 66 (by decide))) (Shz := zShR_k h.Sh (hk 72 (by decide)) (hk 73 (by decide)) (hk 74 (by decide))) (Gz := zGlR_k h.G (hk 55 (by decide))) (Wz := zTraR_k h.W (by rw [hk 48 (by decide)]) (hk 71 (by decide))) (rgz := zRng_k h.rg (hk 61 (by decide)) (hk 62 (by decide))), zRl_kp hk (by decide)⟩
  · have hK := h2 g
    rw [if_neg g]
    exact ⟨zJR_mk (Nz := zNetR_k h.N (by rw [hk 48 (by decide)]) (by rw [hk 48 (by decide)]) (hk 49 (by decide)) (hk 50 (by decide))) (Lz := zLetR_k h.L (hk 52 (by decide))) (Hz := zHpR_k h.H (hk 53 (by decide))) (Qz := zPrR_k h.Q (hk 51 (by decide))) (Kz := hK) (loz := by rw [hk 48 (by decide)]; exact h.lo) (Fz := zFormR_k h.F (by rw [hk 48 (by decide)]) (hk 56 (by decide)) (hk 57 (by decide)) (hk 58 (by decide)) (hk 59 (by decide))) (Tz := zTpR_k h.T (by rw [hk 48 (by decide)]) (hk 66 (by decide))) (Shz := zShR_k h.Sh (hk 72 (by decide)) (hk 73 (by decide)) (hk 74 (by decide))) (Gz := zGlR_k h.G (hk 55 (by decide))) (Wz := zTraR_k h.W (by rw [hk 48 (by decide)]) (hk 71 (by decide))) (rgz := zRng_k h.rg (hk 61 (by decide)) (hk 62 (by decide))), zRl_kp hk (by decide)⟩
theorem zR_net {x y : Int} (h : zJR a M) : zF (zSH Ln) 100 i_Md_net [zR 48, zI x, zI y] M fun r M' => r = some (zI (if zNwG x y then 1 else -1)) ∧ zJR (zU_net a x y) M' ∧ zRl M M' := by
  refine zW_mono (F_Md_net (by omega)) ?_
  rintro _ M2 ⟨rfl, h1, h2⟩
  refine ⟨rfl, ?_⟩
  unfold zU_net
  by_cases g : zNwG x y
  · obtain ⟨hk, hNw, h48, h55, h56⟩ := h1 g
    rw [if_pos g]
    have hF : zFormR 1 (fun _ => 0) (fun _ => 0) (fun _ => 0) (fun _ => 0) M2 := by
      refine ⟨by rw [h48]; rfl, fun k hk2 => ?_, fun k hk2 => ?_⟩
      · obtain rfl : k = 0 := by omega
        exact ⟨h56.trans rfl, fun z => absurd z (by decide), fun z => absurd z (by decide), fun z => absurd z (by decide)⟩
      · rw [hk 57 (by decide), hk 58 (by decide)]
        exact h.F.2.2 k hk2
    exact ⟨zJR_mk (Nz := hNw.1) (Lz := hNw.2.1) (Hz := fun p s h1 h2 => by show M2 53 _ = ((if s < 12 then s else 0 : Nat) : Int); rw [if_pos h2]; exact hNw.2.2.1 p s h1 h2) (Qz := hNw.2.2.2.1) (Kz := hNw.2.2.2.2) (loz := by rw [h48]; rfl) (Fz := hF) (Tz := zTpR_k h.T (by rw [h48]; rfl) (hk 66 (by decide))) (Shz := zShR_k h.Sh (hk 72 (by decide)) (hk 73 (by decide)) (hk 74 (by decide))) (Gz := fun p hp => (h55 p (by have := g.2; have : p < y.toNat := hp; omega)).trans zset_none.symm) (Wz := ⟨by rw [h48]; rfl, fun k hk2 => absurd hk2 (Nat.not_lt_zero _)⟩) (rgz := zRng_k h.rg (hk 61 (by decide)) (hk 62 (by decide))), zRl_kp hk (by decide)⟩
  · rw [if_neg g, h2 g]
    exact ⟨h, fun _ _ => rfl⟩
theorem zR_sheet {x y n : Int} (hP : zJP a) (h : zJR a M) : zF (zSH Ln) 100 i_Md_sheet [zR 48, zI x, zI y, zI n] M fun r M' => r = some (zI (zShtA x y n)) ∧ zJR (zU_sheet a x y n) M' ∧ zRl M M' := by
  refine zW_mono (F_Md_sheet  (by omega)) ?_
  rintro _ _ ⟨rfl, rfl⟩
  refine ⟨rfl, ?_⟩
  unfold zU_sheet
  by_cases g : zShtG x y n
  · rw [if_pos g, if_pos g]
    have eS : zShR (fun k => if k = x.toNat then y else a.ln k) (fun k => if k = x.toNat then n.toNat else a.sz k) (fun z => zrng a.it (x.toNat * 81) 81 0 z) (zst (zup (zup M 72 x y) 73 x n) 74 (zrng (M 74) (x.toNat * 81) 81 0)) := by
      have g0 := g.1.1.1
      have g2 := g.2
      refine ⟨fun k hk => ⟨?_, ?_⟩, fun z h1 h2 => ?_⟩
      · show zup M 72 x y 72 (k : Int) = if k = x.toNat then y else a.ln k
        by_cases e : k = x.toNat
        · rw [show (k : Int) = x by omega, zup_s, if_pos e]
        · rw [zup_d (by omega), if_neg e]
          exact (h.Sh.1 k hk).1
      · show zup (zup M 72 x y) 73 x n 73 (k : Int) = ((if k = x.toNat then n.toNat else a.sz k : Nat) : Int)
        by_cases e : k = x.toNat
        · rw [show (k : Int) = x by omega, zup_s, if_pos e]
          omega
        · rw [zup_d (by omega), if_neg e]
          exact (h.Sh.1 k hk).2
      · show zrng (M 74) (x.toNat * 81) 81 0 z = zrng a.it (x.toNat * 81) 81 0 z
        unfold zrng
        rw [h.Sh.2 z h1 h2]
    refine ⟨?_, zRl_kp (l := [72, 73, 74]) (zKp_st (by decide) (zKp_up (by decide) (zKp_up (by decide) (zKp_rf _ _)))) (by decide)⟩
    exact zJR_mk (Nz := zNetR_k h.N rfl rfl rfl rfl) (Lz := zLetR_k h.L rfl) (Hz := zHpR_k h.H rfl) (Qz := zPrR_k h.Q rfl) (Kz := zPkR_k h.K rfl) (loz := h.lo) (Fz := zFormR_k h.F rfl rfl rfl rfl rfl) (Tz := zTpR_k h.T rfl rfl) (Shz := eS) (Gz := zGlR_k h.G rfl) (Wz := zTraR_k h.W rfl rfl) (rgz := zRng_k h.rg rfl rfl)
  · rw [if_neg g, if_neg g]
    exact ⟨h, fun _ _ => rfl⟩
theorem zR_drop {x : Int} (hP : zJP a) (h : zJR a M) : zF (zSH Ln) 100 i_Md_drop [zR 48, zI x] M fun r M' => r = some (zI (zDrA a.ln a.sz x)) ∧ zJR (zU_drop a x) M' ∧ zRl M M' := by
  refine zW_mono (F_Md_drop h.Sh hP.ln (by omega)) ?_
  rintro _ _ ⟨rfl, rfl⟩
  refine ⟨rfl, ?_⟩
  unfold zU_drop
  by_cases g : zDrG a.ln x
  · rw [if_pos g, if_pos g]
    have eS : zShR (fun k => if k = x.toNat then -1 else a.ln k) a.sz a.it (zup M 72 x (-1)) := by
      have g0 := g.1
      refine ⟨fun k hk => ⟨?_, (h.Sh.1 k hk).2⟩, h.Sh.2⟩
      show zup M 72 x (-1) 72 (k : Int) = if k = x.toNat then -1 else a.ln k
      by_cases e : k = x.toNat
      · rw [show (k : Int) = x by omega, zup_s, if_pos e]
      · rw [zup_d (by omega), if_neg e]
        exact (h.Sh.1 k hk).1
    refine ⟨?_, zRl_kp (l := [72]) (zKp_up (by decide) (zKp_rf _ _)) (by decide)⟩
    exact zJR_mk (Nz := zNetR_k h.N rfl rfl rfl rfl) (Lz := zLetR_k h.L rfl) (Hz := zHpR_k h.H rfl) (Qz := zPrR_k h.Q rfl) (Kz := zPkR_k h.K rfl) (loz := h.lo) (Fz := zFormR_k h.F rfl rfl rfl rfl rfl) (Tz := zTpR_k h.T rfl rfl) (Shz := eS) (Gz := zGlR_k h.G rfl) (Wz := zTraR_k h.W rfl rfl) (rgz := zRng_k h.rg rfl rfl)
  · rw [if_neg g, if_neg g]
    exact ⟨h, fun _ _ => rfl⟩
theorem zR_item {x y i w : Int} (hP : zJP a) (h : zJR a M) (hi : i < 2147483648) : zF (zSH Ln) 100 i_Md_item [zR 48, zI x, zI y, zI i, zI w] M fun r M' => r = some (zI (zItA a.ln a.sz x y i)) ∧ zJR (zU_item a x y i w) M' ∧ zRl M M' := by
  refine zW_mono (F_Md_item h.Sh hP.sz hP.ln hi (by omega)) ?_
  rintro _ _ ⟨rfl, rfl⟩
  refine ⟨rfl, ?_⟩
  unfold zU_item
  by_cases g : zItG a.ln a.sz x y i
  · rw [if_pos g, if_pos g]
    have eS : zShR a.ln a.sz (zf a.it (x * 81 + i) (if y = 0 then zi2b w else w)) (zup M 74 (x * 81 + i) (if y = 0 then zi2b w else w)) := by
      refine ⟨h.Sh.1, fun z h1 h2 => ?_⟩
      rw [zup_row]
      unfold zf
      split
      · rfl
      · exact h.Sh.2 z h1 h2
    refine ⟨?_, zRl_kp (l := [74]) (zKp_up (by decide) (zKp_rf _ _)) (by decide)⟩
    exact zJR_mk (Nz := zNetR_k h.N rfl rfl rfl rfl) (Lz := zLetR_k h.L rfl) (Hz := zHpR_k h.H rfl) (Qz := zPrR_k h.Q rfl) (Kz := zPkR_k h.K rfl) (loz := h.lo) (Fz := zFormR_k h.F rfl rfl rfl rfl rfl) (Tz := zTpR_k h.T rfl rfl) (Shz := eS) (Gz := zGlR_k h.G rfl) (Wz := zTraR_k h.W rfl rfl) (rgz := zRng_k h.rg rfl rfl)
  · rw [if_neg g, if_neg g]
    exact ⟨h, fun _ _ => rfl⟩
theorem zR_copy {x i z j n : Int} (hP : zJP a) (h : zJR a M) (hi : i < 2147483648) (hj : j < 2147483648) (hn2 : -2147483648 ≤ n ∧ n < 2147483648) : zF (zSH Ln) 100 i_Md_copy [zR 48, zI x, zI i, zI z, zI j, zI n] M fun r M' => r = some (zI (zCyA a.ln a.sz x i z j n)) ∧ zJR (zU_copy a x i z j n) M' ∧ zRl M M' := by
  refine zW_mono (F_Md_copy h.Sh hP.sz hP.ln hi hj hn2 (by omega)) ?_
  rintro _ M2 ⟨rfl, h1, h2⟩
  refine ⟨rfl, ?_⟩
  unfold zU_copy
  by_cases g : zCyG a.ln a.sz x i z j n
  · obtain ⟨F, rfl⟩ := h1 g
    rw [if_pos g]
    have eS : zShR a.ln a.sz (zmvd a.it (x * 81 + i) (z * 81 + j) n) (zst (zst M 75 F) 74 (zmvd (M 74) (x * 81 + i) (z * 81 + j) n)) := by
      have s1 := hP.sz x.toNat (by omega)
      have s2 := hP.sz z.toNat (by omega)
      have g1 := g.1
      have g2 := g.2.2.2
      refine ⟨h.Sh.1, fun y h1 h2 => ?_⟩
      rw [zst_s]
      unfold zmvd
      split
      · exact h.Sh.2 _ (by omega) (by omega)
      · exact h.Sh.2 y h1 h2
    exact ⟨zJR_mk (Nz := zNetR_k h.N rfl rfl rfl rfl) (Lz := zLetR_k h.L rfl) (Hz := zHpR_k h.H rfl) (Qz := zPrR_k h.Q rfl) (Kz := zPkR_k h.K rfl) (loz := h.lo) (Fz := zFormR_k h.F rfl rfl rfl rfl rfl) (Tz := zTpR_k h.T rfl rfl) (Shz := eS) (Gz := zGlR_k h.G rfl) (Wz := zTraR_k h.W rfl rfl) (rgz := zRng_k h.rg rfl rfl), zRl_kp (l := [75, 74]) (zKp_st (by decide) (zKp_st (by decide) (zKp_rf _ _))) (by decide)⟩
  · rw [if_neg g, h2 g]
    exact ⟨h, fun _ _ => rfl⟩
end UQ
