/-! what the class's calls do to what it stands for -/
section UP
variable {Ln : Nat} {a : zAbs} {v : Nat} {M M' : Nat → Int → Int}
theorem zNetC_kb {S P : Nat} {mv tg : Nat → Nat → Nat} (h : zNetC S P mv tg M) (e0 : M' 3 0 = M 3 0) (e1 : M' 3 1 = M 3 1) (e4 : M' 4 = M 4) (e7 : M' 7 = M 7) : zNetC S P mv tg M' := ⟨by rw [e0]; exact h.1, by rw [e1]; exact h.2.1, by rw [e4]; exact h.2.2.1, by rw [e7]; exact h.2.2.2⟩
theorem zvw {x : Int} (h : 0 ≤ x ∧ x ≤ (v : Int)) : 0 ≤ x ∧ x ≤ ((v + 100 : Nat) : Int) := ⟨h.1, by omega⟩
theorem zbmp {x : Int} (h : 0 ≤ x ∧ x ≤ (v : Int)) (hv : v ≤ 100000) : zadd x 1 = x + 1 := zadd_eq (by omega) (by omega)
theorem zvb {x : Int} (h : 0 ≤ x ∧ x ≤ (v : Int)) (hv : v ≤ 100000) : 0 ≤ zadd x 1 ∧ zadd x 1 ≤ ((v + 100 : Nat) : Int) := by
  rw [zbmp h hv]
  omega
theorem zvl {x y : Int} (h : y ≤ x) (h1 : 0 ≤ x ∧ x ≤ (v : Int)) (hv : v ≤ 100000) : y ≤ zadd x 1 := by
  rw [zbmp h1 hv]
  omega
theorem zTabI_b {S P : Nat} {mv tg : Nat → Nat → Nat} (h : M 15 5 ≤ M 3 2) (e : M' 15 5 = M 15 5) (e2 : M' 3 2 = M 3 2 + 1) : zTabI S P mv tg M' := fun z => absurd z (by omega)
theorem zLawI_b {S P n : Nat} {mv tg : Nat → Nat → Nat} {lt kd lf rt gp : Nat → Nat} (h : M 19 5 ≤ M 3 2) (e : M' 19 5 = M 19 5) (e2 : M' 3 2 = M 3 2 + 1) : zLawI S P n mv tg lt kd lf rt gp M' := fun z => absurd z (by omega)
def zU_letters (a : zAbs) (x b : Int) : zAbs := if (0 ≤ x ∧ x < (a.S : Int)) ∧ (0 ≤ b ∧ b ≤ 255) then (a.S, a.P, a.mv, a.tg, fun s => if s = x.toNat then b.toNat else a.lt s, a.hp, a.pr, a.ch, a.lo, a.n, a.kd, a.lf, a.rt, a.gp, a.q, a.tb, a.ln, a.sz, a.it, a.gl, a.tn, a.tr) else a
theorem zC_letters {x b : Int} (hP : zJP a) (h : zJC a v M) (hv : v ≤ 100000) : zF (zSH Ln) 100 i_FN_letters [zR 2, zI x, zI b] M fun r M' => r = some (zI (if (0 ≤ x ∧ x < (a.S : Int)) ∧ (0 ≤ b ∧ b ≤ 255) then (a.lt x.toNat : Int) else -1)) ∧ zJC (zU_letters a x b) (v + 100) M' ∧ zCl M M' := by
  refine zW_mono (F_FN_letters hP.N h.N h.L (by omega)) ?_
  rintro _ _ ⟨rfl, rfl⟩
  refine ⟨rfl, ?_⟩
  unfold zU_letters
  by_cases g : (0 ≤ x ∧ x < (a.S : Int)) ∧ (0 ≤ b ∧ b ≤ 255)
  · rw [if_pos g, if_pos g]
    have eL : zLetC (fun s => if s = x.toNat then b.toNat else a.lt s) (zup (zup M 3 2 (zadd (M 3 2) 1)) 8 x b) := by
      intro s hs
      by_cases e : s = x.toNat
      · rw [show (s : Int) = x by omega, zup_s]
        show b = ((if s = x.toNat then b.toNat else a.lt s : Nat) : Int)
        rw [if_pos e]
        omega
      · rw [zup_d (by omega)]
        show M 8 (s : Int) = ((if s = x.toNat then b.toNat else a.lt s : Nat) : Int)
        rw [if_neg e]
        exact h.L s hs
    refine ⟨?_, zCl_kp (l := [3, 8]) (zKp_up (by decide) (zKp_up (by decide) (zKp_rf _ _))) (by decide)⟩
    exact zJC_mk (Nz := zNetC_kb h.N rfl rfl rfl rfl) (Lz := eL) (Hz := zHpC_k h.H rfl) (Qz := zPrC_k h.Q rfl) (Kz := zPkC_k h.K rfl) (loz := h.lo) (Fz := zFormC_k h.F rfl rfl rfl rfl rfl) (Tz := zTpC_k h.T rfl rfl) (Shz := zShC_k h.Sh rfl rfl rfl) (Gz := zGlC_k h.G rfl) (Wz := zTrC_k h.W rfl rfl) (tabz := zTabI_b h.v3 rfl (zbmp h.v1 hv)) (lawz := zLawI_b h.v4 rfl (zbmp h.v1 hv)) (v1z := zvb h.v1 hv) (v2z := zvw h.v2) (v3z := zvl h.v3 h.v1 hv) (v4z := zvl h.v4 h.v1 hv) (v5z := h.v5) (hlz := h.hl)
  · rw [if_neg g, if_neg g]
    exact ⟨zJC_v h (by omega), fun _ _ => rfl⟩
def zU_price (a : zAbs) (x y z w : Int) : zAbs := if (0 ≤ x ∧ x < (a.S : Int)) ∧ (0 ≤ y ∧ y < (a.P : Int)) ∧ (0 ≤ z ∧ z < (a.mv x.toNat y.toNat : Int)) ∧ 0 ≤ w ∧ w ≤ 9 then (a.S, a.P, a.mv, a.tg, a.lt, a.hp, fun s p q => if s = x.toNat ∧ p = y.toNat ∧ q = z.toNat then w.toNat else a.pr s p q, a.ch, a.lo, a.n, a.kd, a.lf, a.rt, a.gp, a.q, a.tb, a.ln, a.sz, a.it, a.gl, a.tn, a.tr) else a
theorem zC_price {x y z w : Int} (hP : zJP a) (h : zJC a v M) (hv : v ≤ 100000) : zF (zSH Ln) 100 i_FN_price [zR 2, zI x, zI y, zI z, zI w] M fun r M' => r = some (zI (if (0 ≤ x ∧ x < (a.S : Int)) ∧ (0 ≤ y ∧ y < (a.P : Int)) ∧ (0 ≤ z ∧ z < (a.mv x.toNat y.toNat : Int)) ∧ 0 ≤ w ∧ w ≤ 9 then (a.pr x.toNat y.toNat z.toNat : Int) else -1)) ∧ zJC (zU_price a x y z w) (v + 100) M' ∧ zCl M M' := by
  refine zW_mono (F_FN_price hP.N h.N h.Q (by omega)) ?_
  rintro _ _ ⟨rfl, rfl⟩
  refine ⟨rfl, ?_⟩
  unfold zU_price
  by_cases g : (0 ≤ x ∧ x < (a.S : Int)) ∧ (0 ≤ y ∧ y < (a.P : Int)) ∧ (0 ≤ z ∧ z < (a.mv x.toNat y.toNat : Int)) ∧ 0 ≤ w ∧ w ≤ 9
  · rw [if_pos g, if_pos g]
    have hS := hP.N.2.1
    have hP4 := hP.N.2.2.2.1
    have hm := (hP.N.2.2.2.2.1 x.toNat y.toNat).2
    have eQ : zPrC (fun s p q => if s = x.toNat ∧ p = y.toNat ∧ q = z.toNat then w.toNat else a.pr s p q) (zup M 6 ((x * 4 + y) * 3 + z) w) := by
      intro s p q hs hp hq
      by_cases e : s = x.toNat ∧ p = y.toNat ∧ q = z.toNat
      · rw [show ((s : Int) * 4 + p) * 3 + q = (x * 4 + y) * 3 + z by omega, zup_s]
        show w = ((if s = x.toNat ∧ p = y.toNat ∧ q = z.toNat then w.toNat else a.pr s p q : Nat) : Int)
        rw [if_pos e]
        omega
      · rw [zup_d (by omega)]
        show M 6 (((s : Int) * 4 + p) * 3 + q) = ((if s = x.toNat ∧ p = y.toNat ∧ q = z.toNat then w.toNat else a.pr s p q : Nat) : Int)
        rw [if_neg e]
        exact h.Q s p q hs hp hq
    refine ⟨?_, zCl_kp (l := [6]) (zKp_up (by decide) (zKp_rf _ _)) (by decide)⟩
    exact zJC_mk (Nz := zNetC_kb h.N rfl rfl rfl rfl) (Lz := zLetC_k h.L rfl) (Hz := zHpC_k h.H rfl) (Qz := eQ) (Kz := zPkC_k h.K rfl) (loz := h.lo) (Fz := zFormC_k h.F rfl rfl rfl rfl rfl) (Tz := zTpC_k h.T rfl rfl) (Shz := zShC_k h.Sh rfl rfl rfl) (Gz := zGlC_k h.G rfl) (Wz := zTrC_k h.W rfl rfl) (tabz := zTabI_k h.tab rfl rfl rfl rfl) (lawz := zLawI_k h.law rfl rfl rfl rfl rfl rfl rfl) (v1z := zvw h.v1) (v2z := zvw h.v2) (v3z := h.v3) (v4z := h.v4) (v5z := h.v5) (hlz := h.hl)
  · rw [if_neg g, if_neg g]
    exact ⟨zJC_v h (by omega), fun _ _ => rfl⟩
def zU_step (a : zAbs) (x c t : Int) : zAbs := if ((0 ≤ x ∧ x < (a.S : Int)) ∧ 0 ≤ c ∧ c < (zcnt (a.mv x.toNat) zall1 a.P : Int)) ∧ (0 ≤ t ∧ t < (a.S : Int)) then (a.S, a.P, a.mv, fun s j => if s = x.toNat ∧ j = c.toNat then t.toNat else a.tg s j, a.lt, a.hp, a.pr, a.ch, a.lo, a.n, a.kd, a.lf, a.rt, a.gp, a.q, a.tb, a.ln, a.sz, a.it, a.gl, a.tn, a.tr) else a
theorem zC_step {x c t : Int} (hP : zJP a) (h : zJC a v M) (hv : v ≤ 100000) : zF (zSH Ln) 100 i_FN_step [zR 2, zI x, zI c, zI t] M fun r M' => r = some (zI (if ((0 ≤ x ∧ x < (a.S : Int)) ∧ 0 ≤ c ∧ c < (zcnt (a.mv x.toNat) zall1 a.P : Int)) ∧ (0 ≤ t ∧ t < (a.S : Int)) then (a.tg x.toNat c.toNat : Int) else -1)) ∧ zJC (zU_step a x c t) (v + 100) M' ∧ zCl M M' := by
  refine zW_mono (F_FN_step hP.N h.N (by omega)) ?_
  rintro _ _ ⟨rfl, rfl⟩
  refine ⟨rfl, ?_⟩
  unfold zU_step
  by_cases g : ((0 ≤ x ∧ x < (a.S : Int)) ∧ 0 ≤ c ∧ c < (zcnt (a.mv x.toNat) zall1 a.P : Int)) ∧ (0 ≤ t ∧ t < (a.S : Int))
  · rw [if_pos g, if_pos g]
    have hS := hP.N.2.1
    have hP4 := hP.N.2.2.2.1
    have h81 := zcnt_81 (hP.N.2.2.2.2.1 x.toNat) zall1 hP4
    have eN : zNetC a.S a.P a.mv (fun s j => if s = x.toNat ∧ j = c.toNat then t.toNat else a.tg s j) (zup (zup M 3 2 (zadd (M 3 2) 1)) 7 (x * 81 + c) t) := by
      refine ⟨h.N.1, h.N.2.1, h.N.2.2.1, fun s j hs hj => ?_⟩
      by_cases e : s = x.toNat ∧ j = c.toNat
      · rw [show (s : Int) * 81 + j = x * 81 + c by omega, zup_s]
        show t = ((if s = x.toNat ∧ j = c.toNat then t.toNat else a.tg s j : Nat) : Int)
        rw [if_pos e]
        omega
      · rw [zup_d (by omega)]
        show M 7 ((s : Int) * 81 + j) = ((if s = x.toNat ∧ j = c.toNat then t.toNat else a.tg s j : Nat) : Int)
        rw [if_neg e]
        exact h.N.2.2.2 s j hs hj
    refine ⟨?_, zCl_kp (l := [3, 7]) (zKp_up (by decide) (zKp_up (by decide) (zKp_rf _ _))) (by decide)⟩
    exact zJC_mk (Nz := eN) (Lz := zLetC_k h.L rfl) (Hz := zHpC_k h.H rfl) (Qz := zPrC_k h.Q rfl) (Kz := zPkC_k h.K rfl) (loz := h.lo) (Fz := zFormC_k h.F rfl rfl rfl rfl rfl) (Tz := zTpC_k h.T rfl rfl) (Shz := zShC_k h.Sh rfl rfl rfl) (Gz := zGlC_k h.G rfl) (Wz := zTrC_k h.W rfl rfl) (tabz := zTabI_b h.v3 rfl (zbmp h.v1 hv)) (lawz := zLawI_b h.v4 rfl (zbmp h.v1 hv)) (v1z := zvb h.v1 hv) (v2z := zvw h.v2) (v3z := zvl h.v3 h.v1 hv) (v4z := zvl h.v4 h.v1 hv) (v5z := h.v5) (hlz := h.hl)
  · rw [if_neg g, if_neg g]
    exact ⟨zJC_v h (by omega), fun _ _ => rfl⟩
def zU_moves (a : zAbs) (x y m : Int) : zAbs := if (0 ≤ x ∧ x < (a.S : Int)) ∧ (0 ≤ y ∧ y < (a.P : Int)) ∧ (1 ≤ m ∧ m ≤ 3) then (a.S, a.P, fun s p => if s = x.toNat ∧ p = y.toNat then m.toNat else a.mv s p, fun s j => if s = x.toNat then x.toNat else a.tg s j, a.lt, a.hp, fun s p q => if s = x.toNat then 0 else a.pr s p q, fun s p => if s = x.toNat then 0 else a.ch s p, a.lo, a.n, a.kd, a.lf, a.rt, a.gp, a.q, a.tb, a.ln, a.sz, a.it, a.gl, a.tn, a.tr) else a
theorem zC_moves {x y m : Int} (hP : zJP a) (h : zJC a v M) (hv : v ≤ 100000) : zF (zSH Ln) 100 i_FN_moves [zR 2, zI x, zI y, zI m] M fun r M' => r = some (zI (if (0 ≤ x ∧ x < (a.S : Int)) ∧ (0 ≤ y ∧ y < (a.P : Int)) ∧ (1 ≤ m ∧ m ≤ 3) then (a.mv x.toNat y.toNat : Int) else -1)) ∧ zJC (zU_moves a x y m) (v + 100) M' ∧ zCl M M' := by
  refine zW_mono (F_FN_moves hP.N h.N (by omega)) ?_
  rintro _ _ ⟨rfl, rfl⟩
  refine ⟨rfl, ?_⟩
  unfold zU_moves
  by_cases g : (0 ≤ x ∧ x < (a.S : Int)) ∧ (0 ≤ y ∧ y < (a.P : Int)) ∧ (1 ≤ m ∧ m ≤ 3)
  · rw [if_pos g, if_pos g]
    have hS := hP.N.2.1
    have hP4 := hP.N.2.2.2.1
    have eN : zNetC a.S a.P (fun s p => if s = x.toNat ∧ p = y.toNat then m.toNat else a.mv s p) (fun s j => if s = x.toNat then x.toNat else a.tg s j) (zst (zst (zst (zup (zup M 3 2 (zadd (M 3 2) 1)) 4 (x * 4 + y) m) 7 (zrng (M 7) (x.toNat * 81) 81 x)) 5 (zrng (M 5) (x.toNat * 4) 4 0)) 6 (zrng (M 6) (x.toNat * 12) 12 0)) := by
      refine ⟨h.N.1, h.N.2.1, fun s p hs hp => ?_, fun s j hs hj => ?_⟩
      · show zup (zup M 3 2 (zadd (M 3 2) 1)) 4 (x * 4 + y) m 4 ((s : Int) * 4 + p) = ((if s = x.toNat ∧ p = y.toNat then m.toNat else a.mv s p : Nat) : Int)
        by_cases e : s = x.toNat ∧ p = y.toNat
        · rw [show (s : Int) * 4 + p = x * 4 + y by omega, zup_s, if_pos e]
          omega
        · rw [zup_d (by omega), if_neg e]
          exact h.N.2.2.1 s p hs hp
      · show zrng (M 7) (x.toNat * 81) 81 x ((s : Int) * 81 + j) = ((if s = x.toNat then x.toNat else a.tg s j : Nat) : Int)
        by_cases e : s = x.toNat
        · rw [zrng_in (by omega), if_pos e]
          omega
        · rw [zrng_out (by omega), if_neg e]
          exact h.N.2.2.2 s j hs hj
    have eK : zPkC 5 (fun s p => if s = x.toNat then 0 else a.ch s p) (zst (zst (zst (zup (zup M 3 2 (zadd (M 3 2) 1)) 4 (x * 4 + y) m) 7 (zrng (M 7) (x.toNat * 81) 81 x)) 5 (zrng (M 5) (x.toNat * 4) 4 0)) 6 (zrng (M 6) (x.toNat * 12) 12 0)) := by
      intro s p hs hp
      show zrng (M 5) (x.toNat * 4) 4 0 ((s : Int) * 4 + p) = ((if s = x.toNat then 0 else a.ch s p : Nat) : Int)
      by_cases e : s = x.toNat
      · rw [zrng_in (by omega), if_pos e]
        rfl
      · rw [zrng_out (by omega), if_neg e]
        exact h.K s p hs hp
    have eQ : zPrC (fun s p q => if s = x.toNat then 0 else a.pr s p q) (zst (zst (zst (zup (zup M 3 2 (zadd (M 3 2) 1)) 4 (x * 4 + y) m) 7 (zrng (M 7) (x.toNat * 81) 81 x)) 5 (zrng (M 5) (x.toNat * 4) 4 0)) 6 (zrng (M 6) (x.toNat * 12) 12 0)) := by
      intro s p q hs hp hq
      show zrng (M 6) (x.toNat * 12) 12 0 (((s : Int) * 4 + p) * 3 + q) = ((if s = x.toNat then 0 else a.pr s p q : Nat) : Int)
      by_cases e : s = x.toNat
      · rw [zrng_in (by omega), if_pos e]
        rfl
      · rw [zrng_out (by omega), if_neg e]
        exact h.Q s p q hs hp hq
    refine ⟨?_, zCl_kp (l := [3, 4, 7, 5, 6]) (zKp_st (by decide) (zKp_st (by decide) (zKp_st (by decide) (zKp_up (by decide) (zKp_up (by decide) (zKp_rf _ _)))))) (by decide)⟩
    exact zJC_mk (Nz := eN) (Lz := zLetC_k h.L rfl) (Hz := zHpC_k h.H rfl) (Qz := eQ) (Kz := eK) (loz := h.lo) (Fz := zFormC_k h.F rfl rfl rfl rfl rfl) (Tz := zTpC_k h.T rfl rfl) (Shz := zShC_k h.Sh rfl rfl rfl) (Gz := zGlC_k h.G rfl) (Wz := zTrC_k h.W rfl rfl) (tabz := zTabI_b h.v3 rfl (zbmp h.v1 hv)) (lawz := zLawI_b h.v4 rfl (zbmp h.v1 hv)) (v1z := zvb h.v1 hv) (v2z := zvw h.v2) (v3z := zvl h.v3 h.v1 hv) (v4z := zvl h.v4 h.v1 hv) (v5z := h.v5) (hlz := h.hl)
  · rw [if_neg g, if_neg g]
    exact ⟨zJC_v h (by omega), fun _ _ => rfl⟩
end UP
