/-! what the class's calls do to what it stands for: the rest -/
section UR
variable {Ln : Nat} {a : zAbs} {v : Nat} {M M' : Nat → Int → Int}
theorem zTabI_c {S P : Nat} {mv tg : Nat → Nat → Nat} (h : M 15 5 ≤ M 3 2) (e : M' 15 5 = M 15 5) (e2 : M 3 2 < M' 3 2) : zTabI S P mv tg M' := fun z => absurd z (by omega)
theorem zLawI_c {S P n : Nat} {mv tg : Nat → Nat → Nat} {lt kd lf rt gp : Nat → Nat} (h : M 19 5 ≤ M 3 2) (e : M' 19 5 = M 19 5) (e2 : M 3 2 < M' 3 2) : zLawI S P n mv tg lt kd lf rt gp M' := fun z => absurd z (by omega)
theorem zLawI_d {S P n : Nat} {mv tg : Nat → Nat → Nat} {lt kd lf rt gp : Nat → Nat} (h : M 19 6 ≤ M 10 1) (e : M' 19 6 = M 19 6) (e2 : M 10 1 < M' 10 1) : zLawI S P n mv tg lt kd lf rt gp M' := fun _ z => absurd z (by omega)
def zU_type (a : zAbs) (w n : Int) : zAbs := if zTyG a.q w n then (a.S, a.P, a.mv, a.tg, a.lt, a.hp, a.pr, a.ch, a.lo, a.n, a.kd, a.lf, a.rt, a.gp, a.q + n.toNat, zTb a.q a.tb w n.toNat, a.ln, a.sz, a.it, a.gl, a.tn, a.tr) else a
theorem zC_type {w n : Int} (hP : zJP a) (h : zJC a v M) : zF (zSH Ln) 100 i_FN_type [zR 2, zL w, zI n] M fun r M' => r = some (zI (zTyA a.q w n)) ∧ zJC (zU_type a w n) (v + 100) M' ∧ zCl M M' := by
  refine zW_mono (F_FN_type h.T hP.q (by omega)) ?_
  rintro _ M2 ⟨rfl, h1, h2⟩
  refine ⟨rfl, ?_⟩
  unfold zU_type
  by_cases g : zTyG a.q w n
  · obtain ⟨hk, -, hT⟩ := h1 g
    rw [if_pos g]
    exact ⟨zJC_mk (Nz := zNetC_k h.N (hk 3 (by decide)) (hk 4 (by decide)) (hk 7 (by decide))) (Lz := zLetC_k h.L (hk 8 (by decide))) (Hz := zHpC_k h.H (hk 9 (by decide))) (Qz := zPrC_k h.Q (hk 6 (by decide))) (Kz := zPkC_k h.K (hk 5 (by decide))) (loz := by rw [hk 36 (by decide)]; exact h.lo) (Fz := zFormC_k h.F (by rw [hk 10 (by decide)]) (hk 11 (by decide)) (hk 12 (by decide)) (hk 13 (by decide)) (hk 14 (by decide))) (Tz := hT) (Shz := zShC_k h.Sh (hk 45 (by decide)) (hk 46 (by decide)) (hk 47 (by decide))) (Gz := zGlC_k h.G (hk 42 (by decide))) (Wz := zTrC_k h.W (by rw [hk 29 (by decide)]) (hk 31 (by decide))) (tabz := zTabI_k h.tab (hk 3 (by decide)) (hk 15 (by decide)) (hk 16 (by decide)) (hk 17 (by decide))) (lawz := zLawI_k h.law (hk 3 (by decide)) (hk 10 (by decide)) (hk 19 (by decide)) (hk 20 (by decide)) (hk 21 (by decide)) (hk 16 (by decide)) (hk 17 (by decide))) (v1z := by rw [hk 3 (by decide)]; exact zvw h.v1) (v2z := by rw [hk 10 (by decide)]; exact zvw h.v2) (v3z := by rw [hk 3 (by decide), hk 15 (by decide)]; exact h.v3) (v4z := by rw [hk 3 (by decide), hk 19 (by decide)]; exact h.v4) (v5z := by rw [hk 10 (by decide), hk 19 (by decide)]; exact h.v5) (hlz := by rw [hk 1 (by decide)]; exact h.hl), zCl_kp hk (by decide)⟩
  · rw [if_neg g, h2 g]
    exact ⟨zJC_v h (by omega), fun _ _ => rfl⟩
def zU_form (a : zAbs) : zAbs := match zqT a.q a.P a.tb with
  | .inl _ => (a.S, a.P, a.mv, a.tg, a.lt, a.hp, a.pr, a.ch, a.lo, a.n, a.kd, a.lf, a.rt, a.gp, 0, a.tb, a.ln, a.sz, a.it, a.gl, a.tn, a.tr)
  | .inr l => (a.S, a.P, a.mv, a.tg, a.lt, a.hp, a.pr, a.ch, a.lo, l.length, zqd l, zql l, zqr l, zqg l, 0, a.tb, a.ln, a.sz, a.it, a.gl, a.tn, a.tr)
theorem zC_form (hP : zJP a) (h : zJC a v M) (hv : v ≤ 100000) : zF (zSH Ln) 100 i_FN_form [zR 2] M fun r M' => r = some (zI (zFoR (zqT a.q a.P a.tb))) ∧ zJC (zU_form a) (v + 100) M' ∧ zCl M M' := by
  refine zW_mono (F_FN_form h.T hP.q hP.N.2.2.2.1 h.N.2.1 hP.tb (by omega)) ?_
  rintro _ M2 ⟨rfl, h0, h1, h2⟩
  refine ⟨rfl, ?_⟩
  have hT : zTpC 0 a.tb M2 := ⟨h0, fun j hj => by omega⟩
  unfold zU_form
  cases e : zqT a.q a.P a.tb with
  | inl p =>
    have hk := h1 p e
    exact ⟨zJC_mk (Nz := zNetC_k h.N (hk 3 (by decide)) (hk 4 (by decide)) (hk 7 (by decide))) (Lz := zLetC_k h.L (hk 8 (by decide))) (Hz := zHpC_k h.H (hk 9 (by decide))) (Qz := zPrC_k h.Q (hk 6 (by decide))) (Kz := zPkC_k h.K (hk 5 (by decide))) (loz := by rw [hk 36 (by decide)]; exact h.lo) (Fz := zFormC_k h.F (by rw [hk 10 (by decide)]) (hk 11 (by decide)) (hk 12 (by decide)) (hk 13 (by decide)) (hk 14 (by decide))) (Tz := hT) (Shz := zShC_k h.Sh (hk 45 (by decide)) (hk 46 (by decide)) (hk 47 (by decide))) (Gz := zGlC_k h.G (hk 42 (by decide))) (Wz := zTrC_k h.W (by rw [hk 29 (by decide)]) (hk 31 (by decide))) (tabz := zTabI_k h.tab (hk 3 (by decide)) (hk 15 (by decide)) (hk 16 (by decide)) (hk 17 (by decide))) (lawz := zLawI_k h.law (hk 3 (by decide)) (hk 10 (by decide)) (hk 19 (by decide)) (hk 20 (by decide)) (hk 21 (by decide)) (hk 16 (by decide)) (hk 17 (by decide))) (v1z := by rw [hk 3 (by decide)]; exact zvw h.v1) (v2z := by rw [hk 10 (by decide)]; exact zvw h.v2) (v3z := by rw [hk 3 (by decide), hk 15 (by decide)]; exact h.v3) (v4z := by rw [hk 3 (by decide), hk 19 (by decide)]; exact h.v4) (v5z := by rw [hk 10 (by decide), hk 19 (by decide)]; exact h.v5) (hlz := by rw [hk 1 (by decide)]; exact h.hl), zCl_kp hk (by decide)⟩
  | inr l =>
    obtain ⟨hk, hb, hF⟩ := h2 l e
    rw [zbmp h.v2 hv] at hb
    exact ⟨zJC_mk (Nz := zNetC_k h.N (hk 3 (by decide)) (hk 4 (by decide)) (hk 7 (by decide))) (Lz := zLetC_k h.L (hk 8 (by decide))) (Hz := zHpC_k h.H (hk 9 (by decide))) (Qz := zPrC_k h.Q (hk 6 (by decide))) (Kz := zPkC_k h.K (hk 5 (by decide))) (loz := by rw [hk 36 (by decide)]; exact h.lo) (Fz := hF) (Tz := hT) (Shz := zShC_k h.Sh (hk 45 (by decide)) (hk 46 (by decide)) (hk 47 (by decide))) (Gz := zGlC_k h.G (hk 42 (by decide))) (Wz := zTrC_k h.W (by rw [hk 29 (by decide)]) (hk 31 (by decide))) (tabz := zTabI_k h.tab (hk 3 (by decide)) (hk 15 (by decide)) (hk 16 (by decide)) (hk 17 (by decide))) (lawz := zLawI_d h.v5 (by rw [hk 19 (by decide)]) (by omega)) (v1z := by rw [hk 3 (by decide)]; exact zvw h.v1) (v2z := by rw [hb]; have := h.v2; omega) (v3z := by rw [hk 3 (by decide), hk 15 (by decide)]; exact h.v3) (v4z := by rw [hk 3 (by decide), hk 19 (by decide)]; exact h.v4) (v5z := by rw [hk 19 (by decide), hb]; have := h.v5; omega) (hlz := by rw [hk 1 (by decide)]; exact h.hl), zCl_kp hk (by decide)⟩
def zU_walk (a : zAbs) (x y l i c : Int) : zAbs := if zWlG a.S (a.kd 0) a.ln a.sz a.it x y l i c then (a.S, a.P, a.mv, a.tg, a.lt, a.hp, a.pr, a.ch, a.lo, a.n, a.kd, a.lf, a.rt, a.gp, a.q, a.tb, a.ln, a.sz, a.it, a.gl, c.toNat + 1, zWkT a.mv a.tg a.P a.lt a.kd a.lf a.rt a.gp a.it (y * 81 + i) x.toNat) else a
theorem zC_walk {x y l i c : Int} (hP : zJP a) (h : zJC a v M) : zF (zSH Ln) 100 i_FN_walk [zR 2, zI x, zI y, zI l, zI i, zI c] M fun r M' => r = some (zI (zWlA a.S a.P a.mv a.tg a.lt a.kd a.lf a.rt a.gp a.ln a.sz a.it x y l i c)) ∧ zJC (zU_walk a x y l i c) (v + 100) M' ∧ zCl M M' := by
  refine zW_mono (F_FN_walk hP.N h.N h.L hP.lt hP.F h.F h.tab h.law h.Sh hP.sz hP.it (by omega)) ?_
  rintro _ M2 ⟨rfl, h1, h2⟩
  refine ⟨rfl, ?_⟩
  unfold zU_walk
  by_cases g : zWlG a.S (a.kd 0) a.ln a.sz a.it x y l i c
  · obtain ⟨M1, ho, hk, hW⟩ := h1 g
    rw [if_pos g]
    obtain ⟨h, hc⟩ := zJC_out h ho
    exact ⟨zJC_mk (Nz := zNetC_k h.N (hk 3 (by decide)) (hk 4 (by decide)) (hk 7 (by decide))) (Lz := zLetC_k h.L (hk 8 (by decide))) (Hz := zHpC_k h.H (hk 9 (by decide))) (Qz := zPrC_k h.Q (hk 6 (by decide))) (Kz := zPkC_k h.K (hk 5 (by decide))) (loz := by rw [hk 36 (by decide)]; exact h.lo) (Fz := zFormC_k h.F (by rw [hk 10 (by decide)]) (hk 11 (by decide)) (hk 12 (by decide)) (hk 13 (by decide)) (hk 14 (by decide))) (Tz := zTpC_k h.T (by rw [hk 22 (by decide)]) (hk 23 (by decide))) (Shz := zShC_k h.Sh (hk 45 (by decide)) (hk 46 (by decide)) (hk 47 (by decide))) (Gz := zGlC_k h.G (hk 42 (by decide))) (Wz := hW) (tabz := zTabI_k h.tab (hk 3 (by decide)) (hk 15 (by decide)) (hk 16 (by decide)) (hk 17 (by decide))) (lawz := zLawI_k h.law (hk 3 (by decide)) (hk 10 (by decide)) (hk 19 (by decide)) (hk 20 (by decide)) (hk 21 (by decide)) (hk 16 (by decide)) (hk 17 (by decide))) (v1z := by rw [hk 3 (by decide)]; exact zvw h.v1) (v2z := by rw [hk 10 (by decide)]; exact zvw h.v2) (v3z := by rw [hk 3 (by decide), hk 15 (by decide)]; exact h.v3) (v4z := by rw [hk 3 (by decide), hk 19 (by decide)]; exact h.v4) (v5z := by rw [hk 10 (by decide), hk 19 (by decide)]; exact h.v5) (hlz := by rw [hk 1 (by decide)]; exact h.hl), fun k hk2 => by rw [zCl_kp hk (by decide) k hk2, hc k hk2]⟩
  · rw [if_neg g, h2 g]
    exact ⟨zJC_v h (by omega), fun _ _ => rfl⟩
def zU_net (a : zAbs) (x y : Int) : zAbs := if zNwG x y then (x.toNat, y.toNat, fun _ _ => 1, fun s _ => s, fun _ => 0, fun _ s => if s < 12 then s else 0, fun _ _ _ => 0, fun _ _ => 0, -1, 1, fun _ => 0, fun _ => 0, fun _ => 0, fun _ => 0, a.q, a.tb, a.ln, a.sz, a.it, fun _ _ => false, 0, a.tr) else a
theorem zC_net {x y : Int} (h : zJC a v M) (hv : v ≤ 100000) : zF (zSH Ln) 100 i_FN_net [zR 2, zI x, zI y] M fun r M' => r = some (zI (if zNwG x y then 1 else -1)) ∧ zJC (zU_net a x y) (v + 100) M' ∧ zCl M M' := by
  refine zW_mono (F_FN_net (by omega)) ?_
  rintro _ M2 ⟨rfl, h1, h2⟩
  refine ⟨rfl, ?_⟩
  unfold zU_net
  by_cases g : zNwG x y
  · obtain ⟨hk, hNw, e3, e10, hF, e36, hG, e29⟩ := h1 g
    rw [if_pos g]
    rw [zbmp h.v1 hv] at e3
    rw [zbmp h.v2 hv] at e10
    exact ⟨zJC_mk (Nz := hNw.1) (Lz := hNw.2.1) (Hz := fun p s h1 h2 => by show M2 9 _ = ((if s < 12 then s else 0 : Nat) : Int); rw [if_pos h2]; exact hNw.2.2.1 p s h1 h2) (Qz := hNw.2.2.2.1) (Kz := hNw.2.2.2.2) (loz := e36) (Fz := hF) (Tz := zTpC_k h.T (by rw [hk 22 (by decide)]) (hk 23 (by decide))) (Shz := zShC_k h.Sh (hk 45 (by decide)) (hk 46 (by decide)) (hk 47 (by decide))) (Gz := hG) (Wz := ⟨e29, fun k hk2 => absurd hk2 (Nat.not_lt_zero _)⟩) (tabz := zTabI_c h.v3 (by rw [hk 15 (by decide)]) (by omega)) (lawz := zLawI_c h.v4 (by rw [hk 19 (by decide)]) (by omega)) (v1z := by rw [e3]; have := h.v1; omega) (v2z := by rw [e10]; have := h.v2; omega) (v3z := by rw [e3, hk 15 (by decide)]; have := h.v3; omega) (v4z := by rw [e3, hk 19 (by decide)]; have := h.v4; omega) (v5z := by rw [e10, hk 19 (by decide)]; have := h.v5; omega) (hlz := by rw [hk 1 (by decide)]; exact h.hl), zCl_kp hk (by decide)⟩
  · rw [if_neg g, h2 g]
    exact ⟨zJC_v h (by omega), fun _ _ => rfl⟩
def zU_sheet (a : zAbs) (x y n : Int) : zAbs := if zShtG x y n then (a.S, a.P, a.mv, a.tg, a.lt, a.hp, a.pr, a.ch, a.lo, a.n, a.kd, a.lf, a.rt, a.gp, a.q, a.tb, fun k => if k = x.toNat then y else a.ln k, fun k => if k = x.toNat then n.toNat else a.sz k, fun z => zrng a.it (x.toNat * 81) 81 0 z, a.gl, a.tn, a.tr) else a
theorem zC_sheet {x y n : Int} (hP : zJP a) (h : zJC a v M) (hv : v ≤ 100000) : zF (zSH Ln) 100 i_FN_sheet [zR 2, zI x, zI y, zI n] M fun r M' => r = some (zI (zShtA x y n)) ∧ zJC (zU_sheet a x y n) (v + 100) M' ∧ zCl M M' := by
  refine zW_mono (F_FN_sheet  (by omega)) ?_
  rintro _ _ ⟨rfl, rfl⟩
  refine ⟨rfl, ?_⟩
  unfold zU_sheet
  by_cases g : zShtG x y n
  · rw [if_pos g, if_pos g]
    have eS : zShC (fun k => if k = x.toNat then y else a.ln k) (fun k => if k = x.toNat then n.toNat else a.sz k) (fun z => zrng a.it (x.toNat * 81) 81 0 z) (zst (zup (zup M 45 x y) 46 x n) 47 (zrng (M 47) (x.toNat * 81) 81 0)) := by
      have g0 := g.1.1.1
      have g2 := g.2
      refine ⟨fun k hk => ⟨?_, ?_⟩, fun z h1 h2 => ?_⟩
      · show zup M 45 x y 45 (k : Int) = if k = x.toNat then y else a.ln k
        by_cases e : k = x.toNat
        · rw [show (k : Int) = x by omega, zup_s, if_pos e]
        · rw [zup_d (by omega), if_neg e]
          exact (h.Sh.1 k hk).1
      · show zup (zup M 45 x y) 46 x n 46 (k : Int) = ((if k = x.toNat then n.toNat else a.sz k : Nat) : Int)
        by_cases e : k = x.toNat
        · rw [show (k : Int) = x by omega, zup_s, if_pos e]
          omega
        · rw [zup_d (by omega), if_neg e]
          exact (h.Sh.1 k hk).2
      · show zrng (M 47) (x.toNat * 81) 81 0 z = zrng a.it (x.toNat * 81) 81 0 z
        unfold zrng
        rw [h.Sh.2 z h1 h2]
    refine ⟨?_, zCl_kp (l := [45, 46, 47]) (zKp_st (by decide) (zKp_up (by decide) (zKp_up (by decide) (zKp_rf _ _)))) (by decide)⟩
    exact zJC_mk (Nz := zNetC_kb h.N rfl rfl rfl rfl) (Lz := zLetC_k h.L rfl) (Hz := zHpC_k h.H rfl) (Qz := zPrC_k h.Q rfl) (Kz := zPkC_k h.K rfl) (loz := h.lo) (Fz := zFormC_k h.F rfl rfl rfl rfl rfl) (Tz := zTpC_k h.T rfl rfl) (Shz := eS) (Gz := zGlC_k h.G rfl) (Wz := zTrC_k h.W rfl rfl) (tabz := zTabI_k h.tab rfl rfl rfl rfl) (lawz := zLawI_k h.law rfl rfl rfl rfl rfl rfl rfl) (v1z := zvw h.v1) (v2z := zvw h.v2) (v3z := h.v3) (v4z := h.v4) (v5z := h.v5) (hlz := h.hl)
  · rw [if_neg g, if_neg g]
    exact ⟨zJC_v h (by omega), fun _ _ => rfl⟩
def zU_item (a : zAbs) (x y i w : Int) : zAbs := if zItG a.ln a.sz x y i then (a.S, a.P, a.mv, a.tg, a.lt, a.hp, a.pr, a.ch, a.lo, a.n, a.kd, a.lf, a.rt, a.gp, a.q, a.tb, a.ln, a.sz, zf a.it (x * 81 + i) (if y = 0 then zi2b w else w), a.gl, a.tn, a.tr) else a
theorem zC_item {x y i w : Int} (hP : zJP a) (h : zJC a v M) (hv : v ≤ 100000) : zF (zSH Ln) 100 i_FN_item [zR 2, zI x, zI y, zI i, zI w] M fun r M' => r = some (zI (zItA a.ln a.sz x y i)) ∧ zJC (zU_item a x y i w) (v + 100) M' ∧ zCl M M' := by
  refine zW_mono (F_FN_item h.Sh hP.sz (by omega)) ?_
  rintro _ _ ⟨rfl, rfl⟩
  refine ⟨rfl, ?_⟩
  unfold zU_item
  by_cases g : zItG a.ln a.sz x y i
  · rw [if_pos g, if_pos g]
    have eS : zShC a.ln a.sz (zf a.it (x * 81 + i) (if y = 0 then zi2b w else w)) (zup M 47 (x * 81 + i) (if y = 0 then zi2b w else w)) := by
      refine ⟨h.Sh.1, fun z h1 h2 => ?_⟩
      rw [zup_row]
      unfold zf
      split
      · rfl
      · exact h.Sh.2 z h1 h2
    refine ⟨?_, zCl_kp (l := [47]) (zKp_up (by decide) (zKp_rf _ _)) (by decide)⟩
    exact zJC_mk (Nz := zNetC_kb h.N rfl rfl rfl rfl) (Lz := zLetC_k h.L rfl) (Hz := zHpC_k h.H rfl) (Qz := zPrC_k h.Q rfl) (Kz := zPkC_k h.K rfl) (loz := h.lo) (Fz := zFormC_k h.F rfl rfl rfl rfl rfl) (Tz := zTpC_k h.T rfl rfl) (Shz := eS) (Gz := zGlC_k h.G rfl) (Wz := zTrC_k h.W rfl rfl) (tabz := zTabI_k h.tab rfl rfl rfl rfl) (lawz := zLawI_k h.law rfl rfl rfl rfl rfl rfl rfl) (v1z := zvw h.v1) (v2z := zvw h.v2) (v3z := h.v3) (v4z := h.v4) (v5z := h.v5) (hlz := h.hl)
  · rw [if_neg g, if_neg g]
    exact ⟨zJC_v h (by omega), fun _ _ => rfl⟩
end UR
