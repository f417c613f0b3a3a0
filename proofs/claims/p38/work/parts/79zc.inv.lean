/-! what both sides stand for, between two calls -/
abbrev zAbs : Type := Nat × Nat × (Nat → Nat → Nat) × (Nat → Nat → Nat) × (Nat → Nat) × (Nat → Nat → Nat) × (Nat → Nat → Nat → Nat) × (Nat → Nat → Nat) × Int × Nat × (Nat → Nat) × (Nat → Nat) × (Nat → Nat) × (Nat → Nat) × Nat × (Nat → Nat) × (Nat → Int) × (Nat → Nat) × (Int → Int) × (Nat → Nat → Bool) × Nat × (Nat → Nat)
abbrev zAbs.S (a : zAbs) : Nat := a.1
abbrev zAbs.P (a : zAbs) : Nat := a.2.1
abbrev zAbs.mv (a : zAbs) : Nat → Nat → Nat := a.2.2.1
abbrev zAbs.tg (a : zAbs) : Nat → Nat → Nat := a.2.2.2.1
abbrev zAbs.lt (a : zAbs) : Nat → Nat := a.2.2.2.2.1
abbrev zAbs.hp (a : zAbs) : Nat → Nat → Nat := a.2.2.2.2.2.1
abbrev zAbs.pr (a : zAbs) : Nat → Nat → Nat → Nat := a.2.2.2.2.2.2.1
abbrev zAbs.ch (a : zAbs) : Nat → Nat → Nat := a.2.2.2.2.2.2.2.1
abbrev zAbs.lo (a : zAbs) : Int := a.2.2.2.2.2.2.2.2.1
abbrev zAbs.n (a : zAbs) : Nat := a.2.2.2.2.2.2.2.2.2.1
abbrev zAbs.kd (a : zAbs) : Nat → Nat := a.2.2.2.2.2.2.2.2.2.2.1
abbrev zAbs.lf (a : zAbs) : Nat → Nat := a.2.2.2.2.2.2.2.2.2.2.2.1
abbrev zAbs.rt (a : zAbs) : Nat → Nat := a.2.2.2.2.2.2.2.2.2.2.2.2.1
abbrev zAbs.gp (a : zAbs) : Nat → Nat := a.2.2.2.2.2.2.2.2.2.2.2.2.2.1
abbrev zAbs.q (a : zAbs) : Nat := a.2.2.2.2.2.2.2.2.2.2.2.2.2.2.1
abbrev zAbs.tb (a : zAbs) : Nat → Nat := a.2.2.2.2.2.2.2.2.2.2.2.2.2.2.2.1
abbrev zAbs.ln (a : zAbs) : Nat → Int := a.2.2.2.2.2.2.2.2.2.2.2.2.2.2.2.2.1
abbrev zAbs.sz (a : zAbs) : Nat → Nat := a.2.2.2.2.2.2.2.2.2.2.2.2.2.2.2.2.2.1
abbrev zAbs.it (a : zAbs) : Int → Int := a.2.2.2.2.2.2.2.2.2.2.2.2.2.2.2.2.2.2.1
abbrev zAbs.gl (a : zAbs) : Nat → Nat → Bool := a.2.2.2.2.2.2.2.2.2.2.2.2.2.2.2.2.2.2.2.1
abbrev zAbs.tn (a : zAbs) : Nat := a.2.2.2.2.2.2.2.2.2.2.2.2.2.2.2.2.2.2.2.2.1
abbrev zAbs.tr (a : zAbs) : Nat → Nat := a.2.2.2.2.2.2.2.2.2.2.2.2.2.2.2.2.2.2.2.2.2
def zJP (a : zAbs) : Prop := (zNet a.S a.P a.mv a.tg) ∧ (∀ s, a.lt s < 256) ∧ (∀ p s, a.hp p s < 12) ∧ (∀ s p x, a.pr s p x ≤ 9) ∧ (∀ s p, a.ch s p < a.mv s p) ∧ (-1 ≤ a.lo ∧ a.lo < a.P) ∧ (zForm a.P a.n a.kd a.lf a.rt a.gp) ∧ (a.q ≤ 100) ∧ (∀ j, j < a.q → 32 ≤ a.tb j ∧ a.tb j ≤ 126) ∧ (∀ k, k < 4 → a.sz k ≤ 81) ∧ (∀ k, k < 4 → -1 ≤ a.ln k) ∧ (∀ x, a.it x < 2147483648) ∧ (a.tn ≤ 41)
theorem zJP.N {a : zAbs} (h : zJP a) : zNet a.S a.P a.mv a.tg := h.1
theorem zJP.lt {a : zAbs} (h : zJP a) : ∀ s, a.lt s < 256 := h.2.1
theorem zJP.hp {a : zAbs} (h : zJP a) : ∀ p s, a.hp p s < 12 := h.2.2.1
theorem zJP.pr {a : zAbs} (h : zJP a) : ∀ s p x, a.pr s p x ≤ 9 := h.2.2.2.1
theorem zJP.ch {a : zAbs} (h : zJP a) : ∀ s p, a.ch s p < a.mv s p := h.2.2.2.2.1
theorem zJP.lo {a : zAbs} (h : zJP a) : -1 ≤ a.lo ∧ a.lo < a.P := h.2.2.2.2.2.1
theorem zJP.F {a : zAbs} (h : zJP a) : zForm a.P a.n a.kd a.lf a.rt a.gp := h.2.2.2.2.2.2.1
theorem zJP.q {a : zAbs} (h : zJP a) : a.q ≤ 100 := h.2.2.2.2.2.2.2.1
theorem zJP.tb {a : zAbs} (h : zJP a) : ∀ j, j < a.q → 32 ≤ a.tb j ∧ a.tb j ≤ 126 := h.2.2.2.2.2.2.2.2.1
theorem zJP.sz {a : zAbs} (h : zJP a) : ∀ k, k < 4 → a.sz k ≤ 81 := h.2.2.2.2.2.2.2.2.2.1
theorem zJP.ln {a : zAbs} (h : zJP a) : ∀ k, k < 4 → -1 ≤ a.ln k := h.2.2.2.2.2.2.2.2.2.2.1
theorem zJP.it {a : zAbs} (h : zJP a) : ∀ x, a.it x < 2147483648 := h.2.2.2.2.2.2.2.2.2.2.2.1
theorem zJP.tn {a : zAbs} (h : zJP a) : a.tn ≤ 41 := h.2.2.2.2.2.2.2.2.2.2.2.2
theorem zJP_mk {a : zAbs} (Nz : zNet a.S a.P a.mv a.tg) (ltz : ∀ s, a.lt s < 256) (hpz : ∀ p s, a.hp p s < 12) (prz : ∀ s p x, a.pr s p x ≤ 9) (chz : ∀ s p, a.ch s p < a.mv s p) (loz : -1 ≤ a.lo ∧ a.lo < a.P) (Fz : zForm a.P a.n a.kd a.lf a.rt a.gp) (qz : a.q ≤ 100) (tbz : ∀ j, j < a.q → 32 ≤ a.tb j ∧ a.tb j ≤ 126) (szz : ∀ k, k < 4 → a.sz k ≤ 81) (lnz : ∀ k, k < 4 → -1 ≤ a.ln k) (itz : ∀ x, a.it x < 2147483648) (tnz : a.tn ≤ 41) : zJP a := ⟨Nz, ltz, hpz, prz, chz, loz, Fz, qz, tbz, szz, lnz, itz, tnz⟩
def zJC (a : zAbs) (v : Nat) (M : Nat → Int → Int) : Prop := (zNetC a.S a.P a.mv a.tg M) ∧ (zLetC a.lt M) ∧ (zHpC a.hp M) ∧ (zPrC a.pr M) ∧ (zPkC 5 a.ch M) ∧ (M 36 1 = a.lo) ∧ (zFormC a.n a.kd a.lf a.rt a.gp M) ∧ (zTpC a.q a.tb M) ∧ (zShC a.ln a.sz a.it M) ∧ (zGlC a.S a.P a.gl M) ∧ (zTrC a.tn a.tr M) ∧ (zTabI a.S a.P a.mv a.tg M) ∧ (zLawI a.S a.P a.n a.mv a.tg a.lt a.kd a.lf a.rt a.gp M) ∧ (0 ≤ M 3 2 ∧ M 3 2 ≤ v) ∧ (0 ≤ M 10 1 ∧ M 10 1 ≤ v) ∧ (M 15 5 ≤ M 3 2) ∧ (M 19 5 ≤ M 3 2) ∧ (M 19 6 ≤ M 10 1) ∧ (∀ i : Nat, i < 16 → M 1 (i : Int) = M 1 (i : Int))
theorem zJC.N {a : zAbs} {v : Nat} {M : Nat → Int → Int} (h : zJC a v M) : zNetC a.S a.P a.mv a.tg M := h.1
theorem zJC.L {a : zAbs} {v : Nat} {M : Nat → Int → Int} (h : zJC a v M) : zLetC a.lt M := h.2.1
theorem zJC.H {a : zAbs} {v : Nat} {M : Nat → Int → Int} (h : zJC a v M) : zHpC a.hp M := h.2.2.1
theorem zJC.Q {a : zAbs} {v : Nat} {M : Nat → Int → Int} (h : zJC a v M) : zPrC a.pr M := h.2.2.2.1
theorem zJC.K {a : zAbs} {v : Nat} {M : Nat → Int → Int} (h : zJC a v M) : zPkC 5 a.ch M := h.2.2.2.2.1
theorem zJC.lo {a : zAbs} {v : Nat} {M : Nat → Int → Int} (h : zJC a v M) : M 36 1 = a.lo := h.2.2.2.2.2.1
theorem zJC.F {a : zAbs} {v : Nat} {M : Nat → Int → Int} (h : zJC a v M) : zFormC a.n a.kd a.lf a.rt a.gp M := h.2.2.2.2.2.2.1
theorem zJC.T {a : zAbs} {v : Nat} {M : Nat → Int → Int} (h : zJC a v M) : zTpC a.q a.tb M := h.2.2.2.2.2.2.2.1
theorem zJC.Sh {a : zAbs} {v : Nat} {M : Nat → Int → Int} (h : zJC a v M) : zShC a.ln a.sz a.it M := h.2.2.2.2.2.2.2.2.1
theorem zJC.G {a : zAbs} {v : Nat} {M : Nat → Int → Int} (h : zJC a v M) : zGlC a.S a.P a.gl M := h.2.2.2.2.2.2.2.2.2.1
theorem zJC.W {a : zAbs} {v : Nat} {M : Nat → Int → Int} (h : zJC a v M) : zTrC a.tn a.tr M := h.2.2.2.2.2.2.2.2.2.2.1
theorem zJC.tab {a : zAbs} {v : Nat} {M : Nat → Int → Int} (h : zJC a v M) : zTabI a.S a.P a.mv a.tg M := h.2.2.2.2.2.2.2.2.2.2.2.1
theorem zJC.law {a : zAbs} {v : Nat} {M : Nat → Int → Int} (h : zJC a v M) : zLawI a.S a.P a.n a.mv a.tg a.lt a.kd a.lf a.rt a.gp M := h.2.2.2.2.2.2.2.2.2.2.2.2.1
theorem zJC.v1 {a : zAbs} {v : Nat} {M : Nat → Int → Int} (h : zJC a v M) : 0 ≤ M 3 2 ∧ M 3 2 ≤ v := h.2.2.2.2.2.2.2.2.2.2.2.2.2.1
theorem zJC.v2 {a : zAbs} {v : Nat} {M : Nat → Int → Int} (h : zJC a v M) : 0 ≤ M 10 1 ∧ M 10 1 ≤ v := h.2.2.2.2.2.2.2.2.2.2.2.2.2.2.1
theorem zJC.v3 {a : zAbs} {v : Nat} {M : Nat → Int → Int} (h : zJC a v M) : M 15 5 ≤ M 3 2 := h.2.2.2.2.2.2.2.2.2.2.2.2.2.2.2.1
theorem zJC.v4 {a : zAbs} {v : Nat} {M : Nat → Int → Int} (h : zJC a v M) : M 19 5 ≤ M 3 2 := h.2.2.2.2.2.2.2.2.2.2.2.2.2.2.2.2.1
theorem zJC.v5 {a : zAbs} {v : Nat} {M : Nat → Int → Int} (h : zJC a v M) : M 19 6 ≤ M 10 1 := h.2.2.2.2.2.2.2.2.2.2.2.2.2.2.2.2.2.1
theorem zJC.hl {a : zAbs} {v : Nat} {M : Nat → Int → Int} (h : zJC a v M) : ∀ i : Nat, i < 16 → M 1 (i : Int) = M 1 (i : Int) := h.2.2.2.2.2.2.2.2.2.2.2.2.2.2.2.2.2.2
theorem zJC_mk {a : zAbs} {v : Nat} {M : Nat → Int → Int} (Nz : zNetC a.S a.P a.mv a.tg M) (Lz : zLetC a.lt M) (Hz : zHpC a.hp M) (Qz : zPrC a.pr M) (Kz : zPkC 5 a.ch M) (loz : M 36 1 = a.lo) (Fz : zFormC a.n a.kd a.lf a.rt a.gp M) (Tz : zTpC a.q a.tb M) (Shz : zShC a.ln a.sz a.it M) (Gz : zGlC a.S a.P a.gl M) (Wz : zTrC a.tn a.tr M) (tabz : zTabI a.S a.P a.mv a.tg M) (lawz : zLawI a.S a.P a.n a.mv a.tg a.lt a.kd a.lf a.rt a.gp M) (v1z : 0 ≤ M 3 2 ∧ M 3 2 ≤ v) (v2z : 0 ≤ M 10 1 ∧ M 10 1 ≤ v) (v3z : M 15 5 ≤ M 3 2) (v4z : M 19 5 ≤ M 3 2) (v5z : M 19 6 ≤ M 10 1) (hlz : ∀ i : Nat, i < 16 → M 1 (i : Int) = M 1 (i : Int)) : zJC a v M := ⟨Nz, Lz, Hz, Qz, Kz, loz, Fz, Tz, Shz, Gz, Wz, tabz, lawz, v1z, v2z, v3z, v4z, v5z, hlz⟩
def zJR (a : zAbs) (M : Nat → Int → Int) : Prop := (zNetR a.S a.P a.mv a.tg M) ∧ (zLetR a.lt M) ∧ (zHpR a.hp M) ∧ (zPrR a.pr M) ∧ (zPkR a.ch M) ∧ (M 48 9 = a.lo) ∧ (zFormR a.n a.kd a.lf a.rt a.gp M) ∧ (zTpR a.q a.tb M) ∧ (zShR a.ln a.sz a.it M) ∧ (zGlR a.S a.P a.gl M) ∧ (zTraR a.tn a.tr M) ∧ (zRng M)
theorem zJR.N {a : zAbs} {M : Nat → Int → Int} (h : zJR a M) : zNetR a.S a.P a.mv a.tg M := h.1
theorem zJR.L {a : zAbs} {M : Nat → Int → Int} (h : zJR a M) : zLetR a.lt M := h.2.1
theorem zJR.H {a : zAbs} {M : Nat → Int → Int} (h : zJR a M) : zHpR a.hp M := h.2.2.1
theorem zJR.Q {a : zAbs} {M : Nat → Int → Int} (h : zJR a M) : zPrR a.pr M := h.2.2.2.1
theorem zJR.K {a : zAbs} {M : Nat → Int → Int} (h : zJR a M) : zPkR a.ch M := h.2.2.2.2.1
theorem zJR.lo {a : zAbs} {M : Nat → Int → Int} (h : zJR a M) : M 48 9 = a.lo := h.2.2.2.2.2.1
theorem zJR.F {a : zAbs} {M : Nat → Int → Int} (h : zJR a M) : zFormR a.n a.kd a.lf a.rt a.gp M := h.2.2.2.2.2.2.1
theorem zJR.T {a : zAbs} {M : Nat → Int → Int} (h : zJR a M) : zTpR a.q a.tb M := h.2.2.2.2.2.2.2.1
theorem zJR.Sh {a : zAbs} {M : Nat → Int → Int} (h : zJR a M) : zShR a.ln a.sz a.it M := h.2.2.2.2.2.2.2.2.1
theorem zJR.G {a : zAbs} {M : Nat → Int → Int} (h : zJR a M) : zGlR a.S a.P a.gl M := h.2.2.2.2.2.2.2.2.2.1
theorem zJR.W {a : zAbs} {M : Nat → Int → Int} (h : zJR a M) : zTraR a.tn a.tr M := h.2.2.2.2.2.2.2.2.2.2.1
def zCl (M M' : Nat → Int → Int) : Prop := ∀ k, k < 2 ∨ 48 ≤ k → M' k = M k
section IV
variable {a : zAbs} {v : Nat} {M M' : Nat → Int → Int}
theorem zLetC_k {lt : Nat → Nat} (h : zLetC lt M) (e : M' 8 = M 8) : zLetC lt M' := fun s hs => by rw [e]; exact h s hs
theorem zHpC_k {hp : Nat → Nat → Nat} (h : zHpC hp M) (e : M' 9 = M 9) : zHpC hp M' := fun p s h1 h2 => by rw [e]; exact h p s h1 h2
theorem zPrC_k {pr : Nat → Nat → Nat → Nat} (h : zPrC pr M) (e : M' 6 = M 6) : zPrC pr M' := fun s p x h1 h2 h3 => by rw [e]; exact h s p x h1 h2 h3
theorem zPkC_k {k : Nat} {ch : Nat → Nat → Nat} (h : zPkC k ch M) (e : M' k = M k) : zPkC k ch M' := fun s p h1 h2 => by rw [e]; exact h s p h1 h2
theorem zTpC_k {q : Nat} {tb : Nat → Nat} (h : zTpC q tb M) (e : M' 22 2 = M 22 2) (e2 : M' 23 = M 23) : zTpC q tb M' := ⟨by rw [e]; exact h.1, by rw [e2]; exact h.2⟩
theorem zShC_k {ln : Nat → Int} {sz : Nat → Nat} {it : Int → Int} (h : zShC ln sz it M) (e1 : M' 45 = M 45) (e2 : M' 46 = M 46) (e3 : M' 47 = M 47) : zShC ln sz it M' := ⟨by rw [e1, e2]; exact h.1, by rw [e3]; exact h.2⟩
theorem zGlC_k {S P : Nat} {gl : Nat → Nat → Bool} (h : zGlC S P gl M) (e : M' 42 = M 42) : zGlC S P gl M' := fun p hp => by rw [e]; exact h p hp
theorem zTrC_k {n : Nat} {tr : Nat → Nat} (h : zTrC n tr M) (e : M' 29 6 = M 29 6) (e2 : M' 31 = M 31) : zTrC n tr M' := ⟨by rw [e]; exact h.1, by rw [e2]; exact h.2⟩
theorem zTabI_k {S P : Nat} {mv tg : Nat → Nat → Nat} (h : zTabI S P mv tg M) (e3 : M' 3 = M 3) (e15 : M' 15 = M 15) (e16 : M' 16 = M 16) (e17 : M' 17 = M 17) : zTabI S P mv tg M' := by
  unfold zTabI zTabC at h ⊢
  rw [e3, e15, e16, e17]
  exact h
theorem zLawI_k {S P n : Nat} {mv tg : Nat → Nat → Nat} {lt kd lf rt gp : Nat → Nat} (h : zLawI S P n mv tg lt kd lf rt gp M) (e3 : M' 3 = M 3) (e10 : M' 10 = M 10) (e19 : M' 19 = M 19) (e20 : M' 20 = M 20) (e21 : M' 21 = M 21) (e16 : M' 16 = M 16) (e17 : M' 17 = M 17) : zLawI S P n mv tg lt kd lf rt gp M' := by
  unfold zLawI zLawC zTabC at h ⊢
  rw [e3, e10, e19, e20, e21, e16, e17]
  exact h
/-- the reference's calls leave the class's cells -/
theorem zJC_k (h : zJC a v M) (e : ∀ k, k < 48 → M' k = M k) : zJC a v M' := zJC_mk
  (Nz := zNetC_k h.N (e 3 (by decide)) (e 4 (by decide)) (e 7 (by decide)))
  (Lz := zLetC_k h.L (e 8 (by decide)))
  (Hz := zHpC_k h.H (e 9 (by decide)))
  (Qz := zPrC_k h.Q (e 6 (by decide)))
  (Kz := zPkC_k h.K (e 5 (by decide)))
  (loz := by rw [e 36 (by decide)]; exact h.lo)
  (Fz := zFormC_k h.F (by rw [e 10 (by decide)]) (e 11 (by decide)) (e 12 (by decide)) (e 13 (by decide)) (e 14 (by decide)))
  (Tz := zTpC_k h.T (by rw [e 22 (by decide)]) (e 23 (by decide)))
  (Shz := zShC_k h.Sh (e 45 (by decide)) (e 46 (by decide)) (e 47 (by decide)))
  (Gz := zGlC_k h.G (e 42 (by decide)))
  (Wz := zTrC_k h.W (by rw [e 29 (by decide)]) (e 31 (by decide)))
  (tabz := zTabI_k h.tab (e 3 (by decide)) (e 15 (by decide)) (e 16 (by decide)) (e 17 (by decide)))
  (lawz := zLawI_k h.law (e 3 (by decide)) (e 10 (by decide)) (e 19 (by decide)) (e 20 (by decide)) (e 21 (by decide)) (e 16 (by decide)) (e 17 (by decide)))
  (v1z := by rw [e 3 (by decide)]; exact h.v1)
  (v2z := by rw [e 10 (by decide)]; exact h.v2)
  (v3z := by rw [e 3 (by decide), e 15 (by decide)]; exact h.v3)
  (v4z := by rw [e 3 (by decide), e 19 (by decide)]; exact h.v4)
  (v5z := by rw [e 10 (by decide), e 19 (by decide)]; exact h.v5)
  (hlz := by rw [e 1 (by decide)]; exact h.hl)
theorem zJC_v {w : Nat} (h : zJC a v M) (hw : v ≤ w) : zJC a w M := by
  have h1 : 0 ≤ M 3 2 ∧ M 3 2 ≤ w := ⟨h.v1.1, by have := h.v1.2; omega⟩
  have h2 : 0 ≤ M 10 1 ∧ M 10 1 ≤ w := ⟨h.v2.1, by have := h.v2.2; omega⟩
  exact zJC_mk h.N h.L h.H h.Q h.K h.lo h.F h.T h.Sh h.G h.W h.tab h.law h1 h2 h.v3 h.v4 h.v5 h.hl
theorem zCl_kp {l : List Nat} (h : zKp l M M') (hl : ∀ k ∈ l, 2 ≤ k ∧ k < 48) : zCl M M' := fun k hk => h k fun hm => by have := hl k hm; omega
/-- asking the class leaves what it stands for -/
theorem zJC_out (h : zJC a v M) (ho : zOutC a.S a.P a.n a.mv a.tg a.lt a.kd a.lf a.rt a.gp M M') : zJC a v M' ∧ zCl M M' := by
  obtain ⟨⟨hk, h36⟩, hT, hI, e1, e2, e3⟩ := ho
  have k3 := hk 3 (by decide)
  have k10 := hk 10 (by decide)
  refine ⟨?_, zCl_kp hk (by decide)⟩
  exact zJC_mk
    (Nz := zNetC_k h.N k3 (hk 4 (by decide)) (hk 7 (by decide)))
    (Lz := zLetC_k h.L (hk 8 (by decide)))
    (Hz := zHpC_k h.H (hk 9 (by decide)))
    (Qz := zPrC_k h.Q (hk 6 (by decide)))
    (Kz := zPkC_k h.K (hk 5 (by decide)))
    (loz := h36.trans h.lo)
    (Fz := zFormC_k h.F (by rw [k10]) (hk 11 (by decide)) (hk 12 (by decide)) (hk 13 (by decide)) (hk 14 (by decide)))
    (Tz := zTpC_k h.T (by rw [hk 22 (by decide)]) (hk 23 (by decide)))
    (Shz := zShC_k h.Sh (hk 45 (by decide)) (hk 46 (by decide)) (hk 47 (by decide)))
    (Gz := zGlC_k h.G (hk 42 (by decide)))
    (Wz := zTrC_k h.W (by rw [hk 29 (by decide)]) (hk 31 (by decide)))
    (tabz := hT)
    (lawz := hI)
    (v1z := by rw [k3]; exact h.v1)
    (v2z := by rw [k10]; exact h.v2)
    (v3z := by
      have := h.v3
      rw [k3]
      rcases e1 with e | e <;> omega)
    (v4z := by
      have := h.v4
      have := h.v1.1
      rw [k3]
      rcases e2 with e | e | e <;> omega)
    (v5z := by
      have := h.v5
      rw [k10]
      rcases e3 with e | e <;> omega)
    (hlz := by rw [hk 1 (by decide)]; exact h.hl)
end IV
