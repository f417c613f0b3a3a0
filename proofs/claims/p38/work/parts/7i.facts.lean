/-! what the plans do, by the outermost's kind -/
def yR (a : zAbs) (s : Nat) : Nat := zRd a.mv a.tg a.P a.lt a.kd a.lf a.rt a.gp s
def yGo (a : zAbs) (s v : Nat) : Nat := zGo a.mv a.tg a.P a.lt a.kd a.lf a.rt a.gp s v
abbrev yG (a : zAbs) : Nat → Bool := zbit (a.gp 0 : Int)
abbrev yC (a : zAbs) : (Nat → Bool) → Nat → Bool := zCn a.mv a.tg a.P (yG a)
section YF
variable {a : zAbs}
theorem yC_g (hP : zJP a) : zCg a.S (yC a) := zcan_Cg hP.N (yG a)
theorem yH_0 (hP : zJP a) : yH a 0 = zJ (yC a) a.lt (a.kd 0) (a.lf 0) (yH a (a.lf 0)) (yH a (a.rt 0)) := zHp_eq hP.F (by have := hP.F.1; omega)
theorem yGo_lt (hP : zJP a) {s : Nat} (hs : s < a.S) (v : Nat) : yGo a s v < a.S := zGo_lt hP.N hs v
theorem yGo_in (hP : zJP a) {s : Nat} (hW : yH a 0 s = true) {X : Nat → Bool} (hX : zAim (a.kd 0) (yH a (a.lf 0)) (yH a 0) (yR a) s = X) (hC : yC a X s = true) (v : Nat) : X (yGo a s v) = true := by
  subst hX
  exact ym_plan (hP.N.2.2.2.2.1 s) hW hC v
/-- no plan: an answer -/
theorem yAn {s m : Nat} {X : Nat → Bool} (hm : m < zcnt (a.mv s) (yG a) a.P) (h : ¬ yC a X s = true) : 0 ≤ zAns (a.mv s) (a.tg s) (yG a) a.P X m := ym_ans hm h
theorem yX_1 (hP : zJP a) (hk : a.kd 0 = 5) (hl : a.lf 0 = 1) {s : Nat} : (yH a 0 s = true → ∀ v, yH a 1 (yGo a s v) = true) ∧ (¬ yH a 0 s = true → ¬ yC a (yH a 1) s = true) := by
  have h0 : yH a 0 = yC a (yH a 1) := by rw [yH_0 hP, hk, hl]; rfl
  constructor
  · intro h v
    refine yGo_in hP h ?_ (by rw [h0] at h; exact h) v
    rw [hk, hl]; rfl
  · intro h
    rw [h0] at h
    exact h
theorem yG_1 (hP : zJP a) (hk : a.kd 0 = 6) (hl : a.lf 0 = 1) {s : Nat} (hs : s < a.S) : (yH a 0 s = true → yH a 1 s = true ∧ ∀ v, yH a 0 (yGo a s v) = true) ∧ (¬ yH a 0 s = true → yH a 1 s = true → ¬ yC a (yH a 0) s = true) := by
  have h0 : yH a 0 = zAl (yC a) (yH a 1) 12 := by rw [yH_0 hP, hk, hl]; rfl
  have hS := hP.N.2.1
  constructor
  · intro h
    have h2 := h
    rw [h0] at h2
    refine ⟨ym_alA 12 h2, fun v => yGo_in hP h ?_ (by rw [h0]; exact ym_al (yC_g hP) hS hs h2) v⟩
    rw [hk]; rfl
  · intro h hA
    rw [h0] at h ⊢
    exact ym_aln (yC_g hP) hs hA h
/-- rounds -/
theorem yU_0 (hP : zJP a) (hk : a.kd 0 = 7 ∨ a.kd 0 = 8) (hl : a.lf 0 = 1) {A B : Nat → Bool} (hA : A = if a.kd 0 = 7 then (fun _ => true) else yH a 1) (hB : B = if a.kd 0 = 7 then yH a 1 else yH a (a.rt 0)) : yH a 0 = zUn (yC a) A B 12 ∧ ∀ s, yR a s = zrd (yC a) A B s := by
  rcases hk with hk | hk
  · rw [if_pos hk] at hA hB
    subst hA hB
    refine ⟨by rw [yH_0 hP, hk, hl]; rfl, fun s => ?_⟩
    unfold yR zRd
    rw [hk, hl]
    rfl
  · rw [if_neg (by omega)] at hA hB
    subst hA hB
    refine ⟨by rw [yH_0 hP, hk, hl]; rfl, fun s => ?_⟩
    unfold yR zRd
    rw [hk, hl]
    rfl
theorem yU_1 (hP : zJP a) (hk : a.kd 0 = 7 ∨ a.kd 0 = 8) (hl : a.lf 0 = 1) {A B : Nat → Bool} (hA : A = if a.kd 0 = 7 then (fun _ => true) else yH a 1) (hB : B = if a.kd 0 = 7 then yH a 1 else yH a (a.rt 0)) {s : Nat} (hs : s < a.S) :
    (yH a 0 s = true ↔ yR a s < 13) ∧ (yH a 0 s = true → yR a s ≤ a.S) ∧ (yR a s = 0 → B s = true) ∧ (yH a 0 s = true → 0 < yR a s → A s = true ∧ yC a (fun t => decide (yR a t < 13) && decide (yR a t < yR a s)) s = true ∧ ∀ v, yR a (yGo a s v) < 13 ∧ yR a (yGo a s v) < yR a s) ∧ (¬ yH a 0 s = true → A s = true → ¬ yC a (yH a 0) s = true) := by
  obtain ⟨e0, e1⟩ := yU_0 hP hk hl hA hB
  have hS := hP.N.2.1
  have hC := yC_g hP
  have h1 : yH a 0 s = true ↔ yR a s < 13 := by rw [e0, e1]; exact zrd_iff hs
  refine ⟨h1, fun h => ?_, fun h => ?_, fun h h0 => ?_, fun h h0 => ?_⟩
  · have h2 := h1.mp h
    rw [e1] at h2 ⊢
    exact ym_uS hC hS hs h2
  · rw [e1] at h
    exact ym_u0 h
  · have h2 := h1.mp h
    have h3 := ym_us hC hs (by rw [← e1]; exact h2) (by rw [← e1]; exact h0)
    simp only [← e1] at h3
    refine ⟨h3.1, h3.2, fun v => ?_⟩
    have h4 := yGo_in hP h (X := fun t => decide (yR a t < 13) && decide (yR a t < yR a s)) (by
      unfold zAim
      rw [if_neg (by omega), if_neg (by omega)]) h3.2 v
    simpa only [Bool.and_eq_true, decide_eq_true_eq] using h4
  · rw [e0] at h ⊢
    exact ym_un hC hS hs h0 h
theorem yTl (hP : zJP a) (hk : a.kd 0 = 7 ∨ a.kd 0 = 8) (hl : a.lf 0 = 1) {s : Nat} (hs : s < a.S) (hW : yH a 0 s = true) (k : Nat) (hr : yR a s ≤ k) : zTl a.S a.P a.mv a.tg a.pr (yG a) (fun s => decide (yR a s = 0)) (yH a 0) k s ≤ 9 * a.P * yR a s := by
  refine ym_toll (R := yR a) hP.pr (fun t ht hw => ?_) (fun t ht hw h0 => ?_) k s hs hW hr
  · have := ((yU_1 hP hk hl rfl rfl ht).1).mp hw
    omega
  · obtain ⟨-, h3, -⟩ := (yU_1 hP hk hl rfl rfl ht).2.2.2.1 hw h0
    refine (yC_g hP).2 _ _ (fun u hu h => ?_) t ht h3
    simp only [Bool.and_eq_true, decide_eq_true_eq] at h ⊢
    exact ⟨((yU_1 hP hk hl rfl rfl hu).1).mpr h.1, h.2⟩
theorem yI_1 (hP : zJP a) (hk : a.kd 0 = 9) (hl : a.lf 0 = 1) {s : Nat} (hs : s < a.S) :
    (yH a 0 s = true ↔ yR a s < 13) ∧ (yH a 0 s = true → yR a s ≤ a.S) ∧ (yH a 0 s = true → yR a s = 0 → yH a 1 s = true ∧ ∀ v, yH a 0 (yGo a s v) = true) ∧ (yH a 0 s = true → 0 < yR a s → ∀ v, yR a (yGo a s v) < 13 ∧ yR a (yGo a s v) < yR a s) := by
  have hS := hP.N.2.1
  have hC := yC_g hP
  have e0 : yH a 0 = zAg (yC a) (yH a 1) 13 := by rw [yH_0 hP, hk, hl]; rfl
  have e1 : ∀ t, yR a t = zrd (yC a) (fun _ => true) (fun s => yH a 1 s && yC a (yH a 0) s) t := by
    intro t
    rw [e0]
    unfold yR zRd
    rw [hk, hl]
    rfl
  have e2 : ∀ t, t < a.S → yH a 0 t = zUn (yC a) (fun _ => true) (fun s => yH a 1 s && yC a (yH a 0) s) 12 t := by
    intro t ht
    have := ym_ag (A := yH a 1) hC hS ht
    rw [← e0] at this
    exact this
  have h1 : yH a 0 s = true ↔ yR a s < 13 := by rw [e2 s hs, e1]; exact zrd_iff hs
  refine ⟨h1, fun h => ?_, fun h h0 => ?_, fun h h0 v => ?_⟩
  · have h2 := h1.mp h
    rw [e1] at h2 ⊢
    exact ym_uS hC hS hs h2
  · have h2 := h0
    rw [e1] at h2
    have h3 := ym_u0 h2
    simp only [Bool.and_eq_true] at h3
    refine ⟨h3.1, fun v => yGo_in hP h ?_ h3.2 v⟩
    unfold zAim
    rw [if_neg (by omega), if_pos (Or.inr ⟨hk, h0⟩)]
  · have h2 := h1.mp h
    have h3 := ym_us hC hs (by rw [← e1]; exact h2) (by rw [← e1]; exact h0)
    simp only [← e1] at h3
    have h4 := yGo_in hP h (X := fun t => decide (yR a t < 13) && decide (yR a t < yR a s)) (by
      unfold zAim
      rw [if_neg (by omega), if_neg (by omega)]) h3.2 v
    simpa only [Bool.and_eq_true, decide_eq_true_eq] using h4
end YF
