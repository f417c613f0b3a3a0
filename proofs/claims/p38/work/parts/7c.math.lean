/-! what the laws give: steps, rounds, answers, tolls -/
theorem ym_can {m t : Nat → Nat} {g : Nat → Bool} {P : Nat} {X : Nat → Bool} : zcan m t g P X = true ↔ ∃ a, a < zcnt m g P ∧ ∀ b, b < zcnt m (znot g) P → X (t (zcomb m g P a b)) = true := by
  unfold zcan
  rw [decide_eq_true_eq]
  constructor
  · intro h
    have h2 : zinto m t g P X (zleast m t g P X) = true := zfst_yes _ _ h
    unfold zinto at h2
    exact ⟨_, h, (zfa_iff _ _).mp h2⟩
  · rintro ⟨a, h1, h2⟩
    rcases Nat.lt_or_ge (zleast m t g P X) (zcnt m g P) with h | h
    · exact h
    · have h3 := zfst_no (zcnt m g P) (zinto m t g P X) a (Nat.lt_of_lt_of_le h1 h)
      have h4 : zinto m t g P X a = true := by
        unfold zinto
        exact (zfa_iff _ _).mpr h2
      rw [h4] at h3
      cases h3
theorem ym_plan {m t : Nat → Nat} {g : Nat → Bool} {P : Nat} {X : Nat → Bool} {W : Bool} (hm : zmOK m) (hW : W = true) (hX : zcan m t g P X = true) (w : Nat) : X (t (zcomb m g P (zPlan m t g P W X).toNat (w % zcnt m (znot g) P))) = true := by
  unfold zcan at hX
  rw [decide_eq_true_eq] at hX
  unfold zPlan
  rw [if_pos hW, if_pos hX, Int.toNat_natCast]
  have h2 : zinto m t g P X (zleast m t g P X) = true := zfst_yes _ _ hX
  unfold zinto at h2
  exact (zfa_iff _ _).mp h2 _ (Nat.mod_lt _ (by have := zcnt_pos hm (znot g) P; omega))
theorem ym_ans {m t : Nat → Nat} {g : Nat → Bool} {P : Nat} {X : Nat → Bool} {a : Nat} (ha : a < zcnt m g P) (h : ¬ zcan m t g P X = true) : 0 ≤ zAns m t g P X a := by
  unfold zAns
  split
  · omega
  · next hn =>
    exfalso
    refine h (ym_can.mpr ⟨a, ha, fun b hb => ?_⟩)
    have h3 := zfst_no (zcnt m (znot g) P) (fun b => !X (t (zcomb m g P a b))) b (by omega)
    simpa using h3
section YM
variable {S : Nat} {C : (Nat → Bool) → Nat → Bool} {A B : Nat → Bool}
/-- until: rounds -/
theorem ym_uS (hC : zCg S C) (hS : S ≤ 12) {s : Nat} (hs : s < S) (h : zrd C A B s < 13) : zrd C A B s ≤ S := by
  have h1 : zUn C A B 12 s = true := (zrd_iff hs).mpr h
  have h2 := zUn_stay (A := A) (B := B) hC S 12 (Or.inr (Nat.le_refl S)) hS s hs
  rw [h1] at h2
  rcases Nat.lt_or_ge S (zrd C A B s) with h3 | h3
  · have h4 := zfst_no 13 (fun i => zUn C A B i s) S h3
    simp only [← h2] at h4
    cases h4
  · exact h3
theorem ym_u0 {s : Nat} (h : zrd C A B s = 0) : B s = true := by
  have h1 := zfst_yes 13 (fun i => zUn C A B i s) (by show zrd C A B s < 13; omega)
  have h2 : zfst 13 (fun i => zUn C A B i s) = 0 := h
  rw [h2] at h1
  exact h1
theorem ym_us (hC : zCg S C) {s : Nat} (hs : s < S) (h : zrd C A B s < 13) (h0 : 0 < zrd C A B s) : A s = true ∧ C (fun t => decide (zrd C A B t < 13) && decide (zrd C A B t < zrd C A B s)) s = true := by
  obtain ⟨r, hr⟩ : ∃ r, zrd C A B s = r + 1 := ⟨zrd C A B s - 1, by omega⟩
  have h1 := zfst_yes 13 (fun i => zUn C A B i s) h
  have h2 := zfst_no 13 (fun i => zUn C A B i s) r (by show r < zrd C A B s; omega)
  have h3 : zfst 13 (fun i => zUn C A B i s) = r + 1 := hr
  rw [h3] at h1
  unfold zUn at h1
  simp only [h2, Bool.false_or, Bool.not_false, Bool.and_true, Bool.and_eq_true] at h1
  refine ⟨h1.1, hC.2 (zUn C A B r) _ (fun t ht hu => ?_) s hs h1.2⟩
  have h4 : zrd C A B t ≤ r := by
    rcases Nat.lt_or_ge r (zrd C A B t) with h5 | h5
    · have h6 := zfst_no 13 (fun i => zUn C A B i t) r h5
      simp only [hu] at h6
      cases h6
    · exact h5
  simp only [Bool.and_eq_true, decide_eq_true_eq]
  omega
/-- where until holds not, the group can't come to it -/
theorem ym_un (hC : zCg S C) (hS : S ≤ 12) {s : Nat} (hs : s < S) (hA : A s = true) (h : ¬ zUn C A B 12 s = true) : ¬ C (zUn C A B 12) s = true := by
  intro h1
  have h2 := zUn_stay (A := A) (B := B) hC 12 13 (Or.inr hS) (by omega) s hs
  have h3 : zUn C A B 13 s = true := by
    show (zUn C A B 12 s || ((A s && !zUn C A B 12 s) && C (zUn C A B 12) s)) = true
    simp [hA, h, h1]
  rw [h3] at h2
  exact h h2.symm
/-- always -/
theorem ym_al (hC : zCg S C) (hS : S ≤ 12) {s : Nat} (hs : s < S) (h : zAl C A 12 s = true) : C (zAl C A 12) s = true := by
  have h2 := zAl_stay (A := A) hC 12 13 (Or.inr hS) (by omega) s hs
  rw [h] at h2
  have h3 : (zAl C A 12 s && C (zAl C A 12) s) = true := h2
  simp only [Bool.and_eq_true] at h3
  exact h3.2
theorem ym_alA : ∀ (i : Nat) {s : Nat}, zAl C A i s = true → A s = true
  | 0, _, h => h
  | i + 1, _, h => by
    have h3 : (zAl C A i _ && C (zAl C A i) _) = true := h
    simp only [Bool.and_eq_true] at h3
    exact ym_alA i h3.1
theorem ym_ald : ∀ (i j : Nat) {s : Nat}, zAl C A (i + j) s = true → zAl C A i s = true
  | _, 0, _, h => h
  | i, j + 1, _, h => by
    have h3 : (zAl C A (i + j) _ && C (zAl C A (i + j)) _) = true := h
    simp only [Bool.and_eq_true] at h3
    exact ym_ald i j h3.1
theorem ym_aln (hC : zCg S C) {s : Nat} (hs : s < S) (hA : A s = true) (h : ¬ zAl C A 12 s = true) : ¬ C (zAl C A 12) s = true := by
  intro h1
  have key : ∀ i, i ≤ 12 → zAl C A i s = true := by
    intro i
    induction i with
    | zero => intro _; exact hA
    | succ i ih =>
      intro hi
      show (zAl C A i s && C (zAl C A i) s) = true
      rw [ih (by omega), Bool.true_and]
      refine hC.2 (zAl C A 12) _ (fun t ht hu => ?_) s hs h1
      exact ym_ald i (12 - i) (by rw [show i + (12 - i) = 12 by omega]; exact hu)
  exact h (key 12 (Nat.le_refl _))
/-- again -/
theorem ym_ag (hC : zCg S C) (hS : S ≤ 12) {s : Nat} (hs : s < S) : zAg C A 13 s = zUn C (fun _ => true) (fun s => A s && C (zAg C A 13) s) 12 s := by
  show zUn C (fun _ => true) (fun s => A s && C (zAg C A 12) s) 12 s = _
  refine zUn_congr hC (zeqS.rf _) (fun t ht => ?_) 12 s hs
  have h2 : zeqS S (zAg C A 13) (zAg C A 12) := zAg_stay (A := A) hC 12 13 (Or.inr hS) (by omega)
  show (A t && C (zAg C A 12) t) = (A t && C (zAg C A 13) t)
  rw [hC.1 _ _ h2 t ht]
end YM
/-- the toll: no more than the dearest move each round -/
theorem ym_toll {S P : Nat} {mv tg : Nat → Nat → Nat} {pr : Nat → Nat → Nat → Nat} {g : Nat → Bool} {W : Nat → Bool} {R : Nat → Nat} (hpr : ∀ s p a, pr s p a ≤ 9) (hW : ∀ s, s < S → W s = true → R s ≤ 1000000)
    (hst : ∀ s, s < S → W s = true → 0 < R s → zcan (mv s) (tg s) g P (fun t => W t && decide (R t < R s)) = true) : ∀ (k s : Nat), s < S → W s = true → R s ≤ k → zTl S P mv tg pr g (fun s => decide (R s = 0)) W k s ≤ 9 * P * R s
  | 0, s, hs, hw, hr => by
    have h0 : R s = 0 := by omega
    show (if decide (R s = 0) = true then 0 else 1000000) ≤ _
    rw [if_pos (by simpa using h0)]
    omega
  | k + 1, s, hs, hw, hr => by
    show zPh S (fun s => zcnt (mv s) g P) (fun s a => zsum (mv s) (pr s) g P a) (fun s a => zend (mv s) (tg s) g P a) (fun s => decide (R s = 0)) W (zTl S P mv tg pr g (fun s => decide (R s = 0)) W k) s ≤ _
    unfold zPh
    by_cases h0 : R s = 0
    · rw [if_pos (by simpa using h0)]
      omega
    · rw [if_neg (by simpa using h0), if_pos hw]
      obtain ⟨a, ha, hb⟩ := ym_can.mp (hst s hs hw (by omega))
      refine Nat.le_trans (zmn_le _ _ a ha) ?_
      have h1 := zsum_le (m := mv s) (hpr s) g P a
      have h2 : zmx S (zend (mv s) (tg s) g P a) (zTl S P mv tg pr g (fun s => decide (R s = 0)) W k) ≤ 9 * P * (R s - 1) := by
        refine zmx_le _ _ _ _ fun t ht he => ?_
        obtain ⟨b, hb1, hb2⟩ := (zan_iff _ _).mp he
        rw [decide_eq_true_eq] at hb2
        have h3 := hb b hb1
        rw [hb2] at h3
        simp only [Bool.and_eq_true, decide_eq_true_eq] at h3
        refine Nat.le_trans (ym_toll hpr hW hst k t ht h3.1 (by omega)) ?_
        exact Nat.mul_le_mul_left _ (by omega)
      have h4 : 9 * P * R s = 9 * P * (R s - 1) + 9 * P := by
        rw [← Nat.mul_succ]
        congr 1
        omega
      exact Nat.le_trans (Nat.add_le_add h1 h2) (by omega)
theorem ym_toll0 {S P : Nat} {mv tg : Nat → Nat → Nat} {pr : Nat → Nat → Nat → Nat} {g : Nat → Bool} {W : Nat → Bool} {R : Nat → Nat} {s : Nat} (h : R s = 0) : ∀ k, zTl S P mv tg pr g (fun s => decide (R s = 0)) W k s = 0
  | 0 => by
    show (if decide (R s = 0) = true then 0 else 1000000) = 0
    rw [if_pos (by simpa using h)]
  | k + 1 => by
    show zPh S (fun s => zcnt (mv s) g P) (fun s a => zsum (mv s) (pr s) g P a) (fun s a => zend (mv s) (tg s) g P a) (fun s => decide (R s = 0)) W (zTl S P mv tg pr g (fun s => decide (R s = 0)) W k) s = 0
    unfold zPh
    rw [if_pos (by simpa using h)]
