/-! sets of states told round by round -/
def zeqS (S : Nat) (f f' : Nat → Bool) : Prop := ∀ s, s < S → f s = f' s
theorem zeqS.rf {S : Nat} (f : Nat → Bool) : zeqS S f f := fun _ _ => rfl
theorem zeqS.sy {S : Nat} {f f' : Nat → Bool} (h : zeqS S f f') : zeqS S f' f := fun s hs => (h s hs).symm
theorem zeqS.tr {S : Nat} {f f' f'' : Nat → Bool} (h : zeqS S f f') (h2 : zeqS S f' f'') : zeqS S f f'' := fun s hs => (h s hs).trans (h2 s hs)
def zleS (S : Nat) (f f' : Nat → Bool) : Prop := ∀ s, s < S → f s = true → f' s = true
theorem zset_iff {S : Nat} (hS : S ≤ 30) {f f' : Nat → Bool} : zset S f = zset S f' ↔ zeqS S f f' := ⟨fun h => zset_inj hS h, fun h => zset_cong h⟩
/-- how many -/
def zcard : Nat → (Nat → Bool) → Nat
  | 0, _ => 0
  | n + 1, f => zcard n f + if f n = true then 1 else 0
theorem zcard_le : ∀ (n : Nat) (f : Nat → Bool), zcard n f ≤ n
  | 0, _ => Nat.le_refl _
  | n + 1, f => by have := zcard_le n f; unfold zcard; split <;> omega
theorem zcard_mono : ∀ (n : Nat) {f g : Nat → Bool}, zleS n f g → zcard n f ≤ zcard n g
  | 0, _, _, _ => Nat.le_refl _
  | n + 1, f, g, h => by
    have := zcard_mono n (f := f) (g := g) fun s hs => h s (by omega)
    have h2 := h n (by omega)
    unfold zcard
    by_cases hf : f n = true
    · rw [if_pos hf, if_pos (h2 hf)]; omega
    · rw [if_neg hf]; omega
theorem zcard_eq : ∀ (n : Nat) {f g : Nat → Bool}, zleS n f g → zcard n g ≤ zcard n f → zeqS n f g
  | 0, _, _, _, _ => fun s hs => by omega
  | n + 1, f, g, h, hc => by
    have h1 := zcard_mono n (f := f) (g := g) fun s hs => h s (by omega)
    have h2 := h n (by omega)
    unfold zcard at hc
    have h3 : zcard n g ≤ zcard n f ∧ f n = g n := by
      cases hf : f n <;> cases hg : g n <;> simp only [hf, hg, Bool.false_eq_true, if_true, if_false] at hc h2 ⊢
      · exact ⟨by omega, trivial⟩
      · exact ⟨by omega, by omega⟩
      · exact absurd h2 (by decide)
      · exact ⟨by omega, trivial⟩
    intro s hs
    by_cases e : s = n
    · rw [e]; exact h3.2
    · exact zcard_eq n (fun s hs => h s (by omega)) h3.1 s (by omega)
theorem zcard_lt {n : Nat} {f g : Nat → Bool} (h : zleS n f g) (hn : ¬ zeqS n f g) : zcard n f < zcard n g := by
  have := zcard_mono n h
  rcases Nat.lt_or_ge (zcard n f) (zcard n g) with h2 | h2
  · exact h2
  · exact absurd (zcard_eq n h h2) hn
/-- a row of sets that get fewer, each told by the one before: from the S-th on it stays -/
theorem zfix_dn {S : Nat} {f : Nat → Nat → Bool} (hd : ∀ i, zleS S (f (i + 1)) (f i)) (hs : ∀ i, zeqS S (f (i + 1)) (f i) → zeqS S (f (i + 2)) (f (i + 1))) : ∀ i j, zeqS S (f (i + 1)) (f i) ∨ S ≤ i → i ≤ j → zeqS S (f j) (f i) := by
  have st : ∀ i, zeqS S (f (i + 1)) (f i) → ∀ k, zeqS S (f (i + k)) (f i) ∧ zeqS S (f (i + k + 1)) (f (i + k)) := by
    intro i hi k
    induction k with
    | zero => exact ⟨zeqS.rf _, hi⟩
    | succ k ih => exact ⟨ih.2.tr ih.1, hs _ ih.2⟩
  have ex : ∀ i, (∃ j, j < i ∧ zeqS S (f (j + 1)) (f j)) ∨ zcard S (f i) + i ≤ S := by
    intro i
    induction i with
    | zero => exact Or.inr (by have := zcard_le S (f 0); omega)
    | succ i ih =>
      rcases ih with ⟨j, h1, h2⟩ | h
      · exact Or.inl ⟨j, by omega, h2⟩
      · by_cases e : zeqS S (f (i + 1)) (f i)
        · exact Or.inl ⟨i, by omega, e⟩
        · have := zcard_lt (hd i) e
          exact Or.inr (by omega)
  intro i j h hij
  obtain ⟨k, rfl⟩ : ∃ k, j = i + k := ⟨j - i, by omega⟩
  rcases h with h | h
  · exact (st i h k).1
  · obtain ⟨j, h1, h2⟩ : ∃ j, j < S + 1 ∧ zeqS S (f (j + 1)) (f j) := by
      rcases ex (S + 1) with h | h
      · exact h
      · omega
    have e1 := (st j h2 (i - j)).1
    have e2 := (st j h2 (i + k - j)).1
    rw [show j + (i - j) = i by omega] at e1
    rw [show j + (i + k - j) = i + k by omega] at e2
    exact e2.tr e1.sy
theorem zfix_up {S : Nat} {f : Nat → Nat → Bool} (hd : ∀ i, zleS S (f i) (f (i + 1))) (hs : ∀ i, zeqS S (f (i + 1)) (f i) → zeqS S (f (i + 2)) (f (i + 1))) : ∀ i j, zeqS S (f (i + 1)) (f i) ∨ S ≤ i → i ≤ j → zeqS S (f j) (f i) := by
  have ng : ∀ a b, zeqS S (fun s => !f a s) (fun s => !f b s) ↔ zeqS S (f a) (f b) := by
    intro a b
    constructor
    · intro h s hs
      have := h s hs
      simpa using this
    · intro h s hs
      simp only [h s hs]
  intro i j h hij
  have := zfix_dn (S := S) (f := fun i s => !f i s) (fun i s hs h => by
    cases e : f i s with
    | false => simp only [e, Bool.not_false]
    | true => simp only [hd i s hs e, Bool.not_true, Bool.false_eq_true] at h) (fun i h => (ng _ _).mpr (hs i ((ng _ _).mp h))) i j (h.imp (fun h => (ng _ _).mpr h) id) hij
  exact (ng _ _).mp this
/-- what a group can force, told of sets of the S states -/
def zCg (S : Nat) (C : (Nat → Bool) → Nat → Bool) : Prop := (∀ X X', zeqS S X X' → zeqS S (C X) (C X')) ∧ ∀ X X', zleS S X X' → zleS S (C X) (C X')
def zAl (C : (Nat → Bool) → Nat → Bool) (A : Nat → Bool) : Nat → Nat → Bool
  | 0 => A
  | i + 1 => fun s => zAl C A i s && C (zAl C A i) s
def zUn (C : (Nat → Bool) → Nat → Bool) (A B : Nat → Bool) : Nat → Nat → Bool
  | 0 => B
  | i + 1 => fun s => zUn C A B i s || ((A s && !zUn C A B i s) && C (zUn C A B i) s)
def zAg (C : (Nat → Bool) → Nat → Bool) (A : Nat → Bool) : Nat → Nat → Bool
  | 0 => fun _ => true
  | i + 1 => zUn C (fun _ => true) (fun s => A s && C (zAg C A i) s) 12
/-- the round of a state; 13: there is none -/
def zrd (C : (Nat → Bool) → Nat → Bool) (A B : Nat → Bool) (s : Nat) : Nat := zfst 13 fun i => zUn C A B i s
section FX
variable {S : Nat} {C : (Nat → Bool) → Nat → Bool} {A B A' B' : Nat → Bool}
theorem zAl_stay (hC : zCg S C) (i j : Nat) (h : zeqS S (zAl C A (i + 1)) (zAl C A i) ∨ S ≤ i) (hij : i ≤ j) : zeqS S (zAl C A j) (zAl C A i) := by
  refine zfix_dn (f := zAl C A) (fun i s hs h => ?_) (fun i h s hs => ?_) i j h hij
  · simp only [zAl, Bool.and_eq_true] at h; exact h.1
  · show (zAl C A (i + 1) s && C (zAl C A (i + 1)) s) = (zAl C A i s && C (zAl C A i) s)
    rw [h s hs, hC.1 _ _ h s hs]
theorem zUn_inc (i : Nat) : zleS S (zUn C A B i) (zUn C A B (i + 1)) := fun s _ h => by simp [zUn, h]
theorem zUn_incs {i j : Nat} (h : i ≤ j) : zleS S (zUn C A B i) (zUn C A B j) := by
  induction j with
  | zero => have : i = 0 := by omega
            subst this; exact fun _ _ h => h
  | succ j ih =>
    by_cases e : i = j + 1
    · subst e; exact fun _ _ h => h
    · exact fun s hs h2 => zUn_inc j s hs (ih (by omega) s hs h2)
theorem zUn_stay (hC : zCg S C) (i j : Nat) (h : zeqS S (zUn C A B (i + 1)) (zUn C A B i) ∨ S ≤ i) (hij : i ≤ j) : zeqS S (zUn C A B j) (zUn C A B i) := by
  refine zfix_up (f := zUn C A B) (fun i => zUn_inc i) (fun i h s hs => ?_) i j h hij
  show (zUn C A B (i + 1) s || ((A s && !zUn C A B (i + 1) s) && C (zUn C A B (i + 1)) s)) = (zUn C A B i s || ((A s && !zUn C A B i s) && C (zUn C A B i) s))
  rw [h s hs, hC.1 _ _ h s hs]
theorem zUn_congr (hC : zCg S C) (hA : zeqS S A A') (hB : zeqS S B B') : ∀ i, zeqS S (zUn C A B i) (zUn C A' B' i)
  | 0 => hB
  | i + 1 => fun s hs => by
    have := zUn_congr hC hA hB i
    simp only [zUn]
    rw [this s hs, hC.1 _ _ this s hs, hA s hs]
theorem zUn_mono (hC : zCg S C) (hB : zleS S B B') : ∀ i, zleS S (zUn C A B i) (zUn C A B' i)
  | 0 => hB
  | i + 1 => fun s hs h => by
    have ih := zUn_mono hC hB i
    simp only [zUn, Bool.or_eq_true, Bool.and_eq_true] at h ⊢
    rcases h with h | ⟨⟨h1, h2⟩, h3⟩
    · exact Or.inl (ih s hs h)
    · cases e : zUn C A B' i s with
      | true => exact Or.inl rfl
      | false => exact Or.inr ⟨⟨h1, rfl⟩, hC.2 _ _ ih s hs h3⟩
theorem zAg_dn (hC : zCg S C) : ∀ i, zleS S (zAg C A (i + 1)) (zAg C A i)
  | 0 => fun _ _ _ => rfl
  | i + 1 => zUn_mono hC (fun s hs h => by
    simp only [Bool.and_eq_true] at h ⊢
    exact ⟨h.1, hC.2 _ _ (zAg_dn hC i) s hs h.2⟩) 12
theorem zAg_stay (hC : zCg S C) (i j : Nat) (h : zeqS S (zAg C A (i + 1)) (zAg C A i) ∨ S ≤ i) (hij : i ≤ j) : zeqS S (zAg C A j) (zAg C A i) := by
  refine zfix_dn (f := zAg C A) (fun i => zAg_dn hC i) (fun i h => ?_) i j h hij
  exact zUn_congr hC (zeqS.rf _) (fun s hs => by rw [hC.1 _ _ h s hs]) 12
theorem zAl_congr (hC : zCg S C) (hA : zeqS S A A') : ∀ i, zeqS S (zAl C A i) (zAl C A' i)
  | 0 => hA
  | i + 1 => fun s hs => by
    have := zAl_congr hC hA i
    simp only [zAl]
    rw [this s hs, hC.1 _ _ this s hs]
theorem zrd_congr (hC : zCg S C) (hA : zeqS S A A') (hB : zeqS S B B') {s : Nat} (hs : s < S) : zrd C A B s = zrd C A' B' s := zfst_congr fun i _ => zUn_congr hC hA hB i s hs
/-- it holds where there is a round -/
theorem zrd_iff {s : Nat} (hs : s < S) : zUn C A B 12 s = true ↔ zrd C A B s < 13 := by
  constructor
  · intro h
    rcases Nat.lt_or_ge (zrd C A B s) 13 with h2 | h2
    · exact h2
    · have := zfst_no 13 (fun i => zUn C A B i s) 12 (by unfold zrd at h2; omega)
      simp only [h] at this
      cases this
  · intro h
    exact zUn_incs (S := S) (show zrd C A B s ≤ 12 by omega) s hs (zfst_yes 13 (fun i => zUn C A B i s) h)
end FX
theorem zcan_Cg {S P : Nat} {mv tg : Nat → Nat → Nat} (hN : zNet S P mv tg) (g : Nat → Bool) : zCg S fun X s => zcan (mv s) (tg s) g P X := by
  refine ⟨fun X X' h s hs => zcan_congr hN hs h, fun X X' h s hs h2 => ?_⟩
  unfold zcan at h2 ⊢
  rw [decide_eq_true_eq] at h2 ⊢
  unfold zleast at h2 ⊢
  have h3 := zfst_yes _ _ h2
  rcases Nat.lt_or_ge (zfst (zcnt (mv s) g P) (zinto (mv s) (tg s) g P X')) (zcnt (mv s) g P) with h4 | h4
  · exact h4
  · have h5 := zfst_no (zcnt (mv s) g P) (zinto (mv s) (tg s) g P X') _ (Nat.lt_of_lt_of_le h2 h4)
    have : zinto (mv s) (tg s) g P X' (zfst (zcnt (mv s) g P) (zinto (mv s) (tg s) g P X)) = true := by
      unfold zinto at h3 ⊢
      rw [zfa_iff] at h3 ⊢
      exact fun b hb => h _ (zNet_t hN hs _ (zcomb_lt (hN.2.2.2.2.1 s) g P _ b)) (h3 b hb)
    rw [h5] at this; cases this
