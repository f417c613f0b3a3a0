/-! rows of moves: what does, by sets -/
def zsb (S : Nat) (A B : Nat → Bool) : Bool := zfa S fun t => !A t || B t
theorem zsb_iff {S : Nat} {A B : Nat → Bool} : zsb S A B = true ↔ zleS S A B := by
  unfold zsb
  rw [zfa_iff]
  constructor
  · intro h s hs h2
    have := h s hs
    rw [h2] at this
    simpa using this
  · intro h s hs
    cases e : A s with
    | false => rfl
    | true => rw [h s hs e]; rfl
/-- surely, through W, to X -/
def zSu (S : Nat) (N : Nat → Nat → Bool) (W X : Nat → Bool) : Nat → Nat → Bool
  | 0 => X
  | i + 1 => fun s => zSu S N W X i s || (W s && zsb S (N s) (zSu S N W X i))
/-- never out of X -/
def zNv (S : Nat) (N : Nat → Nat → Bool) (X : Nat → Bool) : Nat → Nat → Bool
  | 0 => X
  | i + 1 => fun s => zNv S N X i s && zsb S (N s) (zNv S N X i)
/-- others can stay in X -/
def zSy (S : Nat) (N : Nat → Nat → Bool) (X : Nat → Bool) : Nat → Nat → Bool
  | 0 => X
  | i + 1 => fun s => zSy S N X i s && zan S fun t => N s t && zSy S N X i t
section BL
variable {S : Nat} {N : Nat → Nat → Bool} {W X F : Nat → Bool}
theorem zsb_congr {A B A' B' : Nat → Bool} (h1 : zeqS S A A') (h2 : zeqS S B B') : zsb S A B = zsb S A' B' := zfa_congr fun t ht => by rw [h1 t ht, h2 t ht]
theorem zSu_inc (i : Nat) : zleS S (zSu S N W X i) (zSu S N W X (i + 1)) := fun s _ h => by simp [zSu, h]
theorem zSu_stay (i j : Nat) (h : zeqS S (zSu S N W X (i + 1)) (zSu S N W X i) ∨ S ≤ i) (hij : i ≤ j) : zeqS S (zSu S N W X j) (zSu S N W X i) := by
  refine zfix_up (f := zSu S N W X) (fun i => zSu_inc i) (fun i h s hs => ?_) i j h hij
  show (zSu S N W X (i + 1) s || (W s && zsb S (N s) (zSu S N W X (i + 1)))) = (zSu S N W X i s || (W s && zsb S (N s) (zSu S N W X i)))
  rw [h s hs, zsb_congr (zeqS.rf _) h]
theorem zNv_stay (i j : Nat) (h : zeqS S (zNv S N X (i + 1)) (zNv S N X i) ∨ S ≤ i) (hij : i ≤ j) : zeqS S (zNv S N X j) (zNv S N X i) := by
  refine zfix_dn (f := zNv S N X) (fun i s _ h => by simp only [zNv, Bool.and_eq_true] at h; exact h.1) (fun i h s hs => ?_) i j h hij
  show (zNv S N X (i + 1) s && zsb S (N s) (zNv S N X (i + 1))) = (zNv S N X i s && zsb S (N s) (zNv S N X i))
  rw [h s hs, zsb_congr (zeqS.rf _) h]
theorem zSy_stay (i j : Nat) (h : zeqS S (zSy S N X (i + 1)) (zSy S N X i) ∨ S ≤ i) (hij : i ≤ j) : zeqS S (zSy S N X j) (zSy S N X i) := by
  refine zfix_dn (f := zSy S N X) (fun i s _ h => by simp only [zSy, Bool.and_eq_true] at h; exact h.1) (fun i h s hs => ?_) i j h hij
  show (zSy S N X (i + 1) s && zan S fun t => N s t && zSy S N X (i + 1) t) = (zSy S N X i s && zan S fun t => N s t && zSy S N X i t)
  rw [h s hs, zan_congr fun t ht => by rw [h t ht]]
/-- told: in it, if it is in X, or in W and leads into it alone -/
theorem zSu_fix (hS : S ≤ 12) {s : Nat} (hs : s < S) (hw : W s = true) (hn : zleS S (N s) (zSu S N W X 12)) : zSu S N W X 12 s = true := by
  rw [← zSu_stay 12 13 (Or.inr hS) (by omega) s hs]
  show (zSu S N W X 12 s || (W s && zsb S (N s) (zSu S N W X 12))) = true
  rw [hw, zsb_iff.mpr hn]; simp
theorem zSu_in (i : Nat) : zleS S X (zSu S N W X i) := by
  induction i with
  | zero => exact fun _ _ h => h
  | succ i ih => exact fun s hs h => zSu_inc i s hs (ih s hs h)
theorem zNv_fix (hS : S ≤ 12) {s : Nat} (hs : s < S) (h : zNv S N X 12 s = true) : zleS S (N s) (zNv S N X 12) := by
  rw [← zNv_stay 12 13 (Or.inr hS) (by omega) s hs] at h
  have h : (zNv S N X 12 s && zsb S (N s) (zNv S N X 12)) = true := h
  rw [Bool.and_eq_true] at h
  exact zsb_iff.mp h.2
theorem zNv_le (i : Nat) : zleS S (zNv S N X i) X := by
  induction i with
  | zero => exact fun _ _ h => h
  | succ i ih => exact fun s hs h => ih s hs (by simp only [zNv, Bool.and_eq_true] at h; exact h.1)
theorem zNv_max {Y : Nat → Bool} (h0 : zleS S Y X) (hc : ∀ s, s < S → Y s = true → zleS S (N s) Y) (i : Nat) : zleS S Y (zNv S N X i) := by
  induction i with
  | zero => exact h0
  | succ i ih =>
    intro s hs h
    simp only [zNv, Bool.and_eq_true]
    exact ⟨ih s hs h, zsb_iff.mpr fun t ht h2 => ih t ht (hc s hs h t ht h2)⟩
theorem zSy_max {Y : Nat → Bool} (h0 : zleS S Y X) (hc : ∀ s, s < S → Y s = true → ∃ t, t < S ∧ N s t = true ∧ Y t = true) (i : Nat) : zleS S Y (zSy S N X i) := by
  induction i with
  | zero => exact h0
  | succ i ih =>
    intro s hs h
    simp only [zSy, Bool.and_eq_true]
    obtain ⟨t, h1, h2, h3⟩ := hc s hs h
    exact ⟨ih s hs h, (zan_iff _ _).mpr ⟨t, h1, by rw [h2, ih t h1 h3]; rfl⟩⟩
theorem zSy_fix (hS : S ≤ 12) {s : Nat} (hs : s < S) (h : zSy S N X 12 s = true) : ∃ t, t < S ∧ N s t = true ∧ zSy S N X 12 t = true := by
  rw [← zSy_stay 12 13 (Or.inr hS) (by omega) s hs] at h
  have h : (zSy S N X 12 s && zan S fun t => N s t && zSy S N X 12 t) = true := h
  rw [Bool.and_eq_true] at h
  obtain ⟨t, h1, h2⟩ := (zan_iff _ _).mp h.2
  rw [Bool.and_eq_true] at h2
  exact ⟨t, h1, h2⟩
theorem zSy_le (i : Nat) : zleS S (zSy S N X i) X := by
  induction i with
  | zero => exact fun _ _ h => h
  | succ i ih => exact fun s hs h => ih s hs (by simp only [zSy, Bool.and_eq_true] at h; exact h.1)
/-- what the row does for -/
def zDo (S kd : Nat) (N : Nat → Nat → Bool) (one two : Nat → Bool) : Nat → Bool :=
  if kd = 5 then fun s => zsb S (N s) one
  else if kd = 6 then zNv S N one 12
  else if kd = 9 then zNv S N (zSu S N (fun _ => true) one 12) 12
  else if kd = 8 then zSu S N one two 12
  else zSu S N (fun _ => true) one 12
theorem zRc_G (hS : S ≤ 12) : zleS S (zRc S N F 12) X ↔ zleS S F (zNv S N X 12) := by
  constructor
  · intro h s hs h2
    exact zNv_max (Y := zRc S N F 12) h (fun s hs h3 t ht h4 => zRc_cl hS s t hs ht h3 h4) 12 s hs (zRc_in 12 s hs h2)
  · intro h s hs h2
    exact zNv_le 12 s hs (zRc_min h (fun s t hs ht h3 h4 => zNv_fix hS hs h3 t ht h4) 12 s hs h2)
theorem zSu_cl {Y : Nat → Bool} (hc : ∀ s t, s < S → t < S → Y s = true → N s t = true → Y t = true) : ∀ i, ∀ s, s < S → Y s = true → (zSu S N W X i s = zSu S N (fun s => Y s && W s) X i s)
  | 0, _, _, _ => rfl
  | i + 1, s, hs, h => by
    have ih := zSu_cl hc i
    show (_ || _) = (_ || _)
    have e0 : (fun s => Y s && W s) s = W s := by show (Y s && W s) = W s; rw [h, Bool.true_and]
    rw [ih s hs h, e0]
    congr 2
    refine zfa_congr fun t ht => ?_
    cases e : N s t with
    | false => rfl
    | true => rw [ih t ht (hc s t hs ht h e)]
theorem zRc_U (hS : S ≤ 12) : zleS S F (zSu S N (fun s => zRc S N F 12 s && W s) X 12) ↔ zleS S F (zSu S N W X 12) := by
  have key := zSu_cl (S := S) (N := N) (W := W) (X := X) (Y := zRc S N F 12) (fun s t hs ht h h2 => zRc_cl hS s t hs ht h h2) 12
  constructor
  · intro h s hs h2
    rw [key s hs (zRc_in 12 s hs h2)]; exact h s hs h2
  · intro h s hs h2
    rw [← key s hs (zRc_in 12 s hs h2)]; exact h s hs h2
theorem zRc_I (hS : S ≤ 12) : (∀ s, s < S → zSy S N (fun s => zRc S N F 12 s && !X s) 12 s = false) ↔ zleS S F (zNv S N (zSu S N (fun _ => true) X 12) 12) := by
  rw [← zRc_G hS]
  constructor
  · intro h s hs h2
    cases e : zSu S N (fun _ => true) X 12 s with
    | true => rfl
    | false =>
      have := zSy_max (S := S) (N := N) (X := fun s => zRc S N F 12 s && !X s) (Y := fun s => zRc S N F 12 s && !zSu S N (fun _ => true) X 12 s) (fun t ht h3 => by
        simp only [Bool.and_eq_true, Bool.not_eq_true'] at h3 ⊢
        refine ⟨h3.1, ?_⟩
        cases e2 : X t with
        | false => rfl
        | true => rw [zSu_in 12 t ht e2] at h3; exact absurd h3.2 (by decide)) (fun t ht h3 => by
        simp only [Bool.and_eq_true, Bool.not_eq_true'] at h3
        refine Classical.byContradiction fun hn => ?_
        have h4 := zSu_fix (S := S) (N := N) (W := fun _ => true) (X := X) hS ht rfl fun u hu h5 => by
          cases e3 : zSu S N (fun _ => true) X 12 u with
          | true => rfl
          | false => exact absurd ⟨u, hu, h5, by rw [zRc_cl hS t u ht hu h3.1 h5, e3]; rfl⟩ hn
        rw [h4] at h3; exact absurd h3.2 (by decide)) 12 s hs (by show (zRc S N F 12 s && !zSu S N (fun _ => true) X 12 s) = true; rw [h2, e]; rfl)
      rw [h s hs] at this; cases this
  · intro h s hs
    cases e : zSy S N (fun s => zRc S N F 12 s && !X s) 12 s with
    | false => rfl
    | true =>
      have no : ∀ i s, s < S → zSy S N (fun s => zRc S N F 12 s && !X s) 12 s = true → zSu S N (fun _ => true) X i s = false := by
        intro i
        induction i with
        | zero =>
          intro s hs h2
          have := zSy_le 12 s hs h2
          simp only [Bool.and_eq_true, Bool.not_eq_true'] at this
          exact this.2
        | succ i ih =>
          intro s hs h2
          obtain ⟨t, h3, h4, h5⟩ := zSy_fix hS hs h2
          show (zSu S N (fun _ => true) X i s || (true && zsb S (N s) (zSu S N (fun _ => true) X i))) = false
          rw [ih s hs h2, Bool.false_or, Bool.true_and]
          cases e2 : zsb S (N s) (zSu S N (fun _ => true) X i) with
          | false => rfl
          | true => have := zsb_iff.mp e2 t h3 h4; rw [ih t h3 h5] at this; cases this
      have h2 := zSy_le 12 s hs e
      simp only [Bool.and_eq_true] at h2
      have h3 := h s hs h2.1
      rw [no 12 s hs e] at h3; cases h3
end BL
