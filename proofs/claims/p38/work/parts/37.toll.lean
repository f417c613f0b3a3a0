/-! the least price of coming there -/
def zmn : Nat → (Nat → Nat) → Nat
  | 0, _ => 1000000
  | n + 1, f => min (zmn n f) (f n)
def zmx : Nat → (Nat → Bool) → (Nat → Nat) → Nat
  | 0, _, _ => 0
  | n + 1, E, V => if E n = true then max (zmx n E V) (V n) else zmx n E V
theorem zmn_far : ∀ n f, zmn n f ≤ 1000000
  | 0, _ => Nat.le_refl _
  | n + 1, f => by have := zmn_far n f; unfold zmn; omega
theorem zmn_le : ∀ n f i, i < n → zmn n f ≤ f i
  | 0, _, i, h => by omega
  | n + 1, f, i, h => by
    unfold zmn
    by_cases e : i = n
    · subst e; omega
    · have := zmn_le n f i (by omega); omega
theorem zmn_ex : ∀ n f, zmn n f < 1000000 → ∃ i, i < n ∧ zmn n f = f i
  | 0, _, h => by simp [zmn] at h
  | n + 1, f, h => by
    unfold zmn at h ⊢
    by_cases e : zmn n f ≤ f n
    · obtain ⟨i, h1, h2⟩ := zmn_ex n f (by omega)
      exact ⟨i, by omega, by omega⟩
    · exact ⟨n, by omega, by omega⟩
theorem zmn_mono : ∀ n {f g : Nat → Nat}, (∀ i, i < n → f i ≤ g i) → zmn n f ≤ zmn n g
  | 0, _, _, _ => Nat.le_refl _
  | n + 1, f, g, h => by
    have := zmn_mono n (f := f) (g := g) fun i hi => h i (by omega)
    have := h n (by omega)
    unfold zmn; omega
theorem zmx_le : ∀ n (E : Nat → Bool) (V : Nat → Nat) b, (∀ t, t < n → E t = true → V t ≤ b) → zmx n E V ≤ b
  | 0, _, _, _, _ => Nat.zero_le _
  | n + 1, E, V, b, h => by
    have := zmx_le n E V b fun t ht => h t (by omega)
    unfold zmx
    split
    · next e => have := h n (by omega) e; omega
    · exact this
theorem zmx_ge : ∀ n (E : Nat → Bool) (V : Nat → Nat) t, t < n → E t = true → V t ≤ zmx n E V
  | 0, _, _, t, h, _ => by omega
  | n + 1, E, V, t, h, he => by
    unfold zmx
    by_cases e : t = n
    · subst e; rw [if_pos he]; omega
    · have := zmx_ge n E V t (by omega) he
      split <;> omega
theorem zmx_mono {n : Nat} {E : Nat → Bool} {V W : Nat → Nat} (h : ∀ t, t < n → E t = true → V t ≤ W t) : zmx n E V ≤ zmx n E W := zmx_le n E V _ fun t ht he => Nat.le_trans (h t ht he) (zmx_ge n E W t ht he)
theorem zmx_congr {n : Nat} {E : Nat → Bool} {V W : Nat → Nat} (h : ∀ t, t < n → E t = true → V t = W t) : zmx n E V = zmx n E W := Nat.le_antisymm (zmx_mono fun t ht he => Nat.le_of_eq (h t ht he)) (zmx_mono fun t ht he => Nat.le_of_eq (h t ht he).symm)
/-- one turn: na moves with prices c, ends E -/
def zPh (S : Nat) (na : Nat → Nat) (c : Nat → Nat → Nat) (E : Nat → Nat → Nat → Bool) (r0 ok : Nat → Bool) (V : Nat → Nat) (s : Nat) : Nat := if r0 s = true then 0 else if ok s = true then zmn (na s) (fun a => c s a + zmx S (E s a) V) else 1000000
def zTo (S : Nat) (na : Nat → Nat) (c : Nat → Nat → Nat) (E : Nat → Nat → Nat → Bool) (r0 ok : Nat → Bool) : Nat → Nat → Nat
  | 0 => fun s => if r0 s = true then 0 else 1000000
  | k + 1 => zPh S na c E r0 ok (zTo S na c E r0 ok k)
theorem zlst {P : Nat → Prop} : ∀ n, P n → ∃ m, P m ∧ ∀ i, i < m → ¬ P i := by
  intro n
  induction n using Nat.strongRecOn with
  | _ n ih =>
    intro h
    by_cases h2 : ∃ m, m < n ∧ P m
    · obtain ⟨m, h3, h4⟩ := h2
      exact ih m h3 h4
    · exact ⟨n, h, fun i hi hp => h2 ⟨i, hi, hp⟩⟩
section TO
variable {S : Nat} {na : Nat → Nat} {c : Nat → Nat → Nat} {E : Nat → Nat → Nat → Bool} {r0 ok : Nat → Bool}
theorem zPh_mono {V W : Nat → Nat} (h : ∀ t, t < S → V t ≤ W t) (s : Nat) : zPh S na c E r0 ok V s ≤ zPh S na c E r0 ok W s := by
  unfold zPh
  split
  · exact Nat.le_refl _
  · split
    · exact zmn_mono _ fun a _ => by have := zmx_mono (n := S) (E := E s a) (V := V) (W := W) fun t ht _ => h t ht; omega
    · exact Nat.le_refl _
theorem zPh_far (V : Nat → Nat) (s : Nat) : zPh S na c E r0 ok V s ≤ 1000000 := by
  unfold zPh
  split
  · omega
  · split
    · exact zmn_far _ _
    · omega
theorem zTo_dn : ∀ k s, zTo S na c E r0 ok (k + 1) s ≤ zTo S na c E r0 ok k s
  | 0, s => by
    show zPh S na c E r0 ok _ s ≤ if r0 s = true then 0 else 1000000
    by_cases h : r0 s = true
    · rw [if_pos h]; unfold zPh; rw [if_pos h]; exact Nat.le_refl _
    · rw [if_neg h]; exact zPh_far _ _
  | k + 1, s => zPh_mono (fun t _ => zTo_dn k t) s
theorem zTo_dns {j k : Nat} (h : j ≤ k) (s : Nat) : zTo S na c E r0 ok k s ≤ zTo S na c E r0 ok j s := by
  induction k with
  | zero => have : j = 0 := by omega
            subst this; exact Nat.le_refl _
  | succ k ih =>
    by_cases e : j = k + 1
    · subst e; exact Nat.le_refl _
    · exact Nat.le_trans (zTo_dn k s) (ih (by omega))
/-- a state more stays -/
theorem zTo_one {j : Nat} (h : ∃ s, s < S ∧ ∃ k, j ≤ k ∧ ¬ zTo S na c E r0 ok k s = zTo S na c E r0 ok j s) : ∃ s, s < S ∧ (∃ k, j ≤ k ∧ ¬ zTo S na c E r0 ok k s = zTo S na c E r0 ok j s) ∧ ∀ k, j + 1 ≤ k → zTo S na c E r0 ok k s = zTo S na c E r0 ok (j + 1) s := by
  obtain ⟨s0, hs0, k0, hk0, hn0⟩ := h
  obtain ⟨m, ⟨s1, k1, hs1, hk1, hm1, hl1⟩, hmin⟩ := zlst (P := fun m => ∃ s k, s < S ∧ j ≤ k ∧ zTo S na c E r0 ok k s = m ∧ zTo S na c E r0 ok k s < zTo S na c E r0 ok j s) (zTo S na c E r0 ok k0 s0) ⟨s0, k0, hs0, hk0, rfl, by have := zTo_dns (S := S) (na := na) (c := c) (E := E) (r0 := r0) (ok := ok) hk0 s0; omega⟩
  obtain ⟨k, ⟨s, hs, hk, hm, hl⟩, hkmin⟩ := zlst (P := fun k => ∃ s, s < S ∧ j ≤ k ∧ zTo S na c E r0 ok k s = m ∧ zTo S na c E r0 ok k s < zTo S na c E r0 ok j s) k1 ⟨s1, hs1, hk1, hm1, hl1⟩
  refine ⟨s, hs, ⟨k, hk, by omega⟩, ?_⟩
  have hjk : j < k := by
    rcases Nat.lt_or_ge j k with h | h
    · exact h
    · have : k = j := by omega
      subst this; omega
  obtain ⟨k', rfl⟩ : ∃ k', k = k' + 1 := ⟨k - 1, by omega⟩
  have hfar : zTo S na c E r0 ok j s ≤ 1000000 := by
    cases j with
    | zero => unfold zTo; split <;> omega
    | succ j => exact zPh_far _ _
  have hr0 : ¬ r0 s = true := fun h => by
    have : zTo S na c E r0 ok j s = 0 := by
      cases j with
      | zero => show (if _ then _ else _) = _; rw [if_pos h]
      | succ j => show zPh _ _ _ _ _ _ _ _ = _; unfold zPh; rw [if_pos h]
    omega
  have hok : ok s = true := by
    cases hb : ok s with
    | true => rfl
    | false =>
      have : zTo S na c E r0 ok (k' + 1) s = 1000000 := by
        show zPh _ _ _ _ _ _ _ _ = _
        unfold zPh; rw [if_neg hr0, if_neg (by rw [hb]; decide)]
      omega
  have he : ∀ V, zPh S na c E r0 ok V s = zmn (na s) (fun a => c s a + zmx S (E s a) V) := fun V => by unfold zPh; rw [if_neg hr0, if_pos hok]
  have hm2 : zmn (na s) (fun a => c s a + zmx S (E s a) (zTo S na c E r0 ok k')) = m := by rw [← he]; exact hm
  obtain ⟨a, ha, hma⟩ := zmn_ex _ _ (show zmn (na s) (fun a => c s a + zmx S (E s a) (zTo S na c E r0 ok k')) < 1000000 by omega)
  have hends : ∀ t, t < S → E s a t = true → zTo S na c E r0 ok k' t = zTo S na c E r0 ok j t := by
    intro t ht hte
    have h1 := zmx_ge S (E s a) (zTo S na c E r0 ok k') t ht hte
    have h2 := zTo_dns (S := S) (na := na) (c := c) (E := E) (r0 := r0) (ok := ok) (show j ≤ k' by omega) t
    rcases Nat.lt_or_ge (zTo S na c E r0 ok k' t) (zTo S na c E r0 ok j t) with h3 | h3
    · by_cases h4 : zTo S na c E r0 ok k' t = m
      · exact absurd ⟨t, ht, by omega, h4, h3⟩ (hkmin k' (by omega))
      · exact absurd ⟨t, k', ht, by omega, rfl, h3⟩ (hmin _ (by omega))
    · omega
  have hup : zTo S na c E r0 ok (j + 1) s ≤ m := by
    show zPh S na c E r0 ok _ s ≤ m
    rw [he]
    have := zmn_le (na s) (fun a => c s a + zmx S (E s a) (zTo S na c E r0 ok j)) a ha
    rw [← zmx_congr hends] at this
    omega
  have hlow : ∀ k, j ≤ k → m ≤ zTo S na c E r0 ok k s := fun k hk => by
    rcases Nat.lt_or_ge (zTo S na c E r0 ok k s) m with h | h
    · exact absurd ⟨s, k, hs, hk, rfl, by omega⟩ (hmin _ h)
    · exact h
  intro k hk
  have h1 := hlow k (by omega)
  have h2 := hlow (j + 1) (by omega)
  have h3 := zTo_dns (S := S) (na := na) (c := c) (E := E) (r0 := r0) (ok := ok) hk s
  omega
noncomputable def zTd (S : Nat) (na : Nat → Nat) (c : Nat → Nat → Nat) (E : Nat → Nat → Nat → Bool) (r0 ok : Nat → Bool) (j s : Nat) : Bool := @decide (∀ k, j ≤ k → zTo S na c E r0 ok k s = zTo S na c E r0 ok j s) (Classical.propDecidable _)
/-- from the S-th turn on it stays -/
theorem zTo_st {k s : Nat} (hk : S ≤ k) (hs : s < S) : zTo S na c E r0 ok k s = zTo S na c E r0 ok S s := by
  have iff : ∀ j s, zTd S na c E r0 ok j s = true ↔ ∀ k, j ≤ k → zTo S na c E r0 ok k s = zTo S na c E r0 ok j s := fun j s => @decide_eq_true_iff _ (Classical.propDecidable _)
  have key : ∀ j, (∀ s, s < S → zTd S na c E r0 ok j s = true) ∨ j ≤ zcard S (zTd S na c E r0 ok j) := by
    intro j
    induction j with
    | zero => exact Or.inr (Nat.zero_le _)
    | succ j ih =>
      have sub : ∀ s, zTd S na c E r0 ok j s = true → zTd S na c E r0 ok (j + 1) s = true := fun s h => by
        rw [iff] at h ⊢
        intro k hk
        rw [h k (by omega), h (j + 1) (by omega)]
      rcases ih with h | h
      · exact Or.inl fun s hs => sub s (h s hs)
      · by_cases all : ∀ s, s < S → zTd S na c E r0 ok j s = true
        · exact Or.inl fun s hs => sub s (all s hs)
        · right
          have : ∃ s, s < S ∧ ∃ k, j ≤ k ∧ ¬ zTo S na c E r0 ok k s = zTo S na c E r0 ok j s := by
            refine Classical.byContradiction fun hn => all fun s hs => ?_
            rw [iff]
            intro k hk
            exact Classical.byContradiction fun h2 => hn ⟨s, hs, k, hk, h2⟩
          obtain ⟨s, h1, ⟨k, h2, h3⟩, h4⟩ := zTo_one this
          have := zcard_lt (n := S) (f := zTd S na c E r0 ok j) (g := zTd S na c E r0 ok (j + 1)) (fun s _ h => sub s h) (fun z => by
            have h5 : zTd S na c E r0 ok (j + 1) s = true := by rw [iff]; exact h4
            rw [← z s h1, iff] at h5
            exact h3 (h5 k h2))
          omega
  rcases key S with h | h
  · exact (iff S s).mp (h s hs) k hk
  · have := zcard_eq S (f := zTd S na c E r0 ok S) (g := fun _ => true) (fun _ _ _ => rfl) (Nat.le_trans (zcard_le S _) h)
    exact (iff S s).mp (this s hs) k hk
end TO
