/-! chances: counts, the class -/
/-- how many moves of the lot there are, where one leads -/
def zLm (mv : Nat → Nat → Nat) (lo : Int) (s : Nat) : Nat := if lo < 0 then 1 else mv s lo.toNat
def zLt (mv tg : Nat → Nat → Nat) (P : Nat) (ch : Nat → Nat → Nat) (lo : Int) (s k : Nat) : Nat := tg s (znum (mv s) (fun p : Nat => if (p : Int) = lo then k else ch s p) P)
def zKc (mv tg : Nat → Nat → Nat) (P : Nat) (ch : Nat → Nat → Nat) (lo : Int) (s t : Nat) : Nat := zcard (zLm mv lo s) fun k => decide (zLt mv tg P ch lo s k = t)
/-- backwards: s leads to r -/
def zEb (mv tg : Nat → Nat → Nat) (P : Nat) (ch : Nat → Nat → Nat) (lo : Int) (r s : Nat) : Bool := zan (zLm mv lo s) fun k => decide (zLt mv tg P ch lo s k = r)
def zSn : Nat → (Nat → Nat) → Nat
  | 0, _ => 0
  | n + 1, f => zSn n f + f n
def zCi (S : Nat) (c : Nat → Nat → Nat) (X : Nat → Bool) (s : Nat) : Nat := zSn S fun t => if X t = true then c s t else 0
theorem zcard_pos : ∀ (n : Nat) (f : Nat → Bool), 0 < zcard n f ↔ zan n f = true
  | 0, f => by simp [zcard, zan]
  | n + 1, f => by
    have ih := zcard_pos n f
    show 0 < zcard n f + (if f n = true then 1 else 0) ↔ (zan n f || f n) = true
    rw [Bool.or_eq_true, ← ih]
    split <;> simp_all
theorem zSn_pos : ∀ (n : Nat) (f : Nat → Nat), 0 < zSn n f ↔ ∃ t, t < n ∧ 0 < f t
  | 0, f => by simp [zSn]
  | n + 1, f => by
    have ih := zSn_pos n f
    show 0 < zSn n f + f n ↔ _
    constructor
    · intro h
      by_cases h1 : 0 < zSn n f
      · obtain ⟨t, a, b⟩ := ih.mp h1
        exact ⟨t, by omega, b⟩
      · exact ⟨n, by omega, by omega⟩
    · rintro ⟨t, a, b⟩
      by_cases e : t = n
      · subst e; omega
      · have := ih.mpr ⟨t, by omega, b⟩
        omega
theorem zSn_le : ∀ (n : Nat) (f : Nat → Nat) (b : Nat), (∀ t, t < n → f t ≤ b) → zSn n f ≤ n * b
  | 0, _, _, _ => by simp [zSn]
  | n + 1, f, b, h => by
    have := zSn_le n f b (fun t ht => h t (by omega))
    have := h n (by omega)
    show zSn n f + f n ≤ (n + 1) * b
    rw [Nat.add_mul, Nat.one_mul]; omega
theorem zLm_3 {mv : Nat → Nat → Nat} (hm : ∀ s, zmOK (mv s)) (lo : Int) (s : Nat) : 1 ≤ zLm mv lo s ∧ zLm mv lo s ≤ 3 := by
  unfold zLm; split
  · omega
  · exact hm s _
theorem zKc_3 {mv tg : Nat → Nat → Nat} {P : Nat} {ch : Nat → Nat → Nat} {lo : Int} (hm : ∀ s, zmOK (mv s)) (s t : Nat) : zKc mv tg P ch lo s t ≤ 3 := Nat.le_trans (zcard_le _ _) (zLm_3 hm lo s).2
theorem zCi_36 {S : Nat} {c : Nat → Nat → Nat} {X : Nat → Bool} {s : Nat} (hS : S ≤ 12) (hc : ∀ t, c s t ≤ 3) : zCi S c X s ≤ 36 := by
  have := zSn_le S (fun t => if X t = true then c s t else 0) 3 (fun t _ => by split; exact hc t; omega)
  unfold zCi; omega
def zCtC (S : Nat) (c : Nat → Nat → Nat) (M : Nat → Int → Int) : Prop := ∀ s t : Nat, s < S → t < 12 → M 37 ((s : Int) * 12 + t) = c s t
section LO
variable {Ln S P : Nat} {mv tg ch c : Nat → Nat → Nat} {M : Nat → Int → Int} {lo : Int} {X : Nat → Bool}
theorem zLt_lt (hN : zNet S P mv tg) (hch : ∀ s p, ch s p < mv s p) {s k : Nat} (hs : s < S) (hk : k < zLm mv lo s) : zLt mv tg P ch lo s k < S := by
  have h81 := zcnt_81 (hN.2.2.2.2.1 s) zall1 hN.2.2.2.1
  refine hN.2.2.2.2.2 s _ hs ?_
  have hdg : ∀ p, (fun p : Nat => if (p : Int) = lo then k else ch s p) p < mv s p := fun p => by
    show (if (p : Int) = lo then k else ch s p) < mv s p
    split
    · next h =>
      unfold zLm at hk
      rw [if_neg (by omega)] at hk
      rw [← h] at hk
      simpa using hk
    · exact hch s p
  have := znum_lt (hN.2.2.2.2.1 s) hdg P
  omega
end LO
