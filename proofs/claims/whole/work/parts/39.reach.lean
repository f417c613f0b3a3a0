/-! ways, what can be come to, digits of a number -/
theorem zan_congr {n : Nat} {f f' : Nat → Bool} (h : ∀ i, i < n → f i = f' i) : zan n f = zan n f' := by
  induction n with
  | zero => rfl
  | succ n ih => unfold zan; rw [ih (fun i hi => h i (by omega)), h n (by omega)]
/-- the states on the way by f -/
def zwy (f : Nat → Nat) : Nat → (Nat → Bool) → Nat → Nat → Bool
  | 0, met, _ => met
  | n + 1, met, s => if met s = true then met else zwy f n (fun t => met t || decide (t = s)) (f s)
theorem zcard_up {S : Nat} {f : Nat → Bool} {s : Nat} (hs : s < S) (hf : ¬ f s = true) : zcard S f + 1 ≤ zcard S (fun t => f t || decide (t = s)) := by
  refine zcard_lt (fun t _ h => by simp [h]) fun z => ?_
  have := z s hs
  simp at this
  exact hf this
theorem zwy_st {S : Nat} {f : Nat → Nat} (hf : ∀ s, s < S → f s < S) : ∀ n met s, s < S → S ≤ zcard S met + n → zwy f (n + 1) met s = zwy f n met s
  | 0, met, s, hs, h => by
    have h2 := zcard_eq S (f := met) (g := fun _ => true) (fun _ _ _ => rfl) (Nat.le_trans (zcard_le S _) h) s hs
    simp [zwy, h2]
  | n + 1, met, s, hs, h => by
    by_cases e : met s = true
    · rw [zwy, if_pos e, zwy, if_pos e]
    · rw [zwy, if_neg e, zwy_st hf n _ (f s) (hf s hs) (by have := zcard_up hs e; omega)]
      conv => rhs; rw [zwy, if_neg e]
/-- told in 12 -/
def zWy (f : Nat → Nat) (s : Nat) : Nat → Bool := zwy f 12 (fun _ => false) s
/-- what can be come to from X0 -/
def zRc (S : Nat) (e : Nat → Nat → Bool) (X0 : Nat → Bool) : Nat → Nat → Bool
  | 0 => X0
  | i + 1 => fun t => zRc S e X0 i t || zan S fun s => zRc S e X0 i s && e s t
def zclo (S : Nat) (e : Nat → Nat → Bool) (X : Nat → Bool) : Prop := ∀ s t, s < S → t < S → X s = true → e s t = true → X t = true
section RC
variable {S : Nat} {e : Nat → Nat → Bool} {X0 X : Nat → Bool}
theorem zRc_stay (i j : Nat) (h : zeqS S (zRc S e X0 (i + 1)) (zRc S e X0 i) ∨ S ≤ i) (hij : i ≤ j) : zeqS S (zRc S e X0 j) (zRc S e X0 i) := by
  refine zfix_up (f := zRc S e X0) (fun i s _ h => by simp [zRc, h]) (fun i h s hs => ?_) i j h hij
  show (zRc S e X0 (i + 1) s || zan S fun t => zRc S e X0 (i + 1) t && e t s) = (zRc S e X0 i s || zan S fun t => zRc S e X0 i t && e t s)
  rw [h s hs, zan_congr fun t ht => by rw [h t ht]]
theorem zRc_cl (hS : S ≤ 12) : zclo S e (zRc S e X0 12) := fun s t hs ht h1 h2 => by
  have h3 : zRc S e X0 13 t = true := by
    show (zRc S e X0 12 t || zan S fun s => zRc S e X0 12 s && e s t) = true
    rw [Bool.or_eq_true, zan_iff]
    exact Or.inr ⟨s, hs, by rw [h1, h2]; rfl⟩
  rw [← zRc_stay 12 13 (Or.inr hS) (by omega) t ht]; exact h3
theorem zRc_in (i : Nat) : zleS S X0 (zRc S e X0 i) := by
  induction i with
  | zero => exact fun _ _ h => h
  | succ i ih => exact fun s hs h => by simp [zRc, ih s hs h]
theorem zRc_min (h0 : zleS S X0 X) (hc : zclo S e X) (i : Nat) : zleS S (zRc S e X0 i) X := by
  induction i with
  | zero => exact h0
  | succ i ih =>
    intro t ht h
    have h : (zRc S e X0 i t || zan S fun s => zRc S e X0 i s && e s t) = true := h
    rw [Bool.or_eq_true, zan_iff] at h
    rcases h with h | ⟨s, hs, h⟩
    · exact ih t ht h
    · rw [Bool.and_eq_true] at h
      exact hc s t hs ht (ih s hs h.1) h.2
/-- a closed set within it is it -/
theorem zRc_is (hS : S ≤ 12) (h0 : zleS S X0 X) (hc : zclo S e X) (hin : zleS S X (zRc S e X0 12)) : zeqS S X (zRc S e X0 12) := zeqS_of hin (zRc_min h0 hc 12)
end RC
/-- n without its last k digits, of K -/
def zpre (b : Nat → Nat) (K n : Nat) : Nat → Nat
  | 0 => n
  | k + 1 => zpre b K n k / b (K - 1 - k)
def zdg (b : Nat → Nat) (K n i : Nat) : Nat := zpre b K n (K - 1 - i) % b i
theorem zdg_lt {b : Nat → Nat} (hb : ∀ i, 1 ≤ b i) (K n i : Nat) : zdg b K n i < b i := Nat.mod_lt _ (hb i)
theorem zpre_lt {b : Nat → Nat} (hb : ∀ i, 1 ≤ b i) {K n : Nat} (hn : n < zcnt b zall1 K) : ∀ k, k ≤ K → zpre b K n k < zcnt b zall1 (K - k)
  | 0, _ => hn
  | k + 1, h => by
    have ih := zpre_lt hb hn k (by omega)
    rw [show K - k = K - (k + 1) + 1 by omega] at ih
    simp only [zcnt, zall1, if_true] at ih
    rw [show K - (k + 1) = K - 1 - k by omega] at ih ⊢
    exact zdvd ih (hb _)
/-- one more, digit by digit: all behind the first q have been as high as they go -/
def zcry (b : Nat → Nat) (K n q : Nat) : Prop := zpre b K (n + 1) (K - q) = zpre b K n (K - q) + 1 ∧ ∀ i, q ≤ i → i < K → zdg b K (n + 1) i = 0
theorem zcry_0 (b : Nat → Nat) (K n : Nat) : zcry b K n K := ⟨by rw [Nat.sub_self]; rfl, fun i h1 h2 => by omega⟩
theorem zpre_same {b : Nat → Nat} {K n n' k k' : Nat} (h : zpre b K n k = zpre b K n' k) (hk : k ≤ k') : zpre b K n k' = zpre b K n' k' := by
  induction k' with
  | zero => have : k = 0 := by omega
            subst this; exact h
  | succ k' ih =>
    by_cases e : k = k' + 1
    · subst e; exact h
    · simp only [zpre]; rw [ih (by omega)]
/-- the digit is not as high as it goes: it is the one that is counted up -/
theorem zcry_up {b : Nat → Nat} (hb : ∀ i, 1 ≤ b i) {K n q : Nat} (hq : q < K) (h : zcry b K n (q + 1)) (hd : zdg b K n q + 1 < b q) : zdg b K (n + 1) q = zdg b K n q + 1 ∧ ∀ i, i < q → zdg b K (n + 1) i = zdg b K n i := by
  have h1 := h.1
  have hbq := hb q
  rw [show K - (q + 1) = K - 1 - q by omega] at h1
  unfold zdg at hd ⊢
  have e1 : (zpre b K n (K - 1 - q) + 1) % b q = zpre b K n (K - 1 - q) % b q + 1 := by
    rw [Nat.add_mod, Nat.mod_eq_of_lt (show 1 < b q by omega), Nat.mod_eq_of_lt hd]
  have e2 : (zpre b K n (K - 1 - q) + 1) / b q = zpre b K n (K - 1 - q) / b q := by
    have a1 := Nat.div_add_mod (zpre b K n (K - 1 - q)) (b q)
    have : zpre b K n (K - 1 - q) + 1 = b q * (zpre b K n (K - 1 - q) / b q) + (zpre b K n (K - 1 - q) % b q + 1) := by omega
    rw [this, Nat.mul_add_div (by omega), Nat.div_eq_of_lt hd, Nat.add_zero]
  refine ⟨by rw [h1, e1], fun i hi => ?_⟩
  have : zpre b K (n + 1) (K - 1 - q + 1) = zpre b K n (K - 1 - q + 1) := by
    simp only [zpre, show K - 1 - (K - 1 - q) = q by omega]
    rw [h1, e2]
  rw [zpre_same this (show K - 1 - q + 1 ≤ K - 1 - i by omega)]
/-- it is: on with the one ahead of it -/
theorem zcry_on {b : Nat → Nat} (hb : ∀ i, 1 ≤ b i) {K n q : Nat} (hq : q < K) (h : zcry b K n (q + 1)) (hd : ¬ zdg b K n q + 1 < b q) : zcry b K n q := by
  have h1 := h.1
  have hbq := hb q
  have hl := zdg_lt hb K n q
  rw [show K - (q + 1) = K - 1 - q by omega] at h1
  unfold zdg at hd hl
  have a1 := Nat.div_add_mod (zpre b K n (K - 1 - q)) (b q)
  have e0 : zpre b K n (K - 1 - q) + 1 = b q * (zpre b K n (K - 1 - q) / b q + 1) := by rw [Nat.mul_add, Nat.mul_one]; omega
  refine ⟨?_, fun i h2 h3 => ?_⟩
  · rw [show K - q = K - 1 - q + 1 by omega]
    simp only [zpre, show K - 1 - (K - 1 - q) = q by omega]
    rw [h1, e0, Nat.mul_div_cancel_left _ (by omega)]
  · by_cases e : i = q
    · subst e
      unfold zdg
      rw [h1, e0, Nat.mul_mod_right]
    · exact h.2 i (by omega) h3
/-- all were: there is no further one -/
theorem zcry_end {b : Nat → Nat} (hb : ∀ i, 1 ≤ b i) {K n : Nat} (hn : n < zcnt b zall1 K) (h : zcry b K n 0) : n + 1 = zcnt b zall1 K := by
  rcases Nat.lt_or_ge (n + 1) (zcnt b zall1 K) with h2 | h2
  · have h3 := zpre_lt hb h2 K (Nat.le_refl _)
    have h4 := h.1
    rw [Nat.sub_zero] at h4
    rw [h4, Nat.sub_self] at h3
    simp only [zcnt] at h3
    omega
  · omega
theorem zcry_more {b : Nat → Nat} (hb : ∀ i, 1 ≤ b i) {K n q : Nat} (hq : q < K) (h : zcry b K n (q + 1)) (hd : zdg b K n q + 1 < b q) (hn : n < zcnt b zall1 K) : n + 1 < zcnt b zall1 K := by
  have h0 : ∀ k, k ≤ q + 1 → zpre b K (n + 1) (K - (q + 1) + k) < zcnt b zall1 (q + 1 - k) → n + 1 < zcnt b zall1 K := by
    intro k hk h2
    have back : ∀ j, j ≤ K → zpre b K (n + 1) j < zcnt b zall1 (K - j) → n + 1 < zcnt b zall1 K := by
      intro j
      induction j with
      | zero => intro _ h; exact h
      | succ j ih =>
        intro hj h
        refine ih (by omega) ?_
        rw [show K - j = K - (j + 1) + 1 by omega]
        simp only [zcnt, zall1, if_true]
        simp only [zpre] at h
        rw [show K - 1 - j = K - (j + 1) by omega] at h
        exact (Nat.div_lt_iff_lt_mul (hb _)).mp h
    exact back (K - (q + 1) + k) (by omega) (by rw [show K - (K - (q + 1) + k) = q + 1 - k by omega]; exact h2)
  refine h0 0 (by omega) ?_
  show zpre b K (n + 1) (K - (q + 1)) < zcnt b zall1 (q + 1)
  rw [h.1]
  have h3 := zpre_lt hb hn (K - (q + 1)) (by omega)
  rw [show K - (K - (q + 1)) = q + 1 by omega] at h3
  simp only [zcnt, zall1, if_true] at h3 ⊢
  have hbq := hb q
  unfold zdg at hd
  rw [show K - (q + 1) = K - 1 - q by omega] at h3 ⊢
  have a1 := Nat.div_add_mod (zpre b K n (K - 1 - q)) (b q)
  have h5 := zdvd h3 hbq
  have h6 : b q * (zpre b K n (K - 1 - q) / b q + 1) ≤ b q * zcnt b zall1 q := Nat.mul_le_mul_left _ h5
  rw [Nat.mul_add, Nat.mul_one, Nat.mul_comm (b q) (zcnt b zall1 q)] at h6
  omega
