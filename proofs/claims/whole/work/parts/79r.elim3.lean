/-! elimination: the signs stay, all lists -/
theorem zneg_of {x p : Int} (hp : 0 < p) (h : x * p < 0) : x < 0 := by
  rcases Int.lt_or_le x 0 with h1 | h1
  · exact h1
  · have := Int.mul_nonneg h1 (Int.le_of_lt hp); omega
theorem zpos_of {x p : Int} (hp : 0 < p) (h : 0 < x * p) : 0 < x := by
  rcases Int.lt_or_le 0 x with h1 | h1
  · exact h1
  · have := Int.mul_le_mul_of_nonneg_right h1 (Int.le_of_lt hp); omega
theorem znn_of {x p : Int} (hp : 0 < p) (h : 0 ≤ x * p) : 0 ≤ x := by
  rcases Int.lt_or_le x 0 with h1 | h1
  · have := Int.mul_neg_of_neg_of_pos h1 hp; omega
  · exact h1
theorem znp_of {x p : Int} (hp : 0 < p) (h : x * p ≤ 0) : x ≤ 0 := by
  rcases Int.lt_or_le 0 x with h1 | h1
  · have := Int.mul_pos h1 hp; omega
  · exact h1
theorem zle_of {x y p : Int} (hp : 0 < p) (h : x * p ≤ y * p) : x ≤ y := Int.le_of_mul_le_mul_right h hp
theorem zSg_st {S m : Nat} {A : Nat → Nat → Int} {T : List Nat} (hs : zSta S (m :: T)) (hx : zEx A m T) (h : zSg S A T) : zSg S A (m :: T) := by
  obtain ⟨hmT, hmS, hsT⟩ := zSta_c.mp hs
  have hpm := zSg_dia h hmS hmT
  obtain ⟨hp, h2, h3, h4, h5⟩ := id h
  -- the row sums
  have hE : ∀ i, zSm S (zD A (m :: T) i) * zp A T = zD A T m m * zSm S (zD A T i) - zD A T i m * zSm S (zD A T m) := fun i => by
    rw [← zSm_mul, ← zSm_lin]
    exact zSm_congr fun j _ => hx i j
  have nin : ∀ {i}, i ∉ m :: T → i ≠ m ∧ i ∉ T := fun hi => ⟨fun e => hi (by rw [e]; simp), fun h => hi (List.mem_cons_of_mem _ h)⟩
  have off : ∀ {i}, i < S → i ∉ m :: T → zD A T i m ≤ 0 := fun hi hn => h2 _ m hi hmS (nin hn).2 hmT (nin hn).1
  have em := h3 m hmS hmT
  refine ⟨by rw [zp_c]; exact hpm, fun i j hi hj hni hnj hij => ?_, fun i hi hni => ⟨?_, ?_⟩, fun i hi hni => ?_, fun C hC hCs => ?_⟩
  · refine znp_of hp ?_
    rw [hx i j]
    have a := Int.mul_nonpos_of_nonneg_of_nonpos (Int.le_of_lt hpm) (h2 i j hi hj (nin hni).2 (nin hnj).2 hij)
    have b := Int.mul_nonneg_of_nonpos_of_nonpos (off hi hni) (h2 m j hmS hj hmT (nin hnj).2 (fun e => (nin hnj).1 e.symm))
    omega
  · refine znn_of hp ?_
    rw [hx i 12]
    have a := Int.mul_nonneg (Int.le_of_lt hpm) (h3 i hi (nin hni).2).1
    have b := Int.mul_nonpos_of_nonpos_of_nonneg (off hi hni) em.1
    omega
  · refine zle_of hp ?_
    rw [hx i 12, hE i]
    have h3i := h3 i hi (nin hni).2
    have a := Int.mul_le_mul_of_nonneg_left h3i.2 (Int.le_of_lt hpm)
    have b := Int.mul_le_mul_of_nonpos_left (off hi hni) em.2
    omega
  · rw [zp_c]
    refine zle_of hp ?_
    rw [hx i i]
    have a := Int.mul_le_mul_of_nonneg_left (h4 i hi (nin hni).2) (Int.le_of_lt hpm)
    have b := Int.mul_nonneg_of_nonpos_of_nonpos (off hi hni) (h2 m i hmS hi hmT (nin hni).2 (fun e => (nin hni).1 e.symm))
    have e : 3 * zD A T m m * zp A T = zD A T m m * (3 * zp A T) := by rw [Int.mul_comm 3, Int.mul_assoc]
    rw [e]; omega
  · -- what is come to
    have sum : ∀ i, i < S → i ∉ m :: T → 0 < zSm S (zD A T i) → 0 < zSm S (zD A (m :: T) i) := fun i hi hni hpos => by
      refine zpos_of hp ?_
      rw [hE i]
      have a := Int.mul_pos hpm hpos
      have b := Int.mul_nonpos_of_nonpos_of_nonneg (off hi hni) (show 0 ≤ zSm S (zD A T m) by omega)
      omega
    have lnk : ∀ i j, i < S → j < S → i ∉ m :: T → j ∉ m :: T → i ≠ j → zD A T i j < 0 → zD A (m :: T) i j < 0 := fun i j hi hj hni hnj hij hneg => by
      refine zneg_of hp ?_
      rw [hx i j]
      have a := Int.mul_neg_of_pos_of_neg hpm hneg
      have b := Int.mul_nonneg_of_nonpos_of_nonpos (off hi hni) (h2 m j hmS hj hmT (nin hnj).2 (fun e => (nin hnj).1 e.symm))
      omega
    have hCT : ∀ i, C i → i < S ∧ i ∉ T := fun i hi => ⟨(hCs i hi).1, (nin (hCs i hi).2).2⟩
    obtain ⟨i, hCi, hh⟩ := h5 C hC hCT
    obtain ⟨hiS, hni⟩ := hCs i hCi
    rcases hh with hh | ⟨j, hj, hjT, hjC, hneg⟩
    · exact ⟨i, hCi, Or.inl (sum i hiS hni hh)⟩
    · by_cases hjm : j = m
      · subst hjm
        obtain ⟨i2, hC2, hh2⟩ := h5 (fun x => C x ∨ x = j) ⟨j, Or.inr rfl⟩ (fun x hx2 => by
          rcases hx2 with hx2 | rfl
          · exact hCT x hx2
          · exact ⟨hmS, hmT⟩)
        by_cases hi2 : C i2
        · obtain ⟨hi2S, hni2⟩ := hCs i2 hi2
          rcases hh2 with hh2 | ⟨k, hk, hkT, hkC, hneg2⟩
          · exact ⟨i2, hi2, Or.inl (sum i2 hi2S hni2 hh2)⟩
          · have hkm : k ∉ j :: T := fun h => by
              rcases List.mem_cons.mp h with e | e
              · exact hkC (Or.inr e)
              · exact hkT e
            exact ⟨i2, hi2, Or.inr ⟨k, hk, hkm, fun h => hkC (Or.inl h), lnk i2 k hi2S hk hni2 hkm (fun e => hkC (Or.inl (by rw [← e]; exact hi2))) hneg2⟩⟩
        · have e2 : i2 = j := by
            rcases hC2 with h | h
            · exact absurd h hi2
            · exact h
          subst e2
          rcases hh2 with hh2 | ⟨k, hk, hkT, hkC, hneg2⟩
          · refine ⟨i, hCi, Or.inl (zpos_of hp ?_)⟩
            rw [hE i]
            have a := Int.mul_nonneg (Int.le_of_lt hpm) (show 0 ≤ zSm S (zD A T i) by have := h3 i hiS (nin hni).2; omega)
            have b := Int.mul_neg_of_neg_of_pos hneg hh2
            omega
          · have hkm : k ∉ i2 :: T := fun h => by
              rcases List.mem_cons.mp h with e | e
              · exact hkC (Or.inr e)
              · exact hkT e
            have hik : i ≠ k := fun e => hkC (Or.inl (by rw [← e]; exact hCi))
            refine ⟨i, hCi, Or.inr ⟨k, hk, hkm, fun h => hkC (Or.inl h), zneg_of hp ?_⟩⟩
            rw [hx i k]
            have a := Int.mul_nonpos_of_nonneg_of_nonpos (Int.le_of_lt hpm) (h2 i k hiS hk (nin hni).2 hkT hik)
            have b := Int.mul_pos_of_neg_of_neg hneg hneg2
            omega
      · have hjm2 : j ∉ m :: T := fun h => by
          rcases List.mem_cons.mp h with e | e
          · exact hjm e
          · exact hjT e
        exact ⟨i, hCi, Or.inr ⟨j, hj, hjm2, hjC, lnk i j hiS hj hni hjm2 (fun e => hjC (by rw [← e]; exact hCi)) hneg⟩⟩
theorem zEvI_all {S : Nat} {A : Nat → Nat → Int} (h0 : zSg S A []) : ∀ n, zEvI S A n
  | 0, T, hs, hl => by
    have : T = [] := List.length_eq_zero_iff.mp (by omega)
    subst this
    refine ⟨trivial, fun i _ j => ?_, h0⟩
    show A i j = 1 * A i j - 0
    rw [Int.one_mul, Int.sub_zero]
  | n + 1, T, hs, hl => by
    have ih := zEvI_all h0 n
    by_cases h : T.length ≤ n
    · exact ih T hs h
    · cases T with
      | nil => simp at h
      | cons m T =>
        rw [List.length_cons] at hl
        obtain ⟨hmT, hmS, hsT⟩ := zSta_c.mp hs
        obtain ⟨a1, _, a3⟩ := ih T hsT (by omega)
        obtain ⟨b1, b2⟩ := zEx_st ih hs (by omega)
        exact ⟨⟨a1, b1, Int.ne_of_gt (zSg_dia a3 hmS hmT)⟩, b2, zSg_st hs b1 a3⟩
theorem zp_le {S : Nat} {A : Nat → Nat → Int} (h0 : zSg S A []) : ∀ T, zSta S T → zp A T ≤ ((3 ^ T.length : Nat) : Int)
  | [], _ => Int.le_refl _
  | m :: T, hs => by
    obtain ⟨hmT, hmS, hsT⟩ := zSta_c.mp hs
    have h1 := zp_le h0 T hsT
    have h2 := (zEvI_all h0 T.length T hsT (Nat.le_refl _)).2.2.2.2.2.1 m hmS hmT
    rw [zp_c, List.length_cons, Nat.pow_succ]
    show zD A T m m ≤ _
    have h2 : zD A T m m ≤ 3 * zp A T := h2
    omega
