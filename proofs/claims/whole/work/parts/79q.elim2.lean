/-! elimination: no rest, signs, bounds -/
theorem zSm_ne : ∀ (n : Nat) (f : Nat → Int), (∀ k, k < n → f k ≤ 0) → zSm n f ≤ 0
  | 0, _, _ => Int.le_refl _
  | n + 1, f, h => by
    have := zSm_ne n f (fun k hk => h k (by omega))
    have := h n (by omega)
    show zSm n f + f n ≤ 0
    omega
theorem zSm_one : ∀ (n : Nat) (f : Nat → Int) (i : Nat), i < n → (∀ k, k < n → k ≠ i → f k ≤ 0) → zSm n f ≤ f i
  | 0, _, _, h, _ => by omega
  | n + 1, f, i, hi, h => by
    show zSm n f + f n ≤ f i
    by_cases e : i = n
    · subst e
      have := zSm_ne i f (fun k hk => h k (by omega) (by omega))
      omega
    · have := zSm_one n f i (by omega) (fun k hk hk2 => h k (by omega) hk2)
      have := h n (by omega) (by omega)
      omega
theorem zSm_two : ∀ (n : Nat) (f : Nat → Int) (i j : Nat), i < n → j < n → i ≠ j → (∀ k, k < n → k ≠ i → k ≠ j → f k ≤ 0) → zSm n f ≤ f i + f j
  | 0, _, _, _, h, _, _, _ => by omega
  | n + 1, f, i, j, hi, hj, hij, h => by
    show zSm n f + f n ≤ f i + f j
    by_cases e : i = n
    · subst e
      have := zSm_one i f j (by omega) (fun k hk hk2 => h k (by omega) (by omega) hk2)
      omega
    · by_cases e2 : j = n
      · subst e2
        have := zSm_one j f i (by omega) (fun k hk hk2 => h k (by omega) hk2 (by omega))
        omega
      · have := zSm_two n f i j (by omega) (by omega) hij (fun k hk hk2 hk3 => h k (by omega) hk2 hk3)
        have := h n (by omega) (by omega) (by omega)
        omega
def zSta (S : Nat) (T : List Nat) : Prop := T.Nodup ∧ ∀ x, x ∈ T → x < S
def zLap (A : Nat → Nat → Int) (T : List Nat) : Prop := ∀ i, i ∉ T → ∀ j, zD A T i j = zp A T * A i j - zLs T (fun l => zD A (T.erase l) i l * A l j)
/-- the signs of what is left -/
def zSg (S : Nat) (A : Nat → Nat → Int) (T : List Nat) : Prop := 0 < zp A T ∧ (∀ i j, i < S → j < S → i ∉ T → j ∉ T → i ≠ j → zD A T i j ≤ 0) ∧ (∀ i, i < S → i ∉ T → 0 ≤ zD A T i 12 ∧ zD A T i 12 ≤ zSm S (zD A T i)) ∧ (∀ i, i < S → i ∉ T → zD A T i i ≤ 3 * zp A T) ∧ ∀ C : Nat → Prop, (∃ i, C i) → (∀ i, C i → i < S ∧ i ∉ T) → ∃ i, C i ∧ (0 < zSm S (zD A T i) ∨ ∃ j, j < S ∧ j ∉ T ∧ ¬ C j ∧ zD A T i j < 0)
theorem zSg_dia {S : Nat} {A : Nat → Nat → Int} {T : List Nat} (h : zSg S A T) {i : Nat} (hi : i < S) (hT : i ∉ T) : 0 < zD A T i i := by
  obtain ⟨_, h2, h3, _, h5⟩ := h
  obtain ⟨_, rfl, hh⟩ := h5 (fun x => x = i) ⟨i, rfl⟩ (fun x hx => by subst hx; exact ⟨hi, hT⟩)
  rename_i x
  have off : ∀ k, k < S → k ≠ x → zD A T x k ≤ 0 := fun k hk hkx => by
    by_cases hkT : k ∈ T
    · rw [zD_col hkT]; exact Int.le_refl _
    · exact h2 x k hi hk hT hkT (fun e => hkx e.symm)
  rcases hh with hh | ⟨j, hj, hjT, hjx, hneg⟩
  · have := zSm_one S (zD A T x) x hi off
    omega
  · have := zSm_two S (zD A T x) x j hi hj (fun e => hjx e.symm) (fun k hk hk2 _ => off k hk hk2)
    have := (h3 x hi hT)
    omega
theorem zSg_off {S : Nat} {A : Nat → Nat → Int} {T : List Nat} (h : zSg S A T) {i k : Nat} (hi : i < S) (hT : i ∉ T) (hk : k < S) (hki : k ≠ i) : zD A T i k ≤ 0 ∧ - zD A T i k ≤ zD A T i i := by
  obtain ⟨_, h2, h3, _, h5⟩ := h
  have off : ∀ k, k < S → k ≠ i → zD A T i k ≤ 0 := fun k hk hkx => by
    by_cases hkT : k ∈ T
    · rw [zD_col hkT]; exact Int.le_refl _
    · exact h2 i k hi hk hT hkT (fun e => hkx e.symm)
  have := zSm_two S (zD A T i) i k hi hk (fun e => hki e.symm) (fun j hj hj2 _ => off j hj hj2)
  have := (h3 i hi hT)
  exact ⟨off k hk hki, by omega⟩
theorem zSg_rhs {S : Nat} {A : Nat → Nat → Int} {T : List Nat} (h : zSg S A T) {i : Nat} (hi : i < S) (hT : i ∉ T) : 0 ≤ zD A T i 12 ∧ zD A T i 12 ≤ zD A T i i := by
  have off := fun k hk hki => (zSg_off h hi hT (k := k) hk hki).1
  have := zSm_one S (zD A T i) i hi off
  have := (h.2.2.1 i hi hT)
  omega
def zEvI (S : Nat) (A : Nat → Nat → Int) (n : Nat) : Prop := ∀ T, zSta S T → T.length ≤ n → zAx A T ∧ zLap A T ∧ zSg S A T
theorem zSta_c {S m : Nat} {T : List Nat} : zSta S (m :: T) ↔ m ∉ T ∧ m < S ∧ zSta S T := by
  unfold zSta
  rw [List.nodup_cons]
  constructor
  · rintro ⟨⟨h1, h2⟩, h3⟩
    exact ⟨h1, h3 m (by simp), h2, fun x hx => h3 x (List.mem_cons_of_mem _ hx)⟩
  · rintro ⟨h1, h2, h3, h4⟩
    refine ⟨⟨h1, h3⟩, fun x hx => ?_⟩
    rcases List.mem_cons.mp hx with rfl | hx
    · exact h2
    · exact h4 x hx
theorem zSta_p {S : Nat} {T T' : List Nat} (h : zSta S T) (hp : T.Perm T') : zSta S T' := ⟨hp.nodup_iff.mp h.1, fun x hx => h.2 x (hp.mem_iff.mpr hx)⟩
theorem zD_perm {S n : Nat} {A : Nat → Nat → Int} (hI : zEvI S A n) {T T' : List Nat} (hp : T.Perm T') : zSta S T → T.length ≤ n → zp A T = zp A T' ∧ ∀ i j, zD A T i j = zD A T' i j := by
  induction hp with
  | nil => exact fun _ _ => ⟨rfl, fun _ _ => rfl⟩
  | cons x h ih =>
    intro hs hl
    obtain ⟨_, _, h3⟩ := zSta_c.mp hs
    obtain ⟨i1, i2⟩ := ih h3 (by rw [List.length_cons] at hl; omega)
    exact ⟨by rw [zp_c, zp_c, i2], fun i j => by rw [zD_c, zD_c, i1, i2, i2, i2, i2]⟩
  | swap x y l =>
    intro hs hl
    have hs2 := zSta_p hs (List.Perm.swap x y l)
    exact zD_sw (hI _ hs hl).1 (hI _ hs2 (by simpa using hl)).1
  | trans h1 h2 ih1 ih2 =>
    intro hs hl
    obtain ⟨a1, a2⟩ := ih1 hs hl
    obtain ⟨b1, b2⟩ := ih2 (zSta_p hs h1) (by rw [← h1.length_eq]; exact hl)
    exact ⟨a1.trans b1, fun i j => (a2 i j).trans (b2 i j)⟩
theorem zSta_er {S l : Nat} {T : List Nat} (h : zSta S T) (hl : l ∈ T) : zSta S (T.erase l) ∧ l ∉ T.erase l ∧ (T.erase l).length + 1 = T.length := by
  have hp := List.perm_cons_erase hl
  have := zSta_c.mp (zSta_p h hp)
  exact ⟨this.2.2, this.1, by rw [hp.length_eq]; rfl⟩
/-- the step's number, by the rows at first -/
theorem zLap_st {S n m : Nat} {A : Nat → Nat → Int} {T : List Nat} (hI : zEvI S A n) (hs : zSta S (m :: T)) (hl : T.length ≤ n) {i : Nat} (hi : i ∉ m :: T) (j : Nat) : zD A T m m * zD A T i j - zD A T i m * zD A T m j = zp A T * (zD A T m m * A i j - zD A T i m * A m j - zLs T (fun l => zD A (m :: T.erase l) i l * A l j)) := by
  obtain ⟨hmT, hmS, hsT⟩ := zSta_c.mp hs
  have hiT : i ∉ T := fun h => hi (List.mem_cons_of_mem _ h)
  have hLap := (hI T hsT hl).2.1
  rw [hLap i hiT j, hLap m hmT j]
  have key : zLs T (fun l => zD A T m m * (zD A (T.erase l) i l * A l j) - zD A T i m * (zD A (T.erase l) m l * A l j)) = zLs T (fun l => zp A T * (zD A (m :: T.erase l) i l * A l j)) := by
    refine zLs_congr fun l hlT => ?_
    obtain ⟨e1, e2, e3⟩ := zSta_er hsT hlT
    have hp := List.perm_cons_erase hlT
    obtain ⟨p1, p2⟩ := zD_perm hI hp hsT hl
    have hlU : zSta S (l :: T.erase l) := zSta_p hsT hp
    have hmU : zSta S (m :: T.erase l) := zSta_c.mpr ⟨fun h => hmT (List.mem_of_mem_erase h), hmS, e1⟩
    have a1 := (hI (l :: T.erase l) hlU (by rw [List.length_cons]; omega)).1
    have a2 := (hI (m :: T.erase l) hmU (by rw [List.length_cons]; omega)).1
    have hpU := zAx_p a1.1
    have := zalg1 (ml := zD A (T.erase l) m l) (il := zD A (T.erase l) i l) hpU (a1.2.1 m m) (a1.2.1 i m) (a2.2.1 i l)
    rw [← p2 m m, ← p2 i m] at this
    rw [p1, zp_c, ← Int.mul_assoc, ← Int.mul_assoc, ← Int.mul_assoc, ← Int.sub_mul, this]
  rw [zLs_lin, zLs_mul] at key
  rw [zalg6 (zp A T) (zD A T m m) (A i j) (A m j) _ (zD A T i m) _ (zLs T fun l => zD A (T.erase l) m l * A l j) rfl, key]
  rw [Int.mul_sub (zp A T) _ (zLs T fun l => zD A (m :: T.erase l) i l * A l j)]
theorem zEx_st {S n m : Nat} {A : Nat → Nat → Int} {T : List Nat} (hI : zEvI S A n) (hs : zSta S (m :: T)) (hl : T.length ≤ n) : zEx A m T ∧ zLap A (m :: T) := by
  obtain ⟨hmT, hmS, hsT⟩ := zSta_c.mp hs
  have hp := zAx_p (hI T hsT hl).1
  have hX : ∀ i, i ∉ m :: T → ∀ j, zD A (m :: T) i j = zD A T m m * A i j - zD A T i m * A m j - zLs T (fun l => zD A (m :: T.erase l) i l * A l j) := fun i hi j => by
    rw [zD_c, zLap_st hI hs hl hi j, Int.mul_ediv_cancel_left _ hp]
  refine ⟨fun i j => ?_, fun i hi j => ?_⟩
  · by_cases hi : i ∈ m :: T
    · rw [zD_row hi, Int.zero_mul]
      rcases List.mem_cons.mp hi with rfl | hi
      · rw [Int.sub_self]
      · rw [zD_row hi, zD_row hi, Int.mul_zero, Int.zero_mul, Int.sub_self]
    · rw [hX i hi j, Int.mul_comm, ← zLap_st hI hs hl hi j]
  · rw [hX i hi j, zp_c]
    show _ = _ - (zD A ((m :: T).erase m) i m * A m j + zLs T fun l => zD A ((m :: T).erase l) i l * A l j)
    rw [List.erase_cons_head]
    have : zLs T (fun l => zD A ((m :: T).erase l) i l * A l j) = zLs T (fun l => zD A (m :: T.erase l) i l * A l j) := zLs_congr fun l hlT => by
      rw [List.erase_cons_tail (by simp; intro e; subst e; exact hmT hlT)]
    rw [this]; omega
