/-! elimination in whole numbers -/
theorem zalg1 {ll mm ml lm il im pU X Y Z : Int} (h0 : pU ≠ 0) (h1 : X * pU = ll * mm - ml * lm) (h2 : Y * pU = ll * im - il * lm) (h3 : Z * pU = mm * il - im * ml) : X * il - Y * ml = ll * Z := by
  refine Int.eq_of_mul_eq_mul_right h0 ?_
  grind
theorem zalg3 {D a b c e f p : Int} (h : D * a = b * c - e * f) : (D * p * p) * a = (b * p) * (c * p) - (e * p) * (f * p) := by grind
theorem zalg4 (a11 a12 a21 a22 aij ai1 ai2 a1j a2j : Int) : (a11 * a22 - a21 * a12) * (a11 * aij - ai1 * a1j) - (a11 * ai2 - ai1 * a12) * (a11 * a2j - a21 * a1j) = (a22 * (a11 * aij - ai1 * a1j) - a21 * (a12 * aij - ai2 * a1j) - a2j * (a11 * ai2 - ai1 * a12)) * a11 := by grind
theorem zalg5 (a11 a12 a21 a22 aij ai1 ai2 a1j a2j : Int) : (a22 * a11 - a12 * a21) * (a22 * aij - ai2 * a2j) - (a22 * ai1 - ai2 * a21) * (a22 * a1j - a12 * a2j) = (a22 * (a11 * aij - ai1 * a1j) - a21 * (a12 * aij - ai2 * a1j) - a2j * (a11 * ai2 - ai1 * a12)) * a22 := by grind
theorem zalg2 {p a11 a12 a21 a22 aij ai1 ai2 a1j a2j b22 bij bi2 b2j c11 cij ci1 c1j D21 D12 : Int} (hp : p ≠ 0) (h11 : a11 ≠ 0) (h22 : a22 ≠ 0) (e1 : b22 * p = a11 * a22 - a21 * a12) (e2 : bij * p = a11 * aij - ai1 * a1j) (e3 : bi2 * p = a11 * ai2 - ai1 * a12) (e4 : b2j * p = a11 * a2j - a21 * a1j) (f1 : c11 * p = a22 * a11 - a12 * a21) (f2 : cij * p = a22 * aij - ai2 * a2j) (f3 : ci1 * p = a22 * ai1 - ai2 * a21) (f4 : c1j * p = a22 * a1j - a12 * a2j) (g1 : D21 * a11 = b22 * bij - bi2 * b2j) (g2 : D12 * a22 = c11 * cij - ci1 * c1j) : D21 = D12 := by
  have k1 := zalg3 (p := p) g1
  have k2 := zalg3 (p := p) g2
  rw [e1, e2, e3, e4, zalg4] at k1
  rw [f1, f2, f3, f4, zalg5] at k2
  have k3 := Int.eq_of_mul_eq_mul_right h11 k1
  have k4 := Int.eq_of_mul_eq_mul_right h22 k2
  exact Int.eq_of_mul_eq_mul_right hp (Int.eq_of_mul_eq_mul_right hp (k3.trans k4.symm))
theorem zalg6 (pT pN Aij Ami X Dim S1 S2 : Int) (h : S1 = X) : pN * (pT * Aij - S1) - Dim * (pT * Ami - S2) = pT * (pN * Aij - Dim * Ami) - (pN * X - Dim * S2) := by subst h; grind
/-- sums -/
def zSm : Nat → (Nat → Int) → Int
  | 0, _ => 0
  | n + 1, f => zSm n f + f n
def zLs : List Nat → (Nat → Int) → Int
  | [], _ => 0
  | l :: T, f => f l + zLs T f
theorem zSm_congr : ∀ {n : Nat} {f g : Nat → Int}, (∀ i, i < n → f i = g i) → zSm n f = zSm n g
  | 0, _, _, _ => rfl
  | n + 1, f, g, h => by
    show zSm n f + f n = zSm n g + g n
    rw [zSm_congr (n := n) (fun i hi => h i (by omega)), h n (by omega)]
theorem zSm_lin : ∀ (n : Nat) (a b : Int) (f g : Nat → Int), zSm n (fun i => a * f i - b * g i) = a * zSm n f - b * zSm n g
  | 0, a, b, f, g => by simp [zSm]
  | n + 1, a, b, f, g => by
    show zSm n _ + (a * f n - b * g n) = a * (zSm n f + f n) - b * (zSm n g + g n)
    rw [zSm_lin n a b f g, Int.mul_add, Int.mul_add]; omega
theorem zSm_mul : ∀ (n : Nat) (a : Int) (f : Nat → Int), zSm n (fun i => f i * a) = zSm n f * a
  | 0, a, f => by simp [zSm]
  | n + 1, a, f => by
    show zSm n _ + f n * a = (zSm n f + f n) * a
    rw [zSm_mul n a f, Int.add_mul]
theorem zLs_congr : ∀ {T : List Nat} {f g : Nat → Int}, (∀ l, l ∈ T → f l = g l) → zLs T f = zLs T g
  | [], _, _, _ => rfl
  | l :: T, f, g, h => by
    show f l + zLs T f = g l + zLs T g
    rw [h l (by simp), zLs_congr (T := T) (fun i hi => h i (List.mem_cons_of_mem _ hi))]
theorem zLs_lin : ∀ (T : List Nat) (a b : Int) (f g : Nat → Int), zLs T (fun i => a * f i - b * g i) = a * zLs T f - b * zLs T g
  | [], a, b, f, g => by simp [zLs]
  | l :: T, a, b, f, g => by
    show (a * f l - b * g l) + zLs T _ = a * (f l + zLs T f) - b * (g l + zLs T g)
    rw [zLs_lin T a b f g, Int.mul_add, Int.mul_add]; omega
theorem zLs_mul : ∀ (T : List Nat) (a : Int) (f : Nat → Int), zLs T (fun i => a * f i) = a * zLs T f
  | [], a, f => by simp [zLs]
  | l :: T, a, f => by
    show a * f l + zLs T _ = a * (f l + zLs T f)
    rw [zLs_mul T a f, Int.mul_add]
/-- rows A after the pivots of a list, the last one first -/
def zEp (A : Nat → Nat → Int) : List Nat → Int × (Nat → Nat → Int)
  | [] => (1, A)
  | m :: T => ((zEp A T).2 m m, fun i j => ((zEp A T).2 m m * (zEp A T).2 i j - (zEp A T).2 i m * (zEp A T).2 m j) / (zEp A T).1)
abbrev zD (A : Nat → Nat → Int) (T : List Nat) : Nat → Nat → Int := (zEp A T).2
abbrev zp (A : Nat → Nat → Int) (T : List Nat) : Int := (zEp A T).1
theorem zp_c (A : Nat → Nat → Int) (m : Nat) (T : List Nat) : zp A (m :: T) = zD A T m m := rfl
theorem zD_c (A : Nat → Nat → Int) (m : Nat) (T : List Nat) (i j : Nat) : zD A (m :: T) i j = (zD A T m m * zD A T i j - zD A T i m * zD A T m j) / zp A T := rfl
/-- the step leaves no rest -/
def zEx (A : Nat → Nat → Int) (m : Nat) (T : List Nat) : Prop := ∀ i j, zD A (m :: T) i j * zp A T = zD A T m m * zD A T i j - zD A T i m * zD A T m j
/-- so do all steps of a list, and no pivot is 0 -/
def zAx (A : Nat → Nat → Int) : List Nat → Prop
  | [] => True
  | m :: T => zAx A T ∧ zEx A m T ∧ zD A T m m ≠ 0
theorem zAx_p {A : Nat → Nat → Int} : ∀ {T : List Nat}, zAx A T → zp A T ≠ 0
  | [], _ => by show (1 : Int) ≠ 0; decide
  | _ :: _, h => h.2.2
/-- rows of pivots are 0 -/
theorem zD_row {A : Nat → Nat → Int} : ∀ {T : List Nat} {i j : Nat}, i ∈ T → zD A T i j = 0
  | [], _, _, h => by simp at h
  | m :: T, i, j, h => by
    rw [zD_c]
    rcases List.mem_cons.mp h with rfl | h
    · rw [Int.sub_self, Int.zero_ediv]
    · rw [zD_row (T := T) (j := j) h, zD_row (T := T) (j := m) h, Int.mul_zero, Int.zero_mul, Int.sub_self, Int.zero_ediv]
theorem zD_col {A : Nat → Nat → Int} : ∀ {T : List Nat} {i j : Nat}, j ∈ T → zD A T i j = 0
  | [], _, _, h => by simp at h
  | m :: T, i, j, h => by
    rw [zD_c]
    rcases List.mem_cons.mp h with rfl | h
    · rw [Int.mul_comm, Int.sub_self, Int.zero_ediv]
    · rw [zD_col (T := T) (i := i) h, zD_col (T := T) (i := m) h, Int.mul_zero, Int.mul_zero, Int.sub_self, Int.zero_ediv]
/-- two pivots the other way round -/
theorem zD_sw {A : Nat → Nat → Int} {m1 m2 : Nat} {T : List Nat} (h1 : zAx A (m1 :: m2 :: T)) (h2 : zAx A (m2 :: m1 :: T)) : zp A (m1 :: m2 :: T) = zp A (m2 :: m1 :: T) ∧ ∀ i j, zD A (m1 :: m2 :: T) i j = zD A (m2 :: m1 :: T) i j := by
  obtain ⟨⟨a1, a2, a3⟩, a4, a5⟩ := h1
  obtain ⟨⟨b1, b2, b3⟩, b4, b5⟩ := h2
  have hp := zAx_p a1
  refine ⟨?_, fun i j => ?_⟩
  · rw [zp_c, zp_c]
    refine Int.eq_of_mul_eq_mul_right hp ?_
    rw [a2 m1 m1, b2 m2 m2]
    rw [Int.mul_comm (zD A T m2 m2), Int.mul_comm (zD A T m1 m2)]
  · exact zalg2 (p := zp A T) hp a3 b3 (a2 m1 m1) (a2 i j) (a2 i m1) (a2 m1 j) (b2 m2 m2) (b2 i j) (b2 i m2) (b2 m2 j) (a4 i j) (b4 i j)
