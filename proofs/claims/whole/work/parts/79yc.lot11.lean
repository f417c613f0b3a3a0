/-! chances: the reference's elimination -/
/-- what a pivot does to another row -/
theorem zDst {S : Nat} {A : Nat → Nat → Int} (h0 : zSg S A []) {i k : Nat} (hi : i < S) (hk : k < S) (hik : i ≠ k) : ∃ rho : Int, 0 < rho ∧ ∀ j, zD A ((zUp k).erase i) i j * zD A (zUp k) k k - zD A (zUp k) k j * zD A ((zUp k).erase i) i k = rho * zD A ((zUp (k + 1)).erase i) i j := by
  have hev := zEvI_all h0
  have hT : zSta S (zUp k) := zUp_sta (by omega)
  have hkT : k ∉ zUp k := fun z => by have := zUp_mem.mp z; omega
  by_cases hik2 : i < k
  · have hm : i ∈ zUp k := zUp_mem.mpr hik2
    obtain ⟨e1, e2, e3⟩ := zSta_er hT hm
    have hp2 := (zD_perm (hev S) (List.perm_cons_erase hm) hT (zSta_le hT)).2
    have er : (zUp (k + 1)).erase i = k :: (zUp k).erase i := by
      show (k :: zUp k).erase i = _
      rw [List.erase_cons_tail (by simp; omega)]
    have hkU : k ∉ (zUp k).erase i := fun z => hkT (List.mem_of_mem_erase z)
    have s1 : zSta S (i :: (zUp k).erase i) := zSta_c.mpr ⟨e2, hi, e1⟩
    have s2 : zSta S (k :: (zUp k).erase i) := zSta_c.mpr ⟨hkU, hk, e1⟩
    have b1 := (hev S _ s1 (zSta_le s1)).1
    have a1 : zEx A i ((zUp k).erase i) := b1.2.1
    have a2 : zEx A k ((zUp k).erase i) := (hev S _ s2 (zSta_le s2)).1.2.1
    have hpU := zAx_p b1.1
    have hU := (hev S _ e1 (zSta_le e1)).2.2
    generalize (zUp k).erase i = U at *
    refine ⟨zD A U i i, zSg_dia hU hi e2, fun j => ?_⟩
    rw [er, hp2 k k, hp2 k j]
    have := zalg1 (ll := zD A U i i) (mm := zD A U k k) (ml := zD A U i k) (lm := zD A U k i) (il := zD A U i j) (im := zD A U k j) (X := zD A (i :: U) k k) (Y := zD A (i :: U) k j) (Z := zD A (k :: U) i j) hpU (by rw [a1 k k, Int.mul_comm (zD A U k i)]) (by rw [a1 k j, Int.mul_comm (zD A U k i)]) (by rw [a2 i j, Int.mul_comm (zD A U i k)])
    rw [Int.mul_comm (zD A U i j)]
    exact this
  · have hiT : i ∉ zUp k := fun z => by have := zUp_mem.mp z; omega
    have hiT2 : i ∉ zUp (k + 1) := fun z => by have := zUp_mem.mp z; omega
    rw [List.erase_of_not_mem hiT, List.erase_of_not_mem hiT2]
    have s2 : zSta S (zUp (k + 1)) := zUp_sta (by omega)
    have a2 : zEx A k (zUp k) := (hev S _ s2 (zSta_le s2)).1.2.1
    have hU := (hev S _ hT (zSta_le hT)).2.2
    refine ⟨zp A (zUp k), hU.1, fun j => ?_⟩
    have := a2 i j
    show _ = zp A (zUp k) * zD A (k :: zUp k) i j
    rw [Int.mul_comm (zp A (zUp k)), this, Int.mul_comm (zD A (zUp k) k k), Int.mul_comm (zD A (zUp k) i k)]
def zRw (A : Nat → Nat → Int) (k i : Nat) (f : Nat → Int) : Prop := (∃ al be : Nat, 0 < al ∧ 0 < be ∧ ∀ j, j < 13 → (al : Int) * f j = (be : Int) * zD A ((zUp k).erase i) i j) ∧ ∀ j, j < 13 → -531441 ≤ f j ∧ f j ≤ 531441
theorem zD_z {S : Nat} {A : Nat → Nat → Int} {j : Nat} (h : ∀ i, i < S → A i j = 0) : ∀ {T : List Nat} {i : Nat}, (∀ x, x ∈ T → x < S) → i < S → zD A T i j = 0
  | [], i, _, hi => h i hi
  | m :: T, i, hT, hi => by
    have ih := fun i hi => zD_z h (T := T) (i := i) (fun x hx => hT x (List.mem_cons_of_mem _ hx)) hi
    rw [zD_c, ih i hi, ih m (hT m (by simp)), Int.mul_zero, Int.mul_zero, Int.sub_self, Int.zero_ediv]
/-- all that is left is small -/
theorem zD_bd {S : Nat} {A : Nat → Nat → Int} (h0 : zSg S A []) (hS : S ≤ 12) (hz : ∀ i j, i < S → S ≤ j → j < 12 → A i j = 0) {T : List Nat} (hT : zSta S T) {i : Nat} (hi : i < S) (hiT : i ∉ T) : ∀ j, j < 13 → -531441 ≤ zD A T i j ∧ zD A T i j ≤ 531441 := by
  have hst : zSta S (i :: T) := zSta_c.mpr ⟨hiT, hi, hT⟩
  have hg := (zEvI_all h0 S T hT (zSta_le hT)).2.2
  have h1 := zp_le h0 (i :: T) hst
  have h2 := z3_12 (n := (i :: T).length) (by have := zSta_le hst; omega)
  rw [zp_c] at h1
  have hd := zSg_dia hg hi hiT
  intro j hj
  by_cases e12 : j = 12
  · subst e12
    have := zSg_rhs hg hi hiT
    omega
  by_cases hjS : j < S
  · by_cases ej : j = i
    · subst ej; omega
    · have := zSg_off hg hi hiT hjS ej
      omega
  · rw [zD_z (fun u hu => hz u j hu (by omega) (by omega)) hT.2 hi]; omega
theorem zalg8 (a1 a2 g fj pj x y : Int) : a1 * a2 * g * (fj * x - pj * y) = (a1 * fj) * (a2 * (x * g)) - (a2 * pj) * (a1 * (y * g)) := by grind
theorem zalg9 (b1 b2 d1 d2 d3 d4 : Int) : (b1 * d1) * (b2 * d2) - (b2 * d3) * (b1 * d4) = b1 * b2 * (d1 * d2 - d3 * d4) := by grind
/-- a row after a pivot, made short -/
theorem zRw_st {S : Nat} {A : Nat → Nat → Int} (h0 : zSg S A []) (hS : S ≤ 12) (hz : ∀ i j, i < S → S ≤ j → j < 12 → A i j = 0) {i k : Nat} (hi : i < S) (hk : k < S) (hik : i ≠ k) {f p N f2 : Nat → Int} {x y : Int} {g : Nat} (hf : zRw A k i f) (hp : zRw A k k p) (hg : 0 < g) (hx : p k = x * g) (hy : f k = y * g) (hN : ∀ j, j < 13 → N j = f j * x - p j * y) (h2 : ∀ j, j < 13 → f2 j * (zVg N 13 : Int) = N j) : (∃ c, c < 13 ∧ N c ≠ 0) ∧ zRw A (k + 1) i f2 := by
  obtain ⟨⟨a1, b1, ha1, hb1, hr1⟩, _⟩ := hf
  obtain ⟨⟨a2, b2, ha2, hb2, hr2⟩, _⟩ := hp
  obtain ⟨rho, hrho, hE⟩ := zDst h0 hi hk hik
  have hkT : k ∉ zUp k := fun z => by have := zUp_mem.mp z; omega
  rw [List.erase_of_not_mem hkT] at hr2
  obtain ⟨rn, rfl⟩ : ∃ rn : Nat, rho = (rn : Int) := ⟨rho.toNat, by omega⟩
  have key : ∀ j, j < 13 → ((a1 * a2 * g : Nat) : Int) * N j = ((b1 * b2 * rn : Nat) : Int) * zD A ((zUp (k + 1)).erase i) i j := fun j hj => by
    have e1 : ((a1 * a2 * g : Nat) : Int) * N j = ((a1 : Int) * f j) * ((a2 : Int) * p k) - ((a2 : Int) * p j) * ((a1 : Int) * f k) := by
      rw [hN j hj, hx, hy, Int.natCast_mul, Int.natCast_mul]
      exact zalg8 _ _ _ _ _ _ _
    rw [e1, hr1 j hj, hr1 k (by omega), hr2 j hj, hr2 k (by omega), Int.natCast_mul, Int.natCast_mul]
    rw [Int.mul_assoc ((b1 : Int) * b2), ← hE j]
    exact zalg9 _ _ _ _ _ _
  have hT2 : zSta S ((zUp (k + 1)).erase i) ∧ i ∉ (zUp (k + 1)).erase i := by
    have hs := zUp_sta (S := S) (n := k + 1) (by omega)
    by_cases h : i ∈ zUp (k + 1)
    · have := zSta_er hs h
      exact ⟨this.1, this.2.1⟩
    · rw [List.erase_of_not_mem h]; exact ⟨hs, h⟩
  have hgE := (zEvI_all h0 S _ hT2.1 (zSta_le hT2.1)).2.2
  have hdia := zSg_dia hgE hi hT2.2
  have hbd := zD_bd h0 hS hz hT2.1 hi hT2.2
  have hapos : 0 < a1 * a2 * g := Nat.mul_pos (Nat.mul_pos ha1 ha2) hg
  have hbpos : 0 < b1 * b2 * rn := Nat.mul_pos (Nat.mul_pos hb1 hb2) (by omega)
  have hNi : N i ≠ 0 := fun e => by
    have := key i (by omega)
    rw [e, Int.mul_zero] at this
    have h3 := Int.mul_pos (show (0 : Int) < ((b1 * b2 * rn : Nat) : Int) by omega) hdia
    omega
  refine ⟨⟨i, by omega, hNi⟩, ?_⟩
  generalize hEE : zD A ((zUp (k + 1)).erase i) i = E at *
  have hvp : 0 < zVg N 13 := by
    have hd := zVg_dvd (f := N) (n := 13) (i := i) (by omega)
    exact Nat.pos_of_dvd_of_pos hd (by omega)
  have hk2 : ∀ j, j < 13 → ((a1 * a2 * g * zVg N 13 : Nat) : Int) * f2 j = ((b1 * b2 * rn : Nat) : Int) * E j := fun j hj => by
    rw [← key j hj, ← h2 j hj, Int.natCast_mul (a1 * a2 * g), Int.mul_assoc, Int.mul_comm (f2 j)]
  have hprim : zVg f2 13 = 1 := by
    have h3 : zVg (fun j => (zVg N 13 : Int) * f2 j) 13 = zVg N 13 := zVg_congr fun j hj => by rw [Int.mul_comm]; exact h2 j hj
    rw [zVg_mul] at h3
    exact Nat.eq_of_mul_eq_mul_left hvp (by rw [h3, Nat.mul_one])
  obtain ⟨c, hc, hce⟩ := zprim (Nat.mul_pos hapos hvp) hbpos hk2 hprim
  refine ⟨⟨_, _, Nat.mul_pos hapos hvp, hbpos, by rw [hEE]; exact hk2⟩, fun j hj => ?_⟩
  have h4 := hbd j hj
  have h5 := hce j hj
  have h6 : (f2 j).natAbs ≤ (E j).natAbs := by
    rw [h5, Int.natAbs_mul, Int.natAbs_natCast]
    exact Nat.le_mul_of_pos_left _ hc
  omega
/-- a row that the pivot leaves as it is -/
theorem zRw_sk {S : Nat} {A : Nat → Nat → Int} (h0 : zSg S A []) {i k : Nat} (hi : i < S) (hk : k < S) (hik : i ≠ k) (hS : S ≤ 12) {f : Nat → Int} (hf : zRw A k i f) (hz : f k = 0) : zRw A (k + 1) i f := by
  obtain ⟨⟨a1, b1, ha1, hb1, hr1⟩, hb⟩ := hf
  obtain ⟨rho, hrho, hE⟩ := zDst h0 hi hk hik
  have hkT : k ∉ zUp k := fun z => by have := zUp_mem.mp z; omega
  have hT : zSta S (zUp k) := zUp_sta (by omega)
  have hd := zSg_dia (zEvI_all h0 S _ hT (zSta_le hT)).2.2 hk hkT
  have hDk : zD A ((zUp k).erase i) i k = 0 := by
    have := hr1 k (by omega)
    rw [hz, Int.mul_zero] at this
    rcases Int.mul_eq_zero.mp this.symm with h | h
    · omega
    · exact h
  obtain ⟨rn, rfl⟩ : ∃ rn : Nat, rho = (rn : Int) := ⟨rho.toNat, by omega⟩
  obtain ⟨dn, hdn⟩ : ∃ dn : Nat, zD A (zUp k) k k = (dn : Int) := ⟨(zD A (zUp k) k k).toNat, by omega⟩
  refine ⟨⟨a1 * dn, b1 * rn, Nat.mul_pos ha1 (by omega), Nat.mul_pos hb1 (by omega), fun j hj => ?_⟩, hb⟩
  have h1 := hE j
  rw [hDk, Int.mul_zero, Int.sub_zero, hdn] at h1
  rw [Int.natCast_mul, Int.natCast_mul, Int.mul_assoc (b1 : Int), ← h1, ← Int.mul_assoc (b1 : Int), ← hr1 j hj]
  exact Int.mul_right_comm _ _ _
