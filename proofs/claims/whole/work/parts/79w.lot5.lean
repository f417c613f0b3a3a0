/-! chances: the equations, told for all states -/
def zAm (c : Nat → Nat → Nat) (lm : Nat → Nat) (X Y : Nat → Bool) : Nat → Nat → Int := fun s t => if X s = true ∨ Y s = false then (if t = s then 1 else if t = 12 then (if X s = true then 1 else 0) else 0) else if t = 12 then 0 else (if t = s then (lm s : Int) else 0) - c s t
def zUp : Nat → List Nat
  | 0 => []
  | n + 1 => n :: zUp n
theorem zUp_mem {x : Nat} : ∀ {n : Nat}, x ∈ zUp n ↔ x < n
  | 0 => by simp [zUp]
  | n + 1 => by
    unfold zUp
    rw [List.mem_cons, zUp_mem (n := n)]; omega
theorem zUp_sta {S : Nat} : ∀ {n : Nat}, n ≤ S → zSta S (zUp n)
  | 0, _ => ⟨List.nodup_nil, fun x h => by simp [zUp] at h⟩
  | n + 1, h => zSta_c.mpr ⟨fun z => by have := zUp_mem.mp z; omega, by omega, zUp_sta (by omega)⟩
theorem zUp_len : ∀ n, (zUp n).length = n
  | 0 => rfl
  | n + 1 => by show (zUp n).length + 1 = _; rw [zUp_len n]
/-- the pivots of all but one -/
def zRs (S s : Nat) : List Nat := (zUp S).erase s
theorem zRs_sta {S s : Nat} (hs : s < S) : zSta S (zRs S s) ∧ s ∉ zRs S s ∧ (zRs S s).length + 1 = S ∧ ∀ x, x ∈ zRs S s ↔ x < S ∧ x ≠ s := by
  obtain ⟨h1, h2, h3⟩ := zSta_er (zUp_sta (Nat.le_refl S)) (zUp_mem.mpr hs)
  rw [zUp_len] at h3
  refine ⟨h1, h2, h3, fun x => ?_⟩
  constructor
  · intro h
    exact ⟨h1.2 x h, fun e => by subst e; exact h2 h⟩
  · rintro ⟨a, b⟩
    exact (List.mem_erase_of_ne b).mpr (zUp_mem.mpr a)
def zChN (S : Nat) (A : Nat → Nat → Int) (s : Nat) : Nat := (zD A (zRs S s) s 12).toNat
def zChD (S : Nat) (A : Nat → Nat → Int) (s : Nat) : Nat := (zD A (zRs S s) s s).toNat
def zChA (S : Nat) (A : Nat → Nat → Int) (x w : Int) : Int := if (0 ≤ x ∧ x < S) ∧ 0 ≤ w ∧ w ≤ 1 then (if w = 0 then ((zChN S A x.toNat / Nat.gcd (zChN S A x.toNat) (zChD S A x.toNat) : Nat) : Int) else ((zChD S A x.toNat / Nat.gcd (zChN S A x.toNat) (zChD S A x.toNat) : Nat) : Int)) else -1
theorem zSn_one : ∀ (n : Nat) (k : Nat) (v : Nat), k < n → zSn n (fun t => if t = k then v else 0) = v
  | 0, _, _, h => by omega
  | n + 1, k, v, h => by
    show zSn n _ + (if n = k then v else 0) = v
    by_cases e : n = k
    · subst e
      rw [if_pos rfl]
      have : zSn n (fun t => if t = n then v else 0) = 0 := by
        have h1 := zSn_pos n (fun t => if t = n then v else 0)
        rcases Nat.eq_zero_or_pos (zSn n (fun t => if t = n then v else 0)) with h2 | h2
        · exact h2
        · obtain ⟨t, a, b⟩ := h1.mp h2
          have b : 0 < (if t = n then v else 0) := b
          rw [if_neg (by omega)] at b; omega
      omega
    · rw [if_neg e, zSn_one n k v (by omega)]; omega
theorem zSn_add : ∀ (n : Nat) (f g : Nat → Nat), zSn n (fun t => f t + g t) = zSn n f + zSn n g
  | 0, _, _ => rfl
  | n + 1, f, g => by
    show zSn n _ + (f n + g n) = (zSn n f + f n) + (zSn n g + g n)
    rw [zSn_add n f g]; omega
theorem zSn_z : ∀ n, zSn n (fun _ => 0) = 0
  | 0 => rfl
  | n + 1 => by show zSn n _ + 0 = 0; rw [zSn_z n]
theorem zSn_cong : ∀ {n : Nat} {f g : Nat → Nat}, (∀ t, t < n → f t = g t) → zSn n f = zSn n g
  | 0, _, _, _ => rfl
  | n + 1, f, g, h => by
    show zSn n f + f n = zSn n g + g n
    rw [zSn_cong (n := n) (fun t ht => h t (by omega)), h n (by omega)]
theorem zcard_sum {S : Nat} {f : Nat → Nat} : ∀ n, (∀ k, k < n → f k < S) → zSn S (fun t => zcard n fun k => decide (f k = t)) = n
  | 0, _ => zSn_z S
  | n + 1, h => by
    have ih := zcard_sum (S := S) (f := f) n (fun k hk => h k (by omega))
    have e : zSn S (fun t => zcard (n + 1) fun k => decide (f k = t)) = zSn S (fun t => zcard n (fun k => decide (f k = t)) + if t = f n then 1 else 0) := zSn_cong fun t _ => by
      show zcard n _ + (if decide (f n = t) = true then 1 else 0) = _
      by_cases e : t = f n
      · rw [if_pos e, if_pos (by simp [e])]
      · rw [if_neg e, if_neg (by simpa using fun z => e z.symm)]
    rw [e, zSn_add, ih, zSn_one S (f n) 1 (h n (by omega))]
theorem zSm_nat : ∀ (n : Nat) (f : Nat → Nat), zSm n (fun t => (f t : Int)) = (zSn n f : Int)
  | 0, _ => rfl
  | n + 1, f => by
    show zSm n _ + (f n : Int) = ((zSn n f + f n : Nat) : Int)
    rw [zSm_nat n f]; omega
theorem zSm_one1 : ∀ (n k : Nat) (v : Int), k < n → zSm n (fun t => if t = k then v else 0) = v
  | 0, _, _, h => by omega
  | n + 1, k, v, h => by
    show zSm n _ + (if n = k then v else 0) = v
    by_cases e : n = k
    · subst e
      rw [if_pos rfl]
      have : zSm n (fun t => if t = n then v else 0) = zSm n (fun _ => (0 : Int) * 0) := zSm_congr fun t ht => by rw [if_neg (by omega)]; rfl
      rw [this, zSm_mul]; omega
    · rw [if_neg e, zSm_one1 n k v (by omega)]; omega
section AM
variable {S : Nat} {c : Nat → Nat → Nat} {lm : Nat → Nat} {X Y : Nat → Bool}
theorem zAm_sum (hS : S ≤ 12) (hsum : ∀ s, s < S → zSn S (c s) = lm s) {s : Nat} (hs : s < S) : zSm S (zAm c lm X Y s) = if X s = true ∨ Y s = false then 1 else 0 := by
  by_cases h : X s = true ∨ Y s = false
  · rw [if_pos h, ← zSm_one1 S s 1 hs]
    refine zSm_congr fun t ht => ?_
    unfold zAm
    rw [if_pos h]
    by_cases e : t = s
    · rw [if_pos e, if_pos e]
    · rw [if_neg e, if_neg e, if_neg (by omega)]
  · rw [if_neg h]
    have : zSm S (zAm c lm X Y s) = zSm S (fun t => 1 * (if t = s then (lm s : Int) else 0) - 1 * (c s t : Int)) := zSm_congr fun t ht => by
      unfold zAm
      rw [if_neg h, if_neg (by omega), Int.one_mul, Int.one_mul]
    rw [this, zSm_lin, zSm_one1 S s _ hs, zSm_nat, hsum s hs]; omega
theorem zAm_sg (hS : S ≤ 12) (hsum : ∀ s, s < S → zSn S (c s) = lm s) (hlm : ∀ s, lm s ≤ 3) (hY : Y = zRc S (zEc c) X 12) : zSg S (zAm c lm X Y) [] := by
  have hsm := fun s hs => zAm_sum (X := X) (Y := Y) hS hsum (s := s) hs
  refine ⟨by show (0 : Int) < 1; omega, fun i j hi hj _ _ hij => ?_, fun i hi _ => ?_, fun i hi _ => ?_, fun C hC hCs => ?_⟩
  · show zAm c lm X Y i j ≤ 0
    unfold zAm
    split
    · rw [if_neg (fun e => hij e.symm), if_neg (by omega)]; exact Int.le_refl _
    · rw [if_neg (by omega), if_neg (fun e => hij e.symm)]; omega
  · show 0 ≤ zAm c lm X Y i 12 ∧ zAm c lm X Y i 12 ≤ zSm S (zAm c lm X Y i)
    rw [hsm i hi]
    unfold zAm
    by_cases h : X i = true ∨ Y i = false
    · rw [if_pos h, if_pos h, if_neg (by omega), if_pos rfl]; split <;> omega
    · rw [if_neg h, if_neg h, if_pos rfl]; omega
  · show zAm c lm X Y i i ≤ 3 * 1
    unfold zAm
    have := hlm i
    split
    · rw [if_pos rfl]; omega
    · rw [if_neg (by omega), if_pos rfl]; omega
  · refine Classical.byContradiction fun hno => ?_
    have hrow : ∀ i, C i → ¬ (X i = true ∨ Y i = false) := fun i hi h => hno ⟨i, hi, Or.inl (by show 0 < zSm S (zAm c lm X Y i); rw [hsm i (hCs i hi).1, if_pos h]; omega)⟩
    have hlink : ∀ i j, C i → j < S → ¬ C j → c i j = 0 := fun i j hi hj hjC => by
      rcases Nat.eq_zero_or_pos (c i j) with h | h
      · exact h
      · refine absurd ⟨i, hi, Or.inr ⟨j, hj, by simp, hjC, ?_⟩⟩ hno
        show zAm c lm X Y i j < 0
        unfold zAm
        rw [if_neg (hrow i hi), if_neg (by omega), if_neg (fun e => hjC (by rw [e]; exact hi))]; omega
    obtain ⟨i0, hi0⟩ := hC
    have hmin := zRc_min (S := S) (e := zEc c) (X0 := X) (X := fun i => @decide (¬ C i) (Classical.propDecidable _)) (fun s hs h => ?_) (fun r s hr hs h1 h2 => ?_) 12 i0 (hCs i0 hi0).1 (by
      have := hrow i0 hi0
      rw [← hY]
      cases h : Y i0
      · exact absurd (Or.inr h) this
      · rfl)
    · have : ¬ C i0 := by simpa using hmin
      exact this hi0
    · have : ¬ C s := fun z => hrow s z (Or.inl h)
      simpa using this
    · have h1 : ¬ C r := by simpa using h1
      have h2 : 0 < c s r := by simpa [zEc] using h2
      have : ¬ C s := fun z => by
        have := hlink s r z hr h1; omega
      simpa using this
/-- a state that is not open keeps its row -/
theorem zD_cl {A : Nat → Nat → Int} {s : Nat} (hrow : ∀ t, t < 12 → t ≠ s → A s t = 0) : ∀ {T : List Nat}, zAx A T → s ∉ T → (∀ x, x ∈ T → x < 12) → ∀ j, zD A T s j = zp A T * A s j
  | [], _, _, _, j => by show A s j = 1 * A s j; rw [Int.one_mul]
  | m :: T, hA, hs, hT, j => by
    obtain ⟨a1, a2, a3⟩ := hA
    have hsm : m ≠ s := fun e => hs (by rw [e]; simp)
    have hsT : s ∉ T := fun h => hs (List.mem_cons_of_mem _ h)
    have ih := zD_cl hrow a1 hsT (fun x hx => hT x (List.mem_cons_of_mem _ hx))
    have hp := zAx_p a1
    refine Int.eq_of_mul_eq_mul_right hp ?_
    rw [a2 s j, ih j, ih m, hrow m (hT m (by simp)) hsm, zp_c, Int.mul_zero, Int.zero_mul, Int.sub_zero, Int.mul_assoc, Int.mul_comm (zp A T)]
/-- the pivots that are not open -/
def zNl (X Y : Nat → Bool) : Nat → List Nat
  | 0 => []
  | n + 1 => if X n = true ∨ Y n = false then n :: zNl X Y n else zNl X Y n
theorem zNl_mem {x : Nat} : ∀ {n : Nat}, x ∈ zNl X Y n ↔ x < n ∧ (X x = true ∨ Y x = false)
  | 0 => by simp [zNl]
  | n + 1 => by
    unfold zNl
    split
    · next h =>
      rw [List.mem_cons, zNl_mem (n := n)]
      constructor
      · rintro (rfl | h1)
        · exact ⟨by omega, h⟩
        · exact ⟨by omega, h1.2⟩
      · rintro ⟨h1, h2⟩
        by_cases e : x = n
        · exact Or.inl e
        · exact Or.inr ⟨by omega, h2⟩
    · next h =>
      rw [zNl_mem (n := n)]
      constructor
      · rintro ⟨h1, h2⟩; exact ⟨by omega, h2⟩
      · rintro ⟨h1, h2⟩
        by_cases e : x = n
        · subst e; exact absurd h2 h
        · exact ⟨by omega, h2⟩
theorem zNl_sta (S : Nat) : ∀ n, n ≤ S → zSta S (zNl X Y n)
  | 0, _ => ⟨List.nodup_nil, fun x h => by simp [zNl] at h⟩
  | n + 1, h => by
    unfold zNl
    split
    · exact zSta_c.mpr ⟨fun z => by have := (zNl_mem.mp z).1; omega, by omega, zNl_sta S n (by omega)⟩
    · exact zNl_sta S n (by omega)
/-- what they leave is the class's -/
theorem zNl_D (hS : S ≤ 12) (hXY : ∀ s, s < S → X s = true → Y s = true) : ∀ n, n ≤ S → zp (zAm c lm X Y) (zNl X Y n) = 1 ∧ (∀ i j, i ∉ zNl X Y n → j ∉ zNl X Y n → i < S → j < S → zD (zAm c lm X Y) (zNl X Y n) i j = zAm c lm X Y i j) ∧ ∀ i, i < S → i ∉ zNl X Y n → zD (zAm c lm X Y) (zNl X Y n) i 12 = zAm c lm X Y i 12 + if X i = true ∨ Y i = false then 0 else (zSn n (fun t => if X t = true then c i t else 0) : Int)
  | 0, _ => ⟨rfl, fun i j _ _ _ _ => rfl, fun i _ _ => by
    show zAm c lm X Y i 12 = _
    split
    · omega
    · show _ = _ + ((0 : Nat) : Int); omega⟩
  | n + 1, hn => by
    obtain ⟨h1, h2, h3⟩ := zNl_D hS hXY n (by omega)
    have nin : n ∉ zNl X Y n := fun z => by have := (zNl_mem.mp z).1; omega
    by_cases h : X n = true ∨ Y n = false
    · have e : zNl X Y (n + 1) = n :: zNl X Y n := by show (if _ then _ else _) = _; rw [if_pos h]
      have hnn : zAm c lm X Y n n = 1 := by unfold zAm; rw [if_pos h, if_pos rfl]
      have hd := h2 n n nin nin (by omega) (by omega)
      rw [hnn] at hd
      rw [e]
      refine ⟨by rw [zp_c]; exact hd, fun i j hi hj hiS hjS => ?_, fun i hiS hi => ?_⟩
      · have hi' : i ∉ zNl X Y n := fun z => hi (List.mem_cons_of_mem _ z)
        have hj' : j ∉ zNl X Y n := fun z => hj (List.mem_cons_of_mem _ z)
        have hjn : j ≠ n := fun e => hj (by rw [e]; simp)
        have hnj : zAm c lm X Y n j = 0 := by unfold zAm; rw [if_pos h, if_neg hjn, if_neg (by omega)]
        rw [zD_c, hd, h1, h2 i j hi' hj' hiS hjS, h2 n j nin hj' (by omega) hjS, hnj, Int.one_mul, Int.mul_zero, Int.sub_zero, Int.ediv_one]
      · have hi' : i ∉ zNl X Y n := fun z => hi (List.mem_cons_of_mem _ z)
        have hin : n ≠ i := fun e => hi (by rw [e]; simp)
        have hn12 : zAm c lm X Y n 12 = if X n = true then 1 else 0 := by unfold zAm; rw [if_pos h, if_neg (by omega), if_pos rfl]
        rw [zD_c, hd, h1, h3 i hiS hi', h3 n (by omega) nin, h2 i n hi' nin hiS (by omega), if_pos h, hn12, Int.one_mul, Int.ediv_one, Int.add_zero]
        have hs : zSn (n + 1) (fun t => if X t = true then c i t else 0) = zSn n (fun t => if X t = true then c i t else 0) + if X n = true then c i n else 0 := rfl
        rw [hs]
        by_cases hi2 : X i = true ∨ Y i = false
        · have : zAm c lm X Y i n = 0 := by unfold zAm; rw [if_pos hi2, if_neg hin, if_neg (by omega)]
          rw [if_pos hi2, if_pos hi2, this]; omega
        · have : zAm c lm X Y i n = - (c i n : Int) := by unfold zAm; rw [if_neg hi2, if_neg (by omega), if_neg hin]; omega
          rw [if_neg hi2, if_neg hi2, this]
          cases X n
          · simp
          · simp; omega
    · have e : zNl X Y (n + 1) = zNl X Y n := by show (if _ then _ else _) = _; rw [if_neg h]
      rw [e]
      refine ⟨h1, h2, fun i hiS hi => ?_⟩
      rw [h3 i hiS hi]
      have hXn : ¬ X n = true := fun z => h (Or.inl z)
      have hs : zSn (n + 1) (fun t => if X t = true then c i t else 0) = zSn n (fun t => if X t = true then c i t else 0) + if X n = true then c i n else 0 := rfl
      rw [hs, if_neg hXn, Nat.add_zero]
end AM
