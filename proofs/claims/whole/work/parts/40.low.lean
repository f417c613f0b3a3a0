/-! the lowest of a set -/
def zbc (x : Int) : Int :=
  let x1 := zsub x (zand (zushr x 1) 1431655765)
  let x2 := zadd (zand x1 858993459) (zand (zushr x1 2) 858993459)
  let x3 := zand (zadd x2 (zushr x2 4)) 252645135
  let x4 := zadd x3 (zushr x3 8)
  let x5 := zadd x4 (zushr x4 16)
  zand x5 63
set_option maxRecDepth 100000 in
theorem zbc_all : (List.range 4096).all (fun b => b == 0 || decide (zbc (zand (zsub (b : Int) 1) (zxor (b : Int) (-1))) = (zfst 12 (fun i => b.testBit i) : Int))) = true := by decide +kernel
theorem zbc_low {S : Nat} {f : Nat → Bool} (hS : S ≤ 12) (h : ¬ zset S f = 0) : zbc (zand (zsub (zset S f) 1) (zxor (zset S f) (-1))) = (zfst S f : Int) := by
  have hlt := zsn_lt S f
  have hp : 2 ^ S ≤ 4096 := Nat.pow_le_pow_right (n := 2) (by omega) hS
  have h0 : zsn S f ≠ 0 := fun z => h (by unfold zset; rw [z]; rfl)
  have h1 := List.all_eq_true.mp zbc_all (zsn S f) (List.mem_range.mpr (by omega))
  simp only [Bool.or_eq_true, beq_iff_eq, decide_eq_true_eq, h0, false_or] at h1
  have h2 : zfst 12 (fun i => (zsn S f).testBit i) = zfst S f := by
    have e : (fun i => (zsn S f).testBit i) = fun i => decide (i < S) && f i := by funext i; exact zsn_bit S f i
    rw [e]
    have hlt2 : zfst S f < S := by
      rcases Nat.lt_or_ge (zfst S f) S with h3 | h3
      · exact h3
      · exact absurd ((zset_eq0 (by omega)).mpr fun i hi => zfst_no S f i (by omega)) h
    refine zfst_is (by omega) (by simp [hlt2, zfst_yes S f hlt2]) fun i hi => ?_
    simp [zfst_no S f i hi]
  rw [← h2]
  exact h1
section LO
variable {Ln S : Nat} {M : Nat → Int → Int}
theorem F_JI_bitCount {d : Nat} {x : Int} (hd : 0 ≤ d) : zF (zSH Ln) d i_JI_bitCount [zI x] M fun r M' => r = some (zI (zbc x)) ∧ M' = M := by
  rw [zF_en k_JI_bitCount_0 (L := [zI x]) rfl]
  simp (disch := exact Nat.le_of_ble_eq_true rfl) only [x_iload, w_iconst, w_iushr, w_iand, w_isub, w_iadd, x_istore, t_0, g_I, List.getElem?_cons_zero, w_nret r_JI_bitCount]
  exact ⟨rfl, trivial⟩
theorem c_JI_bitCount {d mi o b9 : Nat} {es : List zEnt} {L st : List zMV} {Q : Option zMV → (Nat → Int → Int) → Prop} {x : Int} (hd : 0 + 1 ≤ d) (hc : zcats st ≤ 8) : zW (zSH Ln) d mi ((.invokestatic o, 262, b9) :: es) L (zI x :: st) M Q = zW (zSH Ln) d mi es L (zI (zbc x) :: st) (M) Q :=
  c_stat (vs := [zI x]) (by omega) rfl rfl hc (Nat.le_of_ble_eq_true rfl) (F_JI_bitCount  (by omega))
theorem F_FN_lowest {d : Nat} {f : Nat → Bool} (hS : S ≤ 12) (h : ¬ zset S f = 0) (hd : 1 ≤ d) : zF (zSH Ln) d i_FN_lowest [zI (zset S f)] M fun r M' => r = some (zI (zfst S f : Int)) ∧ M' = M := by
  rw [zF_en k_FN_lowest_0 (L := [zI (zset S f)]) rfl]
  simp (disch := first | omega | exact Nat.le_of_ble_eq_true rfl) only [x_iload, w_iconst, w_iand, w_isub, w_ixor, g_I, List.getElem?_cons_zero, w_nret r_FN_lowest, c_JI_bitCount, zbc_low hS h, and_self]
theorem c_FN_lowest {d mi o b9 : Nat} {es : List zEnt} {L st : List zMV} {Q : Option zMV → (Nat → Int → Int) → Prop} {f : Nat → Bool} (hS : S ≤ 12) (h : ¬ zset S f = 0) (hd : 1 + 1 ≤ d) (hc : zcats st ≤ 8) : zW (zSH Ln) d mi ((.invokestatic o, 163, b9) :: es) L (zI (zset S f) :: st) M Q = zW (zSH Ln) d mi es L (zI (zfst S f : Int) :: st) (M) Q :=
  c_stat (vs := [zI (zset S f)]) (by omega) rfl rfl hc (Nat.le_of_ble_eq_true rfl) (F_FN_lowest hS h (by omega))
end LO
