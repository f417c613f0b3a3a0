/-! the law's own small methods: cell, statesOf, playersOf -/
theorem yn_nn {x : Int} {k : Nat} (hk : k ≤ 30) : 0 ≤ zand x ((2 ^ k : Nat) - 1 : Int) ∧ zand x ((2 ^ k : Nat) - 1 : Int) < ((2 ^ k : Nat) : Int) := by
  have e : zand x ((2 ^ k : Nat) - 1 : Int) = zset k (zbit x) := by
    refine zext (zand_in _ _) (zset_in hk _) fun i hi => ?_
    rw [zbit_and, ← zset_all, zset_bit hk, zset_bit hk, Bool.and_true, Bool.and_comm]
  rw [e]
  exact ⟨zset_0 _ _, by have := zsn_lt k (zbit x); unfold zset; omega⟩
theorem yn_nn31 (x : Int) : 0 ≤ zand x 2147483647 := by
  unfold zand
  rw [← Int32.toInt_toBitVec]
  refine BitVec.toInt_nonneg_of_msb_false ?_
  rw [Int32.toBitVec_and, BitVec.msb_and, show (Int32.ofInt 2147483647).toBitVec.msb = false from by decide, Bool.and_false]
theorem yn_shr {n k : Nat} (hn : n < 2147483648) (hk : k < 32) : zshr (n : Int) (k : Int) = ((n / 2 ^ k : Nat) : Int) := by
  have hle : n / 2 ^ k ≤ n := Nat.div_le_self _ _
  refine zext (zin32_toInt _) ⟨Int.le_trans (by decide) (Int.natCast_nonneg _), Int.lt_of_le_of_lt (Int.ofNat_le.mpr hle) (by omega)⟩ fun i hi => ?_
  rw [zbit_shr _ hk hi, zbit_nat _ hi, Nat.testBit_div_two_pow]
  have h31 : ∀ j, 31 ≤ j → n.testBit j = false := fun j hj => Nat.testBit_lt_two_pow (Nat.lt_of_lt_of_le hn (Nat.pow_le_pow_right (n := 2) (by omega) hj))
  split
  · next h => rw [zbit_nat _ h, Nat.add_comm]
  · next h => rw [zbit_nat _ (by omega), h31 31 (by omega), h31 (i + k) (by omega)]
theorem yn_rem {n : Nat} (d : Nat) (hn : n < 2147483648) (h0 : 0 < d) (hd : d < 2147483648) : zrem (n : Int) (d : Int) = ((n % d : Nat) : Int) := zrem_nat hn h0 hd
/-- a cell of the script -/
def yc_ (Ln : Nat) (F0 : Int → Int) (k : Int) : Nat := (zand (if k < (Ln : Int) then F0 k else zadd (zmul 15485957 k) 107) 2147483647).toNat
theorem yc_eq (Ln : Nat) (F0 : Int → Int) (k : Int) : zand (if k < (Ln : Int) then F0 k else zadd (zmul 15485957 k) 107) 2147483647 = (yc_ Ln F0 k : Int) := (Int.toNat_of_nonneg (yn_nn31 _)).symm
theorem yc_lt (Ln : Nat) (F0 : Int → Int) (k : Int) : yc_ Ln F0 k < 2147483648 := by
  have h := yc_eq Ln F0 k
  have h2 := (zand_in (if k < (Ln : Int) then F0 k else zadd (zmul 15485957 k) 107) 2147483647).2
  rw [h] at h2
  omega
section YC
variable {Ln d : Nat} {M : Nat → Int → Int}
theorem F_LW_cell {k : Int} (h0 : 0 ≤ k) (h1 : k < 1000) : zF (zSH Ln) d i_LW_cell [zR 0, zI k] M fun r M' => r = some (zI (yc_ Ln (M 0) k : Int)) ∧ M' = M := by
  rw [zF_en k_LW_cell_0 (L := [zR 0, zI k]) rfl, w_iload (x := k) rfl, w_aload (k := 0) rfl, w_alen (n := Ln) (rs := []) rfl, w_icmp, w_fall]
  have e := yc_eq Ln (M 0) k
  by_cases h : k < (Ln : Int)
  · rw [if_pos h] at e
    rw [if_neg (by rw [q_ge]; omega), show zblk i_LW_cell 1 = _ from k_LW_cell_1, w_aload (k := 0) rfl, w_iload (x := k) rfl, w_iald (n := Ln) (rs := []) rfl h0 h, w_goto, show zblk i_LW_cell 3 = _ from k_LW_cell_3, w_iconst, w_iand, e, w_nret r_LW_cell]
    exact ⟨rfl, rfl⟩
  · rw [if_neg h] at e
    rw [if_pos (by rw [q_ge]; omega), show zblk i_LW_cell 2 = _ from k_LW_cell_2, w_iconst, w_iload (x := k) rfl, w_imul, w_iconst, w_iadd, w_fall, show zblk i_LW_cell 3 = _ from k_LW_cell_3, w_iconst, w_iand, e, w_nret r_LW_cell]
    exact ⟨rfl, rfl⟩
theorem c_LW_cell {mi o b9 : Nat} {es : List zEnt} {L st : List zMV} {Q : Option zMV → (Nat → Int → Int) → Prop} {k : Int} (h0 : 0 ≤ k) (h1 : k < 1000) (hd : 1 ≤ d) (hc : zcats st ≤ 8) : zW (zSH Ln) d mi ((.invokestatic o, 112, b9) :: es) L (zI k :: zR 0 :: st) M Q = zW (zSH Ln) d mi es L (zI (yc_ Ln (M 0) k : Int) :: st) M Q :=
  c_stat (vs := [zR 0, zI k]) hd rfl rfl hc (Nat.le_of_ble_eq_true rfl) (F_LW_cell h0 h1)
end YC
/-- states and players -/
def yS (Ln : Nat) (F0 : Int → Int) : Nat := 2 + yc_ Ln F0 0 % 7
def yP (Ln : Nat) (F0 : Int → Int) : Nat := 1 + yc_ Ln F0 0 / 2 ^ 4 % 3
theorem yS_in (Ln : Nat) (F0 : Int → Int) : 2 ≤ yS Ln F0 ∧ yS Ln F0 ≤ 8 := by unfold yS; omega
theorem yP_in (Ln : Nat) (F0 : Int → Int) : 1 ≤ yP Ln F0 ∧ yP Ln F0 ≤ 3 := by unfold yP; omega
theorem yS_eq (Ln : Nat) (F0 : Int → Int) : zadd 2 (zrem (yc_ Ln F0 0 : Int) 7) = (yS Ln F0 : Int) := by
  have h : zrem (yc_ Ln F0 0 : Int) 7 = ((yc_ Ln F0 0 % 7 : Nat) : Int) := yn_rem 7 (yc_lt _ _ _) (by omega) (by omega)
  rw [h, zadd_eq (by omega) (by omega)]
  unfold yS
  omega
theorem yP_eq (Ln : Nat) (F0 : Int → Int) : zadd 1 (zrem (zshr (yc_ Ln F0 0 : Int) 4) 3) = (yP Ln F0 : Int) := by
  have h0 := yc_lt Ln F0 0
  have h1 : zshr (yc_ Ln F0 0 : Int) 4 = ((yc_ Ln F0 0 / 2 ^ 4 : Nat) : Int) := yn_shr (k := 4) h0 (by omega)
  have h : zrem ((yc_ Ln F0 0 / 2 ^ 4 : Nat) : Int) 3 = ((yc_ Ln F0 0 / 2 ^ 4 % 3 : Nat) : Int) := yn_rem 3 (by have := Nat.div_le_self (yc_ Ln F0 0) (2 ^ 4); omega) (by omega) (by omega)
  rw [h1, h, zadd_eq (by omega) (by omega)]
  unfold yP
  omega
section YC
variable {Ln d : Nat} {M : Nat → Int → Int}
theorem c_LW_statesOf {mi o b9 : Nat} {es : List zEnt} {L st : List zMV} {Q : Option zMV → (Nat → Int → Int) → Prop} (hd : 2 ≤ d) (hc : zcats st ≤ 8) : zW (zSH Ln) d mi ((.invokestatic o, 114, b9) :: es) L (zR 0 :: st) M Q = zW (zSH Ln) d mi es L (zI (yS Ln (M 0) : Int) :: st) M Q := by
  refine c_stat (vs := [zR 0]) (r0 := some (zI (yS Ln (M 0) : Int))) (M0 := M) (by omega) rfl rfl hc (Nat.le_of_ble_eq_true rfl) ?_
  rw [zF_en k_LW_statesOf_0 (L := [zR 0]) rfl, w_iconst, w_aload (k := 0) rfl, w_iconst, c_LW_cell (by omega) (by omega) (by omega) (Nat.le_of_ble_eq_true rfl), w_iconst, w_irem (by omega), w_iadd, yS_eq, w_nret r_LW_statesOf]
  exact ⟨rfl, rfl⟩
theorem c_LW_playersOf {mi o b9 : Nat} {es : List zEnt} {L st : List zMV} {Q : Option zMV → (Nat → Int → Int) → Prop} (hd : 2 ≤ d) (hc : zcats st ≤ 8) : zW (zSH Ln) d mi ((.invokestatic o, 115, b9) :: es) L (zR 0 :: st) M Q = zW (zSH Ln) d mi es L (zI (yP Ln (M 0) : Int) :: st) M Q := by
  refine c_stat (vs := [zR 0]) (r0 := some (zI (yP Ln (M 0) : Int))) (M0 := M) (by omega) rfl rfl hc (Nat.le_of_ble_eq_true rfl) ?_
  rw [zF_en k_LW_playersOf_0 (L := [zR 0]) rfl, w_iconst, w_aload (k := 0) rfl, w_iconst, c_LW_cell (by omega) (by omega) (by omega) (Nat.le_of_ble_eq_true rfl), w_iconst, w_ishr, w_iconst, w_irem (by omega), w_iadd, yP_eq, w_nret r_LW_playersOf]
  exact ⟨rfl, rfl⟩
end YC
