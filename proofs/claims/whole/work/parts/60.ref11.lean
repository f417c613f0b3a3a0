/-! the reference: the fewest that must help -/
def zmny (m : Nat) : Nat → Nat
  | 0 => 0
  | k + 1 => zmny m k + if m.testBit k = true then 1 else 0
def zahk (x y : Nat) : Nat := zfst 4 fun k => x.testBit k != y.testBit k
def zahd (x y : Nat) : Bool := decide (zahk x y < 4) && x.testBit (zahk x y)
def zrk (m : Nat) : Nat := [0, 1, 2, 5, 3, 6, 8, 11, 4, 7, 9, 12, 10, 13, 14, 15].getD m 0
theorem zrk_ord : ∀ a, a < 16 → ∀ b, b < 16 → ((zmny a 4 < zmny b 4 ∨ zmny a 4 = zmny b 4 ∧ zahd a b = true) ↔ zrk a < zrk b) := by decide +kernel
theorem zrk_hlp : ∀ a, a < 16 → zrk a < 16 ∧ zhlp (zrk a) = a := by decide +kernel
theorem zhlp_rk : ∀ i, i < 16 → zrk (zhlp i) = i := by decide +kernel
theorem zmny_le (m : Nat) : ∀ k, zmny m k ≤ k
  | 0 => Nat.le_refl _
  | k + 1 => by have := zmny_le m k; unfold zmny; split <;> omega
/-- one that helps -/
def zOkm (C : Nat → (Nat → Bool) → Nat → Bool) (kd lf gp : Nat) (lt : Nat → Nat) (one two : Nat → Bool) (s m : Nat) : Bool := decide (m &&& gp = 0) && zJ (C (gp ||| m)) lt kd lf one two s
section RE
variable {Ln S P n : Nat} {mv tg : Nat → Nat → Nat} {lt kd lf rt gp : Nat → Nat} {M : Nat → Int → Int}
theorem F_Md_many {d : Nat} {m : Nat} (hm : m < 16) (hd : 0 ≤ d) : zF (zSH Ln) d i_Md_many [zI (m : Int)] M fun r M' => r = some (zI (zmny m 4 : Int)) ∧ M' = M := by
  rw [zF_en k_Md_many_0 (L := [zI (m : Int), zU, zU]) rfl]
  simp (disch := first | omega | exact Nat.le_of_ble_eq_true rfl | assumption | (simp only [Int.natCast_add, Int.natCast_mul, Int.cast_ofNat_Int]; omega) | decide) only [w_goto, w_fall, w_iadd, w_iand, w_iconst, w_icmp, x_iinc, x_iload, w_ishr, x_istore, zadd_eq, w_nret r_Md_many, q_eq, q_ne, q_lt, q_ge, q_gt, q_le, g_I, g_L, g_R, g_V, t_0, t_I, t_R, t_U, t_L, t_s, List.getElem?_cons_zero, List.getElem?_cons_succ, Nat.reduceAdd, zif10, zif01b, zib, if_pos, if_neg, ↓reduceIte, not_true_eq_false, not_false_eq_true, Bool.true_eq_false, Bool.false_eq_true, Classical.not_not, eq_self, and_self, and_true, true_and, Int.reduceEq, Int.reduceLE, Int.reduceLT, Int.reduceNeg, Option.toList, List.cons_append, List.nil_append, zup_s, zup_n, zst_s, zup_zs, zup_zn, decide_true, decide_false]
  refine zfor (a := 0) (N := 4) (b := 1) (fun p L0 M0 => L0 = [zI (m : Int), zI (zmny m p : Int), zI (p : Int)] ∧ M0 = M) ?_ ?_ ?_ ?_
  · exact Nat.zero_le _
  · exact ⟨rfl, rfl⟩
  · rintro p _ M _ hp ⟨rfl, rfl⟩ ih
    have hle := zmny_le m p
    rw [k_Md_many_1]
    cases hb : m.testBit p
    · simp (disch := first | omega | exact Nat.le_of_ble_eq_true rfl | assumption | (simp only [Int.natCast_add, Int.natCast_mul, Int.cast_ofNat_Int]; omega) | decide) only [k_Md_many_2, w_goto, w_fall, w_iadd, w_iand, w_iconst, w_icmp, x_iinc, x_iload, w_ishr, x_istore, zadd_eq, w_nret r_Md_many, q_eq, q_ne, q_lt, q_ge, q_gt, q_le, g_I, g_L, g_R, g_V, t_0, t_I, t_R, t_U, t_L, t_s, List.getElem?_cons_zero, List.getElem?_cons_succ, Nat.reduceAdd, zif10, zif01b, zib, if_pos, if_neg, ↓reduceIte, not_true_eq_false, not_false_eq_true, Bool.true_eq_false, Bool.false_eq_true, Classical.not_not, eq_self, and_self, and_true, true_and, Int.reduceEq, Int.reduceLE, Int.reduceLT, Int.reduceNeg, Option.toList, List.cons_append, List.nil_append, zup_s, zup_n, zst_s, zup_zs, zup_zn, decide_true, decide_false, zhas, zbit_nat, hb, Int.add_zero]
      refine ih _ _ ⟨?_, rfl⟩
      simp [zmny, hb]
    · simp (disch := first | omega | exact Nat.le_of_ble_eq_true rfl | assumption | (simp only [Int.natCast_add, Int.natCast_mul, Int.cast_ofNat_Int]; omega) | decide) only [k_Md_many_2, w_goto, w_fall, w_iadd, w_iand, w_iconst, w_icmp, x_iinc, x_iload, w_ishr, x_istore, zadd_eq, w_nret r_Md_many, q_eq, q_ne, q_lt, q_ge, q_gt, q_le, g_I, g_L, g_R, g_V, t_0, t_I, t_R, t_U, t_L, t_s, List.getElem?_cons_zero, List.getElem?_cons_succ, Nat.reduceAdd, zif10, zif01b, zib, if_pos, if_neg, ↓reduceIte, not_true_eq_false, not_false_eq_true, Bool.true_eq_false, Bool.false_eq_true, Classical.not_not, eq_self, and_self, and_true, true_and, Int.reduceEq, Int.reduceLE, Int.reduceLT, Int.reduceNeg, Option.toList, List.cons_append, List.nil_append, zup_s, zup_n, zst_s, zup_zs, zup_zn, decide_true, decide_false, zhas, zbit_nat, hb]
      refine ih _ _ ⟨?_, rfl⟩
      simp [zmny, hb]
  · rintro _ M ⟨rfl, rfl⟩
    rw [k_Md_many_1]
    simp (disch := first | omega | exact Nat.le_of_ble_eq_true rfl | assumption | (simp only [Int.natCast_add, Int.natCast_mul, Int.cast_ofNat_Int]; omega) | decide) only [k_Md_many_3, w_goto, w_fall, w_iadd, w_iand, w_iconst, w_icmp, x_iinc, x_iload, w_ishr, x_istore, zadd_eq, w_nret r_Md_many, q_eq, q_ne, q_lt, q_ge, q_gt, q_le, g_I, g_L, g_R, g_V, t_0, t_I, t_R, t_U, t_L, t_s, List.getElem?_cons_zero, List.getElem?_cons_succ, Nat.reduceAdd, zif10, zif01b, zib, if_pos, if_neg, ↓reduceIte, not_true_eq_false, not_false_eq_true, Bool.true_eq_false, Bool.false_eq_true, Classical.not_not, eq_self, and_self, and_true, true_and, Int.reduceEq, Int.reduceLE, Int.reduceLT, Int.reduceNeg, Option.toList, List.cons_append, List.nil_append, zup_s, zup_n, zst_s, zup_zs, zup_zn, decide_true, decide_false]
theorem c_Md_many {d mi o b9 : Nat} {es : List zEnt} {L st : List zMV} {Q : Option zMV → (Nat → Int → Int) → Prop} {m : Nat} (hm : m < 16) (hd : 0 + 1 ≤ d) (hc : zcats st ≤ 8) : zW (zSH Ln) d mi ((.invokestatic o, 254, b9) :: es) L (zI (m : Int) :: st) M Q = zW (zSH Ln) d mi es L (zI (zmny m 4 : Int) :: st) (M) Q :=
  c_stat (vs := [zI (m : Int)]) (by omega) rfl rfl hc (Nat.le_of_ble_eq_true rfl) (F_Md_many hm (by omega))
theorem F_Md_isAhead {d : Nat} {a b : Nat} (ha : a < 16) (hb : b < 16) (hd : 0 ≤ d) : zF (zSH Ln) d i_Md_isAhead [zI (a : Int), zI (b : Int)] M fun r M' => r = some (zI (if zahd a b = true then 1 else 0)) ∧ M' = M := by
  rw [zF_en k_Md_isAhead_0 (L := [zI (a : Int), zI (b : Int), zU]) rfl]
  have out : ∀ k : Nat, k ≤ 4 → zahk a b = k → zW (zSH Ln) d i_Md_isAhead (zblk i_Md_isAhead 4) [zI (a : Int), zI (b : Int), zI (k : Int)] [] M fun r M' => r = some (zI (if zahd a b = true then 1 else 0)) ∧ M' = M := by
    intro k hk he
    rw [k_Md_isAhead_4]
    by_cases h4 : k < 4
    · cases ht : a.testBit k
      · have hz : ¬ zahd a b = true := by unfold zahd; rw [he, ht]; simp
        simp (disch := first | omega | exact Nat.le_of_ble_eq_true rfl | assumption | (simp only [Int.natCast_add, Int.natCast_mul, Int.cast_ofNat_Int]; omega) | decide) only [k_Md_isAhead_5, k_Md_isAhead_7, k_Md_isAhead_8, w_goto, w_fall, w_iand, w_iconst, w_icmp, x_iinc, x_iload, w_ishr, x_istore, zadd_eq, w_bret r_Md_isAhead, q_eq, q_ne, q_lt, q_ge, q_gt, q_le, g_I, g_L, g_R, g_V, t_0, t_I, t_R, t_U, t_L, t_s, List.getElem?_cons_zero, List.getElem?_cons_succ, Nat.reduceAdd, zif10, zif01b, zib, if_pos, if_neg, ↓reduceIte, not_true_eq_false, not_false_eq_true, Bool.true_eq_false, Bool.false_eq_true, Classical.not_not, eq_self, and_self, and_true, true_and, Int.reduceEq, Int.reduceLE, Int.reduceLT, Int.reduceNeg, Option.toList, List.cons_append, List.nil_append, zup_s, zup_n, zst_s, zup_zs, zup_zn, decide_true, decide_false, zhas, zbit_nat, ht, hz]
      · have hz : zahd a b = true := by unfold zahd; rw [he, ht]; simp [h4]
        simp (disch := first | omega | exact Nat.le_of_ble_eq_true rfl | assumption | (simp only [Int.natCast_add, Int.natCast_mul, Int.cast_ofNat_Int]; omega) | decide) only [k_Md_isAhead_5, k_Md_isAhead_6, k_Md_isAhead_8, w_goto, w_fall, w_iand, w_iconst, w_icmp, x_iinc, x_iload, w_ishr, x_istore, zadd_eq, w_bret r_Md_isAhead, q_eq, q_ne, q_lt, q_ge, q_gt, q_le, g_I, g_L, g_R, g_V, t_0, t_I, t_R, t_U, t_L, t_s, List.getElem?_cons_zero, List.getElem?_cons_succ, Nat.reduceAdd, zif10, zif01b, zib, if_pos, if_neg, ↓reduceIte, not_true_eq_false, not_false_eq_true, Bool.true_eq_false, Bool.false_eq_true, Classical.not_not, eq_self, and_self, and_true, true_and, Int.reduceEq, Int.reduceLE, Int.reduceLT, Int.reduceNeg, Option.toList, List.cons_append, List.nil_append, zup_s, zup_n, zst_s, zup_zs, zup_zn, decide_true, decide_false, zhas, zbit_nat, ht, hz]
    · have hz : ¬ zahd a b = true := by unfold zahd; rw [he]; simp [h4]
      simp (disch := first | omega | exact Nat.le_of_ble_eq_true rfl | assumption | (simp only [Int.natCast_add, Int.natCast_mul, Int.cast_ofNat_Int]; omega) | decide) only [k_Md_isAhead_7, k_Md_isAhead_8, w_goto, w_fall, w_iand, w_iconst, w_icmp, x_iinc, x_iload, w_ishr, x_istore, zadd_eq, w_bret r_Md_isAhead, q_eq, q_ne, q_lt, q_ge, q_gt, q_le, g_I, g_L, g_R, g_V, t_0, t_I, t_R, t_U, t_L, t_s, List.getElem?_cons_zero, List.getElem?_cons_succ, Nat.reduceAdd, zif10, zif01b, zib, if_pos, if_neg, ↓reduceIte, not_true_eq_false, not_false_eq_true, Bool.true_eq_false, Bool.false_eq_true, Classical.not_not, eq_self, and_self, and_true, true_and, Int.reduceEq, Int.reduceLE, Int.reduceLT, Int.reduceNeg, Option.toList, List.cons_append, List.nil_append, zup_s, zup_n, zst_s, zup_zs, zup_zn, decide_true, decide_false, hz]
  simp (disch := first | omega | exact Nat.le_of_ble_eq_true rfl | assumption | (simp only [Int.natCast_add, Int.natCast_mul, Int.cast_ofNat_Int]; omega) | decide) only [w_goto, w_fall, w_iand, w_iconst, w_icmp, x_iinc, x_iload, w_ishr, x_istore, zadd_eq, w_bret r_Md_isAhead, q_eq, q_ne, q_lt, q_ge, q_gt, q_le, g_I, g_L, g_R, g_V, t_0, t_I, t_R, t_U, t_L, t_s, List.getElem?_cons_zero, List.getElem?_cons_succ, Nat.reduceAdd, zif10, zif01b, zib, if_pos, if_neg, ↓reduceIte, not_true_eq_false, not_false_eq_true, Bool.true_eq_false, Bool.false_eq_true, Classical.not_not, eq_self, and_self, and_true, true_and, Int.reduceEq, Int.reduceLE, Int.reduceLT, Int.reduceNeg, Option.toList, List.cons_append, List.nil_append, zup_s, zup_n, zst_s, zup_zs, zup_zn, decide_true, decide_false]
  refine zfor (a := 0) (N := 4) (b := 1) (fun p L0 M0 => L0 = [zI (a : Int), zI (b : Int), zI (p : Int)] ∧ M0 = M ∧ (∀ i, i < p → (a.testBit i != b.testBit i) = false)) ?_ ?_ ?_ ?_
  · exact Nat.zero_le _
  · exact ⟨rfl, rfl, fun i hi => by omega⟩
  · rintro p _ M _ hp ⟨rfl, rfl, hno⟩ ih
    have nx : (a.testBit p != b.testBit p) = false → ∀ i, i < p + 1 → (a.testBit i != b.testBit i) = false := fun h i hi => by
      by_cases e : i = p
      · subst e; exact h
      · exact hno i (by omega)
    have st : (a.testBit p != b.testBit p) = true → zahk a b = p := fun h => zfst_is hp h hno
    rw [k_Md_isAhead_1]
    cases h1 : a.testBit p <;> cases h2 : b.testBit p
    · simp (disch := first | omega | exact Nat.le_of_ble_eq_true rfl | assumption | (simp only [Int.natCast_add, Int.natCast_mul, Int.cast_ofNat_Int]; omega) | decide) only [k_Md_isAhead_2, k_Md_isAhead_3, w_goto, w_fall, w_iand, w_iconst, w_icmp, x_iinc, x_iload, w_ishr, x_istore, zadd_eq, w_bret r_Md_isAhead, q_eq, q_ne, q_lt, q_ge, q_gt, q_le, g_I, g_L, g_R, g_V, t_0, t_I, t_R, t_U, t_L, t_s, List.getElem?_cons_zero, List.getElem?_cons_succ, Nat.reduceAdd, zif10, zif01b, zib, if_pos, if_neg, ↓reduceIte, not_true_eq_false, not_false_eq_true, Bool.true_eq_false, Bool.false_eq_true, Classical.not_not, eq_self, and_self, and_true, true_and, Int.reduceEq, Int.reduceLE, Int.reduceLT, Int.reduceNeg, Option.toList, List.cons_append, List.nil_append, zup_s, zup_n, zst_s, zup_zs, zup_zn, decide_true, decide_false, zhas, zbit_nat, h1, h2]
      exact ih _ _ ⟨rfl, rfl, nx (by rw [h1, h2]; rfl)⟩
    · simp (disch := first | omega | exact Nat.le_of_ble_eq_true rfl | assumption | (simp only [Int.natCast_add, Int.natCast_mul, Int.cast_ofNat_Int]; omega) | decide) only [k_Md_isAhead_2, w_goto, w_fall, w_iand, w_iconst, w_icmp, x_iinc, x_iload, w_ishr, x_istore, zadd_eq, w_bret r_Md_isAhead, q_eq, q_ne, q_lt, q_ge, q_gt, q_le, g_I, g_L, g_R, g_V, t_0, t_I, t_R, t_U, t_L, t_s, List.getElem?_cons_zero, List.getElem?_cons_succ, Nat.reduceAdd, zif10, zif01b, zib, if_pos, if_neg, ↓reduceIte, not_true_eq_false, not_false_eq_true, Bool.true_eq_false, Bool.false_eq_true, Classical.not_not, eq_self, and_self, and_true, true_and, Int.reduceEq, Int.reduceLE, Int.reduceLT, Int.reduceNeg, Option.toList, List.cons_append, List.nil_append, zup_s, zup_n, zst_s, zup_zs, zup_zn, decide_true, decide_false, zhas, zbit_nat, h1, h2]
      exact out p (by omega) (st (by rw [h1, h2]; rfl))
    · simp (disch := first | omega | exact Nat.le_of_ble_eq_true rfl | assumption | (simp only [Int.natCast_add, Int.natCast_mul, Int.cast_ofNat_Int]; omega) | decide) only [k_Md_isAhead_2, w_goto, w_fall, w_iand, w_iconst, w_icmp, x_iinc, x_iload, w_ishr, x_istore, zadd_eq, w_bret r_Md_isAhead, q_eq, q_ne, q_lt, q_ge, q_gt, q_le, g_I, g_L, g_R, g_V, t_0, t_I, t_R, t_U, t_L, t_s, List.getElem?_cons_zero, List.getElem?_cons_succ, Nat.reduceAdd, zif10, zif01b, zib, if_pos, if_neg, ↓reduceIte, not_true_eq_false, not_false_eq_true, Bool.true_eq_false, Bool.false_eq_true, Classical.not_not, eq_self, and_self, and_true, true_and, Int.reduceEq, Int.reduceLE, Int.reduceLT, Int.reduceNeg, Option.toList, List.cons_append, List.nil_append, zup_s, zup_n, zst_s, zup_zs, zup_zn, decide_true, decide_false, zhas, zbit_nat, h1, h2]
      exact out p (by omega) (st (by rw [h1, h2]; rfl))
    · simp (disch := first | omega | exact Nat.le_of_ble_eq_true rfl | assumption | (simp only [Int.natCast_add, Int.natCast_mul, Int.cast_ofNat_Int]; omega) | decide) only [k_Md_isAhead_2, k_Md_isAhead_3, w_goto, w_fall, w_iand, w_iconst, w_icmp, x_iinc, x_iload, w_ishr, x_istore, zadd_eq, w_bret r_Md_isAhead, q_eq, q_ne, q_lt, q_ge, q_gt, q_le, g_I, g_L, g_R, g_V, t_0, t_I, t_R, t_U, t_L, t_s, List.getElem?_cons_zero, List.getElem?_cons_succ, Nat.reduceAdd, zif10, zif01b, zib, if_pos, if_neg, ↓reduceIte, not_true_eq_false, not_false_eq_true, Bool.true_eq_false, Bool.false_eq_true, Classical.not_not, eq_self, and_self, and_true, true_and, Int.reduceEq, Int.reduceLE, Int.reduceLT, Int.reduceNeg, Option.toList, List.cons_append, List.nil_append, zup_s, zup_n, zst_s, zup_zs, zup_zn, decide_true, decide_false, zhas, zbit_nat, h1, h2]
      exact ih _ _ ⟨rfl, rfl, nx (by rw [h1, h2]; rfl)⟩
  · rintro _ M ⟨rfl, rfl, hno⟩
    rw [k_Md_isAhead_1]
    simp (disch := first | omega | exact Nat.le_of_ble_eq_true rfl | assumption | (simp only [Int.natCast_add, Int.natCast_mul, Int.cast_ofNat_Int]; omega) | decide) only [w_goto, w_fall, w_iand, w_iconst, w_icmp, x_iinc, x_iload, w_ishr, x_istore, zadd_eq, w_bret r_Md_isAhead, q_eq, q_ne, q_lt, q_ge, q_gt, q_le, g_I, g_L, g_R, g_V, t_0, t_I, t_R, t_U, t_L, t_s, List.getElem?_cons_zero, List.getElem?_cons_succ, Nat.reduceAdd, zif10, zif01b, zib, if_pos, if_neg, ↓reduceIte, not_true_eq_false, not_false_eq_true, Bool.true_eq_false, Bool.false_eq_true, Classical.not_not, eq_self, and_self, and_true, true_and, Int.reduceEq, Int.reduceLE, Int.reduceLT, Int.reduceNeg, Option.toList, List.cons_append, List.nil_append, zup_s, zup_n, zst_s, zup_zs, zup_zn, decide_true, decide_false]
    exact out 4 (by omega) (zfst_none hno)
theorem c_Md_isAhead {d mi o b9 : Nat} {es : List zEnt} {L st : List zMV} {Q : Option zMV → (Nat → Int → Int) → Prop} {a b : Nat} (ha : a < 16) (hb : b < 16) (hd : 0 + 1 ≤ d) (hc : zcats st ≤ 8) : zW (zSH Ln) d mi ((.invokestatic o, 255, b9) :: es) L (zI (b : Int) :: zI (a : Int) :: st) M Q = zW (zSH Ln) d mi es L (zI (if zahd a b = true then 1 else 0) :: st) (M) Q :=
  c_stat (vs := [zI (a : Int), zI (b : Int)]) (by omega) rfl rfl hc (Nat.le_of_ble_eq_true rfl) (F_Md_isAhead ha hb (by omega))
def zHeA (S P : Nat) (mv tg : Nat → Nat → Nat) (lt kd lf rt gp : Nat → Nat) (x : Int) : Int := if 0 ≤ x ∧ x < S then (if 5 ≤ kd 0 then zHelp (fun y => zCn mv tg P (zbit (y : Int))) P (kd 0) (lf 0) (gp 0) lt (zHp mv tg P lt kd lf rt gp (lf 0)) (zHp mv tg P lt kd lf rt gp (rt 0)) x.toNat else -2) else -1
set_option maxHeartbeats 20000000 in
theorem F_Md_helpers {d : Nat} {x : Int} (hN : zNet S P mv tg) (hR : zNetR S P mv tg M) (hL : zLetR lt M) (hlt : ∀ s, lt s < 256) (hF : zForm P n kd lf rt gp) (hFR : zFormR n kd lf rt gp M) (hd : 8 ≤ d) : zF (zSH Ln) d i_Md_helpers [zR 48, zI x] M fun r M' => r = some (zI (zHeA S P mv tg lt kd lf rt gp x)) ∧ zKp [67, 68] M M' := by
  rw [zF_en k_Md_helpers_0 (L := [zR 48, zI x, zU, zU, zU, zU, zU]) rfl]
  have hn := hF.1
  have hS := hN.2.1
  have hP4 := hN.2.2.2.1
  obtain ⟨f1, f2, f3, f4, f5⟩ := hF.2.2 0 hn
  obtain ⟨g1, g2, g3, g4⟩ := hFR.2.1 0 hn
  simp only [show ((0 : Nat) : Int) = 0 from rfl] at g1 g2 g3 g4
  generalize hans : zHeA S P mv tg lt kd lf rt gp x = ans
  unfold zHeA at hans
  by_cases c1 : 0 ≤ x ∧ x < S
  rotate_left
  · have ha : ans = -1 := by rw [← hans, if_neg c1]
    simp (disch := first | omega | exact Nat.le_of_ble_eq_true rfl | assumption | (simp only [Int.natCast_add, Int.natCast_mul, Int.cast_ofNat_Int]; omega) | decide) only [k_Md_helpers_1, x_aload, x_getf, w_goto, w_fall, w_iand, w_iconst, w_if, w_icmp, x_iinc, x_iload, w_ior, w_ishr, x_istore, zadd_eq, gf_48_14, ia_59, w_nret r_Md_helpers, q_eq, q_ne, q_lt, q_ge, q_gt, q_le, g_I, g_L, g_R, g_V, t_0, t_I, t_R, t_U, t_L, t_s, List.getElem?_cons_zero, List.getElem?_cons_succ, Nat.reduceAdd, zif10, zif01b, zib, if_pos, if_neg, ↓reduceIte, not_true_eq_false, not_false_eq_true, Bool.true_eq_false, Bool.false_eq_true, Classical.not_not, eq_self, and_self, and_true, true_and, Int.reduceEq, Int.reduceLE, Int.reduceLT, Int.reduceNeg, Option.toList, List.cons_append, List.nil_append, zup_s, zup_n, zst_s, zup_zs, zup_zn, decide_true, decide_false, c_Md_isState hN hR, c1, ha]
    exact zKp_rf _ _
  rw [if_pos c1] at hans
  obtain ⟨s, rfl⟩ : ∃ s : Nat, x = (s : Int) := ⟨x.toNat, by omega⟩
  by_cases c2 : 5 ≤ kd 0
  rotate_left
  · have ha : ans = -2 := by rw [← hans, if_neg c2]
    simp (disch := first | omega | exact Nat.le_of_ble_eq_true rfl | assumption | (simp only [Int.natCast_add, Int.natCast_mul, Int.cast_ofNat_Int]; omega) | decide) only [k_Md_helpers_2, k_Md_helpers_3, x_aload, x_getf, w_goto, w_fall, w_iand, w_iconst, w_if, w_icmp, x_iinc, x_iload, w_ior, w_ishr, x_istore, zadd_eq, gf_48_14, ia_59, w_nret r_Md_helpers, q_eq, q_ne, q_lt, q_ge, q_gt, q_le, g_I, g_L, g_R, g_V, t_0, t_I, t_R, t_U, t_L, t_s, List.getElem?_cons_zero, List.getElem?_cons_succ, Nat.reduceAdd, zif10, zif01b, zib, if_pos, if_neg, ↓reduceIte, not_true_eq_false, not_false_eq_true, Bool.true_eq_false, Bool.false_eq_true, Classical.not_not, eq_self, and_self, and_true, true_and, Int.reduceEq, Int.reduceLE, Int.reduceLT, Int.reduceNeg, Option.toList, List.cons_append, List.nil_append, zup_s, zup_n, zst_s, zup_zs, zup_zn, decide_true, decide_false, c_Md_isState hN hR, c1, c_Md_isOfGroup hF hFR, c2, ha]
    exact zKp_rf _ _
  rw [if_pos c2, Int.toNat_natCast] at hans
  have hgp := f5 c2
  have g4 := g4 c2
  have hn24 := hF.2.1
  have h2P : (2 : Nat) ^ P ≤ 16 := Nat.pow_le_pow_right (n := 2) (by omega) hP4
  have h2p := Nat.two_pow_pos P
  have hall : zset P (fun _ => true) = ((2 ^ P : Nat) : Int) - 1 := zset_all P
  simp (disch := first | omega | exact Nat.le_of_ble_eq_true rfl | assumption | (simp only [Int.natCast_add, Int.natCast_mul, Int.cast_ofNat_Int]; omega) | decide) only [k_Md_helpers_2, k_Md_helpers_4, x_aload, x_getf, w_goto, w_fall, w_iand, w_iconst, w_if, w_icmp, x_iinc, x_iload, w_ior, w_ishr, x_istore, zadd_eq, gf_48_14, ia_59, w_nret r_Md_helpers, q_eq, q_ne, q_lt, q_ge, q_gt, q_le, g_I, g_L, g_R, g_V, t_0, t_I, t_R, t_U, t_L, t_s, List.getElem?_cons_zero, List.getElem?_cons_succ, Nat.reduceAdd, zif10, zif01b, zib, if_pos, if_neg, ↓reduceIte, not_true_eq_false, not_false_eq_true, Bool.true_eq_false, Bool.false_eq_true, Classical.not_not, eq_self, and_self, and_true, true_and, Int.reduceEq, Int.reduceLE, Int.reduceLT, Int.reduceNeg, Option.toList, List.cons_append, List.nil_append, zup_s, zup_n, zst_s, zup_zs, zup_zn, decide_true, decide_false, c_Md_isState hN hR, c1, c_Md_isOfGroup hF hFR, c2]
  refine c_Md_tell hN hR hL hlt hF hFR (by omega) (Nat.le_of_ble_eq_true rfl) ?_
  rintro _ _ ⟨rfl, H, R, rfl, hLaw⟩
  generalize hone : zHp mv tg P lt kd lf rt gp (lf 0) = one at hans
  generalize htwo : zHp mv tg P lt kd lf rt gp (rt 0) = two at hans
  have ho1 : H (lf 0 : Int) = zset S one := by rw [← hone]; exact hLaw.1 (lf 0) (f3 (by omega)).2
  have ho2 : ztwo (kd 0) = true → H (rt 0 : Int) = zset S two := fun h => by rw [← htwo]; exact hLaw.1 (rt 0) (f4 h).2
  generalize zHp mv tg P lt kd lf rt gp 0 = whole
  have hw0 := zset_0 S whole
  generalize hok : zOkm (fun y => zCn mv tg P (zbit (y : Int))) (kd 0) (lf 0) (gp 0) lt one two s = okm
  have hokd : ∀ m, okm m = (decide (m &&& gp 0 = 0) && zJ (zCn mv tg P (zbit ((gp 0 ||| m : Nat) : Int))) lt (kd 0) (lf 0) one two s) := fun m => by rw [← hok]; rfl
  have hHok : ∀ i, zHok (fun y => zCn mv tg P (zbit (y : Int))) P (kd 0) (lf 0) (gp 0) lt one two s i = (decide (zhlp i < 2 ^ P) && okm (zhlp i)) := fun i => by rw [hokd]; rfl
  simp (disch := first | omega | exact Nat.le_of_ble_eq_true rfl | assumption | (simp only [Int.natCast_add, Int.natCast_mul, Int.cast_ofNat_Int]; omega) | decide) only [x_aload, x_getf, w_goto, w_fall, w_iand, w_iconst, w_if, w_icmp, x_iinc, x_iload, w_ior, w_ishr, x_istore, zadd_eq, gf_48_14, ia_59, w_nret r_Md_helpers, q_eq, q_ne, q_lt, q_ge, q_gt, q_le, g_I, g_L, g_R, g_V, t_0, t_I, t_R, t_U, t_L, t_s, List.getElem?_cons_zero, List.getElem?_cons_succ, Nat.reduceAdd, zif10, zif01b, zib, if_pos, if_neg, ↓reduceIte, not_true_eq_false, not_false_eq_true, Bool.true_eq_false, Bool.false_eq_true, Classical.not_not, eq_self, and_self, and_true, true_and, Int.reduceEq, Int.reduceLE, Int.reduceLT, Int.reduceNeg, Option.toList, List.cons_append, List.nil_append, zup_s, zup_n, zst_s, zup_zs, zup_zn, decide_true, decide_false]
  refine zfor (a := 0) (N := (2 ^ P)) (b := 5) (fun m L0 M0 => ∃ (R : Int → Int) (b : Int) (v5 : zMV) (v6 : zMV), L0 = [zR 48, zI (s : Int), zI b, zI (zset S whole), zI (m : Int), v5, v6] ∧ M0 = zst (zst M 67 H) 68 R ∧ ((b = -4 ∧ ∀ i, i < m → okm i = false) ∨ ∃ bm : Nat, b = (bm : Int) ∧ bm < m ∧ okm bm = true ∧ ∀ i, i < m → okm i = true → zrk bm ≤ zrk i)) ?_ ?_ ?_ ?_
  · exact Nat.zero_le _
  · exact ⟨R, -4, zU, zU, rfl, rfl, Or.inl ⟨rfl, fun i hi => by omega⟩⟩
  · rintro m _ _ _ hm ⟨R, b, v5, v6, rfl, rfl, hI⟩ ih
    have hR1 : ∀ R, zNetR S P mv tg (zst (zst M 67 H) 68 R) := fun _ => hR
    have hL1 : zLetR lt (zst (zst M 67 H) 68 R) := hL
    have hFR1 : zFormR n kd lf rt gp (zst (zst M 67 H) 68 R) := hFR
    have hg1 : ∀ R, zst (zst M 67 H) 68 R 59 0 = gp 0 := fun _ => g4
    have keep : okm m = false → (b = -4 ∧ ∀ i, i < m + 1 → okm i = false) ∨ ∃ bm : Nat, b = (bm : Int) ∧ bm < m + 1 ∧ okm bm = true ∧ ∀ i, i < m + 1 → okm i = true → zrk bm ≤ zrk i := fun h => by
      rcases hI with ⟨h1, h2⟩ | ⟨bm, h1, h2, h3, h4⟩
      · refine Or.inl ⟨h1, fun i hi => ?_⟩
        by_cases e : i = m
        · subst e; exact h
        · exact h2 i (by omega)
      · refine Or.inr ⟨bm, h1, by omega, h3, fun i hi h5 => ?_⟩
        by_cases e : i = m
        · subst e; rw [h] at h5; cases h5
        · exact h4 i (by omega) h5
    rw [k_Md_helpers_5]
    by_cases c3 : m &&& gp 0 = 0
    · simp (disch := first | omega | exact Nat.le_of_ble_eq_true rfl | assumption | (simp only [Int.natCast_add, Int.natCast_mul, Int.cast_ofNat_Int]; omega) | decide) only [k_Md_helpers_6, k_Md_helpers_7, k_Md_helpers_8, k_Md_helpers_10, k_Md_helpers_11, x_aload, x_getf, w_goto, w_fall, w_iand, w_iconst, w_if, w_icmp, x_iinc, x_iload, w_ior, w_ishr, x_istore, zadd_eq, gf_48_14, ia_59, w_nret r_Md_helpers, q_eq, q_ne, q_lt, q_ge, q_gt, q_le, g_I, g_L, g_R, g_V, t_0, t_I, t_R, t_U, t_L, t_s, List.getElem?_cons_zero, List.getElem?_cons_succ, Nat.reduceAdd, zif10, zif01b, zib, if_pos, if_neg, ↓reduceIte, not_true_eq_false, not_false_eq_true, Bool.true_eq_false, Bool.false_eq_true, Classical.not_not, eq_self, and_self, and_true, true_and, Int.reduceEq, Int.reduceLE, Int.reduceLT, Int.reduceNeg, Option.toList, List.cons_append, List.nil_append, zup_s, zup_n, zst_s, zup_zs, zup_zn, decide_true, decide_false, c_Md_everybody hN (hR1 _), hall, hg1, zand_nat (show m < 2147483648 by omega) (show gp 0 < 2147483648 by omega), c3, zor_nat (show gp 0 < 1073741824 by omega) (show m < 1073741824 by omega)]
      refine c_Md_heldOf (k := 0) (one := one) (two := two) hN (hR1 _) hL1 hlt hF hFR1 hn (fun _ => ho1) (fun h => ho2 h) (by omega) (Nat.le_of_ble_eq_true rfl) ?_
      rintro _ _ ⟨rfl, R', rfl, _⟩
      cases hj : zJ (zCn mv tg P (zbit ((gp 0 ||| m : Nat) : Int))) lt (kd 0) (lf 0) one two s
      · have hf : okm m = false := by rw [hokd, hj, Bool.and_false]
        simp (disch := first | omega | exact Nat.le_of_ble_eq_true rfl | assumption | (simp only [Int.natCast_add, Int.natCast_mul, Int.cast_ofNat_Int]; omega) | decide) only [k_Md_helpers_22, x_aload, x_getf, w_goto, w_fall, w_iand, w_iconst, w_if, w_icmp, x_iinc, x_iload, w_ior, w_ishr, x_istore, zadd_eq, gf_48_14, ia_59, w_nret r_Md_helpers, q_eq, q_ne, q_lt, q_ge, q_gt, q_le, g_I, g_L, g_R, g_V, t_0, t_I, t_R, t_U, t_L, t_s, List.getElem?_cons_zero, List.getElem?_cons_succ, Nat.reduceAdd, zif10, zif01b, zib, if_pos, if_neg, ↓reduceIte, not_true_eq_false, not_false_eq_true, Bool.true_eq_false, Bool.false_eq_true, Classical.not_not, eq_self, and_self, and_true, true_and, Int.reduceEq, Int.reduceLE, Int.reduceLT, Int.reduceNeg, Option.toList, List.cons_append, List.nil_append, zup_s, zup_n, zst_s, zup_zs, zup_zn, decide_true, decide_false, zset_has, hj, zst_zst]
        exact ih _ _ ⟨R', b, _, _, rfl, rfl, keep hf⟩
      · have ht : okm m = true := by rw [hokd, hj, c3]; simp
        have take : (∀ i, i < m → okm i = true → zrk m < zrk i) → zW (zSH Ln) d i_Md_helpers (zblk i_Md_helpers 16) [zR 48, zI (s : Int), zI b, zI (zset S whole), zI (m : Int), zI 1, v6] [] (zst (zst M 67 H) 68 R') fun r M' => r = some (zI ans) ∧ zKp [67, 68] M M' := by
          intro hmin
          rw [k_Md_helpers_16]
          simp (disch := first | omega | exact Nat.le_of_ble_eq_true rfl | assumption | (simp only [Int.natCast_add, Int.natCast_mul, Int.cast_ofNat_Int]; omega) | decide) only [k_Md_helpers_18, k_Md_helpers_19, k_Md_helpers_21, k_Md_helpers_22, x_aload, x_getf, w_goto, w_fall, w_iand, w_iconst, w_if, w_icmp, x_iinc, x_iload, w_ior, w_ishr, x_istore, zadd_eq, gf_48_14, ia_59, w_nret r_Md_helpers, q_eq, q_ne, q_lt, q_ge, q_gt, q_le, g_I, g_L, g_R, g_V, t_0, t_I, t_R, t_U, t_L, t_s, List.getElem?_cons_zero, List.getElem?_cons_succ, Nat.reduceAdd, zif10, zif01b, zib, if_pos, if_neg, ↓reduceIte, not_true_eq_false, not_false_eq_true, Bool.true_eq_false, Bool.false_eq_true, Classical.not_not, eq_self, and_self, and_true, true_and, Int.reduceEq, Int.reduceLE, Int.reduceLT, Int.reduceNeg, Option.toList, List.cons_append, List.nil_append, zup_s, zup_n, zst_s, zup_zs, zup_zn, decide_true, decide_false]
          refine ih _ _ ⟨R', m, _, _, rfl, rfl, Or.inr ⟨m, rfl, by omega, ht, fun i hi h5 => ?_⟩⟩
          by_cases e : i = m
          · subst e; exact Nat.le_refl _
          · exact Nat.le_of_lt (hmin i (by omega) h5)
        rcases hI with ⟨h1, h2⟩ | ⟨bm, h1, h2, h3, h4⟩
        · subst h1
          simp (disch := first | omega | exact Nat.le_of_ble_eq_true rfl | assumption | (simp only [Int.natCast_add, Int.natCast_mul, Int.cast_ofNat_Int]; omega) | decide) only [k_Md_helpers_12, x_aload, x_getf, w_goto, w_fall, w_iand, w_iconst, w_if, w_icmp, x_iinc, x_iload, w_ior, w_ishr, x_istore, zadd_eq, gf_48_14, ia_59, w_nret r_Md_helpers, q_eq, q_ne, q_lt, q_ge, q_gt, q_le, g_I, g_L, g_R, g_V, t_0, t_I, t_R, t_U, t_L, t_s, List.getElem?_cons_zero, List.getElem?_cons_succ, Nat.reduceAdd, zif10, zif01b, zib, if_pos, if_neg, ↓reduceIte, not_true_eq_false, not_false_eq_true, Bool.true_eq_false, Bool.false_eq_true, Classical.not_not, eq_self, and_self, and_true, true_and, Int.reduceEq, Int.reduceLE, Int.reduceLT, Int.reduceNeg, Option.toList, List.cons_append, List.nil_append, zup_s, zup_n, zst_s, zup_zs, zup_zn, decide_true, decide_false, zset_has, hj, zst_zst]
          exact take fun i hi h5 => by rw [h2 i hi] at h5; cases h5
        · subst h1
          have ord := zrk_ord m (by omega) bm (by omega)
          have leave : ¬ zrk m < zrk bm → zW (zSH Ln) d i_Md_helpers (zblk i_Md_helpers 17) [zR 48, zI (s : Int), zI (bm : Int), zI (zset S whole), zI (m : Int), zI 1, v6] [] (zst (zst M 67 H) 68 R') fun r M' => r = some (zI ans) ∧ zKp [67, 68] M M' := by
            intro hge
            rw [k_Md_helpers_17]
            simp (disch := first | omega | exact Nat.le_of_ble_eq_true rfl | assumption | (simp only [Int.natCast_add, Int.natCast_mul, Int.cast_ofNat_Int]; omega) | decide) only [k_Md_helpers_18, k_Md_helpers_20, k_Md_helpers_21, k_Md_helpers_22, x_aload, x_getf, w_goto, w_fall, w_iand, w_iconst, w_if, w_icmp, x_iinc, x_iload, w_ior, w_ishr, x_istore, zadd_eq, gf_48_14, ia_59, w_nret r_Md_helpers, q_eq, q_ne, q_lt, q_ge, q_gt, q_le, g_I, g_L, g_R, g_V, t_0, t_I, t_R, t_U, t_L, t_s, List.getElem?_cons_zero, List.getElem?_cons_succ, Nat.reduceAdd, zif10, zif01b, zib, if_pos, if_neg, ↓reduceIte, not_true_eq_false, not_false_eq_true, Bool.true_eq_false, Bool.false_eq_true, Classical.not_not, eq_self, and_self, and_true, true_and, Int.reduceEq, Int.reduceLE, Int.reduceLT, Int.reduceNeg, Option.toList, List.cons_append, List.nil_append, zup_s, zup_n, zst_s, zup_zs, zup_zn, decide_true, decide_false]
            refine ih _ _ ⟨R', bm, _, _, rfl, rfl, Or.inr ⟨bm, rfl, by omega, h3, fun i hi h5 => ?_⟩⟩
            by_cases e : i = m
            · subst e; omega
            · exact h4 i (by omega) h5
          have hb16 : bm < 16 := by omega
          have hm16 : m < 16 := by omega
          by_cases q1 : zmny m 4 < zmny bm 4
          · simp (disch := first | omega | exact Nat.le_of_ble_eq_true rfl | assumption | (simp only [Int.natCast_add, Int.natCast_mul, Int.cast_ofNat_Int]; omega) | decide) only [k_Md_helpers_12, k_Md_helpers_13, x_aload, x_getf, w_goto, w_fall, w_iand, w_iconst, w_if, w_icmp, x_iinc, x_iload, w_ior, w_ishr, x_istore, zadd_eq, gf_48_14, ia_59, w_nret r_Md_helpers, q_eq, q_ne, q_lt, q_ge, q_gt, q_le, g_I, g_L, g_R, g_V, t_0, t_I, t_R, t_U, t_L, t_s, List.getElem?_cons_zero, List.getElem?_cons_succ, Nat.reduceAdd, zif10, zif01b, zib, if_pos, if_neg, ↓reduceIte, not_true_eq_false, not_false_eq_true, Bool.true_eq_false, Bool.false_eq_true, Classical.not_not, eq_self, and_self, and_true, true_and, Int.reduceEq, Int.reduceLE, Int.reduceLT, Int.reduceNeg, Option.toList, List.cons_append, List.nil_append, zup_s, zup_n, zst_s, zup_zs, zup_zn, decide_true, decide_false, zset_has, hj, zst_zst, c_Md_many hm16, c_Md_many hb16]
            exact take fun i hi h5 => Nat.lt_of_lt_of_le (ord.mp (Or.inl q1)) (h4 i hi h5)
          · by_cases q2 : zmny m 4 = zmny bm 4
            · cases q3 : zahd m bm
              · simp (disch := first | omega | exact Nat.le_of_ble_eq_true rfl | assumption | (simp only [Int.natCast_add, Int.natCast_mul, Int.cast_ofNat_Int]; omega) | decide) only [k_Md_helpers_12, k_Md_helpers_13, k_Md_helpers_14, k_Md_helpers_15, x_aload, x_getf, w_goto, w_fall, w_iand, w_iconst, w_if, w_icmp, x_iinc, x_iload, w_ior, w_ishr, x_istore, zadd_eq, gf_48_14, ia_59, w_nret r_Md_helpers, q_eq, q_ne, q_lt, q_ge, q_gt, q_le, g_I, g_L, g_R, g_V, t_0, t_I, t_R, t_U, t_L, t_s, List.getElem?_cons_zero, List.getElem?_cons_succ, Nat.reduceAdd, zif10, zif01b, zib, if_pos, if_neg, ↓reduceIte, not_true_eq_false, not_false_eq_true, Bool.true_eq_false, Bool.false_eq_true, Classical.not_not, eq_self, and_self, and_true, true_and, Int.reduceEq, Int.reduceLE, Int.reduceLT, Int.reduceNeg, Option.toList, List.cons_append, List.nil_append, zup_s, zup_n, zst_s, zup_zs, zup_zn, decide_true, decide_false, zset_has, hj, zst_zst, c_Md_many hm16, c_Md_many hb16, c_Md_isAhead hm16 hb16, q3]
                exact leave fun z => by rcases ord.mpr z with h | h; exact q1 h; rw [q3] at h; cases h.2
              · simp (disch := first | omega | exact Nat.le_of_ble_eq_true rfl | assumption | (simp only [Int.natCast_add, Int.natCast_mul, Int.cast_ofNat_Int]; omega) | decide) only [k_Md_helpers_12, k_Md_helpers_13, k_Md_helpers_14, k_Md_helpers_15, x_aload, x_getf, w_goto, w_fall, w_iand, w_iconst, w_if, w_icmp, x_iinc, x_iload, w_ior, w_ishr, x_istore, zadd_eq, gf_48_14, ia_59, w_nret r_Md_helpers, q_eq, q_ne, q_lt, q_ge, q_gt, q_le, g_I, g_L, g_R, g_V, t_0, t_I, t_R, t_U, t_L, t_s, List.getElem?_cons_zero, List.getElem?_cons_succ, Nat.reduceAdd, zif10, zif01b, zib, if_pos, if_neg, ↓reduceIte, not_true_eq_false, not_false_eq_true, Bool.true_eq_false, Bool.false_eq_true, Classical.not_not, eq_self, and_self, and_true, true_and, Int.reduceEq, Int.reduceLE, Int.reduceLT, Int.reduceNeg, Option.toList, List.cons_append, List.nil_append, zup_s, zup_n, zst_s, zup_zs, zup_zn, decide_true, decide_false, zset_has, hj, zst_zst, c_Md_many hm16, c_Md_many hb16, c_Md_isAhead hm16 hb16, q3]
                exact take fun i hi h5 => Nat.lt_of_lt_of_le (ord.mp (Or.inr ⟨q2, q3⟩)) (h4 i hi h5)
            · simp (disch := first | omega | exact Nat.le_of_ble_eq_true rfl | assumption | (simp only [Int.natCast_add, Int.natCast_mul, Int.cast_ofNat_Int]; omega) | decide) only [k_Md_helpers_12, k_Md_helpers_13, k_Md_helpers_14, x_aload, x_getf, w_goto, w_fall, w_iand, w_iconst, w_if, w_icmp, x_iinc, x_iload, w_ior, w_ishr, x_istore, zadd_eq, gf_48_14, ia_59, w_nret r_Md_helpers, q_eq, q_ne, q_lt, q_ge, q_gt, q_le, g_I, g_L, g_R, g_V, t_0, t_I, t_R, t_U, t_L, t_s, List.getElem?_cons_zero, List.getElem?_cons_succ, Nat.reduceAdd, zif10, zif01b, zib, if_pos, if_neg, ↓reduceIte, not_true_eq_false, not_false_eq_true, Bool.true_eq_false, Bool.false_eq_true, Classical.not_not, eq_self, and_self, and_true, true_and, Int.reduceEq, Int.reduceLE, Int.reduceLT, Int.reduceNeg, Option.toList, List.cons_append, List.nil_append, zup_s, zup_n, zst_s, zup_zs, zup_zn, decide_true, decide_false, zset_has, hj, zst_zst, c_Md_many hm16, c_Md_many hb16]
              exact leave fun z => by rcases ord.mpr z with h | h; exact q1 h; exact q2 h.1
    · have c3' : ¬ ((m &&& gp 0 : Nat) : Int) = 0 := by omega
      have hf : okm m = false := by rw [hokd]; simp [c3]
      simp (disch := first | omega | exact Nat.le_of_ble_eq_true rfl | assumption | (simp only [Int.natCast_add, Int.natCast_mul, Int.cast_ofNat_Int]; omega) | decide) only [k_Md_helpers_6, k_Md_helpers_9, k_Md_helpers_10, k_Md_helpers_22, x_aload, x_getf, w_goto, w_fall, w_iand, w_iconst, w_if, w_icmp, x_iinc, x_iload, w_ior, w_ishr, x_istore, zadd_eq, gf_48_14, ia_59, w_nret r_Md_helpers, q_eq, q_ne, q_lt, q_ge, q_gt, q_le, g_I, g_L, g_R, g_V, t_0, t_I, t_R, t_U, t_L, t_s, List.getElem?_cons_zero, List.getElem?_cons_succ, Nat.reduceAdd, zif10, zif01b, zib, if_pos, if_neg, ↓reduceIte, not_true_eq_false, not_false_eq_true, Bool.true_eq_false, Bool.false_eq_true, Classical.not_not, eq_self, and_self, and_true, true_and, Int.reduceEq, Int.reduceLE, Int.reduceLT, Int.reduceNeg, Option.toList, List.cons_append, List.nil_append, zup_s, zup_n, zst_s, zup_zs, zup_zn, decide_true, decide_false, c_Md_everybody hN (hR1 _), hall, hg1, zand_nat (show m < 2147483648 by omega) (show gp 0 < 2147483648 by omega), c3']
      exact ih _ _ ⟨R, b, _, _, rfl, rfl, keep hf⟩
  · rintro _ _ ⟨R, b, v5, v6, rfl, rfl, hI⟩
    have hR1 : zNetR S P mv tg (zst (zst M 67 H) 68 R) := hR
    have hend : b = ans := by
      rw [← hans]
      unfold zHelp
      rcases hI with ⟨h1, h2⟩ | ⟨bm, h1, h2, h3, h4⟩
      · have hf : zfst 16 (zHok (fun y => zCn mv tg P (zbit (y : Int))) P (kd 0) (lf 0) (gp 0) lt one two s) = 16 := zfst_none fun i hi => by
          rw [hHok]
          by_cases e : zhlp i < 2 ^ P
          · rw [h2 _ e, Bool.and_false]
          · simp [e]
        rw [hf, if_neg (by decide), h1]
      · have hb := zrk_hlp bm (by omega)
        have hf : zfst 16 (zHok (fun y => zCn mv tg P (zbit (y : Int))) P (kd 0) (lf 0) (gp 0) lt one two s) = zrk bm := zfst_is hb.1 (by rw [hHok, hb.2, h3]; simp [h2]) fun i hi => by
          rw [hHok]
          cases e : decide (zhlp i < 2 ^ P) && okm (zhlp i) with
          | false => rfl
          | true =>
            rw [Bool.and_eq_true, decide_eq_true_eq] at e
            have := h4 _ e.1 e.2
            rw [zhlp_rk i (by omega)] at this
            omega
        rw [hf, if_pos hb.1, hb.2, h1]
    rw [k_Md_helpers_5]
    simp (disch := first | omega | exact Nat.le_of_ble_eq_true rfl | assumption | (simp only [Int.natCast_add, Int.natCast_mul, Int.cast_ofNat_Int]; omega) | decide) only [k_Md_helpers_23, x_aload, x_getf, w_goto, w_fall, w_iand, w_iconst, w_if, w_icmp, x_iinc, x_iload, w_ior, w_ishr, x_istore, zadd_eq, gf_48_14, ia_59, w_nret r_Md_helpers, q_eq, q_ne, q_lt, q_ge, q_gt, q_le, g_I, g_L, g_R, g_V, t_0, t_I, t_R, t_U, t_L, t_s, List.getElem?_cons_zero, List.getElem?_cons_succ, Nat.reduceAdd, zif10, zif01b, zib, if_pos, if_neg, ↓reduceIte, not_true_eq_false, not_false_eq_true, Bool.true_eq_false, Bool.false_eq_true, Classical.not_not, eq_self, and_self, and_true, true_and, Int.reduceEq, Int.reduceLE, Int.reduceLT, Int.reduceNeg, Option.toList, List.cons_append, List.nil_append, zup_s, zup_n, zst_s, zup_zs, zup_zn, decide_true, decide_false, c_Md_everybody hN hR1, hall, hend]
    exact zKp_st (by decide) (zKp_st (by decide) (zKp_rf _ _))
theorem c_Md_helpers {d mi o b9 : Nat} {es : List zEnt} {L st : List zMV} {Q : Option zMV → (Nat → Int → Int) → Prop} {x : Int} (hN : zNet S P mv tg) (hR : zNetR S P mv tg M) (hL : zLetR lt M) (hlt : ∀ s, lt s < 256) (hF : zForm P n kd lf rt gp) (hFR : zFormR n kd lf rt gp M) (hd : 8 + 1 ≤ d) (hc : zcats st ≤ 8) (hpost : ∀ r M', (r = some (zI (zHeA S P mv tg lt kd lf rt gp x)) ∧ zKp [67, 68] M M') → zW (zSH Ln) d mi es L (r.toList ++ st) M' Q) : zW (zSH Ln) d mi ((.invokevirtual o, 256, b9) :: es) L (zI x :: zR 48 :: st) M Q :=
  w_callv (ps := [zI x]) (by omega) rfl rfl (by omega) (by exact sh_48 Ln) hc (Nat.le_of_ble_eq_true rfl) (F_Md_helpers hN hR hL hlt hF hFR (by omega)) hpost
end RE
