/-! the law: up to its main loop -/
/-- what is known of the form, and of the sheet -/
def yF (S P g w : Nat) (a : zAbs) : Prop := a.S = S ∧ a.P = P ∧ a.kd 0 = yk_k w ∧ a.n = (if w = 4 then 3 else 2) ∧ a.lf 0 = 1 ∧ a.rt 0 = (if w = 4 then 2 else 0) ∧ a.gp 0 = g ∧ a.ln 1 = 1 ∧ a.sz 1 = 40
/-- no price yet from here on -/
def yPr (a : zAbs) (x p m : Nat) : Prop := ∀ s p' q, (x < s ∨ (x = s ∧ (p < p' ∨ (p = p' ∧ m ≤ q)))) → a.pr s p' q = 0
section YS
variable {S P g w : Nat} {a : zAbs}
theorem yF_form (hB : yB S P a) (hP : 1 ≤ P ∧ P ≤ 3) (hg : g < 2 ^ P) (hw : w < 5) : yF S P g w (zU_sheet (zU_form (ytp a (yo_ g w))) 1 1 40) ∧ yPr (zU_sheet (zU_form (ytp a (yo_ g w))) 1 1 40) 0 0 0 := by
  have hg8 : g < 8 := Nat.lt_of_lt_of_le hg (show 2 ^ P ≤ 2 ^ 3 from Nat.pow_le_pow_right (n := 2) (by omega) hP.2)
  have hf : zqT (ytp a (yo_ g w)).q (ytp a (yo_ g w)).P (ytp a (yo_ g w)).tb = .inr (yl_ g w) := by
    show zqT (yo_ g w).1 a.P (yo_ g w).2 = _
    rw [hB.2.1]
    exact yo_ok (by omega) hg8 hw hP.1 hg
  have e : zU_form (ytp a (yo_ g w)) = (a.S, a.P, a.mv, a.tg, a.lt, a.hp, a.pr, a.ch, a.lo, (yl_ g w).length, zqd (yl_ g w), zql (yl_ g w), zqr (yl_ g w), zqg (yl_ g w), 0, (ytp a (yo_ g w)).tb, a.ln, a.sz, a.it, a.gl, a.tn, a.tr) := by
    unfold zU_form
    rw [hf]
    rfl
  rw [e]
  unfold zU_sheet
  rw [if_pos (show zShtG 1 1 40 from by decide)]
  refine ⟨⟨hB.1, hB.2.1, ?_, ?_, ?_, ?_, ?_, rfl, rfl⟩, fun s p q _ => hB.2.2.2.2 s p q⟩
  · show zqd (yl_ g w) 0 = _
    unfold yl_
    split
    · next h => subst h; rfl
    · rfl
  · show (yl_ g w).length = _
    unfold yl_
    split <;> rfl
  · show zql (yl_ g w) 0 = _
    unfold yl_
    split <;> rfl
  · show zqr (yl_ g w) 0 = _
    unfold yl_
    split <;> rfl
  · show zqg (yl_ g w) 0 = _
    unfold yl_
    split <;> rfl
theorem yF_price {x y z v : Int} (h : yF S P g w a) : yF S P g w (zU_price a x y z v) ∧ (zU_price a x y z v).mv = a.mv := by
  unfold zU_price
  split
  · exact ⟨h, rfl⟩
  · exact ⟨h, rfl⟩
theorem yPr_price {x p m : Nat} {v : Int} (h : yPr a x p m) : yPr (zU_price a (x : Int) (p : Int) (m : Int) v) x p (m + 1) := by
  unfold zU_price
  split
  · intro s p' q hh
    show (if s = (x : Int).toNat ∧ p' = (p : Int).toNat ∧ q = (m : Int).toNat then v.toNat else a.pr s p' q) = 0
    rw [Int.toNat_natCast, Int.toNat_natCast, Int.toNat_natCast, if_neg (by omega)]
    exact h s p' q (by omega)
  · intro s p' q hh
    exact h s p' q (by omega)
theorem yPr_to {x p m x' p' m' : Nat} (h : yPr a x p m) (hh : x < x' ∨ (x = x' ∧ (p < p' ∨ (p = p' ∧ m ≤ m')))) : yPr a x' p' m' := fun s q r hs => h s q r (by omega)
theorem yF_item {x y i v : Int} (h : yF S P g w a) : yF S P g w (zU_item a x y i v) := by
  unfold zU_item
  split
  · exact h
  · exact h
theorem yIt_item {k : Nat} {v : Int} (h : yF S P g w a) (hk : k < 40) (hv : 0 ≤ v) (hi : ∀ j : Nat, j < k → 0 ≤ a.it (81 + (j : Int))) : zItA a.ln a.sz 1 1 (k : Int) = 1 ∧ ∀ j : Nat, j < k + 1 → 0 ≤ (zU_item a 1 1 (k : Int) v).it (81 + (j : Int)) := by
  have hw : zWrg a.ln a.sz (1 : Int).toNat 1 (k : Int) 1 = 0 := by
    show zWrg a.ln a.sz 1 1 (k : Int) 1 = 0
    unfold zWrg
    rw [h.2.2.2.2.2.2.2.1, h.2.2.2.2.2.2.2.2, if_neg (by decide), if_pos rfl, if_pos (by omega)]
  constructor
  · unfold zItA
    rw [if_pos (by decide), if_pos hw]
  · intro j hj
    unfold zU_item
    rw [if_pos (show zItG a.ln a.sz 1 1 (k : Int) from ⟨by decide, hw⟩)]
    show 0 ≤ zf a.it (1 * 81 + (k : Int)) (if (1 : Int) = 0 then zi2b v else v) (81 + (j : Int))
    unfold zf
    split
    · rw [if_neg (by decide)]
      exact hv
    · exact hi j (by omega)
theorem ycnt1 {m : Nat → Nat} {p : Nat} : ∀ P, zcnt m (fun i => decide (i = p)) P = if p < P then m p else 1
  | 0 => by rw [if_neg (by omega)]; rfl
  | P + 1 => by
    unfold zcnt
    rw [ycnt1 P]
    by_cases h : P = p
    · subst h
      rw [if_neg (by omega), if_pos (by simp), if_pos (by omega), Nat.one_mul]
    · have hd : decide (P = p) = false := by simpa using h
      simp only [hd, Bool.false_eq_true, if_false, Nat.mul_one]
      by_cases h2 : p < P
      · rw [if_pos h2, if_pos (by omega)]
      · rw [if_neg h2, if_neg (by omega)]
theorem yJo1 {mv : Nat → Nat → Nat} {x p : Nat} (hP : P ≤ 4) (hx : x < S) (hp : p < P) : zJoA S P mv (x : Int) ((2 ^ p : Nat) : Int) = (mv x p : Int) := by
  unfold zJoA
  have h1 : 2 ^ p < 2 ^ P := Nat.pow_lt_pow_right (by omega) hp
  rw [if_pos ⟨⟨by omega, by omega⟩, Int.natCast_nonneg _, by rw [zset_all]; have : ((2 ^ p : Nat) : Int) < ((2 ^ P : Nat) : Int) := Int.ofNat_lt.mpr h1; omega⟩, Int.toNat_natCast]
  have e : zcnt (mv x) (zbit ((2 ^ p : Nat) : Int)) P = zcnt (mv x) (fun i => decide (i = p)) P := zcnt_congr P fun i hi => by
    rw [zbit_nat _ (by omega), Nat.testBit_two_pow]
    by_cases h : p = i
    · subst h; simp
    · have h2 : ¬ i = p := fun z => h z.symm
      simp [h, h2]
  rw [e, ycnt1, if_pos hp]
end YS
/-- what is asked ahead of the main loop -/
def yH (a : zAbs) (k : Nat) : Nat → Bool := zHp a.mv a.tg a.P a.lt a.kd a.lf a.rt a.gp k
section YT
variable {Ln d : Nat} {F0 : Int → Int} {M : Nat → Int → Int} {Q : Option zMV → (Nat → Int → Int) → Prop}
set_option maxHeartbeats 20000000 in
theorem LW_prices {S P g w vn : Nat} {a : zAbs} (hd : 150 ≤ d) (hS : 2 ≤ S ∧ S ≤ 8) (hP : 1 ≤ P ∧ P ≤ 3) (hvn : vn ≤ 76200) (hJ : yJ a vn F0 M) (hF : yF S P g w a) (hPr : yPr a 0 0 0) (hk : ∀ a M u8 u9, yJ a 94000 F0 M → yF S P g w a → zW (zSH Ln) d i_LW_law (zblk i_LW_law 18) [zR 0, zR 2, zI (S : Int), zI (P : Int), zI (g : Int), zI (w : Int), zI 1, zI (S : Int), u8, u9, zU, zU, zU, zU, zU, zU] [] M Q) : zW (zSH Ln) d i_LW_law (zblk i_LW_law 5) [zR 0, zR 2, zI (S : Int), zI (P : Int), zI (g : Int), zI (w : Int), zI 1, zI 0, zU, zU, zU, zU, zU, zU, zU, zU] [] M Q := by
  refine zfor (a := 0) (N := S) (b := 5) (fun x L M => ∃ a u8 u9, L = [zR 0, zR 2, zI (S : Int), zI (P : Int), zI (g : Int), zI (w : Int), zI 1, zI (x : Int), u8, u9, zU, zU, zU, zU, zU, zU] ∧ yJ a (76200 + 2200 * x) F0 M ∧ yF S P g w a ∧ yPr a x 0 0) (by omega) ⟨a, zU, zU, rfl, yJ_up hJ (by omega), hF, hPr⟩ ?_ ?_
  · rintro x _ M - hx ⟨a, u8, u9, rfl, hJ, hF, hPr⟩ next
    rw [k_LW_law_5]
    simp (disch := first | omega | exact Nat.le_of_ble_eq_true rfl | assumption | (simp only [Int.natCast_add, Int.natCast_mul, Int.cast_ofNat_Int]; omega) | decide) only [k_LW_law_6, k_LW_law_7, x_aload, x_astore, w_dupI, w_dupR, w_goto, w_fall, w_iadd, w_iand, w_iconst, w_idiv, w_if, w_icmp, x_iinc, x_iload, w_imul, w_irem, w_ishl, w_ishr, x_istore, w_isub, zadd_eq, zsub_eq, zmul_eq, w_bret r_LW_law, q_eq, q_ne, q_lt, q_ge, q_gt, q_le, g_I, g_L, g_R, g_V, t_0, t_I, t_R, t_U, t_L, t_s, List.getElem?_cons_zero, List.getElem?_cons_succ, Nat.reduceAdd, zif10, zif01b, zib, if_pos, if_neg, ↓reduceIte, not_true_eq_false, not_false_eq_true, Bool.true_eq_false, Bool.false_eq_true, Classical.not_not, eq_self, and_self, and_true, true_and, Int.reduceEq, Int.reduceLE, Int.reduceLT, Int.reduceNeg, Option.toList, List.cons_append, List.nil_append, zup_s, zup_n, zst_s, zup_zs, zup_zn, decide_true, decide_false]
    refine zfor (a := 0) (N := P) (b := 8) (fun p L M => ∃ a u9, L = [zR 0, zR 2, zI (S : Int), zI (P : Int), zI (g : Int), zI (w : Int), zI 1, zI (x : Int), zI (p : Int), u9, zU, zU, zU, zU, zU, zU] ∧ yJ a (76200 + 2200 * x + 700 * p) F0 M ∧ yF S P g w a ∧ yPr a x p 0) (by omega) ⟨a, u9, rfl, hJ, hF, hPr⟩ ?_ ?_
    · rintro p _ M - hp ⟨a, u9, rfl, hJ, hF, hPr⟩ next
      rw [k_LW_law_8]
      simp (disch := first | omega | exact Nat.le_of_ble_eq_true rfl | assumption | (simp only [Int.natCast_add, Int.natCast_mul, Int.cast_ofNat_Int]; omega) | decide) only [k_LW_law_9, x_aload, x_astore, w_dupI, w_dupR, w_goto, w_fall, w_iadd, w_iand, w_iconst, w_idiv, w_if, w_icmp, x_iinc, x_iload, w_imul, w_irem, w_ishl, w_ishr, x_istore, w_isub, zadd_eq, zsub_eq, zmul_eq, w_bret r_LW_law, q_eq, q_ne, q_lt, q_ge, q_gt, q_le, g_I, g_L, g_R, g_V, t_0, t_I, t_R, t_U, t_L, t_s, List.getElem?_cons_zero, List.getElem?_cons_succ, Nat.reduceAdd, zif10, zif01b, zib, if_pos, if_neg, ↓reduceIte, not_true_eq_false, not_false_eq_true, Bool.true_eq_false, Bool.false_eq_true, Classical.not_not, eq_self, and_self, and_true, true_and, Int.reduceEq, Int.reduceLE, Int.reduceLT, Int.reduceNeg, Option.toList, List.cons_append, List.nil_append, zup_s, zup_n, zst_s, zup_zs, zup_zn, decide_true, decide_false]
      have hm3 := hJ.1.N.2.2.2.2.1 x p
      refine zfor (a := 0) (N := a.mv x p) (b := 10) (fun m L M => ∃ a', L = [zR 0, zR 2, zI (S : Int), zI (P : Int), zI (g : Int), zI (w : Int), zI 1, zI (x : Int), zI (p : Int), zI (m : Int), zU, zU, zU, zU, zU, zU] ∧ yJ a' (76200 + 2200 * x + 700 * p + 200 * m) F0 M ∧ yF S P g w a' ∧ yPr a' x p m ∧ a'.mv = a.mv) (by omega) ⟨a, rfl, hJ, hF, hPr, rfl⟩ ?_ ?_
      · rintro m _ M - hm ⟨a', rfl, hJ, hF, hPr, hmv⟩ next
        have hM := hJ.2.2
        rw [k_LW_law_10]
        simp (disch := first | omega | exact Nat.le_of_ble_eq_true rfl | assumption | (simp only [Int.natCast_add, Int.natCast_mul, Int.cast_ofNat_Int]; omega) | decide) only [x_aload, x_astore, w_dupI, w_dupR, w_goto, w_fall, w_iadd, w_iand, w_iconst, w_idiv, w_if, w_icmp, x_iinc, x_iload, w_imul, w_irem, w_ishl, w_ishr, x_istore, w_isub, zadd_eq, zsub_eq, zmul_eq, w_bret r_LW_law, q_eq, q_ne, q_lt, q_ge, q_gt, q_le, g_I, g_L, g_R, g_V, t_0, t_I, t_R, t_U, t_L, t_s, List.getElem?_cons_zero, List.getElem?_cons_succ, Nat.reduceAdd, zif10, zif01b, zib, if_pos, if_neg, ↓reduceIte, not_true_eq_false, not_false_eq_true, Bool.true_eq_false, Bool.false_eq_true, Classical.not_not, eq_self, and_self, and_true, true_and, Int.reduceEq, Int.reduceLE, Int.reduceLT, Int.reduceNeg, Option.toList, List.cons_append, List.nil_append, zup_s, zup_n, zst_s, zup_zs, zup_zn, decide_true, decide_false, zshl_1]
        refine yk_joint (by omega) (Nat.le_of_ble_eq_true rfl) hJ fun M1 hJ1 => ?_
        have hM := hJ1.2.2
        have ej : zJoA a'.S a'.P a'.mv (x : Int) ((2 ^ p : Nat) : Int) = (a.mv x p : Int) := by
          rw [hF.1, hF.2.1, hmv]
          exact yJo1 (by omega) hx hp
        have hc := yc_lt Ln F0 (11 + (x : Int))
        have hdl := Nat.div_le_self (yc_ Ln F0 (11 + (x : Int))) (2 ^ (3 * (p + m)))
        have e1 : zshr (yc_ Ln F0 (11 + (x : Int)) : Int) (3 * ((p : Int) + (m : Int))) = ((yc_ Ln F0 (11 + (x : Int)) / 2 ^ (3 * (p + m)) : Nat) : Int) := by
          have := yn_shr (n := yc_ Ln F0 (11 + (x : Int))) (k := 3 * (p + m)) hc (by omega)
          rw [← this]
          congr 1
        have e2 : zrem ((yc_ Ln F0 (11 + (x : Int)) / 2 ^ (3 * (p + m)) : Nat) : Int) 10 = ((yc_ Ln F0 (11 + (x : Int)) / 2 ^ (3 * (p + m)) % 10 : Nat) : Int) := yn_rem 10 (by omega) (by omega) (by omega)
        have h9 : yc_ Ln F0 (11 + (x : Int)) / 2 ^ (3 * (p + m)) % 10 < 10 := Nat.mod_lt _ (by omega)
        generalize yc_ Ln F0 (11 + (x : Int)) / 2 ^ (3 * (p + m)) % 10 = cost at *
        rw [ej]
        simp (disch := first | omega | exact Nat.le_of_ble_eq_true rfl | assumption | (simp only [Int.natCast_add, Int.natCast_mul, Int.cast_ofNat_Int]; omega) | decide) only [k_LW_law_11, k_LW_law_12, x_aload, x_astore, w_dupI, w_dupR, w_goto, w_fall, w_iadd, w_iand, w_iconst, w_idiv, w_if, w_icmp, x_iinc, x_iload, w_imul, w_irem, w_ishl, w_ishr, x_istore, w_isub, zadd_eq, zsub_eq, zmul_eq, w_bret r_LW_law, q_eq, q_ne, q_lt, q_ge, q_gt, q_le, g_I, g_L, g_R, g_V, t_0, t_I, t_R, t_U, t_L, t_s, List.getElem?_cons_zero, List.getElem?_cons_succ, Nat.reduceAdd, zif10, zif01b, zib, if_pos, if_neg, ↓reduceIte, not_true_eq_false, not_false_eq_true, Bool.true_eq_false, Bool.false_eq_true, Classical.not_not, eq_self, and_self, and_true, true_and, Int.reduceEq, Int.reduceLE, Int.reduceLT, Int.reduceNeg, Option.toList, List.cons_append, List.nil_append, zup_s, zup_n, zst_s, zup_zs, zup_zn, decide_true, decide_false, c_LW_cell, hM, e1, e2]
        refine yk_price (by omega) (Nat.le_of_ble_eq_true rfl) (by omega) hJ1 fun M2 hJ2 => ?_
        have ea : (if (0 ≤ (x : Int) ∧ (x : Int) < (a'.S : Int)) ∧ (0 ≤ (p : Int) ∧ (p : Int) < (a'.P : Int)) ∧ (0 ≤ (m : Int) ∧ (m : Int) < (a'.mv (x : Int).toNat (p : Int).toNat : Int)) ∧ 0 ≤ (cost : Int) ∧ (cost : Int) ≤ 9 then (a'.pr (x : Int).toNat (p : Int).toNat (m : Int).toNat : Int) else -1) = 0 := by
          rw [hF.1, hF.2.1, hmv, Int.toNat_natCast, Int.toNat_natCast, Int.toNat_natCast, if_pos ⟨⟨by omega, by omega⟩, ⟨by omega, by omega⟩, ⟨by omega, by omega⟩, by omega, by omega⟩, hPr x p m (by omega)]
          rfl
        rw [ea]
        simp (disch := first | omega | exact Nat.le_of_ble_eq_true rfl | assumption | (simp only [Int.natCast_add, Int.natCast_mul, Int.cast_ofNat_Int]; omega) | decide) only [k_LW_law_13, k_LW_law_15, x_aload, x_astore, w_dupI, w_dupR, w_goto, w_fall, w_iadd, w_iand, w_iconst, w_idiv, w_if, w_icmp, x_iinc, x_iload, w_imul, w_irem, w_ishl, w_ishr, x_istore, w_isub, zadd_eq, zsub_eq, zmul_eq, w_bret r_LW_law, q_eq, q_ne, q_lt, q_ge, q_gt, q_le, g_I, g_L, g_R, g_V, t_0, t_I, t_R, t_U, t_L, t_s, List.getElem?_cons_zero, List.getElem?_cons_succ, Nat.reduceAdd, zif10, zif01b, zib, if_pos, if_neg, ↓reduceIte, not_true_eq_false, not_false_eq_true, Bool.true_eq_false, Bool.false_eq_true, Classical.not_not, eq_self, and_self, and_true, true_and, Int.reduceEq, Int.reduceLE, Int.reduceLT, Int.reduceNeg, Option.toList, List.cons_append, List.nil_append, zup_s, zup_n, zst_s, zup_zs, zup_zn, decide_true, decide_false]
        have hF2 := yF_price (x := (x : Int)) (y := (p : Int)) (z := (m : Int)) (v := (cost : Int)) hF
        exact next _ _ ⟨_, rfl, yJ_up hJ2 (by omega), hF2.1, yPr_price hPr, hF2.2.trans hmv⟩
      · rintro _ M ⟨a', rfl, hJ, hF, hPr, hmv⟩
        rw [k_LW_law_10]
        simp (disch := first | omega | exact Nat.le_of_ble_eq_true rfl | assumption | (simp only [Int.natCast_add, Int.natCast_mul, Int.cast_ofNat_Int]; omega) | decide) only [x_aload, x_astore, w_dupI, w_dupR, w_goto, w_fall, w_iadd, w_iand, w_iconst, w_idiv, w_if, w_icmp, x_iinc, x_iload, w_imul, w_irem, w_ishl, w_ishr, x_istore, w_isub, zadd_eq, zsub_eq, zmul_eq, w_bret r_LW_law, q_eq, q_ne, q_lt, q_ge, q_gt, q_le, g_I, g_L, g_R, g_V, t_0, t_I, t_R, t_U, t_L, t_s, List.getElem?_cons_zero, List.getElem?_cons_succ, Nat.reduceAdd, zif10, zif01b, zib, if_pos, if_neg, ↓reduceIte, not_true_eq_false, not_false_eq_true, Bool.true_eq_false, Bool.false_eq_true, Classical.not_not, eq_self, and_self, and_true, true_and, Int.reduceEq, Int.reduceLE, Int.reduceLT, Int.reduceNeg, Option.toList, List.cons_append, List.nil_append, zup_s, zup_n, zst_s, zup_zs, zup_zn, decide_true, decide_false, zshl_1]
        refine yk_joint (by omega) (Nat.le_of_ble_eq_true rfl) hJ fun M1 hJ1 => ?_
        have ej : zJoA a'.S a'.P a'.mv (x : Int) ((2 ^ p : Nat) : Int) = (a.mv x p : Int) := by
          rw [hF.1, hF.2.1, hmv]
          exact yJo1 (by omega) hx hp
        rw [ej]
        simp (disch := first | omega | exact Nat.le_of_ble_eq_true rfl | assumption | (simp only [Int.natCast_add, Int.natCast_mul, Int.cast_ofNat_Int]; omega) | decide) only [k_LW_law_16, x_aload, x_astore, w_dupI, w_dupR, w_goto, w_fall, w_iadd, w_iand, w_iconst, w_idiv, w_if, w_icmp, x_iinc, x_iload, w_imul, w_irem, w_ishl, w_ishr, x_istore, w_isub, zadd_eq, zsub_eq, zmul_eq, w_bret r_LW_law, q_eq, q_ne, q_lt, q_ge, q_gt, q_le, g_I, g_L, g_R, g_V, t_0, t_I, t_R, t_U, t_L, t_s, List.getElem?_cons_zero, List.getElem?_cons_succ, Nat.reduceAdd, zif10, zif01b, zib, if_pos, if_neg, ↓reduceIte, not_true_eq_false, not_false_eq_true, Bool.true_eq_false, Bool.false_eq_true, Classical.not_not, eq_self, and_self, and_true, true_and, Int.reduceEq, Int.reduceLE, Int.reduceLT, Int.reduceNeg, Option.toList, List.cons_append, List.nil_append, zup_s, zup_n, zst_s, zup_zs, zup_zn, decide_true, decide_false]
        exact next _ _ ⟨_, _, rfl, yJ_up hJ1 (by omega), hF, yPr_to hPr (by omega)⟩
    · rintro _ M ⟨a, u9, rfl, hJ, hF, hPr⟩
      rw [k_LW_law_8]
      simp (disch := first | omega | exact Nat.le_of_ble_eq_true rfl | assumption | (simp only [Int.natCast_add, Int.natCast_mul, Int.cast_ofNat_Int]; omega) | decide) only [k_LW_law_17, x_aload, x_astore, w_dupI, w_dupR, w_goto, w_fall, w_iadd, w_iand, w_iconst, w_idiv, w_if, w_icmp, x_iinc, x_iload, w_imul, w_irem, w_ishl, w_ishr, x_istore, w_isub, zadd_eq, zsub_eq, zmul_eq, w_bret r_LW_law, q_eq, q_ne, q_lt, q_ge, q_gt, q_le, g_I, g_L, g_R, g_V, t_0, t_I, t_R, t_U, t_L, t_s, List.getElem?_cons_zero, List.getElem?_cons_succ, Nat.reduceAdd, zif10, zif01b, zib, if_pos, if_neg, ↓reduceIte, not_true_eq_false, not_false_eq_true, Bool.true_eq_false, Bool.false_eq_true, Classical.not_not, eq_self, and_self, and_true, true_and, Int.reduceEq, Int.reduceLE, Int.reduceLT, Int.reduceNeg, Option.toList, List.cons_append, List.nil_append, zup_s, zup_n, zst_s, zup_zs, zup_zn, decide_true, decide_false]
      exact next _ _ ⟨_, _, _, rfl, yJ_up hJ (by omega), hF, yPr_to hPr (by omega)⟩
  · rintro _ M ⟨a, u8, u9, rfl, hJ, hF, hPr⟩
    rw [k_LW_law_5]
    simp (disch := first | omega | exact Nat.le_of_ble_eq_true rfl | assumption | (simp only [Int.natCast_add, Int.natCast_mul, Int.cast_ofNat_Int]; omega) | decide) only [x_aload, x_astore, w_dupI, w_dupR, w_goto, w_fall, w_iadd, w_iand, w_iconst, w_idiv, w_if, w_icmp, x_iinc, x_iload, w_imul, w_irem, w_ishl, w_ishr, x_istore, w_isub, zadd_eq, zsub_eq, zmul_eq, w_bret r_LW_law, q_eq, q_ne, q_lt, q_ge, q_gt, q_le, g_I, g_L, g_R, g_V, t_0, t_I, t_R, t_U, t_L, t_s, List.getElem?_cons_zero, List.getElem?_cons_succ, Nat.reduceAdd, zif10, zif01b, zib, if_pos, if_neg, ↓reduceIte, not_true_eq_false, not_false_eq_true, Bool.true_eq_false, Bool.false_eq_true, Classical.not_not, eq_self, and_self, and_true, true_and, Int.reduceEq, Int.reduceLE, Int.reduceLT, Int.reduceNeg, Option.toList, List.cons_append, List.nil_append, zup_s, zup_n, zst_s, zup_zs, zup_zn, decide_true, decide_false]
    exact hk _ _ _ _ (yJ_up hJ (by omega)) hF
set_option maxHeartbeats 20000000 in
theorem LW_items {S P g w : Nat} {a : zAbs} {u8 u9 : zMV} (hd : 150 ≤ d) (hS : 2 ≤ S ∧ S ≤ 8) (hJ : yJ a 94000 F0 M) (hF : yF S P g w a) (hk : ∀ a M, yJ a 98000 F0 M → yF S P g w a → (∀ j : Nat, j < 40 → 0 ≤ a.it (81 + (j : Int))) → zW (zSH Ln) d i_LW_law (zblk i_LW_law 25) [zR 0, zR 2, zI (S : Int), zI (P : Int), zI (g : Int), zI (w : Int), zI 1, zI 40, u8, u9, zU, zU, zU, zU, zU, zU] [] M Q) : zW (zSH Ln) d i_LW_law (zblk i_LW_law 18) [zR 0, zR 2, zI (S : Int), zI (P : Int), zI (g : Int), zI (w : Int), zI 1, zI (S : Int), u8, u9, zU, zU, zU, zU, zU, zU] [] M Q := by
  rw [k_LW_law_18]
  simp (disch := first | omega | exact Nat.le_of_ble_eq_true rfl | assumption | (simp only [Int.natCast_add, Int.natCast_mul, Int.cast_ofNat_Int]; omega) | decide) only [x_aload, x_astore, w_dupI, w_dupR, w_goto, w_fall, w_iadd, w_iand, w_iconst, w_idiv, w_if, w_icmp, x_iinc, x_iload, w_imul, w_irem, w_ishl, w_ishr, x_istore, w_isub, zadd_eq, zsub_eq, zmul_eq, w_bret r_LW_law, q_eq, q_ne, q_lt, q_ge, q_gt, q_le, g_I, g_L, g_R, g_V, t_0, t_I, t_R, t_U, t_L, t_s, List.getElem?_cons_zero, List.getElem?_cons_succ, Nat.reduceAdd, zif10, zif01b, zib, if_pos, if_neg, ↓reduceIte, not_true_eq_false, not_false_eq_true, Bool.true_eq_false, Bool.false_eq_true, Classical.not_not, eq_self, and_self, and_true, true_and, Int.reduceEq, Int.reduceLE, Int.reduceLT, Int.reduceNeg, Option.toList, List.cons_append, List.nil_append, zup_s, zup_n, zst_s, zup_zs, zup_zn, decide_true, decide_false]
  refine zfor (a := 0) (N := 40) (b := 19) (fun k L M => ∃ a, L = [zR 0, zR 2, zI (S : Int), zI (P : Int), zI (g : Int), zI (w : Int), zI 1, zI (k : Int), u8, u9, zU, zU, zU, zU, zU, zU] ∧ yJ a (94000 + 100 * k) F0 M ∧ yF S P g w a ∧ ∀ j : Nat, j < k → 0 ≤ a.it (81 + (j : Int))) (by omega) ⟨a, rfl, hJ, hF, fun j hj => by omega⟩ ?_ ?_
  · rintro k _ M - hk ⟨a, rfl, hJ, hF, hi⟩ next
    have hM := hJ.2.2
    have r1 : zrem (k : Int) 10 = ((k % 10 : Nat) : Int) := yn_rem 10 (by omega) (by omega) (by omega)
    have r2 : zdiv (k : Int) 10 = ((k / 10 : Nat) : Int) := zdiv_nat (d := 10) (by omega) (by omega) (by omega)
    have hc := yc_lt Ln F0 (20 + ((k % 10 : Nat) : Int))
    have r3 : zshr (yc_ Ln F0 (20 + ((k % 10 : Nat) : Int)) : Int) ((k / 10 : Nat) : Int) = ((yc_ Ln F0 (20 + ((k % 10 : Nat) : Int)) / 2 ^ (k / 10) : Nat) : Int) := yn_shr hc (by omega)
    have hdl := Nat.div_le_self (yc_ Ln F0 (20 + ((k % 10 : Nat) : Int))) (2 ^ (k / 10))
    have hk10 : k % 10 < 10 := Nat.mod_lt _ (by omega)
    generalize hv : yc_ Ln F0 (20 + ((k % 10 : Nat) : Int)) / 2 ^ (k / 10) = v at *
    generalize k % 10 = k1 at *
    rw [k_LW_law_19]
    simp (disch := first | omega | exact Nat.le_of_ble_eq_true rfl | assumption | (simp only [Int.natCast_add, Int.natCast_mul, Int.cast_ofNat_Int]; omega) | decide) only [k_LW_law_20, k_LW_law_21, x_aload, x_astore, w_dupI, w_dupR, w_goto, w_fall, w_iadd, w_iand, w_iconst, w_idiv, w_if, w_icmp, x_iinc, x_iload, w_imul, w_irem, w_ishl, w_ishr, x_istore, w_isub, zadd_eq, zsub_eq, zmul_eq, w_bret r_LW_law, q_eq, q_ne, q_lt, q_ge, q_gt, q_le, g_I, g_L, g_R, g_V, t_0, t_I, t_R, t_U, t_L, t_s, List.getElem?_cons_zero, List.getElem?_cons_succ, Nat.reduceAdd, zif10, zif01b, zib, if_pos, if_neg, ↓reduceIte, not_true_eq_false, not_false_eq_true, Bool.true_eq_false, Bool.false_eq_true, Classical.not_not, eq_self, and_self, and_true, true_and, Int.reduceEq, Int.reduceLE, Int.reduceLT, Int.reduceNeg, Option.toList, List.cons_append, List.nil_append, zup_s, zup_n, zst_s, zup_zs, zup_zn, decide_true, decide_false, c_LW_cell, hM, r1, r2, r3]
    refine yk_item (by omega) (Nat.le_of_ble_eq_true rfl) (by omega) (by omega) hJ fun M1 hJ1 => ?_
    obtain ⟨e1, e2⟩ := yIt_item (v := (v : Int)) hF hk (by omega) hi
    rw [e1]
    simp (disch := first | omega | exact Nat.le_of_ble_eq_true rfl | assumption | (simp only [Int.natCast_add, Int.natCast_mul, Int.cast_ofNat_Int]; omega) | decide) only [k_LW_law_22, k_LW_law_24, x_aload, x_astore, w_dupI, w_dupR, w_goto, w_fall, w_iadd, w_iand, w_iconst, w_idiv, w_if, w_icmp, x_iinc, x_iload, w_imul, w_irem, w_ishl, w_ishr, x_istore, w_isub, zadd_eq, zsub_eq, zmul_eq, w_bret r_LW_law, q_eq, q_ne, q_lt, q_ge, q_gt, q_le, g_I, g_L, g_R, g_V, t_0, t_I, t_R, t_U, t_L, t_s, List.getElem?_cons_zero, List.getElem?_cons_succ, Nat.reduceAdd, zif10, zif01b, zib, if_pos, if_neg, ↓reduceIte, not_true_eq_false, not_false_eq_true, Bool.true_eq_false, Bool.false_eq_true, Classical.not_not, eq_self, and_self, and_true, true_and, Int.reduceEq, Int.reduceLE, Int.reduceLT, Int.reduceNeg, Option.toList, List.cons_append, List.nil_append, zup_s, zup_n, zst_s, zup_zs, zup_zn, decide_true, decide_false]
    exact next _ _ ⟨_, rfl, yJ_up hJ1 (by omega), yF_item hF, e2⟩
  · rintro _ M ⟨a, rfl, hJ, hF, hi⟩
    rw [k_LW_law_19]
    simp (disch := first | omega | exact Nat.le_of_ble_eq_true rfl | assumption | (simp only [Int.natCast_add, Int.natCast_mul, Int.cast_ofNat_Int]; omega) | decide) only [x_aload, x_astore, w_dupI, w_dupR, w_goto, w_fall, w_iadd, w_iand, w_iconst, w_idiv, w_if, w_icmp, x_iinc, x_iload, w_imul, w_irem, w_ishl, w_ishr, x_istore, w_isub, zadd_eq, zsub_eq, zmul_eq, w_bret r_LW_law, q_eq, q_ne, q_lt, q_ge, q_gt, q_le, g_I, g_L, g_R, g_V, t_0, t_I, t_R, t_U, t_L, t_s, List.getElem?_cons_zero, List.getElem?_cons_succ, Nat.reduceAdd, zif10, zif01b, zib, if_pos, if_neg, ↓reduceIte, not_true_eq_false, not_false_eq_true, Bool.true_eq_false, Bool.false_eq_true, Classical.not_not, eq_self, and_self, and_true, true_and, Int.reduceEq, Int.reduceLE, Int.reduceLT, Int.reduceNeg, Option.toList, List.cons_append, List.nil_append, zup_s, zup_n, zst_s, zup_zs, zup_zn, decide_true, decide_false]
    exact hk _ _ (yJ_up hJ (by omega)) hF hi
set_option maxHeartbeats 20000000 in
theorem LW_asks {S P g w : Nat} {a : zAbs} {u8 u9 : zMV} (hd : 150 ≤ d) (hw : w < 5) (hI : yI a F0 M) (hF : yF S P g w a) (hk : ∀ M, yI a F0 M → zW (zSH Ln) d i_LW_law (zblk i_LW_law 29) [zR 0, zR 2, zI (S : Int), zI (P : Int), zI (g : Int), zI (w : Int), zI 1, zI (zset S (yH a 0)), zI (zset S (yH a 1)), zI (zset S (yH a (if w = 4 then 2 else 1))), zI 0, zU, zU, zU, zU, zU] [] M Q) : zW (zSH Ln) d i_LW_law (zblk i_LW_law 25) [zR 0, zR 2, zI (S : Int), zI (P : Int), zI (g : Int), zI (w : Int), zI 1, zI 40, u8, u9, zU, zU, zU, zU, zU, zU] [] M Q := by
  rw [k_LW_law_25]
  simp (disch := first | omega | exact Nat.le_of_ble_eq_true rfl | assumption | (simp only [Int.natCast_add, Int.natCast_mul, Int.cast_ofNat_Int]; omega) | decide) only [x_aload, x_astore, w_dupI, w_dupR, w_goto, w_fall, w_iadd, w_iand, w_iconst, w_idiv, w_if, w_icmp, x_iinc, x_iload, w_imul, w_irem, w_ishl, w_ishr, x_istore, w_isub, zadd_eq, zsub_eq, zmul_eq, w_bret r_LW_law, q_eq, q_ne, q_lt, q_ge, q_gt, q_le, g_I, g_L, g_R, g_V, t_0, t_I, t_R, t_U, t_L, t_s, List.getElem?_cons_zero, List.getElem?_cons_succ, Nat.reduceAdd, zif10, zif01b, zib, if_pos, if_neg, ↓reduceIte, not_true_eq_false, not_false_eq_true, Bool.true_eq_false, Bool.false_eq_true, Classical.not_not, eq_self, and_self, and_true, true_and, Int.reduceEq, Int.reduceLE, Int.reduceLT, Int.reduceNeg, Option.toList, List.cons_append, List.nil_append, zup_s, zup_n, zst_s, zup_zs, zup_zn, decide_true, decide_false]
  refine ya_holds (by omega) (Nat.le_of_ble_eq_true rfl) hI fun M hI => ?_
  have e0 : zset a.S (zHp a.mv a.tg a.P a.lt a.kd a.lf a.rt a.gp 0) = zset S (yH a 0) := by rw [hF.1]; rfl
  rw [e0]
  simp (disch := first | omega | exact Nat.le_of_ble_eq_true rfl | assumption | (simp only [Int.natCast_add, Int.natCast_mul, Int.cast_ofNat_Int]; omega) | decide) only [x_aload, x_astore, w_dupI, w_dupR, w_goto, w_fall, w_iadd, w_iand, w_iconst, w_idiv, w_if, w_icmp, x_iinc, x_iload, w_imul, w_irem, w_ishl, w_ishr, x_istore, w_isub, zadd_eq, zsub_eq, zmul_eq, w_bret r_LW_law, q_eq, q_ne, q_lt, q_ge, q_gt, q_le, g_I, g_L, g_R, g_V, t_0, t_I, t_R, t_U, t_L, t_s, List.getElem?_cons_zero, List.getElem?_cons_succ, Nat.reduceAdd, zif10, zif01b, zib, if_pos, if_neg, ↓reduceIte, not_true_eq_false, not_false_eq_true, Bool.true_eq_false, Bool.false_eq_true, Classical.not_not, eq_self, and_self, and_true, true_and, Int.reduceEq, Int.reduceLE, Int.reduceLT, Int.reduceNeg, Option.toList, List.cons_append, List.nil_append, zup_s, zup_n, zst_s, zup_zs, zup_zn, decide_true, decide_false]
  refine ya_part (by omega) (Nat.le_of_ble_eq_true rfl) hI fun M hI => ?_
  have e1 : zPaA a.S a.n a.mv a.tg a.P a.lt a.kd a.lf a.rt a.gp 1 = zset S (yH a 1) := by
    unfold zPaA
    rw [hF.2.2.2.1, hF.1, if_pos (by split <;> decide)]
    rfl
  rw [e1]
  by_cases h4 : w = 4
  · subst h4
    simp (disch := first | omega | exact Nat.le_of_ble_eq_true rfl | assumption | (simp only [Int.natCast_add, Int.natCast_mul, Int.cast_ofNat_Int]; omega) | decide) only [k_LW_law_26, x_aload, x_astore, w_dupI, w_dupR, w_goto, w_fall, w_iadd, w_iand, w_iconst, w_idiv, w_if, w_icmp, x_iinc, x_iload, w_imul, w_irem, w_ishl, w_ishr, x_istore, w_isub, zadd_eq, zsub_eq, zmul_eq, w_bret r_LW_law, q_eq, q_ne, q_lt, q_ge, q_gt, q_le, g_I, g_L, g_R, g_V, t_0, t_I, t_R, t_U, t_L, t_s, List.getElem?_cons_zero, List.getElem?_cons_succ, Nat.reduceAdd, zif10, zif01b, zib, if_pos, if_neg, ↓reduceIte, not_true_eq_false, not_false_eq_true, Bool.true_eq_false, Bool.false_eq_true, Classical.not_not, eq_self, and_self, and_true, true_and, Int.reduceEq, Int.reduceLE, Int.reduceLT, Int.reduceNeg, Option.toList, List.cons_append, List.nil_append, zup_s, zup_n, zst_s, zup_zs, zup_zn, decide_true, decide_false, Int.cast_ofNat_Int]
    refine ya_part (by omega) (Nat.le_of_ble_eq_true rfl) hI fun M hI => ?_
    have e2 : zPaA a.S a.n a.mv a.tg a.P a.lt a.kd a.lf a.rt a.gp 2 = zset S (yH a (if 4 = 4 then 2 else 1)) := by
      unfold zPaA
      rw [hF.2.2.2.1, hF.1]
      rfl
    rw [e2]
    simp (disch := first | omega | exact Nat.le_of_ble_eq_true rfl | assumption | (simp only [Int.natCast_add, Int.natCast_mul, Int.cast_ofNat_Int]; omega) | decide) only [k_LW_law_28, x_aload, x_astore, w_dupI, w_dupR, w_goto, w_fall, w_iadd, w_iand, w_iconst, w_idiv, w_if, w_icmp, x_iinc, x_iload, w_imul, w_irem, w_ishl, w_ishr, x_istore, w_isub, zadd_eq, zsub_eq, zmul_eq, w_bret r_LW_law, q_eq, q_ne, q_lt, q_ge, q_gt, q_le, g_I, g_L, g_R, g_V, t_0, t_I, t_R, t_U, t_L, t_s, List.getElem?_cons_zero, List.getElem?_cons_succ, Nat.reduceAdd, zif10, zif01b, zib, if_pos, if_neg, ↓reduceIte, not_true_eq_false, not_false_eq_true, Bool.true_eq_false, Bool.false_eq_true, Classical.not_not, eq_self, and_self, and_true, true_and, Int.reduceEq, Int.reduceLE, Int.reduceLT, Int.reduceNeg, Option.toList, List.cons_append, List.nil_append, zup_s, zup_n, zst_s, zup_zs, zup_zn, decide_true, decide_false]
    exact hk M hI
  · have h4' : ¬ (w : Int) = 4 := by omega
    have hk2 := hk M hI
    rw [if_neg h4] at hk2
    simp (disch := first | omega | exact Nat.le_of_ble_eq_true rfl | assumption | (simp only [Int.natCast_add, Int.natCast_mul, Int.cast_ofNat_Int]; omega) | decide) only [k_LW_law_27, k_LW_law_28, x_aload, x_astore, w_dupI, w_dupR, w_goto, w_fall, w_iadd, w_iand, w_iconst, w_idiv, w_if, w_icmp, x_iinc, x_iload, w_imul, w_irem, w_ishl, w_ishr, x_istore, w_isub, zadd_eq, zsub_eq, zmul_eq, w_bret r_LW_law, q_eq, q_ne, q_lt, q_ge, q_gt, q_le, g_I, g_L, g_R, g_V, t_0, t_I, t_R, t_U, t_L, t_s, List.getElem?_cons_zero, List.getElem?_cons_succ, Nat.reduceAdd, zif10, zif01b, zib, if_pos, if_neg, ↓reduceIte, not_true_eq_false, not_false_eq_true, Bool.true_eq_false, Bool.false_eq_true, Classical.not_not, eq_self, and_self, and_true, true_and, Int.reduceEq, Int.reduceLE, Int.reduceLT, Int.reduceNeg, Option.toList, List.cons_append, List.nil_append, zup_s, zup_n, zst_s, zup_zs, zup_zn, decide_true, decide_false, h4']
    exact hk2
set_option maxHeartbeats 20000000 in
theorem LW_setup (hd : 150 ≤ d) (hJ : yJ zA0 1 F0 M) (hk : ∀ (g w : Nat) (a : zAbs) (M : Nat → Int → Int), w < 5 → g < 2 ^ yP Ln F0 → yI a F0 M → yF (yS Ln F0) (yP Ln F0) g w a → (∀ j : Nat, j < 40 → 0 ≤ a.it (81 + (j : Int))) → zW (zSH Ln) d i_LW_law (zblk i_LW_law 29) [zR 0, zR 2, zI (yS Ln F0 : Int), zI (yP Ln F0 : Int), zI (g : Int), zI (w : Int), zI 1, zI (zset (yS Ln F0) (yH a 0)), zI (zset (yS Ln F0) (yH a 1)), zI (zset (yS Ln F0) (yH a (if w = 4 then 2 else 1))), zI 0, zU, zU, zU, zU, zU] [] M Q) : zW (zSH Ln) d i_LW_law ((zblk i_LW_law 0).drop 4) [zR 0, zR 2, zU, zU, zU, zU, zU, zU, zU, zU, zU, zU, zU, zU, zU, zU] [] M Q := by
  have hS := yS_in Ln F0
  have hP := yP_in Ln F0
  rw [k_LW_law_0]
  simp only [List.drop_succ_cons, List.drop_zero]
  rw [w_aload (k := 2) rfl, w_aload (k := 0) rfl]
  refine w_calls (vs := [zR 2, zR 0]) (st' := []) (by omega) rfl rfl (Nat.le_of_ble_eq_true rfl) (Nat.le_of_ble_eq_true rfl) (F_LW_lays (by omega) hJ) ?_
  rintro _ M ⟨rfl, a, hJ, hB⟩
  have hM := hJ.2.2
  have c9 := yc_lt Ln F0 9
  have c10 := yc_lt Ln F0 10
  have g1 := yn_nn (x := zshr (yc_ Ln F0 9 : Int) 3) (k := yP Ln F0) (by omega)
  have gs : zsub ((2 ^ yP Ln F0 : Nat) : Int) 1 = ((2 ^ yP Ln F0 : Nat) : Int) - 1 := by
    have : 2 ^ yP Ln F0 ≤ 2 ^ 3 := Nat.pow_le_pow_right (n := 2) (by omega) hP.2
    have h2 : ((2 ^ yP Ln F0 : Nat) : Int) ≤ ((2 ^ 3 : Nat) : Int) := Int.ofNat_le.mpr this
    have h3 : (0 : Int) ≤ ((2 ^ yP Ln F0 : Nat) : Int) := Int.natCast_nonneg _
    exact zsub_eq (by omega) (by omega)
  have w1 : zrem (yc_ Ln F0 10 : Int) 5 = ((yc_ Ln F0 10 % 5 : Nat) : Int) := yn_rem 5 c10 (by omega) (by omega)
  have hw : yc_ Ln F0 10 % 5 < 5 := Nat.mod_lt _ (by omega)
  obtain ⟨g, hg⟩ : ∃ g : Nat, zand (zshr (yc_ Ln F0 9 : Int) 3) ((2 ^ yP Ln F0 : Nat) - 1 : Int) = (g : Int) := ⟨_, (Int.toNat_of_nonneg g1.1).symm⟩
  have hg2 : g < 2 ^ yP Ln F0 := by
    rw [hg] at g1
    exact Int.ofNat_lt.mp g1.2
  generalize yc_ Ln F0 10 % 5 = w at *
  have hk2 := hk g w
  generalize hSS : yS Ln F0 = S at *
  generalize hPP : yP Ln F0 = P at *
  simp only [Option.toList, List.nil_append]
  simp (disch := first | omega | exact Nat.le_of_ble_eq_true rfl | assumption | (simp only [Int.natCast_add, Int.natCast_mul, Int.cast_ofNat_Int]; omega) | decide) only [x_aload, x_astore, w_dupI, w_dupR, w_goto, w_fall, w_iadd, w_iand, w_iconst, w_idiv, w_if, w_icmp, x_iinc, x_iload, w_imul, w_irem, w_ishl, w_ishr, x_istore, w_isub, zadd_eq, zsub_eq, zmul_eq, w_bret r_LW_law, q_eq, q_ne, q_lt, q_ge, q_gt, q_le, g_I, g_L, g_R, g_V, t_0, t_I, t_R, t_U, t_L, t_s, List.getElem?_cons_zero, List.getElem?_cons_succ, Nat.reduceAdd, zif10, zif01b, zib, if_pos, if_neg, ↓reduceIte, not_true_eq_false, not_false_eq_true, Bool.true_eq_false, Bool.false_eq_true, Classical.not_not, eq_self, and_self, and_true, true_and, Int.reduceEq, Int.reduceLE, Int.reduceLT, Int.reduceNeg, Option.toList, List.cons_append, List.nil_append, zup_s, zup_n, zst_s, zup_zs, zup_zn, decide_true, decide_false, c_LW_cell, c_LW_statesOf, c_LW_playersOf, hM, hSS, hPP, zshl_1, gs, hg, w1]
  refine w_calls (vs := [zR 2, zI (g : Int), zI (w : Int)]) (st' := []) (by omega) rfl rfl (Nat.le_of_ble_eq_true rfl) (Nat.le_of_ble_eq_true rfl) (F_LW_outermost (g := g) (w := w) (by omega) (by omega) (by rw [hB.2.1]; exact hP) (by rw [hB.2.1]; exact hg2) hw hB.2.2.1 hB.2.2.2.1 hJ) ?_
  rintro _ M ⟨rfl, hJ⟩
  simp (disch := first | omega | exact Nat.le_of_ble_eq_true rfl | assumption | (simp only [Int.natCast_add, Int.natCast_mul, Int.cast_ofNat_Int]; omega) | decide) only [k_LW_law_1, x_aload, x_astore, w_dupI, w_dupR, w_goto, w_fall, w_iadd, w_iand, w_iconst, w_idiv, w_if, w_icmp, x_iinc, x_iload, w_imul, w_irem, w_ishl, w_ishr, x_istore, w_isub, zadd_eq, zsub_eq, zmul_eq, w_bret r_LW_law, q_eq, q_ne, q_lt, q_ge, q_gt, q_le, g_I, g_L, g_R, g_V, t_0, t_I, t_R, t_U, t_L, t_s, List.getElem?_cons_zero, List.getElem?_cons_succ, Nat.reduceAdd, zif10, zif01b, zib, if_pos, if_neg, ↓reduceIte, not_true_eq_false, not_false_eq_true, Bool.true_eq_false, Bool.false_eq_true, Classical.not_not, eq_self, and_self, and_true, true_and, Int.reduceEq, Int.reduceLE, Int.reduceLT, Int.reduceNeg, Option.toList, List.cons_append, List.nil_append, zup_s, zup_n, zst_s, zup_zs, zup_zn, decide_true, decide_false]
  refine yk_sheet (by omega) (Nat.le_of_ble_eq_true rfl) (by omega) hJ fun M hJ => ?_
  have es : zShtA 1 1 40 = 40 := by decide
  rw [es]
  simp (disch := first | omega | exact Nat.le_of_ble_eq_true rfl | assumption | (simp only [Int.natCast_add, Int.natCast_mul, Int.cast_ofNat_Int]; omega) | decide) only [k_LW_law_2, k_LW_law_4, x_aload, x_astore, w_dupI, w_dupR, w_goto, w_fall, w_iadd, w_iand, w_iconst, w_idiv, w_if, w_icmp, x_iinc, x_iload, w_imul, w_irem, w_ishl, w_ishr, x_istore, w_isub, zadd_eq, zsub_eq, zmul_eq, w_bret r_LW_law, q_eq, q_ne, q_lt, q_ge, q_gt, q_le, g_I, g_L, g_R, g_V, t_0, t_I, t_R, t_U, t_L, t_s, List.getElem?_cons_zero, List.getElem?_cons_succ, Nat.reduceAdd, zif10, zif01b, zib, if_pos, if_neg, ↓reduceIte, not_true_eq_false, not_false_eq_true, Bool.true_eq_false, Bool.false_eq_true, Classical.not_not, eq_self, and_self, and_true, true_and, Int.reduceEq, Int.reduceLE, Int.reduceLT, Int.reduceNeg, Option.toList, List.cons_append, List.nil_append, zup_s, zup_n, zst_s, zup_zs, zup_zn, decide_true, decide_false]
  obtain ⟨hF, hPr⟩ := yF_form hB hP hg2 hw
  refine LW_prices hd hS hP (by omega) hJ hF hPr fun a M u8 u9 hJ hF => ?_
  refine LW_items hd hS hJ hF fun a M hJ hF hi => ?_
  exact LW_asks hd hw ⟨_, hJ⟩ hF fun M hI => hk2 a M hw hg2 hI hF hi
end YT
