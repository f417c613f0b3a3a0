/-! the law's main loop, and the whole run -/
section YZ
variable {Ln d : Nat} {F0 : Int → Int}
set_option maxHeartbeats 20000000 in
theorem LW_main {S P g w : Nat} {a : zAbs} {M : Nat → Int → Int} (hd : 150 ≤ d) (hP : zJP a) (hS : S ≤ 8) (hw : w < 5) (hg : g < 2 ^ P) (hF : yF S P g w a) (hi : ∀ j : Nat, j < 40 → 0 ≤ a.it (81 + (j : Int))) (hI : yI a F0 M) : zW (zSH Ln) d i_LW_law (zblk i_LW_law 29) [zR 0, zR 2, zI (S : Int), zI (P : Int), zI (g : Int), zI (w : Int), zI 1, zI (zset S (yH a 0)), zI (zset S (yH a 1)), zI (zset S (yH a (if w = 4 then 2 else 1))), zI 0, zU, zU, zU, zU, zU] [] M (fun r _ => r = some (zI 1)) := by
  have hF' := hF
  obtain ⟨rfl, rfl, hk, -, hl, hrt, rfl, -, -⟩ := hF
  generalize hz9 : (if w = 4 then 2 else 1) = z9
  have hSS := hP.N.1
  refine zfor (a := 0) (N := a.S) (b := 29) (fun x L M => ∃ (n : Nat) (t : Nat → Nat) (u11 u12 u13 u14 u15 : zMV), L = [zR 0, zR 2, zI (a.S : Int), zI (a.P : Int), zI (a.gp 0 : Int), zI (w : Int), zI 1, zI (zset a.S (yH a 0)), zI (zset a.S (yH a 1)), zI (zset a.S (yH a z9)), zI (x : Int), u11, u12, u13, u14, u15] ∧ yI (ywk a n t) F0 M) (by omega) ⟨a.tn, a.tr, zU, zU, zU, zU, zU, rfl, hI⟩ ?_ ?_
  · rintro x _ M - hx ⟨n, t, u11, u12, u13, u14, u15, rfl, hI⟩ next
    have hT := yT_lt hP hx 40
    have n112 : ∀ (M : Nat → Int → Int) (i12 u13 u14 u15 : zMV), yI (ywk a 41 (yT_ a x)) F0 M → zW (zSH Ln) d i_LW_law (zblk i_LW_law 112) [zR 0, zR 2, zI (a.S : Int), zI (a.P : Int), zI (a.gp 0 : Int), zI (w : Int), zI 1, zI (zset a.S (yH a 0)), zI (zset a.S (yH a 1)), zI (zset a.S (yH a z9)), zI (x : Int), zI (yT_ a x 40 : Int), i12, u13, u14, u15] [] M (fun r _ => r = some (zI 1)) := by
      intro M i12 u13 u14 u15 hI
      rw [k_LW_law_112]
      simp (disch := first | omega | exact Nat.le_of_ble_eq_true rfl | assumption | (simp only [Int.natCast_add, Int.natCast_mul, Int.cast_ofNat_Int]; omega) | decide) only [x_aload, x_astore, w_dupI, w_dupR, w_goto, w_fall, w_iadd, w_iand, w_iconst, w_idiv, w_if, w_icmp, x_iinc, x_iload, w_imul, w_irem, w_ishl, w_ishr, x_istore, w_isub, zadd_eq, zsub_eq, zmul_eq, w_bret r_LW_law, q_eq, q_ne, q_lt, q_ge, q_gt, q_le, g_I, g_L, g_R, g_V, t_0, t_I, t_R, t_U, t_L, t_s, List.getElem?_cons_zero, List.getElem?_cons_succ, Nat.reduceAdd, zif10, zif01b, zib, if_pos, if_neg, ↓reduceIte, not_true_eq_false, not_false_eq_true, Bool.true_eq_false, Bool.false_eq_true, Classical.not_not, eq_self, and_self, and_true, true_and, Int.reduceEq, Int.reduceLE, Int.reduceLT, Int.reduceNeg, Option.toList, List.cons_append, List.nil_append, zup_s, zup_n, zst_s, zup_zs, zup_zn, decide_true, decide_false]
      exact next _ _ ⟨_, _, _, _, _, _, _, rfl, hI⟩
    rw [k_LW_law_29]
    simp (disch := first | omega | exact Nat.le_of_ble_eq_true rfl | assumption | (simp only [Int.natCast_add, Int.natCast_mul, Int.cast_ofNat_Int]; omega) | decide) only [k_LW_law_30, k_LW_law_31, x_aload, x_astore, w_dupI, w_dupR, w_goto, w_fall, w_iadd, w_iand, w_iconst, w_idiv, w_if, w_icmp, x_iinc, x_iload, w_imul, w_irem, w_ishl, w_ishr, x_istore, w_isub, zadd_eq, zsub_eq, zmul_eq, w_bret r_LW_law, q_eq, q_ne, q_lt, q_ge, q_gt, q_le, g_I, g_L, g_R, g_V, t_0, t_I, t_R, t_U, t_L, t_s, List.getElem?_cons_zero, List.getElem?_cons_succ, Nat.reduceAdd, zif10, zif01b, zib, if_pos, if_neg, ↓reduceIte, not_true_eq_false, not_false_eq_true, Bool.true_eq_false, Bool.false_eq_true, Classical.not_not, eq_self, and_self, and_true, true_and, Int.reduceEq, Int.reduceLE, Int.reduceLT, Int.reduceNeg, Option.toList, List.cons_append, List.nil_append, zup_s, zup_n, zst_s, zup_zs, zup_zn, decide_true, decide_false]
    refine yw_walk (by omega) (Nat.le_of_ble_eq_true rfl) hF' hw hx hi hI fun M hI => ?_
    simp (disch := first | omega | exact Nat.le_of_ble_eq_true rfl | assumption | (simp only [Int.natCast_add, Int.natCast_mul, Int.cast_ofNat_Int]; omega) | decide) only [k_LW_law_32, k_LW_law_33, x_aload, x_astore, w_dupI, w_dupR, w_goto, w_fall, w_iadd, w_iand, w_iconst, w_idiv, w_if, w_icmp, x_iinc, x_iload, w_imul, w_irem, w_ishl, w_ishr, x_istore, w_isub, zadd_eq, zsub_eq, zmul_eq, w_bret r_LW_law, q_eq, q_ne, q_lt, q_ge, q_gt, q_le, g_I, g_L, g_R, g_V, t_0, t_I, t_R, t_U, t_L, t_s, List.getElem?_cons_zero, List.getElem?_cons_succ, Nat.reduceAdd, zif10, zif01b, zib, if_pos, if_neg, ↓reduceIte, not_true_eq_false, not_false_eq_true, Bool.true_eq_false, Bool.false_eq_true, Classical.not_not, eq_self, and_self, and_true, true_and, Int.reduceEq, Int.reduceLE, Int.reduceLT, Int.reduceNeg, Option.toList, List.cons_append, List.nil_append, zup_s, zup_n, zst_s, zup_zs, zup_zn, decide_true, decide_false]
    refine yw_walked (k := 0) (by omega) (Nat.le_of_ble_eq_true rfl) rfl (by omega) hI fun M hI => ?_
    have e0 : (yT_ a x 0 : Int) = (x : Int) := rfl
    simp (disch := first | omega | exact Nat.le_of_ble_eq_true rfl | assumption | (simp only [Int.natCast_add, Int.natCast_mul, Int.cast_ofNat_Int]; omega) | decide) only [k_LW_law_34, x_aload, x_astore, w_dupI, w_dupR, w_goto, w_fall, w_iadd, w_iand, w_iconst, w_idiv, w_if, w_icmp, x_iinc, x_iload, w_imul, w_irem, w_ishl, w_ishr, x_istore, w_isub, zadd_eq, zsub_eq, zmul_eq, w_bret r_LW_law, q_eq, q_ne, q_lt, q_ge, q_gt, q_le, g_I, g_L, g_R, g_V, t_0, t_I, t_R, t_U, t_L, t_s, List.getElem?_cons_zero, List.getElem?_cons_succ, Nat.reduceAdd, zif10, zif01b, zib, if_pos, if_neg, ↓reduceIte, not_true_eq_false, not_false_eq_true, Bool.true_eq_false, Bool.false_eq_true, Classical.not_not, eq_self, and_self, and_true, true_and, Int.reduceEq, Int.reduceLE, Int.reduceLT, Int.reduceNeg, Option.toList, List.cons_append, List.nil_append, zup_s, zup_n, zst_s, zup_zs, zup_zn, decide_true, decide_false, e0]
    refine yw_walked (k := 40) (by omega) (Nat.le_of_ble_eq_true rfl) rfl (by omega) hI fun M hI => ?_
    simp (disch := first | omega | exact Nat.le_of_ble_eq_true rfl | assumption | (simp only [Int.natCast_add, Int.natCast_mul, Int.cast_ofNat_Int]; omega) | decide) only [k_LW_law_35, x_aload, x_astore, w_dupI, w_dupR, w_goto, w_fall, w_iadd, w_iand, w_iconst, w_idiv, w_if, w_icmp, x_iinc, x_iload, w_imul, w_irem, w_ishl, w_ishr, x_istore, w_isub, zadd_eq, zsub_eq, zmul_eq, w_bret r_LW_law, q_eq, q_ne, q_lt, q_ge, q_gt, q_le, g_I, g_L, g_R, g_V, t_0, t_I, t_R, t_U, t_L, t_s, List.getElem?_cons_zero, List.getElem?_cons_succ, Nat.reduceAdd, zif10, zif01b, zib, if_pos, if_neg, ↓reduceIte, not_true_eq_false, not_false_eq_true, Bool.true_eq_false, Bool.false_eq_true, Classical.not_not, eq_self, and_self, and_true, true_and, Int.reduceEq, Int.reduceLE, Int.reduceLT, Int.reduceNeg, Option.toList, List.cons_append, List.nil_append, zup_s, zup_n, zst_s, zup_zs, zup_zn, decide_true, decide_false]
    refine yw_walked41 (by omega) (Nat.le_of_ble_eq_true rfl) hI fun M hI => ?_
    by_cases hW : yH a 0 x = true
    · simp (disch := first | omega | exact Nat.le_of_ble_eq_true rfl | assumption | (simp only [Int.natCast_add, Int.natCast_mul, Int.cast_ofNat_Int]; omega) | decide) only [k_LW_law_36, k_LW_law_38, k_LW_law_39, k_LW_law_41, x_aload, x_astore, w_dupI, w_dupR, w_goto, w_fall, w_iadd, w_iand, w_iconst, w_idiv, w_if, w_icmp, x_iinc, x_iload, w_imul, w_irem, w_ishl, w_ishr, x_istore, w_isub, zadd_eq, zsub_eq, zmul_eq, w_bret r_LW_law, q_eq, q_ne, q_lt, q_ge, q_gt, q_le, g_I, g_L, g_R, g_V, t_0, t_I, t_R, t_U, t_L, t_s, List.getElem?_cons_zero, List.getElem?_cons_succ, Nat.reduceAdd, zif10, zif01b, zib, if_pos, if_neg, ↓reduceIte, not_true_eq_false, not_false_eq_true, Bool.true_eq_false, Bool.false_eq_true, Classical.not_not, eq_self, and_self, and_true, true_and, Int.reduceEq, Int.reduceLE, Int.reduceLT, Int.reduceNeg, Option.toList, List.cons_append, List.nil_append, zup_s, zup_n, zst_s, zup_zs, zup_zn, decide_true, decide_false, yhas, hW]
      obtain h0 | h0 | h0 | h0 : w = 0 ∨ w = 1 ∨ w = 3 ∨ (w = 2 ∨ w = 4) := by omega
      · exact LW_X hd hP hS hw hk hl hx h0 hW hI n112
      · exact LW_G hd hP hS hw hk hl hx h0 hW hI n112
      · exact LW_I hd hP hS hw hk hl hx h0 hW hI n112
      · exact LW_U hd hP hS hw hk hl hx h0 hz9.symm hrt hW hI n112
    · have hW2 : yH a 0 x = false := by simpa using hW
      simp (disch := first | omega | exact Nat.le_of_ble_eq_true rfl | assumption | (simp only [Int.natCast_add, Int.natCast_mul, Int.cast_ofNat_Int]; omega) | decide) only [k_LW_law_36, k_LW_law_38, k_LW_law_40, k_LW_law_41, x_aload, x_astore, w_dupI, w_dupR, w_goto, w_fall, w_iadd, w_iand, w_iconst, w_idiv, w_if, w_icmp, x_iinc, x_iload, w_imul, w_irem, w_ishl, w_ishr, x_istore, w_isub, zadd_eq, zsub_eq, zmul_eq, w_bret r_LW_law, q_eq, q_ne, q_lt, q_ge, q_gt, q_le, g_I, g_L, g_R, g_V, t_0, t_I, t_R, t_U, t_L, t_s, List.getElem?_cons_zero, List.getElem?_cons_succ, Nat.reduceAdd, zif10, zif01b, zib, if_pos, if_neg, ↓reduceIte, not_true_eq_false, not_false_eq_true, Bool.true_eq_false, Bool.false_eq_true, Classical.not_not, eq_self, and_self, and_true, true_and, Int.reduceEq, Int.reduceLE, Int.reduceLT, Int.reduceNeg, Option.toList, List.cons_append, List.nil_append, zup_s, zup_n, zst_s, zup_zs, zup_zn, decide_true, decide_false, yhas, hW2]
      exact LW_not hd hP hS hw hk hl hx hg hW hI n112
  · rintro _ M ⟨n, t, u11, u12, u13, u14, u15, rfl, hI⟩
    rw [k_LW_law_29]
    simp (disch := first | omega | exact Nat.le_of_ble_eq_true rfl | assumption | (simp only [Int.natCast_add, Int.natCast_mul, Int.cast_ofNat_Int]; omega) | decide) only [k_LW_law_113, x_aload, x_astore, w_dupI, w_dupR, w_goto, w_fall, w_iadd, w_iand, w_iconst, w_idiv, w_if, w_icmp, x_iinc, x_iload, w_imul, w_irem, w_ishl, w_ishr, x_istore, w_isub, zadd_eq, zsub_eq, zmul_eq, w_bret r_LW_law, q_eq, q_ne, q_lt, q_ge, q_gt, q_le, g_I, g_L, g_R, g_V, t_0, t_I, t_R, t_U, t_L, t_s, List.getElem?_cons_zero, List.getElem?_cons_succ, Nat.reduceAdd, zif10, zif01b, zib, if_pos, if_neg, ↓reduceIte, not_true_eq_false, not_false_eq_true, Bool.true_eq_false, Bool.false_eq_true, Classical.not_not, eq_self, and_self, and_true, true_and, Int.reduceEq, Int.reduceLE, Int.reduceLT, Int.reduceNeg, Option.toList, List.cons_append, List.nil_append, zup_s, zup_n, zst_s, zup_zs, zup_zn, decide_true, decide_false]
end YZ
theorem LW_run {L : Nat} {xs : Nat → Int32} (hL : L ≤ 260) : ∃ (n d : Nat) (w1 : zWd), zrun n d 118 (zblk 118 0) [zR 0, zU, zU, zU, zU, zU, zU, zU, zU, zU, zU, zU, zU, zU, zU, zU] [] (zw0 L xs) = some (some (zI 1), w1) ∧ d ≤ 2000 ∧ w1.1.length ≤ 600000 ∧ zcs w1 ≤ 7300000 := by
  have key : zV 300 118 (zblk 118 0) [zR 0, zU, zU, zU, zU, zU, zU, zU, zU, zU, zU, zU, zU, zU, zU, zU] [] ([(0, L, []), (0, L, [])], zM0 L xs) (fun r w2 => ∃ M' : Nat → Int → Int, w2 = (zSH L, M') ∧ r = some (zI 1)) := by
    refine LW_start (Q := fun r _ => r = some (zI 1)) (by omega) ?_
    intro M' e0 hs
    refine LW_setup (F0 := M' 0) (by omega) ⟨zP_0, zC_0 hs, rfl⟩ fun g w a M hw hg hI hF hi => ?_
    have hP : zJP a := by
      obtain ⟨n, h⟩ := hI
      exact h.1
    exact LW_main (by omega) hP (yS_in L (M' 0)).2 hw hg hF hi hI
  obtain ⟨n, r, w1, h1, M', rfl, rfl⟩ := key
  refine ⟨n, 300, _, h1, by omega, ?_, ?_⟩
  · show 48 ≤ 600000
    omega
  · simp [zcs, zSH]
    omega
