/-! the class's face: rows of moves, the trail -/
section FC
variable {Ln S P n : Nat} {mv tg hp ch : Nat → Nat → Nat} {lt kd lf rt gp : Nat → Nat} {M : Nat → Int → Int}
theorem F_FN_walked {d : Nat} {k : Int} {tr : Nat → Nat} (hn : n ≤ 41) (hTr : zTrC n tr M) (hd : 2 ≤ d) : zF (zSH Ln) d i_FN_walked [zR 2, zI k] M fun r M' => r = some (zI (if 0 ≤ k ∧ k < n then (tr k.toNat : Int) else -1)) ∧ M' = M := by
  rw [zF_en k_FN_walked_0 (L := [zR 2, zI k]) rfl]
  simp (disch := first | omega | exact Nat.le_of_ble_eq_true rfl | assumption | (simp only [Int.natCast_add, Int.natCast_mul, Int.cast_ofNat_Int]; omega) | decide) only [x_aload, x_getf, x_iload, gf_2_4, w_nret r_FN_walked, q_eq, q_ne, q_lt, q_ge, q_gt, q_le, g_I, g_L, g_R, g_V, t_0, t_I, t_R, t_U, t_L, t_s, List.getElem?_cons_zero, List.getElem?_cons_succ, Nat.reduceAdd, zif10, zif01b, zib, if_pos, if_neg, ↓reduceIte, not_true_eq_false, not_false_eq_true, Bool.true_eq_false, Bool.false_eq_true, Classical.not_not, eq_self, and_self, and_true, true_and, Int.reduceEq, Int.reduceLE, Int.reduceLT, Int.reduceNeg, Option.toList, List.cons_append, List.nil_append, zup_s, zup_n, zst_s, zup_zs, zup_zn, decide_true, decide_false, c_Pl_behind hn hTr]
end FC
