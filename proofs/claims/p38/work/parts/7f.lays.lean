/-! the net by cells -/
/-- what is known of the net by cells: how many, an empty tape, no prices -/
def yB (S P : Nat) (a : zAbs) : Prop := a.S = S ∧ a.P = P ∧ a.q = 0 ∧ a.tb = (fun _ => 0) ∧ ∀ s p q, a.pr s p q = 0
section YL
variable {S P : Nat} {a : zAbs}
theorem yB_net {s p : Nat} (hs : 2 ≤ s ∧ s ≤ 12) (hp : 1 ≤ p ∧ p ≤ 4) : yB s p (zU_net zA0 (s : Int) (p : Int)) := by
  unfold zU_net
  rw [if_pos (show zNwG (s : Int) (p : Int) from ⟨by omega, by omega⟩)]
  exact ⟨Int.toNat_natCast s, Int.toNat_natCast p, rfl, rfl, fun _ _ _ => rfl⟩
theorem yB_moves {x y m : Int} (h : yB S P a) : yB S P (zU_moves a x y m) := by
  unfold zU_moves
  split
  · refine ⟨h.1, h.2.1, h.2.2.1, h.2.2.2.1, fun s p q => ?_⟩
    show (if s = x.toNat then 0 else a.pr s p q) = 0
    rw [h.2.2.2.2]
    split <;> rfl
  · exact h
theorem yB_letters {x b : Int} (h : yB S P a) : yB S P (zU_letters a x b) := by
  unfold zU_letters
  split
  · exact ⟨h.1, h.2.1, h.2.2.1, h.2.2.2.1, h.2.2.2.2⟩
  · exact h
theorem yB_step {x c t : Int} (h : yB S P a) : yB S P (zU_step a x c t) := by
  unfold zU_step
  split
  · exact ⟨h.1, h.2.1, h.2.2.1, h.2.2.2.1, h.2.2.2.2⟩
  · exact h
theorem yJo_le {mv tg : Nat → Nat → Nat} (hN : zNet S P mv tg) (x g : Int) : zJoA S P mv x g ≤ 81 := by
  unfold zJoA
  split
  · have := zcnt_81 (hN.2.2.2.2.1 x.toNat) (zbit g) hN.2.2.2.1
    omega
  · omega
end YL
section YM
variable {Ln d : Nat} {F0 : Int → Int} {M : Nat → Int → Int}
set_option maxHeartbeats 20000000 in
theorem F_LW_lays (hd : 120 ≤ d) (hJ : yJ zA0 1 F0 M) : zF (zSH Ln) d i_LW_lays [zR 2, zR 0] M fun r M' => r = none ∧ ∃ a, yJ a 75000 F0 M' ∧ yB (yS Ln F0) (yP Ln F0) a := by
  rw [zF_en k_LW_lays_0 (L := [zR 2, zR 0, zU, zU, zU, zU, zU, zU]) rfl]
  have hM := hJ.2.2
  have hS := yS_in Ln F0
  have hP := yP_in Ln F0
  simp (disch := first | omega | exact Nat.le_of_ble_eq_true rfl | assumption | (simp only [Int.natCast_add, Int.natCast_mul, Int.cast_ofNat_Int]; omega) | decide) only [x_aload, w_goto, w_fall, w_iadd, w_iand, w_iconst, w_icmp, x_iinc, x_iload, w_imul, w_irem, w_ishl, w_ishr, x_istore, w_isub, zadd_eq, zsub_eq, zmul_eq, w_vret r_LW_lays, q_eq, q_ne, q_lt, q_ge, q_gt, q_le, g_I, g_L, g_R, g_V, t_0, t_I, t_R, t_U, t_L, t_s, List.getElem?_cons_zero, List.getElem?_cons_succ, Nat.reduceAdd, zif10, zif01b, zib, if_pos, if_neg, ↓reduceIte, not_true_eq_false, not_false_eq_true, Bool.true_eq_false, Bool.false_eq_true, Classical.not_not, eq_self, and_self, and_true, true_and, Int.reduceEq, Int.reduceLE, Int.reduceLT, Int.reduceNeg, Option.toList, List.cons_append, List.nil_append, zup_s, zup_n, zst_s, zup_zs, zup_zn, decide_true, decide_false, c_LW_cell, hM, yS_eq, yP_eq]
  refine yk_net (by omega) (Nat.le_of_ble_eq_true rfl) (by omega) hJ fun M1 hJ1 => ?_
  have hB := yB_net (s := yS Ln F0) (p := yP Ln F0) (by omega) (by omega)
  generalize hSS : yS Ln F0 = S at *
  generalize hPP : yP Ln F0 = P at *
  generalize (if zNwG (S : Int) (P : Int) then (1 : Int) else -1) = u
  simp (disch := first | omega | exact Nat.le_of_ble_eq_true rfl | assumption | (simp only [Int.natCast_add, Int.natCast_mul, Int.cast_ofNat_Int]; omega) | decide) only [x_aload, w_goto, w_fall, w_iadd, w_iand, w_iconst, w_icmp, x_iinc, x_iload, w_imul, w_irem, w_ishl, w_ishr, x_istore, w_isub, zadd_eq, zsub_eq, zmul_eq, w_vret r_LW_lays, q_eq, q_ne, q_lt, q_ge, q_gt, q_le, g_I, g_L, g_R, g_V, t_0, t_I, t_R, t_U, t_L, t_s, List.getElem?_cons_zero, List.getElem?_cons_succ, Nat.reduceAdd, zif10, zif01b, zib, if_pos, if_neg, ↓reduceIte, not_true_eq_false, not_false_eq_true, Bool.true_eq_false, Bool.false_eq_true, Classical.not_not, eq_self, and_self, and_true, true_and, Int.reduceEq, Int.reduceLE, Int.reduceLT, Int.reduceNeg, Option.toList, List.cons_append, List.nil_append, zup_s, zup_n, zst_s, zup_zs, zup_zn, decide_true, decide_false]
  refine zfor (a := 0) (N := S) (b := 1) (fun x L M => ∃ a u4 u6 u7, L = [zR 2, zR 0, zI (S : Int), zI (P : Int), zI u4, zI (x : Int), u6, u7] ∧ yJ a (200 + 9000 * x) F0 M ∧ yB S P a) (by omega) ⟨_, _, zU, zU, rfl, yJ_up hJ1 (by omega), hB⟩ ?_ ?_
  · rintro x _ M - hx ⟨a, u4, u6, u7, rfl, hJ, hB⟩ next
    rw [k_LW_lays_1]
    simp (disch := first | omega | exact Nat.le_of_ble_eq_true rfl | assumption | (simp only [Int.natCast_add, Int.natCast_mul, Int.cast_ofNat_Int]; omega) | decide) only [k_LW_lays_2, x_aload, w_goto, w_fall, w_iadd, w_iand, w_iconst, w_icmp, x_iinc, x_iload, w_imul, w_irem, w_ishl, w_ishr, x_istore, w_isub, zadd_eq, zsub_eq, zmul_eq, w_vret r_LW_lays, q_eq, q_ne, q_lt, q_ge, q_gt, q_le, g_I, g_L, g_R, g_V, t_0, t_I, t_R, t_U, t_L, t_s, List.getElem?_cons_zero, List.getElem?_cons_succ, Nat.reduceAdd, zif10, zif01b, zib, if_pos, if_neg, ↓reduceIte, not_true_eq_false, not_false_eq_true, Bool.true_eq_false, Bool.false_eq_true, Classical.not_not, eq_self, and_self, and_true, true_and, Int.reduceEq, Int.reduceLE, Int.reduceLT, Int.reduceNeg, Option.toList, List.cons_append, List.nil_append, zup_s, zup_n, zst_s, zup_zs, zup_zn, decide_true, decide_false]
    refine zfor (a := 0) (N := P) (b := 3) (fun p L M => ∃ a u4 u7, L = [zR 2, zR 0, zI (S : Int), zI (P : Int), zI u4, zI (x : Int), zI (p : Int), u7] ∧ yJ a (200 + 9000 * x + 100 * p) F0 M ∧ yB S P a) (by omega) ⟨a, u4, u7, rfl, hJ, hB⟩ ?_ ?_
    · rintro p _ M - hp ⟨a, u4, u7, rfl, hJ, hB⟩ next
      have hM := hJ.2.2
      rw [k_LW_lays_3]
      simp (disch := first | omega | exact Nat.le_of_ble_eq_true rfl | assumption | (simp only [Int.natCast_add, Int.natCast_mul, Int.cast_ofNat_Int]; omega) | decide) only [k_LW_lays_4, x_aload, w_goto, w_fall, w_iadd, w_iand, w_iconst, w_icmp, x_iinc, x_iload, w_imul, w_irem, w_ishl, w_ishr, x_istore, w_isub, zadd_eq, zsub_eq, zmul_eq, w_vret r_LW_lays, q_eq, q_ne, q_lt, q_ge, q_gt, q_le, g_I, g_L, g_R, g_V, t_0, t_I, t_R, t_U, t_L, t_s, List.getElem?_cons_zero, List.getElem?_cons_succ, Nat.reduceAdd, zif10, zif01b, zib, if_pos, if_neg, ↓reduceIte, not_true_eq_false, not_false_eq_true, Bool.true_eq_false, Bool.false_eq_true, Classical.not_not, eq_self, and_self, and_true, true_and, Int.reduceEq, Int.reduceLE, Int.reduceLT, Int.reduceNeg, Option.toList, List.cons_append, List.nil_append, zup_s, zup_n, zst_s, zup_zs, zup_zn, decide_true, decide_false, c_LW_cell, hM]
      refine yk_moves (by omega) (Nat.le_of_ble_eq_true rfl) (by omega) hJ fun M1 hJ1 => ?_
      simp (disch := first | omega | exact Nat.le_of_ble_eq_true rfl | assumption | (simp only [Int.natCast_add, Int.natCast_mul, Int.cast_ofNat_Int]; omega) | decide) only [x_aload, w_goto, w_fall, w_iadd, w_iand, w_iconst, w_icmp, x_iinc, x_iload, w_imul, w_irem, w_ishl, w_ishr, x_istore, w_isub, zadd_eq, zsub_eq, zmul_eq, w_vret r_LW_lays, q_eq, q_ne, q_lt, q_ge, q_gt, q_le, g_I, g_L, g_R, g_V, t_0, t_I, t_R, t_U, t_L, t_s, List.getElem?_cons_zero, List.getElem?_cons_succ, Nat.reduceAdd, zif10, zif01b, zib, if_pos, if_neg, ↓reduceIte, not_true_eq_false, not_false_eq_true, Bool.true_eq_false, Bool.false_eq_true, Classical.not_not, eq_self, and_self, and_true, true_and, Int.reduceEq, Int.reduceLE, Int.reduceLT, Int.reduceNeg, Option.toList, List.cons_append, List.nil_append, zup_s, zup_n, zst_s, zup_zs, zup_zn, decide_true, decide_false]
      exact next _ _ ⟨_, _, _, rfl, yJ_up hJ1 (by omega), yB_moves hB⟩
    · rintro _ M ⟨a, u4, u7, rfl, hJ, hB⟩
      have hM := hJ.2.2
      rw [k_LW_lays_3]
      simp (disch := first | omega | exact Nat.le_of_ble_eq_true rfl | assumption | (simp only [Int.natCast_add, Int.natCast_mul, Int.cast_ofNat_Int]; omega) | decide) only [k_LW_lays_5, x_aload, w_goto, w_fall, w_iadd, w_iand, w_iconst, w_icmp, x_iinc, x_iload, w_imul, w_irem, w_ishl, w_ishr, x_istore, w_isub, zadd_eq, zsub_eq, zmul_eq, w_vret r_LW_lays, q_eq, q_ne, q_lt, q_ge, q_gt, q_le, g_I, g_L, g_R, g_V, t_0, t_I, t_R, t_U, t_L, t_s, List.getElem?_cons_zero, List.getElem?_cons_succ, Nat.reduceAdd, zif10, zif01b, zib, if_pos, if_neg, ↓reduceIte, not_true_eq_false, not_false_eq_true, Bool.true_eq_false, Bool.false_eq_true, Classical.not_not, eq_self, and_self, and_true, true_and, Int.reduceEq, Int.reduceLE, Int.reduceLT, Int.reduceNeg, Option.toList, List.cons_append, List.nil_append, zup_s, zup_n, zst_s, zup_zs, zup_zn, decide_true, decide_false, c_LW_cell, hM]
      refine yk_letters (by omega) (Nat.le_of_ble_eq_true rfl) (by omega) hJ fun M1 hJ1 => ?_
      have hB1 := yB_letters (x := (x : Int)) (b := zand (zshr (yc_ Ln F0 (1 + (x : Int)) : Int) 8) 15) hB
      generalize zU_letters a (x : Int) (zand (zshr (yc_ Ln F0 (1 + (x : Int)) : Int) 8) 15) = a1 at *
      simp (disch := first | omega | exact Nat.le_of_ble_eq_true rfl | assumption | (simp only [Int.natCast_add, Int.natCast_mul, Int.cast_ofNat_Int]; omega) | decide) only [x_aload, w_goto, w_fall, w_iadd, w_iand, w_iconst, w_icmp, x_iinc, x_iload, w_imul, w_irem, w_ishl, w_ishr, x_istore, w_isub, zadd_eq, zsub_eq, zmul_eq, w_vret r_LW_lays, q_eq, q_ne, q_lt, q_ge, q_gt, q_le, g_I, g_L, g_R, g_V, t_0, t_I, t_R, t_U, t_L, t_s, List.getElem?_cons_zero, List.getElem?_cons_succ, Nat.reduceAdd, zif10, zif01b, zib, if_pos, if_neg, ↓reduceIte, not_true_eq_false, not_false_eq_true, Bool.true_eq_false, Bool.false_eq_true, Classical.not_not, eq_self, and_self, and_true, true_and, Int.reduceEq, Int.reduceLE, Int.reduceLT, Int.reduceNeg, Option.toList, List.cons_append, List.nil_append, zup_s, zup_n, zst_s, zup_zs, zup_zn, decide_true, decide_false]
      refine yk_joint (by omega) (Nat.le_of_ble_eq_true rfl) hJ1 fun M2 hJ2 => ?_
      have hj := yJo_le hJ2.1.N (x : Int) (zsub (zshl 1 (P : Int)) 1)
      generalize zJoA a1.S a1.P a1.mv (x : Int) (zsub (zshl 1 (P : Int)) 1) = J at *
      simp (disch := first | omega | exact Nat.le_of_ble_eq_true rfl | assumption | (simp only [Int.natCast_add, Int.natCast_mul, Int.cast_ofNat_Int]; omega) | decide) only [x_aload, w_goto, w_fall, w_iadd, w_iand, w_iconst, w_icmp, x_iinc, x_iload, w_imul, w_irem, w_ishl, w_ishr, x_istore, w_isub, zadd_eq, zsub_eq, zmul_eq, w_vret r_LW_lays, q_eq, q_ne, q_lt, q_ge, q_gt, q_le, g_I, g_L, g_R, g_V, t_0, t_I, t_R, t_U, t_L, t_s, List.getElem?_cons_zero, List.getElem?_cons_succ, Nat.reduceAdd, zif10, zif01b, zib, if_pos, if_neg, ↓reduceIte, not_true_eq_false, not_false_eq_true, Bool.true_eq_false, Bool.false_eq_true, Classical.not_not, eq_self, and_self, and_true, true_and, Int.reduceEq, Int.reduceLE, Int.reduceLT, Int.reduceNeg, Option.toList, List.cons_append, List.nil_append, zup_s, zup_n, zst_s, zup_zs, zup_zn, decide_true, decide_false]
      refine zfor (a := 0) (N := J.toNat) (b := 6) (fun m L M => ∃ a u4, L = [zR 2, zR 0, zI (S : Int), zI (P : Int), zI u4, zI (x : Int), zI J, zI (m : Int)] ∧ yJ a (200 + 9000 * x + 600 + 100 * m) F0 M ∧ yB S P a) (by omega) ⟨_, _, rfl, yJ_up hJ2 (by omega), hB1⟩ ?_ ?_
      · rintro m _ M - hm ⟨a, u4, rfl, hJ, hB⟩ next
        have hM := hJ.2.2
        rw [k_LW_lays_6]
        simp (disch := first | omega | exact Nat.le_of_ble_eq_true rfl | assumption | (simp only [Int.natCast_add, Int.natCast_mul, Int.cast_ofNat_Int]; omega) | decide) only [k_LW_lays_7, x_aload, w_goto, w_fall, w_iadd, w_iand, w_iconst, w_icmp, x_iinc, x_iload, w_imul, w_irem, w_ishl, w_ishr, x_istore, w_isub, zadd_eq, zsub_eq, zmul_eq, w_vret r_LW_lays, q_eq, q_ne, q_lt, q_ge, q_gt, q_le, g_I, g_L, g_R, g_V, t_0, t_I, t_R, t_U, t_L, t_s, List.getElem?_cons_zero, List.getElem?_cons_succ, Nat.reduceAdd, zif10, zif01b, zib, if_pos, if_neg, ↓reduceIte, not_true_eq_false, not_false_eq_true, Bool.true_eq_false, Bool.false_eq_true, Classical.not_not, eq_self, and_self, and_true, true_and, Int.reduceEq, Int.reduceLE, Int.reduceLT, Int.reduceNeg, Option.toList, List.cons_append, List.nil_append, zup_s, zup_n, zst_s, zup_zs, zup_zn, decide_true, decide_false, c_LW_cell, hM]
        refine yk_step (by omega) (Nat.le_of_ble_eq_true rfl) (by omega) hJ fun M1 hJ1 => ?_
        simp (disch := first | omega | exact Nat.le_of_ble_eq_true rfl | assumption | (simp only [Int.natCast_add, Int.natCast_mul, Int.cast_ofNat_Int]; omega) | decide) only [x_aload, w_goto, w_fall, w_iadd, w_iand, w_iconst, w_icmp, x_iinc, x_iload, w_imul, w_irem, w_ishl, w_ishr, x_istore, w_isub, zadd_eq, zsub_eq, zmul_eq, w_vret r_LW_lays, q_eq, q_ne, q_lt, q_ge, q_gt, q_le, g_I, g_L, g_R, g_V, t_0, t_I, t_R, t_U, t_L, t_s, List.getElem?_cons_zero, List.getElem?_cons_succ, Nat.reduceAdd, zif10, zif01b, zib, if_pos, if_neg, ↓reduceIte, not_true_eq_false, not_false_eq_true, Bool.true_eq_false, Bool.false_eq_true, Classical.not_not, eq_self, and_self, and_true, true_and, Int.reduceEq, Int.reduceLE, Int.reduceLT, Int.reduceNeg, Option.toList, List.cons_append, List.nil_append, zup_s, zup_n, zst_s, zup_zs, zup_zn, decide_true, decide_false]
        exact next _ _ ⟨_, _, rfl, yJ_up hJ1 (by omega), yB_step hB⟩
      · rintro _ M ⟨a, u4, rfl, hJ, hB⟩
        rw [k_LW_lays_6]
        simp (disch := first | omega | exact Nat.le_of_ble_eq_true rfl | assumption | (simp only [Int.natCast_add, Int.natCast_mul, Int.cast_ofNat_Int]; omega) | decide) only [k_LW_lays_8, x_aload, w_goto, w_fall, w_iadd, w_iand, w_iconst, w_icmp, x_iinc, x_iload, w_imul, w_irem, w_ishl, w_ishr, x_istore, w_isub, zadd_eq, zsub_eq, zmul_eq, w_vret r_LW_lays, q_eq, q_ne, q_lt, q_ge, q_gt, q_le, g_I, g_L, g_R, g_V, t_0, t_I, t_R, t_U, t_L, t_s, List.getElem?_cons_zero, List.getElem?_cons_succ, Nat.reduceAdd, zif10, zif01b, zib, if_pos, if_neg, ↓reduceIte, not_true_eq_false, not_false_eq_true, Bool.true_eq_false, Bool.false_eq_true, Classical.not_not, eq_self, and_self, and_true, true_and, Int.reduceEq, Int.reduceLE, Int.reduceLT, Int.reduceNeg, Option.toList, List.cons_append, List.nil_append, zup_s, zup_n, zst_s, zup_zs, zup_zn, decide_true, decide_false]
        exact next _ _ ⟨_, _, _, _, rfl, yJ_up hJ (by omega), hB⟩
  · rintro _ M ⟨a, u4, u6, u7, rfl, hJ, hB⟩
    rw [k_LW_lays_1]
    simp (disch := first | omega | exact Nat.le_of_ble_eq_true rfl | assumption | (simp only [Int.natCast_add, Int.natCast_mul, Int.cast_ofNat_Int]; omega) | decide) only [k_LW_lays_9, x_aload, w_goto, w_fall, w_iadd, w_iand, w_iconst, w_icmp, x_iinc, x_iload, w_imul, w_irem, w_ishl, w_ishr, x_istore, w_isub, zadd_eq, zsub_eq, zmul_eq, w_vret r_LW_lays, q_eq, q_ne, q_lt, q_ge, q_gt, q_le, g_I, g_L, g_R, g_V, t_0, t_I, t_R, t_U, t_L, t_s, List.getElem?_cons_zero, List.getElem?_cons_succ, Nat.reduceAdd, zif10, zif01b, zib, if_pos, if_neg, ↓reduceIte, not_true_eq_false, not_false_eq_true, Bool.true_eq_false, Bool.false_eq_true, Classical.not_not, eq_self, and_self, and_true, true_and, Int.reduceEq, Int.reduceLE, Int.reduceLT, Int.reduceNeg, Option.toList, List.cons_append, List.nil_append, zup_s, zup_n, zst_s, zup_zs, zup_zn, decide_true, decide_false]
    exact ⟨a, yJ_up hJ (by omega), hB⟩
end YM
