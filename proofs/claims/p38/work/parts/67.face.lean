/-! the class's face: calls that put one number, calls that change nothing of the net -/
section FC
variable {Ln S P n : Nat} {mv tg hp ch : Nat → Nat → Nat} {lt : Nat → Nat} {pr : Nat → Nat → Nat → Nat} {gl : Nat → Nat → Bool} {M : Nat → Int → Int} {lo : Int}
theorem F_Ne_changeTarget {d : Nat} {s q : Nat} {t : Int} (hC : zNetC S P mv tg M) (hs : s < 12) (hq : q < 81) (hd : 2 ≤ d) : zF (zSH Ln) d i_Ne_changeTarget [zR 3, zI (s : Int), zI (q : Int), zI t] M fun r M' => r = some (zI (tg s q : Int)) ∧ M' = zup (zup M 3 2 (zadd (M 3 2) 1)) 7 ((s : Int) * 81 + q) t := by
  rw [zF_en k_Ne_changeTarget_0 (L := [zR 3, zI (s : Int), zI (q : Int), zI t]) rfl]
  have ht := hC.2.2.2 s q hs hq
  generalize hv : zadd (M 3 2) 1 = v
  have hv2 : (Int32.ofInt (M 3 2) + Int32.ofInt 1).toInt = v := hv
  simp (disch := first | omega | exact Nat.le_of_ble_eq_true rfl) only [x_aload, x_getf, w_iconst, x_iload, w_imul, w_iadd, w_dupR, gf_3_2, gf_3_6, xp_3_2, sw_7, hv, show zmul (s : Int) 81 = (s : Int) * 81 from zmul_eq (by omega) (by omega), show zadd ((s : Int) * 81) (q : Int) = (s : Int) * 81 + q from zadd_eq (by omega) (by omega), zup_n, ht, w_nret r_Ne_changeTarget, g_I, g_R, g_V, List.getElem?_cons_zero, List.getElem?_cons_succ, Nat.reduceAdd, and_self]
theorem c_Ne_changeTarget {d mi o b9 : Nat} {es : List zEnt} {L st : List zMV} {Q : Option zMV → (Nat → Int → Int) → Prop} {s q : Nat} {t : Int} (hC : zNetC S P mv tg M) (hs : s < 12) (hq : q < 81) (hd : 2 + 1 ≤ d) (hc : zcats st ≤ 8) : zW (zSH Ln) d mi ((.invokevirtual o, 40, b9) :: es) L (zI t :: zI (q : Int) :: zI (s : Int) :: zR 3 :: st) M Q = zW (zSH Ln) d mi es L (zI (tg s q : Int) :: st) (zup (zup M 3 2 (zadd (M 3 2) 1)) 7 ((s : Int) * 81 + q) t) Q :=
  c_virt (ps := [zI (s : Int), zI (q : Int), zI t]) (by omega) rfl rfl (by omega) (by exact sh_3 Ln) hc (Nat.le_of_ble_eq_true rfl) (F_Ne_changeTarget hC hs hq (by omega))
theorem F_Ne_changeLetters {d : Nat} {s : Nat} {t : Int} (hL : zLetC lt M) (hs : s < 12) (hd : 2 ≤ d) : zF (zSH Ln) d i_Ne_changeLetters [zR 3, zI (s : Int), zI t] M fun r M' => r = some (zI (lt s : Int)) ∧ M' = zup (zup M 3 2 (zadd (M 3 2) 1)) 8 (s : Int) t := by
  rw [zF_en k_Ne_changeLetters_0 (L := [zR 3, zI (s : Int), zI t]) rfl]
  have ht := hL s hs
  generalize hv : zadd (M 3 2) 1 = v
  simp (disch := first | omega | exact Nat.le_of_ble_eq_true rfl) only [x_aload, x_getf, w_iconst, x_iload, w_iadd, w_dupR, gf_3_2, gf_3_7, xp_3_2, sw_8, hv, zup_n, ht, w_nret r_Ne_changeLetters, g_I, g_R, g_V, List.getElem?_cons_zero, List.getElem?_cons_succ, Nat.reduceAdd, and_self]
theorem c_Ne_changeLetters {d mi o b9 : Nat} {es : List zEnt} {L st : List zMV} {Q : Option zMV → (Nat → Int → Int) → Prop} {s : Nat} {t : Int} (hL : zLetC lt M) (hs : s < 12) (hd : 2 + 1 ≤ d) (hc : zcats st ≤ 8) : zW (zSH Ln) d mi ((.invokevirtual o, 41, b9) :: es) L (zI t :: zI (s : Int) :: zR 3 :: st) M Q = zW (zSH Ln) d mi es L (zI (lt s : Int) :: st) (zup (zup M 3 2 (zadd (M 3 2) 1)) 8 (s : Int) t) Q :=
  c_virt (ps := [zI (s : Int), zI t]) (by omega) rfl rfl (by omega) (by exact sh_3 Ln) hc (Nat.le_of_ble_eq_true rfl) (F_Ne_changeLetters hL hs (by omega))
theorem F_Ne_changeMoves {d : Nat} {s p : Nat} {m : Int} (hC : zNetC S P mv tg M) (hs : s < 12) (hp : p < 4) (hd : 2 ≤ d) : zF (zSH Ln) d i_Ne_changeMoves [zR 3, zI (s : Int), zI (p : Int), zI m] M fun r M' => r = some (zI (mv s p : Int)) ∧ M' = zst (zst (zst (zup (zup M 3 2 (zadd (M 3 2) 1)) 4 ((s : Int) * 4 + p) m) 7 (zrng (M 7) (s * 81) 81 s)) 5 (zrng (M 5) (s * 4) 4 0)) 6 (zrng (M 6) (s * 12) 12 0) := by
  rw [zF_en k_Ne_changeMoves_0 (L := [zR 3, zI (s : Int), zI (p : Int), zI m]) rfl]
  have ht := hC.2.2.1 s p hs hp
  generalize hv : zadd (M 3 2) 1 = v
  simp (disch := first | omega | exact Nat.le_of_ble_eq_true rfl) only [x_aload, x_getf, w_iconst, x_iload, w_imul, w_iadd, w_dupR, gf_3_2, gf_3_3, xp_3_2, c_Ne_leadBack, sw_4, hv, show zmul (s : Int) 4 = (s : Int) * 4 from zmul_eq (by omega) (by omega), show zadd ((s : Int) * 4) (p : Int) = (s : Int) * 4 + p from zadd_eq (by omega) (by omega), zup_n, zst_n, zup_zn, ht, w_nret r_Ne_changeMoves, g_I, g_R, g_V, List.getElem?_cons_zero, List.getElem?_cons_succ, Nat.reduceAdd, and_self]
theorem c_Ne_changeMoves {d mi o b9 : Nat} {es : List zEnt} {L st : List zMV} {Q : Option zMV → (Nat → Int → Int) → Prop} {s p : Nat} {m : Int} (hC : zNetC S P mv tg M) (hs : s < 12) (hp : p < 4) (hd : 2 + 1 ≤ d) (hc : zcats st ≤ 8) : zW (zSH Ln) d mi ((.invokevirtual o, 39, b9) :: es) L (zI m :: zI (p : Int) :: zI (s : Int) :: zR 3 :: st) M Q = zW (zSH Ln) d mi es L (zI (mv s p : Int) :: st) (zst (zst (zst (zup (zup M 3 2 (zadd (M 3 2) 1)) 4 ((s : Int) * 4 + p) m) 7 (zrng (M 7) (s * 81) 81 s)) 5 (zrng (M 5) (s * 4) 4 0)) 6 (zrng (M 6) (s * 12) 12 0)) Q :=
  c_virt (ps := [zI (s : Int), zI (p : Int), zI m]) (by omega) rfl rfl (by omega) (by exact sh_3 Ln) hc (Nat.le_of_ble_eq_true rfl) (F_Ne_changeMoves hC hs hp (by omega))
theorem F_FN_step {d : Nat} {x a t : Int} (hN : zNet S P mv tg) (hC : zNetC S P mv tg M) (hd : 5 ≤ d) : zF (zSH Ln) d i_FN_step [zR 2, zI x, zI a, zI t] M fun r M' => r = some (zI (if ((0 ≤ x ∧ x < (S : Int)) ∧ 0 ≤ a ∧ a < (zcnt (mv x.toNat) zall1 P : Int)) ∧ (0 ≤ t ∧ t < (S : Int)) then (tg x.toNat a.toNat : Int) else -1)) ∧ M' = (if ((0 ≤ x ∧ x < (S : Int)) ∧ 0 ≤ a ∧ a < (zcnt (mv x.toNat) zall1 P : Int)) ∧ (0 ≤ t ∧ t < (S : Int)) then zup (zup M 3 2 (zadd (M 3 2) 1)) 7 (x * 81 + a) t else M) := by
  rw [zF_en k_FN_step_0 (L := [zR 2, zI x, zI a, zI t]) rfl]
  have hS := hN.2.1
  have hP := hN.2.2.2.1
  by_cases c0 : (0 ≤ x ∧ x < (S : Int)) ∧ 0 ≤ a ∧ a < (zcnt (mv x.toNat) zall1 P : Int)
  rotate_left
  · have hGd : ¬ (((0 ≤ x ∧ x < (S : Int)) ∧ 0 ≤ a ∧ a < (zcnt (mv x.toNat) zall1 P : Int)) ∧ (0 ≤ t ∧ t < (S : Int))) := fun z => c0 z.1
    rw [if_neg hGd, if_neg hGd]
    simp (disch := first | omega | exact Nat.le_of_ble_eq_true rfl | assumption | (simp only [Int.natCast_add, Int.natCast_mul, Int.cast_ofNat_Int]; omega) | decide) only [k_FN_step_2, x_aload, x_getf, w_fall, w_iconst, w_if, x_iload, gf_2_0, w_nret r_FN_step, q_eq, q_ne, q_lt, q_ge, q_gt, q_le, g_I, g_L, g_R, g_V, t_0, t_I, t_R, t_U, t_L, t_s, List.getElem?_cons_zero, List.getElem?_cons_succ, Nat.reduceAdd, zif10, zif01b, zib, if_pos, if_neg, ↓reduceIte, not_true_eq_false, not_false_eq_true, Bool.true_eq_false, Bool.false_eq_true, Classical.not_not, eq_self, and_self, and_true, true_and, Int.reduceEq, Int.reduceLE, Int.reduceLT, Int.reduceNeg, Option.toList, List.cons_append, List.nil_append, zup_s, zup_n, zst_s, zup_zs, zup_zn, decide_true, decide_false, c_Ne_hasJoint hN hC, c0]
  by_cases c1 : 0 ≤ t ∧ t < (S : Int)
  rotate_left
  · have hGd : ¬ (((0 ≤ x ∧ x < (S : Int)) ∧ 0 ≤ a ∧ a < (zcnt (mv x.toNat) zall1 P : Int)) ∧ (0 ≤ t ∧ t < (S : Int))) := fun z => c1 z.2
    rw [if_neg hGd, if_neg hGd]
    simp (disch := first | omega | exact Nat.le_of_ble_eq_true rfl | assumption | (simp only [Int.natCast_add, Int.natCast_mul, Int.cast_ofNat_Int]; omega) | decide) only [k_FN_step_1, k_FN_step_2, x_aload, x_getf, w_fall, w_iconst, w_if, x_iload, gf_2_0, w_nret r_FN_step, q_eq, q_ne, q_lt, q_ge, q_gt, q_le, g_I, g_L, g_R, g_V, t_0, t_I, t_R, t_U, t_L, t_s, List.getElem?_cons_zero, List.getElem?_cons_succ, Nat.reduceAdd, zif10, zif01b, zib, if_pos, if_neg, ↓reduceIte, not_true_eq_false, not_false_eq_true, Bool.true_eq_false, Bool.false_eq_true, Classical.not_not, eq_self, and_self, and_true, true_and, Int.reduceEq, Int.reduceLE, Int.reduceLT, Int.reduceNeg, Option.toList, List.cons_append, List.nil_append, zup_s, zup_n, zst_s, zup_zs, zup_zn, decide_true, decide_false, c_Ne_hasJoint hN hC, c_Ne_hasState hC, c0, c1]
  have hGd : ((0 ≤ x ∧ x < (S : Int)) ∧ 0 ≤ a ∧ a < (zcnt (mv x.toNat) zall1 P : Int)) ∧ (0 ≤ t ∧ t < (S : Int)) := ⟨c0, c1⟩
  rw [if_pos hGd, if_pos hGd]
  obtain ⟨s, rfl⟩ : ∃ s : Nat, x = (s : Int) := ⟨x.toNat, by omega⟩
  obtain ⟨q, rfl⟩ : ∃ q : Nat, a = (q : Int) := ⟨a.toNat, by omega⟩
  simp only [Int.toNat_natCast] at *
  have h81 := zcnt_81 (hN.2.2.2.2.1 s) zall1 hP
  simp (disch := first | omega | exact Nat.le_of_ble_eq_true rfl | assumption | (simp only [Int.natCast_add, Int.natCast_mul, Int.cast_ofNat_Int]; omega) | decide) only [k_FN_step_1, k_FN_step_3, x_aload, x_getf, w_fall, w_iconst, w_if, x_iload, gf_2_0, w_nret r_FN_step, q_eq, q_ne, q_lt, q_ge, q_gt, q_le, g_I, g_L, g_R, g_V, t_0, t_I, t_R, t_U, t_L, t_s, List.getElem?_cons_zero, List.getElem?_cons_succ, Nat.reduceAdd, zif10, zif01b, zib, if_pos, if_neg, ↓reduceIte, not_true_eq_false, not_false_eq_true, Bool.true_eq_false, Bool.false_eq_true, Classical.not_not, eq_self, and_self, and_true, true_and, Int.reduceEq, Int.reduceLE, Int.reduceLT, Int.reduceNeg, Option.toList, List.cons_append, List.nil_append, zup_s, zup_n, zst_s, zup_zs, zup_zn, decide_true, decide_false, c_Ne_hasJoint hN hC, c_Ne_hasState hC, c0, c1, Int.toNat_natCast, c_Ne_changeTarget hC]
theorem F_FN_letters {d : Nat} {x b : Int} (hN : zNet S P mv tg) (hC : zNetC S P mv tg M) (hL : zLetC lt M) (hd : 4 ≤ d) : zF (zSH Ln) d i_FN_letters [zR 2, zI x, zI b] M fun r M' => r = some (zI (if (0 ≤ x ∧ x < (S : Int)) ∧ (0 ≤ b ∧ b ≤ 255) then (lt x.toNat : Int) else -1)) ∧ M' = (if (0 ≤ x ∧ x < (S : Int)) ∧ (0 ≤ b ∧ b ≤ 255) then zup (zup M 3 2 (zadd (M 3 2) 1)) 8 x b else M) := by
  rw [zF_en k_FN_letters_0 (L := [zR 2, zI x, zI b]) rfl]
  have hS := hN.2.1
  have hP := hN.2.2.2.1
  by_cases c0 : 0 ≤ x ∧ x < (S : Int)
  rotate_left
  · have hGd : ¬ ((0 ≤ x ∧ x < (S : Int)) ∧ (0 ≤ b ∧ b ≤ 255)) := fun z => c0 z.1
    rw [if_neg hGd, if_neg hGd]
    simp (disch := first | omega | exact Nat.le_of_ble_eq_true rfl | assumption | (simp only [Int.natCast_add, Int.natCast_mul, Int.cast_ofNat_Int]; omega) | decide) only [k_FN_letters_3, x_aload, x_getf, w_fall, w_iconst, w_if, w_icmp, x_iload, gf_2_0, w_nret r_FN_letters, q_eq, q_ne, q_lt, q_ge, q_gt, q_le, g_I, g_L, g_R, g_V, t_0, t_I, t_R, t_U, t_L, t_s, List.getElem?_cons_zero, List.getElem?_cons_succ, Nat.reduceAdd, zif10, zif01b, zib, if_pos, if_neg, ↓reduceIte, not_true_eq_false, not_false_eq_true, Bool.true_eq_false, Bool.false_eq_true, Classical.not_not, eq_self, and_self, and_true, true_and, Int.reduceEq, Int.reduceLE, Int.reduceLT, Int.reduceNeg, Option.toList, List.cons_append, List.nil_append, zup_s, zup_n, zst_s, zup_zs, zup_zn, decide_true, decide_false, c_Ne_hasState hC, c0]
  by_cases c1 : 0 ≤ b ∧ b ≤ 255
  rotate_left
  · have hGd : ¬ ((0 ≤ x ∧ x < (S : Int)) ∧ (0 ≤ b ∧ b ≤ 255)) := fun z => c1 z.2
    rw [if_neg hGd, if_neg hGd]
    simp (disch := first | omega | exact Nat.le_of_ble_eq_true rfl | assumption | (simp only [Int.natCast_add, Int.natCast_mul, Int.cast_ofNat_Int]; omega) | decide) only [k_FN_letters_1, k_FN_letters_2, k_FN_letters_3, x_aload, x_getf, w_fall, w_iconst, w_if, w_icmp, x_iload, gf_2_0, w_nret r_FN_letters, q_eq, q_ne, q_lt, q_ge, q_gt, q_le, g_I, g_L, g_R, g_V, t_0, t_I, t_R, t_U, t_L, t_s, List.getElem?_cons_zero, List.getElem?_cons_succ, Nat.reduceAdd, zif10, zif01b, zib, if_pos, if_neg, ↓reduceIte, not_true_eq_false, not_false_eq_true, Bool.true_eq_false, Bool.false_eq_true, Classical.not_not, eq_self, and_self, and_true, true_and, Int.reduceEq, Int.reduceLE, Int.reduceLT, Int.reduceNeg, Option.toList, List.cons_append, List.nil_append, zup_s, zup_n, zst_s, zup_zs, zup_zn, decide_true, decide_false, c_Ne_hasState hC, c0] <;> (repeat' split) <;> first | trivial | (exfalso; omega)
  have hGd : (0 ≤ x ∧ x < (S : Int)) ∧ (0 ≤ b ∧ b ≤ 255) := ⟨c0, c1⟩
  rw [if_pos hGd, if_pos hGd]
  obtain ⟨s, rfl⟩ : ∃ s : Nat, x = (s : Int) := ⟨x.toNat, by omega⟩
  simp only [Int.toNat_natCast] at *
  simp (disch := first | omega | exact Nat.le_of_ble_eq_true rfl | assumption | (simp only [Int.natCast_add, Int.natCast_mul, Int.cast_ofNat_Int]; omega) | decide) only [k_FN_letters_1, k_FN_letters_2, k_FN_letters_4, x_aload, x_getf, w_fall, w_iconst, w_if, w_icmp, x_iload, gf_2_0, w_nret r_FN_letters, q_eq, q_ne, q_lt, q_ge, q_gt, q_le, g_I, g_L, g_R, g_V, t_0, t_I, t_R, t_U, t_L, t_s, List.getElem?_cons_zero, List.getElem?_cons_succ, Nat.reduceAdd, zif10, zif01b, zib, if_pos, if_neg, ↓reduceIte, not_true_eq_false, not_false_eq_true, Bool.true_eq_false, Bool.false_eq_true, Classical.not_not, eq_self, and_self, and_true, true_and, Int.reduceEq, Int.reduceLE, Int.reduceLT, Int.reduceNeg, Option.toList, List.cons_append, List.nil_append, zup_s, zup_n, zst_s, zup_zs, zup_zn, decide_true, decide_false, c_Ne_hasState hC, c0, c1, Int.toNat_natCast, c_Ne_changeLetters hL]
theorem F_FN_moves {d : Nat} {x y m : Int} (hN : zNet S P mv tg) (hC : zNetC S P mv tg M) (hd : 4 ≤ d) : zF (zSH Ln) d i_FN_moves [zR 2, zI x, zI y, zI m] M fun r M' => r = some (zI (if (0 ≤ x ∧ x < (S : Int)) ∧ (0 ≤ y ∧ y < (P : Int)) ∧ (1 ≤ m ∧ m ≤ 3) then (mv x.toNat y.toNat : Int) else -1)) ∧ M' = (if (0 ≤ x ∧ x < (S : Int)) ∧ (0 ≤ y ∧ y < (P : Int)) ∧ (1 ≤ m ∧ m ≤ 3) then zst (zst (zst (zup (zup M 3 2 (zadd (M 3 2) 1)) 4 (x * 4 + y) m) 7 (zrng (M 7) (x.toNat * 81) 81 x)) 5 (zrng (M 5) (x.toNat * 4) 4 0)) 6 (zrng (M 6) (x.toNat * 12) 12 0) else M) := by
  rw [zF_en k_FN_moves_0 (L := [zR 2, zI x, zI y, zI m]) rfl]
  have hS := hN.2.1
  have hP := hN.2.2.2.1
  by_cases c0 : 0 ≤ x ∧ x < (S : Int)
  rotate_left
  · have hGd : ¬ ((0 ≤ x ∧ x < (S : Int)) ∧ (0 ≤ y ∧ y < (P : Int)) ∧ (1 ≤ m ∧ m ≤ 3)) := fun z => c0 z.1
    rw [if_neg hGd, if_neg hGd]
    simp (disch := first | omega | exact Nat.le_of_ble_eq_true rfl | assumption | (simp only [Int.natCast_add, Int.natCast_mul, Int.cast_ofNat_Int]; omega) | decide) only [k_FN_moves_4, x_aload, x_getf, w_fall, w_iconst, w_if, w_icmp, x_iload, gf_2_0, w_nret r_FN_moves, q_eq, q_ne, q_lt, q_ge, q_gt, q_le, g_I, g_L, g_R, g_V, t_0, t_I, t_R, t_U, t_L, t_s, List.getElem?_cons_zero, List.getElem?_cons_succ, Nat.reduceAdd, zif10, zif01b, zib, if_pos, if_neg, ↓reduceIte, not_true_eq_false, not_false_eq_true, Bool.true_eq_false, Bool.false_eq_true, Classical.not_not, eq_self, and_self, and_true, true_and, Int.reduceEq, Int.reduceLE, Int.reduceLT, Int.reduceNeg, Option.toList, List.cons_append, List.nil_append, zup_s, zup_n, zst_s, zup_zs, zup_zn, decide_true, decide_false, c_Ne_hasState hC, c0]
  by_cases c1 : 0 ≤ y ∧ y < (P : Int)
  rotate_left
  · have hGd : ¬ ((0 ≤ x ∧ x < (S : Int)) ∧ (0 ≤ y ∧ y < (P : Int)) ∧ (1 ≤ m ∧ m ≤ 3)) := fun z => c1 z.2.1
    rw [if_neg hGd, if_neg hGd]
    simp (disch := first | omega | exact Nat.le_of_ble_eq_true rfl | assumption | (simp only [Int.natCast_add, Int.natCast_mul, Int.cast_ofNat_Int]; omega) | decide) only [k_FN_moves_1, k_FN_moves_4, x_aload, x_getf, w_fall, w_iconst, w_if, w_icmp, x_iload, gf_2_0, w_nret r_FN_moves, q_eq, q_ne, q_lt, q_ge, q_gt, q_le, g_I, g_L, g_R, g_V, t_0, t_I, t_R, t_U, t_L, t_s, List.getElem?_cons_zero, List.getElem?_cons_succ, Nat.reduceAdd, zif10, zif01b, zib, if_pos, if_neg, ↓reduceIte, not_true_eq_false, not_false_eq_true, Bool.true_eq_false, Bool.false_eq_true, Classical.not_not, eq_self, and_self, and_true, true_and, Int.reduceEq, Int.reduceLE, Int.reduceLT, Int.reduceNeg, Option.toList, List.cons_append, List.nil_append, zup_s, zup_n, zst_s, zup_zs, zup_zn, decide_true, decide_false, c_Ne_hasState hC, c_Ne_hasPlayer hC, c0, c1]
  by_cases c2 : 1 ≤ m ∧ m ≤ 3
  rotate_left
  · have hGd : ¬ ((0 ≤ x ∧ x < (S : Int)) ∧ (0 ≤ y ∧ y < (P : Int)) ∧ (1 ≤ m ∧ m ≤ 3)) := fun z => c2 z.2.2
    rw [if_neg hGd, if_neg hGd]
    simp (disch := first | omega | exact Nat.le_of_ble_eq_true rfl | assumption | (simp only [Int.natCast_add, Int.natCast_mul, Int.cast_ofNat_Int]; omega) | decide) only [k_FN_moves_1, k_FN_moves_2, k_FN_moves_3, k_FN_moves_4, x_aload, x_getf, w_fall, w_iconst, w_if, w_icmp, x_iload, gf_2_0, w_nret r_FN_moves, q_eq, q_ne, q_lt, q_ge, q_gt, q_le, g_I, g_L, g_R, g_V, t_0, t_I, t_R, t_U, t_L, t_s, List.getElem?_cons_zero, List.getElem?_cons_succ, Nat.reduceAdd, zif10, zif01b, zib, if_pos, if_neg, ↓reduceIte, not_true_eq_false, not_false_eq_true, Bool.true_eq_false, Bool.false_eq_true, Classical.not_not, eq_self, and_self, and_true, true_and, Int.reduceEq, Int.reduceLE, Int.reduceLT, Int.reduceNeg, Option.toList, List.cons_append, List.nil_append, zup_s, zup_n, zst_s, zup_zs, zup_zn, decide_true, decide_false, c_Ne_hasState hC, c_Ne_hasPlayer hC, c0, c1] <;> (repeat' split) <;> first | trivial | (exfalso; omega)
  have hGd : (0 ≤ x ∧ x < (S : Int)) ∧ (0 ≤ y ∧ y < (P : Int)) ∧ (1 ≤ m ∧ m ≤ 3) := ⟨c0, c1, c2⟩
  rw [if_pos hGd, if_pos hGd]
  obtain ⟨s, rfl⟩ : ∃ s : Nat, x = (s : Int) := ⟨x.toNat, by omega⟩
  obtain ⟨p, rfl⟩ : ∃ p : Nat, y = (p : Int) := ⟨y.toNat, by omega⟩
  simp only [Int.toNat_natCast] at *
  simp (disch := first | omega | exact Nat.le_of_ble_eq_true rfl | assumption | (simp only [Int.natCast_add, Int.natCast_mul, Int.cast_ofNat_Int]; omega) | decide) only [k_FN_moves_1, k_FN_moves_2, k_FN_moves_3, k_FN_moves_5, x_aload, x_getf, w_fall, w_iconst, w_if, w_icmp, x_iload, gf_2_0, w_nret r_FN_moves, q_eq, q_ne, q_lt, q_ge, q_gt, q_le, g_I, g_L, g_R, g_V, t_0, t_I, t_R, t_U, t_L, t_s, List.getElem?_cons_zero, List.getElem?_cons_succ, Nat.reduceAdd, zif10, zif01b, zib, if_pos, if_neg, ↓reduceIte, not_true_eq_false, not_false_eq_true, Bool.true_eq_false, Bool.false_eq_true, Classical.not_not, eq_self, and_self, and_true, true_and, Int.reduceEq, Int.reduceLE, Int.reduceLT, Int.reduceNeg, Option.toList, List.cons_append, List.nil_append, zup_s, zup_n, zst_s, zup_zs, zup_zn, decide_true, decide_false, c_Ne_hasState hC, c_Ne_hasPlayer hC, c0, c1, c2, Int.toNat_natCast, c_Ne_changeMoves hC]
theorem F_FN_price {d : Nat} {x y z v : Int} (hN : zNet S P mv tg) (hC : zNetC S P mv tg M) (hQ : zPrC pr M) (hd : 3 ≤ d) : zF (zSH Ln) d i_FN_price [zR 2, zI x, zI y, zI z, zI v] M fun r M' => r = some (zI (if (0 ≤ x ∧ x < (S : Int)) ∧ (0 ≤ y ∧ y < (P : Int)) ∧ (0 ≤ z ∧ z < (mv x.toNat y.toNat : Int)) ∧ 0 ≤ v ∧ v ≤ 9 then (pr x.toNat y.toNat z.toNat : Int) else -1)) ∧ M' = (if (0 ≤ x ∧ x < (S : Int)) ∧ (0 ≤ y ∧ y < (P : Int)) ∧ (0 ≤ z ∧ z < (mv x.toNat y.toNat : Int)) ∧ 0 ≤ v ∧ v ≤ 9 then zup M 6 ((x * 4 + y) * 3 + z) v else M) := by
  rw [zF_en k_FN_price_0 (L := [zR 2, zI x, zI y, zI z, zI v]) rfl]
  have hS := hN.2.1
  have hP := hN.2.2.2.1
  by_cases c : (0 ≤ x ∧ x < (S : Int)) ∧ (0 ≤ y ∧ y < (P : Int)) ∧ (0 ≤ z ∧ z < (mv x.toNat y.toNat : Int)) ∧ 0 ≤ v ∧ v ≤ 9
  · have c' : (0 ≤ x ∧ x < (S : Int)) ∧ (0 ≤ y ∧ y < (P : Int)) ∧ 0 ≤ z ∧ z < (mv x.toNat y.toNat : Int) := ⟨c.1, c.2.1, c.2.2.1⟩
    rw [if_pos c, if_pos c]
    obtain ⟨p, rfl⟩ : ∃ p : Nat, y = (p : Int) := ⟨y.toNat, by omega⟩
    obtain ⟨s, rfl⟩ : ∃ s : Nat, x = (s : Int) := ⟨x.toNat, by omega⟩
    obtain ⟨a, rfl⟩ : ∃ a : Nat, z = (a : Int) := ⟨z.toNat, by omega⟩
    have hm3 := hN.2.2.2.2.1 s p
    simp only [Int.toNat_natCast] at *
    have hq := hQ s p a (by omega) (by omega) (by omega)
    simp (disch := first | omega | exact Nat.le_of_ble_eq_true rfl | assumption | (simp only [Int.natCast_add, Int.natCast_mul, Int.cast_ofNat_Int]; omega) | decide) only [k_FN_price_1, k_FN_price_2, k_FN_price_4, x_aload, x_getf, w_fall, w_iadd, w_iconst, w_if, w_icmp, x_iload, w_imul, zadd_eq, zmul_eq, gf_3_5, gf_2_0, sw_6, w_nret r_FN_price, q_eq, q_ne, q_lt, q_ge, q_gt, q_le, g_I, g_L, g_R, g_V, t_0, t_I, t_R, t_U, t_L, t_s, List.getElem?_cons_zero, List.getElem?_cons_succ, Nat.reduceAdd, zif10, zif01b, zib, if_pos, if_neg, ↓reduceIte, not_true_eq_false, not_false_eq_true, Bool.true_eq_false, Bool.false_eq_true, Classical.not_not, eq_self, and_self, and_true, true_and, Int.reduceEq, Int.reduceLE, Int.reduceLT, Int.reduceNeg, Option.toList, List.cons_append, List.nil_append, zup_s, zup_n, zst_s, zup_zs, zup_zn, decide_true, decide_false, c_Ne_hasMove hN hC, Int.toNat_natCast, c', hq]
  · rw [if_neg c, if_neg c]
    by_cases c' : (0 ≤ x ∧ x < (S : Int)) ∧ (0 ≤ y ∧ y < (P : Int)) ∧ 0 ≤ z ∧ z < (mv x.toNat y.toNat : Int)
    · have cv : ¬ (0 ≤ v ∧ v ≤ 9) := fun h => c ⟨c'.1, c'.2.1, c'.2.2, h⟩
      simp (disch := first | omega | exact Nat.le_of_ble_eq_true rfl | assumption | (simp only [Int.natCast_add, Int.natCast_mul, Int.cast_ofNat_Int]; omega) | decide) only [k_FN_price_1, k_FN_price_2, k_FN_price_3, x_aload, x_getf, w_fall, w_iadd, w_iconst, w_if, w_icmp, x_iload, w_imul, zadd_eq, zmul_eq, gf_3_5, gf_2_0, sw_6, w_nret r_FN_price, q_eq, q_ne, q_lt, q_ge, q_gt, q_le, g_I, g_L, g_R, g_V, t_0, t_I, t_R, t_U, t_L, t_s, List.getElem?_cons_zero, List.getElem?_cons_succ, Nat.reduceAdd, zif10, zif01b, zib, if_pos, if_neg, ↓reduceIte, not_true_eq_false, not_false_eq_true, Bool.true_eq_false, Bool.false_eq_true, Classical.not_not, eq_self, and_self, and_true, true_and, Int.reduceEq, Int.reduceLE, Int.reduceLT, Int.reduceNeg, Option.toList, List.cons_append, List.nil_append, zup_s, zup_n, zst_s, zup_zs, zup_zn, decide_true, decide_false, c_Ne_hasMove hN hC, c'] <;> (repeat' split) <;> first | trivial | (exfalso; omega)
    · simp (disch := first | omega | exact Nat.le_of_ble_eq_true rfl | assumption | (simp only [Int.natCast_add, Int.natCast_mul, Int.cast_ofNat_Int]; omega) | decide) only [k_FN_price_3, x_aload, x_getf, w_fall, w_iadd, w_iconst, w_if, w_icmp, x_iload, w_imul, zadd_eq, zmul_eq, gf_3_5, gf_2_0, sw_6, w_nret r_FN_price, q_eq, q_ne, q_lt, q_ge, q_gt, q_le, g_I, g_L, g_R, g_V, t_0, t_I, t_R, t_U, t_L, t_s, List.getElem?_cons_zero, List.getElem?_cons_succ, Nat.reduceAdd, zif10, zif01b, zib, if_pos, if_neg, ↓reduceIte, not_true_eq_false, not_false_eq_true, Bool.true_eq_false, Bool.false_eq_true, Classical.not_not, eq_self, and_self, and_true, true_and, Int.reduceEq, Int.reduceLE, Int.reduceLT, Int.reduceNeg, Option.toList, List.cons_append, List.nil_append, zup_s, zup_n, zst_s, zup_zs, zup_zn, decide_true, decide_false, c_Ne_hasMove hN hC, c']
theorem F_FN_joint {d : Nat} {x g : Int} (hN : zNet S P mv tg) (hC : zNetC S P mv tg M) (hd : 3 ≤ d) : zF (zSH Ln) d i_FN_joint [zR 2, zI x, zI g] M fun r M' => r = some (zI (zJoA S P mv x g)) ∧ M' = M := by
  rw [zF_en k_FN_joint_0 (L := [zR 2, zI x, zI g]) rfl]
  have hS := hN.2.1
  generalize hans : zJoA S P mv x g = ans
  unfold zJoA at hans
  by_cases c1 : 0 ≤ x ∧ x < S
  · by_cases c2 : 0 ≤ g ∧ g ≤ zset P fun _ => true
    · rw [if_pos ⟨c1, c2⟩] at hans
      obtain ⟨s, rfl⟩ : ∃ s : Nat, x = (s : Int) := ⟨x.toNat, by omega⟩
      rw [Int.toNat_natCast] at hans
      subst hans
      simp (disch := first | omega | exact Nat.le_of_ble_eq_true rfl | assumption | (simp only [Int.natCast_add, Int.natCast_mul, Int.cast_ofNat_Int]; omega) | decide) only [k_FN_joint_1, k_FN_joint_3, x_aload, x_getf, w_fall, w_iconst, w_if, x_iload, gf_2_0, w_nret r_FN_joint, q_eq, q_ne, q_lt, q_ge, q_gt, q_le, g_I, g_L, g_R, g_V, t_0, t_I, t_R, t_U, t_L, t_s, List.getElem?_cons_zero, List.getElem?_cons_succ, Nat.reduceAdd, zif10, zif01b, zib, if_pos, if_neg, ↓reduceIte, not_true_eq_false, not_false_eq_true, Bool.true_eq_false, Bool.false_eq_true, Classical.not_not, eq_self, and_self, and_true, true_and, Int.reduceEq, Int.reduceLE, Int.reduceLT, Int.reduceNeg, Option.toList, List.cons_append, List.nil_append, zup_s, zup_n, zst_s, zup_zs, zup_zn, decide_true, decide_false, c_Ne_hasState hC, c_Ne_hasGroup hN hC, c1, c2, c_Ne_ways hN hC]
    · rw [if_neg (fun z => c2 z.2)] at hans
      subst hans
      simp (disch := first | omega | exact Nat.le_of_ble_eq_true rfl | assumption | (simp only [Int.natCast_add, Int.natCast_mul, Int.cast_ofNat_Int]; omega) | decide) only [k_FN_joint_1, k_FN_joint_2, x_aload, x_getf, w_fall, w_iconst, w_if, x_iload, gf_2_0, w_nret r_FN_joint, q_eq, q_ne, q_lt, q_ge, q_gt, q_le, g_I, g_L, g_R, g_V, t_0, t_I, t_R, t_U, t_L, t_s, List.getElem?_cons_zero, List.getElem?_cons_succ, Nat.reduceAdd, zif10, zif01b, zib, if_pos, if_neg, ↓reduceIte, not_true_eq_false, not_false_eq_true, Bool.true_eq_false, Bool.false_eq_true, Classical.not_not, eq_self, and_self, and_true, true_and, Int.reduceEq, Int.reduceLE, Int.reduceLT, Int.reduceNeg, Option.toList, List.cons_append, List.nil_append, zup_s, zup_n, zst_s, zup_zs, zup_zn, decide_true, decide_false, c_Ne_hasState hC, c_Ne_hasGroup hN hC, c1, c2]
  · rw [if_neg (fun z => c1 z.1)] at hans
    subst hans
    simp (disch := first | omega | exact Nat.le_of_ble_eq_true rfl | assumption | (simp only [Int.natCast_add, Int.natCast_mul, Int.cast_ofNat_Int]; omega) | decide) only [k_FN_joint_2, x_aload, x_getf, w_fall, w_iconst, w_if, x_iload, gf_2_0, w_nret r_FN_joint, q_eq, q_ne, q_lt, q_ge, q_gt, q_le, g_I, g_L, g_R, g_V, t_0, t_I, t_R, t_U, t_L, t_s, List.getElem?_cons_zero, List.getElem?_cons_succ, Nat.reduceAdd, zif10, zif01b, zib, if_pos, if_neg, ↓reduceIte, not_true_eq_false, not_false_eq_true, Bool.true_eq_false, Bool.false_eq_true, Classical.not_not, eq_self, and_self, and_true, true_and, Int.reduceEq, Int.reduceLE, Int.reduceLT, Int.reduceNeg, Option.toList, List.cons_append, List.nil_append, zup_s, zup_n, zst_s, zup_zs, zup_zn, decide_true, decide_false, c_Ne_hasState hC, c1]
end FC
