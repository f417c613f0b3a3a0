/-! the class's face: calls that ask where the form holds -/
def zScrC (M M' : Nat → Int → Int) : Prop := zKp [15, 16, 17, 18, 19, 20, 21, 30, 32, 33, 34, 35, 36, 37, 38, 39, 40, 43] M M' ∧ M' 36 1 = M 36 1
def zOutC (S P n : Nat) (mv tg : Nat → Nat → Nat) (lt kd lf rt gp : Nat → Nat) (M M' : Nat → Int → Int) : Prop := zScrC M M' ∧ zTabI S P mv tg M' ∧ zLawI S P n mv tg lt kd lf rt gp M' ∧ (M' 15 5 = M 15 5 ∨ M' 15 5 = M 3 2) ∧ (M' 19 5 = M 19 5 ∨ M' 19 5 = M 3 2 ∨ M' 19 5 = -1) ∧ (M' 19 6 = M 19 6 ∨ M' 19 6 = M 10 1)
section FC
variable {Ln S P n : Nat} {mv tg hp ch : Nat → Nat → Nat} {lt kd lf rt gp : Nat → Nat} {pr : Nat → Nat → Nat → Nat} {gl : Nat → Nat → Bool} {M : Nat → Int → Int}
theorem zOutC_rf (hT : zTabI S P mv tg M) (hI : zLawI S P n mv tg lt kd lf rt gp M) : zOutC S P n mv tg lt kd lf rt gp M M := ⟨⟨zKp_rf _ _, rfl⟩, hT, hI, Or.inl rfl, Or.inl rfl, Or.inl rfl⟩
theorem zOutC_of {M1 : Nat → Int → Int} (hk : zKp [15, 16, 17, 18, 19, 20, 21] M M1 ∧ (M1 15 5 = M 15 5 ∨ M1 15 5 = M 3 2)) (hT1 : zTabI S P mv tg M1) (h5 : M1 19 5 = M 3 2) (h6 : M1 19 6 = M 10 1) (hW : zLawC S P n mv tg lt kd lf rt gp M1) : zOutC S P n mv tg lt kd lf rt gp M M1 := ⟨⟨zKp_mo hk.1 (by decide), by rw [hk.1 36 (by decide)]⟩, hT1, fun _ _ => hW, hk.2, Or.inr (Or.inl h5), Or.inr h6⟩
theorem zOutC_st {M1 : Nat → Int → Int} {k : Nat} {F : Int → Int} (hk : k ∈ [30, 32, 33, 34, 35, 37, 38, 39, 40, 43]) (h : zOutC S P n mv tg lt kd lf rt gp M M1) : zOutC S P n mv tg lt kd lf rt gp M (zst M1 k F) := by
  obtain ⟨⟨h1, h2⟩, h3, h4, h5, h6, h7⟩ := h
  have hn : ∀ j, j ∈ [3, 10, 15, 16, 17, 19, 20, 21, 36] → zst M1 k F j = M1 j := fun j hj => zst_n (fun e => by subst e; revert hk hj; simp; omega)
  refine ⟨⟨zKp_st (by revert hk; simp; omega) h1, by rw [hn 36 (by decide)]; exact h2⟩, ?_, ?_, ?_, ?_, ?_⟩
  · intro h
    rw [hn 15 (by decide), hn 3 (by decide)] at h
    have := h3 h
    rw [hn 15 (by decide)]
    exact zTabC_k this (hn 16 (by decide)) (hn 17 (by decide))
  · intro ha hb
    rw [hn 19 (by decide), hn 3 (by decide)] at ha
    rw [hn 19 (by decide), hn 10 (by decide)] at hb
    obtain ⟨q1, q2, q3⟩ := h4 ha hb
    exact ⟨by rw [hn 20 (by decide)]; exact q1, by rw [hn 21 (by decide)]; exact q2, fun h => zTabC_k (q3 h) (hn 16 (by decide)) (hn 17 (by decide))⟩
  · rw [hn 15 (by decide)]; exact h5
  · rw [hn 19 (by decide)]; exact h6
  · rw [hn 19 (by decide)]; exact h7

theorem F_FN_holds {d : Nat} (hN : zNet S P mv tg) (hC : zNetC S P mv tg M) (hL : zLetC lt M) (hlt : ∀ s, lt s < 256) (hF : zForm P n kd lf rt gp) (hFC : zFormC n kd lf rt gp M) (hT : zTabI S P mv tg M) (hI : zLawI S P n mv tg lt kd lf rt gp M) (hd : 7 ≤ d) : zF (zSH Ln) d i_FN_holds [zR 2] M fun r M' => r = some (zI (zset S (zHp mv tg P lt kd lf rt gp 0))) ∧ zOutC S P n mv tg lt kd lf rt gp M M' := by
  rw [zF_en k_FN_holds_0 (L := [zR 2]) rfl]
  have hn := hF.1
  simp (disch := first | omega | exact Nat.le_of_ble_eq_true rfl | assumption | (simp only [Int.natCast_add, Int.natCast_mul, Int.cast_ofNat_Int]; omega) | decide) only [x_aload, x_getf, gf_2_3, w_nret r_FN_holds, q_eq, q_ne, q_lt, q_ge, q_gt, q_le, g_I, g_L, g_R, g_V, t_0, t_I, t_R, t_U, t_L, t_s, List.getElem?_cons_zero, List.getElem?_cons_succ, Nat.reduceAdd, zif10, zif01b, zib, if_pos, if_neg, ↓reduceIte, not_true_eq_false, not_false_eq_true, Bool.true_eq_false, Bool.false_eq_true, Classical.not_not, eq_self, and_self, and_true, true_and, Int.reduceEq, Int.reduceLE, Int.reduceLT, Int.reduceNeg, Option.toList, List.cons_append, List.nil_append, zup_s, zup_n, zst_s, zup_zs, zup_zn, decide_true, decide_false]
  refine c_La_refresh hN hC hL hlt hF hFC hT hI (by omega) (Nat.le_of_ble_eq_true rfl) ?_
  rintro _ M1 ⟨rfl, hk, hT1, hv15, hv5, hv6, hW⟩
  have hout : zOutC S P n mv tg lt kd lf rt gp M M1 := zOutC_of ⟨hk, hv15⟩ hT1 hv5 hv6 hW
  have h20 : M1 20 0 = zset S (zHp mv tg P lt kd lf rt gp 0) := hW.1 0 hn
  have hC1 : zNetC S P mv tg M1 := zNetC_k hC (hk 3 (by decide)) (hk 4 (by decide)) (hk 7 (by decide))
  have hFC1 : zFormC n kd lf rt gp M1 := zFormC_k hFC (by rw [hk 10 (by decide)]) (hk 11 (by decide)) (hk 12 (by decide)) (hk 13 (by decide)) (hk 14 (by decide))
  simp (disch := first | omega | exact Nat.le_of_ble_eq_true rfl | assumption | (simp only [Int.natCast_add, Int.natCast_mul, Int.cast_ofNat_Int]; omega) | decide) only [x_aload, x_getf, gf_2_3, w_nret r_FN_holds, q_eq, q_ne, q_lt, q_ge, q_gt, q_le, g_I, g_L, g_R, g_V, t_0, t_I, t_R, t_U, t_L, t_s, List.getElem?_cons_zero, List.getElem?_cons_succ, Nat.reduceAdd, zif10, zif01b, zib, if_pos, if_neg, ↓reduceIte, not_true_eq_false, not_false_eq_true, Bool.true_eq_false, Bool.false_eq_true, Classical.not_not, eq_self, and_self, and_true, true_and, Int.reduceEq, Int.reduceLE, Int.reduceLT, Int.reduceNeg, Option.toList, List.cons_append, List.nil_append, zup_s, zup_n, zst_s, zup_zs, zup_zn, decide_true, decide_false, c_La_whole, h20]
  exact hout
theorem F_FN_part {d : Nat} {k : Int} (hN : zNet S P mv tg) (hC : zNetC S P mv tg M) (hL : zLetC lt M) (hlt : ∀ s, lt s < 256) (hF : zForm P n kd lf rt gp) (hFC : zFormC n kd lf rt gp M) (hT : zTabI S P mv tg M) (hI : zLawI S P n mv tg lt kd lf rt gp M) (hd : 7 ≤ d) : zF (zSH Ln) d i_FN_part [zR 2, zI k] M fun r M' => r = some (zI (zPaA S n mv tg P lt kd lf rt gp k)) ∧ zOutC S P n mv tg lt kd lf rt gp M M' := by
  rw [zF_en k_FN_part_0 (L := [zR 2, zI k]) rfl]
  have hn := hF.1
  have hn2 := hF.2.1
  generalize hans : zPaA S n mv tg P lt kd lf rt gp k = ans
  unfold zPaA at hans
  by_cases c1 : 0 ≤ k ∧ k < n
  · rw [if_pos c1] at hans
    obtain ⟨j, rfl⟩ : ∃ j : Nat, k = (j : Int) := ⟨k.toNat, by omega⟩
    rw [Int.toNat_natCast] at hans
    simp (disch := first | omega | exact Nat.le_of_ble_eq_true rfl | assumption | (simp only [Int.natCast_add, Int.natCast_mul, Int.cast_ofNat_Int]; omega) | decide) only [k_FN_part_1, k_FN_part_3, x_aload, x_getf, w_fall, w_iconst, w_if, w_icmp, x_iload, gf_10_0, gf_24_0, gf_19_3, gf_2_1, gf_2_3, at_20, ao_20, w_nret r_FN_part, q_eq, q_ne, q_lt, q_ge, q_gt, q_le, g_I, g_L, g_R, g_V, t_0, t_I, t_R, t_U, t_L, t_s, List.getElem?_cons_zero, List.getElem?_cons_succ, Nat.reduceAdd, zif10, zif01b, zib, if_pos, if_neg, ↓reduceIte, not_true_eq_false, not_false_eq_true, Bool.true_eq_false, Bool.false_eq_true, Classical.not_not, eq_self, and_self, and_true, true_and, Int.reduceEq, Int.reduceLE, Int.reduceLT, Int.reduceNeg, Option.toList, List.cons_append, List.nil_append, zup_s, zup_n, zst_s, zup_zs, zup_zn, decide_true, decide_false, hFC.1]
    refine c_La_refresh hN hC hL hlt hF hFC hT hI (by omega) (Nat.le_of_ble_eq_true rfl) ?_
    rintro _ M1 ⟨rfl, hk, hT1, hv15, hv5, hv6, hW⟩
    have hout : zOutC S P n mv tg lt kd lf rt gp M M1 := zOutC_of ⟨hk, hv15⟩ hT1 hv5 hv6 hW
    have h20 : M1 20 0 = zset S (zHp mv tg P lt kd lf rt gp 0) := hW.1 0 hn
    have hC1 : zNetC S P mv tg M1 := zNetC_k hC (hk 3 (by decide)) (hk 4 (by decide)) (hk 7 (by decide))
    have hFC1 : zFormC n kd lf rt gp M1 := zFormC_k hFC (by rw [hk 10 (by decide)]) (hk 11 (by decide)) (hk 12 (by decide)) (hk 13 (by decide)) (hk 14 (by decide))
    have hj := hW.1 j (by omega)
    simp (disch := first | omega | exact Nat.le_of_ble_eq_true rfl | assumption | (simp only [Int.natCast_add, Int.natCast_mul, Int.cast_ofNat_Int]; omega) | decide) only [x_aload, x_getf, w_fall, w_iconst, w_if, w_icmp, x_iload, gf_10_0, gf_24_0, gf_19_3, gf_2_1, gf_2_3, at_20, ao_20, w_nret r_FN_part, q_eq, q_ne, q_lt, q_ge, q_gt, q_le, g_I, g_L, g_R, g_V, t_0, t_I, t_R, t_U, t_L, t_s, List.getElem?_cons_zero, List.getElem?_cons_succ, Nat.reduceAdd, zif10, zif01b, zib, if_pos, if_neg, ↓reduceIte, not_true_eq_false, not_false_eq_true, Bool.true_eq_false, Bool.false_eq_true, Classical.not_not, eq_self, and_self, and_true, true_and, Int.reduceEq, Int.reduceLE, Int.reduceLT, Int.reduceNeg, Option.toList, List.cons_append, List.nil_append, zup_s, zup_n, zst_s, zup_zs, zup_zn, decide_true, decide_false, gf_19_3, at_20, hj, hans]
    exact hout
  · rw [if_neg c1] at hans
    subst hans
    by_cases c2 : k < 0
    · simp (disch := first | omega | exact Nat.le_of_ble_eq_true rfl | assumption | (simp only [Int.natCast_add, Int.natCast_mul, Int.cast_ofNat_Int]; omega) | decide) only [k_FN_part_2, x_aload, x_getf, w_fall, w_iconst, w_if, w_icmp, x_iload, gf_10_0, gf_24_0, gf_19_3, gf_2_1, gf_2_3, at_20, ao_20, w_nret r_FN_part, q_eq, q_ne, q_lt, q_ge, q_gt, q_le, g_I, g_L, g_R, g_V, t_0, t_I, t_R, t_U, t_L, t_s, List.getElem?_cons_zero, List.getElem?_cons_succ, Nat.reduceAdd, zif10, zif01b, zib, if_pos, if_neg, ↓reduceIte, not_true_eq_false, not_false_eq_true, Bool.true_eq_false, Bool.false_eq_true, Classical.not_not, eq_self, and_self, and_true, true_and, Int.reduceEq, Int.reduceLE, Int.reduceLT, Int.reduceNeg, Option.toList, List.cons_append, List.nil_append, zup_s, zup_n, zst_s, zup_zs, zup_zn, decide_true, decide_false, c2]
      exact zOutC_rf hT hI
    · simp (disch := first | omega | exact Nat.le_of_ble_eq_true rfl | assumption | (simp only [Int.natCast_add, Int.natCast_mul, Int.cast_ofNat_Int]; omega) | decide) only [k_FN_part_1, k_FN_part_2, x_aload, x_getf, w_fall, w_iconst, w_if, w_icmp, x_iload, gf_10_0, gf_24_0, gf_19_3, gf_2_1, gf_2_3, at_20, ao_20, w_nret r_FN_part, q_eq, q_ne, q_lt, q_ge, q_gt, q_le, g_I, g_L, g_R, g_V, t_0, t_I, t_R, t_U, t_L, t_s, List.getElem?_cons_zero, List.getElem?_cons_succ, Nat.reduceAdd, zif10, zif01b, zib, if_pos, if_neg, ↓reduceIte, not_true_eq_false, not_false_eq_true, Bool.true_eq_false, Bool.false_eq_true, Classical.not_not, eq_self, and_self, and_true, true_and, Int.reduceEq, Int.reduceLE, Int.reduceLT, Int.reduceNeg, Option.toList, List.cons_append, List.nil_append, zup_s, zup_n, zst_s, zup_zs, zup_zn, decide_true, decide_false, hFC.1]
      exact zOutC_rf hT hI
theorem F_FN_round {d : Nat} {x : Int} (hN : zNet S P mv tg) (hC : zNetC S P mv tg M) (hL : zLetC lt M) (hlt : ∀ s, lt s < 256) (hF : zForm P n kd lf rt gp) (hFC : zFormC n kd lf rt gp M) (hT : zTabI S P mv tg M) (hI : zLawI S P n mv tg lt kd lf rt gp M) (hd : 7 ≤ d) : zF (zSH Ln) d i_FN_round [zR 2, zI x] M fun r M' => r = some (zI (zRoA S P mv tg lt kd lf rt gp x)) ∧ zOutC S P n mv tg lt kd lf rt gp M M' := by
  rw [zF_en k_FN_round_0 (L := [zR 2, zI x]) rfl]
  have hn := hF.1
  have hn2 := hF.2.1
  have hS := hN.2.1
  have hkk : M 11 0 = (kd 0 : Int) := (hFC.2 0 hn).1
  generalize hans : zRoA S P mv tg lt kd lf rt gp x = ans
  unfold zRoA at hans
  by_cases c1 : 0 ≤ x ∧ x < S
  rotate_left
  · rw [if_neg c1] at hans
    subst hans
    simp (disch := first | omega | exact Nat.le_of_ble_eq_true rfl | assumption | (simp only [Int.natCast_add, Int.natCast_mul, Int.cast_ofNat_Int]; omega) | decide) only [k_FN_round_1, x_aload, x_getf, w_goto, w_fall, w_iconst, w_if, x_iload, gf_19_4, gf_2_0, gf_2_1, gf_2_3, at_21, ao_21, w_nret r_FN_round, q_eq, q_ne, q_lt, q_ge, q_gt, q_le, g_I, g_L, g_R, g_V, t_0, t_I, t_R, t_U, t_L, t_s, List.getElem?_cons_zero, List.getElem?_cons_succ, Nat.reduceAdd, zif10, zif01b, zib, if_pos, if_neg, ↓reduceIte, not_true_eq_false, not_false_eq_true, Bool.true_eq_false, Bool.false_eq_true, Classical.not_not, eq_self, and_self, and_true, true_and, Int.reduceEq, Int.reduceLE, Int.reduceLT, Int.reduceNeg, Option.toList, List.cons_append, List.nil_append, zup_s, zup_n, zst_s, zup_zs, zup_zn, decide_true, decide_false, c_Ne_hasState hC, c1]
    exact zOutC_rf hT hI
  rw [if_pos c1] at hans
  obtain ⟨s, rfl⟩ : ∃ s : Nat, x = (s : Int) := ⟨x.toNat, by omega⟩
  rw [Int.toNat_natCast] at hans
  by_cases c2 : 7 ≤ kd 0
  rotate_left
  · have c2' : ¬ ((7 : Int) ≤ (kd 0 : Int)) := by omega
    rw [if_neg c2] at hans
    subst hans
    simp (disch := first | omega | exact Nat.le_of_ble_eq_true rfl | assumption | (simp only [Int.natCast_add, Int.natCast_mul, Int.cast_ofNat_Int]; omega) | decide) only [k_FN_round_2, k_FN_round_3, x_aload, x_getf, w_goto, w_fall, w_iconst, w_if, x_iload, gf_19_4, gf_2_0, gf_2_1, gf_2_3, at_21, ao_21, w_nret r_FN_round, q_eq, q_ne, q_lt, q_ge, q_gt, q_le, g_I, g_L, g_R, g_V, t_0, t_I, t_R, t_U, t_L, t_s, List.getElem?_cons_zero, List.getElem?_cons_succ, Nat.reduceAdd, zif10, zif01b, zib, if_pos, if_neg, ↓reduceIte, not_true_eq_false, not_false_eq_true, Bool.true_eq_false, Bool.false_eq_true, Classical.not_not, eq_self, and_self, and_true, true_and, Int.reduceEq, Int.reduceLE, Int.reduceLT, Int.reduceNeg, Option.toList, List.cons_append, List.nil_append, zup_s, zup_n, zst_s, zup_zs, zup_zn, decide_true, decide_false, c_Ne_hasState hC, c1, c_Fo_hasRounds hkk, c2']
    exact zOutC_rf hT hI
  have c2' : ((7 : Int) ≤ (kd 0 : Int)) := by omega
  rw [if_pos c2] at hans
  simp (disch := first | omega | exact Nat.le_of_ble_eq_true rfl | assumption | (simp only [Int.natCast_add, Int.natCast_mul, Int.cast_ofNat_Int]; omega) | decide) only [k_FN_round_2, k_FN_round_4, x_aload, x_getf, w_goto, w_fall, w_iconst, w_if, x_iload, gf_19_4, gf_2_0, gf_2_1, gf_2_3, at_21, ao_21, w_nret r_FN_round, q_eq, q_ne, q_lt, q_ge, q_gt, q_le, g_I, g_L, g_R, g_V, t_0, t_I, t_R, t_U, t_L, t_s, List.getElem?_cons_zero, List.getElem?_cons_succ, Nat.reduceAdd, zif10, zif01b, zib, if_pos, if_neg, ↓reduceIte, not_true_eq_false, not_false_eq_true, Bool.true_eq_false, Bool.false_eq_true, Classical.not_not, eq_self, and_self, and_true, true_and, Int.reduceEq, Int.reduceLE, Int.reduceLT, Int.reduceNeg, Option.toList, List.cons_append, List.nil_append, zup_s, zup_n, zst_s, zup_zs, zup_zn, decide_true, decide_false, c_Ne_hasState hC, c1, c_Fo_hasRounds hkk, c2']
  refine c_La_refresh hN hC hL hlt hF hFC hT hI (by omega) (Nat.le_of_ble_eq_true rfl) ?_
  rintro _ M1 ⟨rfl, hk, hT1, hv15, hv5, hv6, hW⟩
  have hout : zOutC S P n mv tg lt kd lf rt gp M M1 := zOutC_of ⟨hk, hv15⟩ hT1 hv5 hv6 hW
  have h20 : M1 20 0 = zset S (zHp mv tg P lt kd lf rt gp 0) := hW.1 0 hn
  have hC1 : zNetC S P mv tg M1 := zNetC_k hC (hk 3 (by decide)) (hk 4 (by decide)) (hk 7 (by decide))
  have hFC1 : zFormC n kd lf rt gp M1 := zFormC_k hFC (by rw [hk 10 (by decide)]) (hk 11 (by decide)) (hk 12 (by decide)) (hk 13 (by decide)) (hk 14 (by decide))
  have hr := hW.2.1 c2 s (by omega)
  have hiff := zRd_iff (lt := lt) hN hF c2 (show s < S by omega)
  cases hb : zHp mv tg P lt kd lf rt gp 0 s
  · rw [hb, if_neg (by decide)] at hans
    subst hans
    simp (disch := first | omega | exact Nat.le_of_ble_eq_true rfl | assumption | (simp only [Int.natCast_add, Int.natCast_mul, Int.cast_ofNat_Int]; omega) | decide) only [k_FN_round_6, k_FN_round_7, x_aload, x_getf, w_goto, w_fall, w_iconst, w_if, x_iload, gf_19_4, gf_2_0, gf_2_1, gf_2_3, at_21, ao_21, w_nret r_FN_round, q_eq, q_ne, q_lt, q_ge, q_gt, q_le, g_I, g_L, g_R, g_V, t_0, t_I, t_R, t_U, t_L, t_s, List.getElem?_cons_zero, List.getElem?_cons_succ, Nat.reduceAdd, zif10, zif01b, zib, if_pos, if_neg, ↓reduceIte, not_true_eq_false, not_false_eq_true, Bool.true_eq_false, Bool.false_eq_true, Classical.not_not, eq_self, and_self, and_true, true_and, Int.reduceEq, Int.reduceLE, Int.reduceLT, Int.reduceNeg, Option.toList, List.cons_append, List.nil_append, zup_s, zup_n, zst_s, zup_zs, zup_zn, decide_true, decide_false, c_La_whole, h20, c_hasS, hb]
    exact hout
  · rw [zneg1, if_pos (hiff.mp hb)] at hr
    rw [hb, if_pos rfl] at hans
    subst hans
    simp (disch := first | omega | exact Nat.le_of_ble_eq_true rfl | assumption | (simp only [Int.natCast_add, Int.natCast_mul, Int.cast_ofNat_Int]; omega) | decide) only [k_FN_round_5, k_FN_round_7, x_aload, x_getf, w_goto, w_fall, w_iconst, w_if, x_iload, gf_19_4, gf_2_0, gf_2_1, gf_2_3, at_21, ao_21, w_nret r_FN_round, q_eq, q_ne, q_lt, q_ge, q_gt, q_le, g_I, g_L, g_R, g_V, t_0, t_I, t_R, t_U, t_L, t_s, List.getElem?_cons_zero, List.getElem?_cons_succ, Nat.reduceAdd, zif10, zif01b, zib, if_pos, if_neg, ↓reduceIte, not_true_eq_false, not_false_eq_true, Bool.true_eq_false, Bool.false_eq_true, Classical.not_not, eq_self, and_self, and_true, true_and, Int.reduceEq, Int.reduceLE, Int.reduceLT, Int.reduceNeg, Option.toList, List.cons_append, List.nil_append, zup_s, zup_n, zst_s, zup_zs, zup_zn, decide_true, decide_false, c_La_whole, h20, c_hasS, hb, gf_19_4, at_21, hr]
    exact hout
theorem F_FN_plan {d : Nat} {x : Int} (hN : zNet S P mv tg) (hC : zNetC S P mv tg M) (hL : zLetC lt M) (hlt : ∀ s, lt s < 256) (hF : zForm P n kd lf rt gp) (hFC : zFormC n kd lf rt gp M) (hT : zTabI S P mv tg M) (hI : zLawI S P n mv tg lt kd lf rt gp M) (hd : 7 ≤ d) : zF (zSH Ln) d i_FN_plan [zR 2, zI x] M fun r M' => r = some (zI (zPlA S P mv tg lt kd lf rt gp x)) ∧ zOutC S P n mv tg lt kd lf rt gp M M' := by
  rw [zF_en k_FN_plan_0 (L := [zR 2, zI x]) rfl]
  have hn := hF.1
  have hn2 := hF.2.1
  have hS := hN.2.1
  have hkk : M 11 0 = (kd 0 : Int) := (hFC.2 0 hn).1
  generalize hans : zPlA S P mv tg lt kd lf rt gp x = ans
  unfold zPlA at hans
  by_cases c1 : 0 ≤ x ∧ x < S
  rotate_left
  · rw [if_neg c1] at hans
    subst hans
    simp (disch := first | omega | exact Nat.le_of_ble_eq_true rfl | assumption | (simp only [Int.natCast_add, Int.natCast_mul, Int.cast_ofNat_Int]; omega) | decide) only [k_FN_plan_1, x_aload, x_getf, w_fall, w_iconst, w_if, x_iload, gf_2_0, gf_2_1, gf_2_3, gf_2_4, w_nret r_FN_plan, q_eq, q_ne, q_lt, q_ge, q_gt, q_le, g_I, g_L, g_R, g_V, t_0, t_I, t_R, t_U, t_L, t_s, List.getElem?_cons_zero, List.getElem?_cons_succ, Nat.reduceAdd, zif10, zif01b, zib, if_pos, if_neg, ↓reduceIte, not_true_eq_false, not_false_eq_true, Bool.true_eq_false, Bool.false_eq_true, Classical.not_not, eq_self, and_self, and_true, true_and, Int.reduceEq, Int.reduceLE, Int.reduceLT, Int.reduceNeg, Option.toList, List.cons_append, List.nil_append, zup_s, zup_n, zst_s, zup_zs, zup_zn, decide_true, decide_false, c_Ne_hasState hC, c1]
    exact zOutC_rf hT hI
  rw [if_pos c1] at hans
  obtain ⟨s, rfl⟩ : ∃ s : Nat, x = (s : Int) := ⟨x.toNat, by omega⟩
  rw [Int.toNat_natCast] at hans
  by_cases c2 : 5 ≤ kd 0
  rotate_left
  · have c2' : ¬ ((5 : Int) ≤ (kd 0 : Int)) := by omega
    rw [if_neg c2] at hans
    subst hans
    simp (disch := first | omega | exact Nat.le_of_ble_eq_true rfl | assumption | (simp only [Int.natCast_add, Int.natCast_mul, Int.cast_ofNat_Int]; omega) | decide) only [k_FN_plan_2, k_FN_plan_3, x_aload, x_getf, w_fall, w_iconst, w_if, x_iload, gf_2_0, gf_2_1, gf_2_3, gf_2_4, w_nret r_FN_plan, q_eq, q_ne, q_lt, q_ge, q_gt, q_le, g_I, g_L, g_R, g_V, t_0, t_I, t_R, t_U, t_L, t_s, List.getElem?_cons_zero, List.getElem?_cons_succ, Nat.reduceAdd, zif10, zif01b, zib, if_pos, if_neg, ↓reduceIte, not_true_eq_false, not_false_eq_true, Bool.true_eq_false, Bool.false_eq_true, Classical.not_not, eq_self, and_self, and_true, true_and, Int.reduceEq, Int.reduceLE, Int.reduceLT, Int.reduceNeg, Option.toList, List.cons_append, List.nil_append, zup_s, zup_n, zst_s, zup_zs, zup_zn, decide_true, decide_false, c_Ne_hasState hC, c1, c_Fo_isOfGroup hkk, c2']
    exact zOutC_rf hT hI
  have c2' : ((5 : Int) ≤ (kd 0 : Int)) := by omega
  rw [if_pos c2] at hans
  simp (disch := first | omega | exact Nat.le_of_ble_eq_true rfl | assumption | (simp only [Int.natCast_add, Int.natCast_mul, Int.cast_ofNat_Int]; omega) | decide) only [k_FN_plan_2, k_FN_plan_4, x_aload, x_getf, w_fall, w_iconst, w_if, x_iload, gf_2_0, gf_2_1, gf_2_3, gf_2_4, w_nret r_FN_plan, q_eq, q_ne, q_lt, q_ge, q_gt, q_le, g_I, g_L, g_R, g_V, t_0, t_I, t_R, t_U, t_L, t_s, List.getElem?_cons_zero, List.getElem?_cons_succ, Nat.reduceAdd, zif10, zif01b, zib, if_pos, if_neg, ↓reduceIte, not_true_eq_false, not_false_eq_true, Bool.true_eq_false, Bool.false_eq_true, Classical.not_not, eq_self, and_self, and_true, true_and, Int.reduceEq, Int.reduceLE, Int.reduceLT, Int.reduceNeg, Option.toList, List.cons_append, List.nil_append, zup_s, zup_n, zst_s, zup_zs, zup_zn, decide_true, decide_false, c_Ne_hasState hC, c1, c_Fo_isOfGroup hkk, c2']
  refine c_La_refresh hN hC hL hlt hF hFC hT hI (by omega) (Nat.le_of_ble_eq_true rfl) ?_
  rintro _ M1 ⟨rfl, hk, hT1, hv15, hv5, hv6, hW⟩
  have hout : zOutC S P n mv tg lt kd lf rt gp M M1 := zOutC_of ⟨hk, hv15⟩ hT1 hv5 hv6 hW
  have h20 : M1 20 0 = zset S (zHp mv tg P lt kd lf rt gp 0) := hW.1 0 hn
  have hC1 : zNetC S P mv tg M1 := zNetC_k hC (hk 3 (by decide)) (hk 4 (by decide)) (hk 7 (by decide))
  have hFC1 : zFormC n kd lf rt gp M1 := zFormC_k hFC (by rw [hk 10 (by decide)]) (hk 11 (by decide)) (hk 12 (by decide)) (hk 13 (by decide)) (hk 14 (by decide))
  have hlf := (hF.2.2 0 hn).2.2.1 (by omega)
  have h20l := hW.1 (lf 0) hlf.2
  have hr := hW.2.1
  simp (disch := first | omega | exact Nat.le_of_ble_eq_true rfl | assumption | (simp only [Int.natCast_add, Int.natCast_mul, Int.cast_ofNat_Int]; omega) | decide) only [x_aload, x_getf, w_fall, w_iconst, w_if, x_iload, gf_2_0, gf_2_1, gf_2_3, gf_2_4, w_nret r_FN_plan, q_eq, q_ne, q_lt, q_ge, q_gt, q_le, g_I, g_L, g_R, g_V, t_0, t_I, t_R, t_U, t_L, t_s, List.getElem?_cons_zero, List.getElem?_cons_succ, Nat.reduceAdd, zif10, zif01b, zib, if_pos, if_neg, ↓reduceIte, not_true_eq_false, not_false_eq_true, Bool.true_eq_false, Bool.false_eq_true, Classical.not_not, eq_self, and_self, and_true, true_and, Int.reduceEq, Int.reduceLE, Int.reduceLT, Int.reduceNeg, Option.toList, List.cons_append, List.nil_append, zup_s, zup_n, zst_s, zup_zs, zup_zn, decide_true, decide_false, c_Pl_move hN hC1 hF hFC1 c2 h20 h20l hr (show s < S by omega) (fun h h2 => (zRd_iff hN hF h (by omega)).mp h2) (hW.2.2 c2), hans]
  exact hout
theorem F_FN_toll {d : Nat} {x : Int} (hN : zNet S P mv tg) (hC : zNetC S P mv tg M) (hL : zLetC lt M) (hlt : ∀ s, lt s < 256) (hF : zForm P n kd lf rt gp) (hFC : zFormC n kd lf rt gp M) (hT : zTabI S P mv tg M) (hI : zLawI S P n mv tg lt kd lf rt gp M) (hQ : zPrC pr M) (hpr : ∀ s p a, pr s p a ≤ 9) (hd : 7 ≤ d) : zF (zSH Ln) d i_FN_toll [zR 2, zI x] M fun r M' => r = some (zI (zTlA S P mv tg pr lt kd lf rt gp x)) ∧ zOutC S P n mv tg lt kd lf rt gp M M' := by
  rw [zF_en k_FN_toll_0 (L := [zR 2, zI x]) rfl]
  have hn := hF.1
  have hn2 := hF.2.1
  have hS := hN.2.1
  have hkk : M 11 0 = (kd 0 : Int) := (hFC.2 0 hn).1
  generalize hans : zTlA S P mv tg pr lt kd lf rt gp x = ans
  unfold zTlA at hans
  by_cases c1 : 0 ≤ x ∧ x < S
  rotate_left
  · rw [if_neg c1] at hans
    subst hans
    simp (disch := first | omega | exact Nat.le_of_ble_eq_true rfl | assumption | (simp only [Int.natCast_add, Int.natCast_mul, Int.cast_ofNat_Int]; omega) | decide) only [k_FN_toll_1, x_aload, x_getf, w_goto, w_fall, w_iconst, w_if, x_iload, gf_2_0, gf_2_1, gf_2_3, gf_2_4, w_nret r_FN_toll, q_eq, q_ne, q_lt, q_ge, q_gt, q_le, g_I, g_L, g_R, g_V, t_0, t_I, t_R, t_U, t_L, t_s, List.getElem?_cons_zero, List.getElem?_cons_succ, Nat.reduceAdd, zif10, zif01b, zib, if_pos, if_neg, ↓reduceIte, not_true_eq_false, not_false_eq_true, Bool.true_eq_false, Bool.false_eq_true, Classical.not_not, eq_self, and_self, and_true, true_and, Int.reduceEq, Int.reduceLE, Int.reduceLT, Int.reduceNeg, Option.toList, List.cons_append, List.nil_append, zup_s, zup_n, zst_s, zup_zs, zup_zn, decide_true, decide_false, c_Ne_hasState hC, c1]
    exact zOutC_rf hT hI
  rw [if_pos c1] at hans
  obtain ⟨s, rfl⟩ : ∃ s : Nat, x = (s : Int) := ⟨x.toNat, by omega⟩
  rw [Int.toNat_natCast] at hans
  by_cases c2 : kd 0 = 7 ∨ kd 0 = 8
  rotate_left
  · have c2' : ¬ ((kd 0 : Int) = 7 ∨ (kd 0 : Int) = 8) := by omega
    rw [if_neg c2] at hans
    subst hans
    simp (disch := first | omega | exact Nat.le_of_ble_eq_true rfl | assumption | (simp only [Int.natCast_add, Int.natCast_mul, Int.cast_ofNat_Int]; omega) | decide) only [k_FN_toll_2, k_FN_toll_3, x_aload, x_getf, w_goto, w_fall, w_iconst, w_if, x_iload, gf_2_0, gf_2_1, gf_2_3, gf_2_4, w_nret r_FN_toll, q_eq, q_ne, q_lt, q_ge, q_gt, q_le, g_I, g_L, g_R, g_V, t_0, t_I, t_R, t_U, t_L, t_s, List.getElem?_cons_zero, List.getElem?_cons_succ, Nat.reduceAdd, zif10, zif01b, zib, if_pos, if_neg, ↓reduceIte, not_true_eq_false, not_false_eq_true, Bool.true_eq_false, Bool.false_eq_true, Classical.not_not, eq_self, and_self, and_true, true_and, Int.reduceEq, Int.reduceLE, Int.reduceLT, Int.reduceNeg, Option.toList, List.cons_append, List.nil_append, zup_s, zup_n, zst_s, zup_zs, zup_zn, decide_true, decide_false, c_Ne_hasState hC, c1, c_Fo_hasToll hkk, c2']
    exact zOutC_rf hT hI
  have c2' : ((kd 0 : Int) = 7 ∨ (kd 0 : Int) = 8) := by omega
  rw [if_pos c2] at hans
  simp (disch := first | omega | exact Nat.le_of_ble_eq_true rfl | assumption | (simp only [Int.natCast_add, Int.natCast_mul, Int.cast_ofNat_Int]; omega) | decide) only [k_FN_toll_2, k_FN_toll_4, x_aload, x_getf, w_goto, w_fall, w_iconst, w_if, x_iload, gf_2_0, gf_2_1, gf_2_3, gf_2_4, w_nret r_FN_toll, q_eq, q_ne, q_lt, q_ge, q_gt, q_le, g_I, g_L, g_R, g_V, t_0, t_I, t_R, t_U, t_L, t_s, List.getElem?_cons_zero, List.getElem?_cons_succ, Nat.reduceAdd, zif10, zif01b, zib, if_pos, if_neg, ↓reduceIte, not_true_eq_false, not_false_eq_true, Bool.true_eq_false, Bool.false_eq_true, Classical.not_not, eq_self, and_self, and_true, true_and, Int.reduceEq, Int.reduceLE, Int.reduceLT, Int.reduceNeg, Option.toList, List.cons_append, List.nil_append, zup_s, zup_n, zst_s, zup_zs, zup_zn, decide_true, decide_false, c_Ne_hasState hC, c1, c_Fo_hasToll hkk, c2']
  refine c_La_refresh hN hC hL hlt hF hFC hT hI (by omega) (Nat.le_of_ble_eq_true rfl) ?_
  rintro _ M1 ⟨rfl, hk, hT1, hv15, hv5, hv6, hW⟩
  have hout : zOutC S P n mv tg lt kd lf rt gp M M1 := zOutC_of ⟨hk, hv15⟩ hT1 hv5 hv6 hW
  have h20 : M1 20 0 = zset S (zHp mv tg P lt kd lf rt gp 0) := hW.1 0 hn
  have hC1 : zNetC S P mv tg M1 := zNetC_k hC (hk 3 (by decide)) (hk 4 (by decide)) (hk 7 (by decide))
  have hFC1 : zFormC n kd lf rt gp M1 := zFormC_k hFC (by rw [hk 10 (by decide)]) (hk 11 (by decide)) (hk 12 (by decide)) (hk 13 (by decide)) (hk 14 (by decide))
  have hr := hW.2.1 (by omega)
  cases hb : zHp mv tg P lt kd lf rt gp 0 s
  · rw [hb, if_neg (by decide)] at hans
    subst hans
    simp (disch := first | omega | exact Nat.le_of_ble_eq_true rfl | assumption | (simp only [Int.natCast_add, Int.natCast_mul, Int.cast_ofNat_Int]; omega) | decide) only [k_FN_toll_6, k_FN_toll_7, x_aload, x_getf, w_goto, w_fall, w_iconst, w_if, x_iload, gf_2_0, gf_2_1, gf_2_3, gf_2_4, w_nret r_FN_toll, q_eq, q_ne, q_lt, q_ge, q_gt, q_le, g_I, g_L, g_R, g_V, t_0, t_I, t_R, t_U, t_L, t_s, List.getElem?_cons_zero, List.getElem?_cons_succ, Nat.reduceAdd, zif10, zif01b, zib, if_pos, if_neg, ↓reduceIte, not_true_eq_false, not_false_eq_true, Bool.true_eq_false, Bool.false_eq_true, Classical.not_not, eq_self, and_self, and_true, true_and, Int.reduceEq, Int.reduceLE, Int.reduceLT, Int.reduceNeg, Option.toList, List.cons_append, List.nil_append, zup_s, zup_n, zst_s, zup_zs, zup_zn, decide_true, decide_false, c_La_whole, h20, c_hasS, hb]
    exact hout
  · rw [hb, if_pos rfl] at hans
    have hQ1 : zPrC pr M1 := fun s p a h1 h2 h3 => by rw [hk 6 (by decide)]; exact hQ s p a h1 h2 h3
    simp (disch := first | omega | exact Nat.le_of_ble_eq_true rfl | assumption | (simp only [Int.natCast_add, Int.natCast_mul, Int.cast_ofNat_Int]; omega) | decide) only [k_FN_toll_5, x_aload, x_getf, w_goto, w_fall, w_iconst, w_if, x_iload, gf_2_0, gf_2_1, gf_2_3, gf_2_4, w_nret r_FN_toll, q_eq, q_ne, q_lt, q_ge, q_gt, q_le, g_I, g_L, g_R, g_V, t_0, t_I, t_R, t_U, t_L, t_s, List.getElem?_cons_zero, List.getElem?_cons_succ, Nat.reduceAdd, zif10, zif01b, zib, if_pos, if_neg, ↓reduceIte, not_true_eq_false, not_false_eq_true, Bool.true_eq_false, Bool.false_eq_true, Classical.not_not, eq_self, and_self, and_true, true_and, Int.reduceEq, Int.reduceLE, Int.reduceLT, Int.reduceNeg, Option.toList, List.cons_append, List.nil_append, zup_s, zup_n, zst_s, zup_zs, zup_zn, decide_true, decide_false, c_La_whole, h20, c_hasS, hb]
    refine c_Pl_leastSum (pr := pr) (R := zRd mv tg P lt kd lf rt gp) (whole := zHp mv tg P lt kd lf rt gp 0) hN hC1 hF hFC1 (by omega) hQ1 hpr (hW.2.2 (by omega)) hr h20 (fun s hs => zRd_iff hN hF (by omega) hs) (by omega) (by omega) (Nat.le_of_ble_eq_true rfl) ?_
    rintro _ _ ⟨rfl, F, rfl⟩
    rw [hans]
    simp (disch := first | omega | exact Nat.le_of_ble_eq_true rfl | assumption | (simp only [Int.natCast_add, Int.natCast_mul, Int.cast_ofNat_Int]; omega) | decide) only [k_FN_toll_7, x_aload, x_getf, w_goto, w_fall, w_iconst, w_if, x_iload, gf_2_0, gf_2_1, gf_2_3, gf_2_4, w_nret r_FN_toll, q_eq, q_ne, q_lt, q_ge, q_gt, q_le, g_I, g_L, g_R, g_V, t_0, t_I, t_R, t_U, t_L, t_s, List.getElem?_cons_zero, List.getElem?_cons_succ, Nat.reduceAdd, zif10, zif01b, zib, if_pos, if_neg, ↓reduceIte, not_true_eq_false, not_false_eq_true, Bool.true_eq_false, Bool.false_eq_true, Classical.not_not, eq_self, and_self, and_true, true_and, Int.reduceEq, Int.reduceLE, Int.reduceLT, Int.reduceNeg, Option.toList, List.cons_append, List.nil_append, zup_s, zup_n, zst_s, zup_zs, zup_zn, decide_true, decide_false]
    exact zOutC_st (by decide) hout
theorem F_FN_answer {d : Nat} {x a : Int} (hN : zNet S P mv tg) (hC : zNetC S P mv tg M) (hL : zLetC lt M) (hlt : ∀ s, lt s < 256) (hF : zForm P n kd lf rt gp) (hFC : zFormC n kd lf rt gp M) (hT : zTabI S P mv tg M) (hI : zLawI S P n mv tg lt kd lf rt gp M) (hd : 7 ≤ d) : zF (zSH Ln) d i_FN_answer [zR 2, zI x, zI a] M fun r M' => r = some (zI (zAnA S P mv tg lt kd lf rt gp x a)) ∧ zOutC S P n mv tg lt kd lf rt gp M M' := by
  rw [zF_en k_FN_answer_0 (L := [zR 2, zI x, zI a]) rfl]
  have hn := hF.1
  have hn2 := hF.2.1
  have hS := hN.2.1
  have hP4 := hN.2.2.2.1
  have hkk : M 11 0 = (kd 0 : Int) := (hFC.2 0 hn).1
  generalize hans : zAnA S P mv tg lt kd lf rt gp x a = ans
  unfold zAnA at hans
  by_cases c1 : 0 ≤ x ∧ x < S
  rotate_left
  · rw [if_neg c1] at hans
    subst hans
    simp (disch := first | omega | exact Nat.le_of_ble_eq_true rfl | assumption | (simp only [Int.natCast_add, Int.natCast_mul, Int.cast_ofNat_Int]; omega) | decide) only [k_FN_answer_1, x_aload, x_getf, w_fall, w_iconst, w_if, w_icmp, x_iload, gf_2_0, gf_2_1, gf_2_3, gf_2_4, w_nret r_FN_answer, q_eq, q_ne, q_lt, q_ge, q_gt, q_le, g_I, g_L, g_R, g_V, t_0, t_I, t_R, t_U, t_L, t_s, List.getElem?_cons_zero, List.getElem?_cons_succ, Nat.reduceAdd, zif10, zif01b, zib, if_pos, if_neg, ↓reduceIte, not_true_eq_false, not_false_eq_true, Bool.true_eq_false, Bool.false_eq_true, Classical.not_not, eq_self, and_self, and_true, true_and, Int.reduceEq, Int.reduceLE, Int.reduceLT, Int.reduceNeg, Option.toList, List.cons_append, List.nil_append, zup_s, zup_n, zst_s, zup_zs, zup_zn, decide_true, decide_false, c_Ne_hasState hC, c1]
    exact zOutC_rf hT hI
  rw [if_pos c1] at hans
  obtain ⟨s, rfl⟩ : ∃ s : Nat, x = (s : Int) := ⟨x.toNat, by omega⟩
  rw [Int.toNat_natCast] at hans
  by_cases c2 : 5 ≤ kd 0
  rotate_left
  · have c2' : ¬ ((5 : Int) ≤ (kd 0 : Int)) := by omega
    rw [if_neg c2] at hans
    subst hans
    simp (disch := first | omega | exact Nat.le_of_ble_eq_true rfl | assumption | (simp only [Int.natCast_add, Int.natCast_mul, Int.cast_ofNat_Int]; omega) | decide) only [k_FN_answer_2, k_FN_answer_3, x_aload, x_getf, w_fall, w_iconst, w_if, w_icmp, x_iload, gf_2_0, gf_2_1, gf_2_3, gf_2_4, w_nret r_FN_answer, q_eq, q_ne, q_lt, q_ge, q_gt, q_le, g_I, g_L, g_R, g_V, t_0, t_I, t_R, t_U, t_L, t_s, List.getElem?_cons_zero, List.getElem?_cons_succ, Nat.reduceAdd, zif10, zif01b, zib, if_pos, if_neg, ↓reduceIte, not_true_eq_false, not_false_eq_true, Bool.true_eq_false, Bool.false_eq_true, Classical.not_not, eq_self, and_self, and_true, true_and, Int.reduceEq, Int.reduceLE, Int.reduceLT, Int.reduceNeg, Option.toList, List.cons_append, List.nil_append, zup_s, zup_n, zst_s, zup_zs, zup_zn, decide_true, decide_false, c_Ne_hasState hC, c1, c_Fo_isOfGroup hkk, c2']
    exact zOutC_rf hT hI
  have c2' : ((5 : Int) ≤ (kd 0 : Int)) := by omega
  rw [if_pos c2] at hans
  have g4 : M 14 0 = (gp 0 : Int) := (hFC.2 0 hn).2.2.2 c2
  by_cases c3 : 0 ≤ a ∧ a < zcnt (mv s) (zbit (gp 0 : Int)) P
  rotate_left
  · rw [if_neg c3] at hans
    subst hans
    by_cases c4 : a < 0
    · simp (disch := first | omega | exact Nat.le_of_ble_eq_true rfl | assumption | (simp only [Int.natCast_add, Int.natCast_mul, Int.cast_ofNat_Int]; omega) | decide) only [k_FN_answer_2, k_FN_answer_4, k_FN_answer_6, x_aload, x_getf, w_fall, w_iconst, w_if, w_icmp, x_iload, gf_2_0, gf_2_1, gf_2_3, gf_2_4, w_nret r_FN_answer, q_eq, q_ne, q_lt, q_ge, q_gt, q_le, g_I, g_L, g_R, g_V, t_0, t_I, t_R, t_U, t_L, t_s, List.getElem?_cons_zero, List.getElem?_cons_succ, Nat.reduceAdd, zif10, zif01b, zib, if_pos, if_neg, ↓reduceIte, not_true_eq_false, not_false_eq_true, Bool.true_eq_false, Bool.false_eq_true, Classical.not_not, eq_self, and_self, and_true, true_and, Int.reduceEq, Int.reduceLE, Int.reduceLT, Int.reduceNeg, Option.toList, List.cons_append, List.nil_append, zup_s, zup_n, zst_s, zup_zs, zup_zn, decide_true, decide_false, c_Ne_hasState hC, c1, c_Fo_isOfGroup hkk, c2', c4]
      exact zOutC_rf hT hI
    · simp (disch := first | omega | exact Nat.le_of_ble_eq_true rfl | assumption | (simp only [Int.natCast_add, Int.natCast_mul, Int.cast_ofNat_Int]; omega) | decide) only [k_FN_answer_2, k_FN_answer_4, k_FN_answer_5, k_FN_answer_6, x_aload, x_getf, w_fall, w_iconst, w_if, w_icmp, x_iload, gf_2_0, gf_2_1, gf_2_3, gf_2_4, w_nret r_FN_answer, q_eq, q_ne, q_lt, q_ge, q_gt, q_le, g_I, g_L, g_R, g_V, t_0, t_I, t_R, t_U, t_L, t_s, List.getElem?_cons_zero, List.getElem?_cons_succ, Nat.reduceAdd, zif10, zif01b, zib, if_pos, if_neg, ↓reduceIte, not_true_eq_false, not_false_eq_true, Bool.true_eq_false, Bool.false_eq_true, Classical.not_not, eq_self, and_self, and_true, true_and, Int.reduceEq, Int.reduceLE, Int.reduceLT, Int.reduceNeg, Option.toList, List.cons_append, List.nil_append, zup_s, zup_n, zst_s, zup_zs, zup_zn, decide_true, decide_false, c_Ne_hasState hC, c1, c_Fo_isOfGroup hkk, c2', c4, c_Fo_group, g4, c_Ne_ways hN hC]
      exact zOutC_rf hT hI
  rw [if_pos c3] at hans
  obtain ⟨q, rfl⟩ : ∃ q : Nat, a = (q : Int) := ⟨a.toNat, by omega⟩
  rw [Int.toNat_natCast] at hans
  simp (disch := first | omega | exact Nat.le_of_ble_eq_true rfl | assumption | (simp only [Int.natCast_add, Int.natCast_mul, Int.cast_ofNat_Int]; omega) | decide) only [k_FN_answer_2, k_FN_answer_4, k_FN_answer_5, k_FN_answer_7, x_aload, x_getf, w_fall, w_iconst, w_if, w_icmp, x_iload, gf_2_0, gf_2_1, gf_2_3, gf_2_4, w_nret r_FN_answer, q_eq, q_ne, q_lt, q_ge, q_gt, q_le, g_I, g_L, g_R, g_V, t_0, t_I, t_R, t_U, t_L, t_s, List.getElem?_cons_zero, List.getElem?_cons_succ, Nat.reduceAdd, zif10, zif01b, zib, if_pos, if_neg, ↓reduceIte, not_true_eq_false, not_false_eq_true, Bool.true_eq_false, Bool.false_eq_true, Classical.not_not, eq_self, and_self, and_true, true_and, Int.reduceEq, Int.reduceLE, Int.reduceLT, Int.reduceNeg, Option.toList, List.cons_append, List.nil_append, zup_s, zup_n, zst_s, zup_zs, zup_zn, decide_true, decide_false, c_Ne_hasState hC, c1, c_Fo_isOfGroup hkk, c2', c_Fo_group, g4, c_Ne_ways hN hC]
  refine c_La_refresh hN hC hL hlt hF hFC hT hI (by omega) (Nat.le_of_ble_eq_true rfl) ?_
  rintro _ M1 ⟨rfl, hk, hT1, hv15, hv5, hv6, hW⟩
  have hout : zOutC S P n mv tg lt kd lf rt gp M M1 := zOutC_of ⟨hk, hv15⟩ hT1 hv5 hv6 hW
  have h20 : M1 20 0 = zset S (zHp mv tg P lt kd lf rt gp 0) := hW.1 0 hn
  have hC1 : zNetC S P mv tg M1 := zNetC_k hC (hk 3 (by decide)) (hk 4 (by decide)) (hk 7 (by decide))
  have hFC1 : zFormC n kd lf rt gp M1 := zFormC_k hFC (by rw [hk 10 (by decide)]) (hk 11 (by decide)) (hk 12 (by decide)) (hk 13 (by decide)) (hk 14 (by decide))
  have hlf := (hF.2.2 0 hn).2.2.1 (by omega)
  have h20l := hW.1 (lf 0) hlf.2
  simp (disch := first | omega | exact Nat.le_of_ble_eq_true rfl | assumption | (simp only [Int.natCast_add, Int.natCast_mul, Int.cast_ofNat_Int]; omega) | decide) only [x_aload, x_getf, w_fall, w_iconst, w_if, w_icmp, x_iload, gf_2_0, gf_2_1, gf_2_3, gf_2_4, w_nret r_FN_answer, q_eq, q_ne, q_lt, q_ge, q_gt, q_le, g_I, g_L, g_R, g_V, t_0, t_I, t_R, t_U, t_L, t_s, List.getElem?_cons_zero, List.getElem?_cons_succ, Nat.reduceAdd, zif10, zif01b, zib, if_pos, if_neg, ↓reduceIte, not_true_eq_false, not_false_eq_true, Bool.true_eq_false, Bool.false_eq_true, Classical.not_not, eq_self, and_self, and_true, true_and, Int.reduceEq, Int.reduceLE, Int.reduceLT, Int.reduceNeg, Option.toList, List.cons_append, List.nil_append, zup_s, zup_n, zst_s, zup_zs, zup_zn, decide_true, decide_false, c_Pl_hinder hN hC1 hF hFC1 c2 h20 h20l (show s < S by omega) (show q < zcnt (mv s) (zbit (gp 0 : Int)) P by omega), hans]
  exact hout
end FC
