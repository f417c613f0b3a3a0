/-! the class's face: chance -/
section FC
variable {Ln S P n : Nat} {mv tg ch : Nat → Nat → Nat} {lt kd lf rt gp : Nat → Nat} {M : Nat → Int → Int} {lo : Int}
theorem zOutC_36 {M1 M2 : Nat → Int → Int} (hk : zKp [36, 37, 38, 39, 40] M1 M2) (h36 : M2 36 1 = M1 36 1) (h : zOutC S P n mv tg lt kd lf rt gp M M1) : zOutC S P n mv tg lt kd lf rt gp M M2 := by
  obtain ⟨⟨h1, h2⟩, h3, h4, h5, h6, h7⟩ := h
  have hn : ∀ j, j ∈ [3, 10, 15, 16, 17, 19, 20, 21] → M2 j = M1 j := fun j hj => hk j (fun e => by revert hj e; simp; omega)
  refine ⟨⟨zKp_tr h1 (zKp_mo hk (by decide)), by rw [h36]; exact h2⟩, ?_, ?_, ?_, ?_, ?_⟩
  · intro h
    rw [hn 15 (by decide), hn 3 (by decide)] at h
    have := h3 h
    rw [hn 15 (by decide)]
    exact zTabC_k this (hn 16 (by decide)) (hn 17 (by decide))
  · intro ha hb
    rw [hn 19 (by decide), hn 3 (by decide)] at ha
    rw [hn 19 (by decide), hn 10 (by decide)] at hb
    obtain ⟨q1, q2, q3⟩ := h4 ha hb
    exact ⟨by rw [hn 20 (by decide)]; exact q1, by rw [hn 21 (by decide)]; exact q2, fun h => zTabC_k (q3 h) (hn 16 (by decide)) (hn 17 (by decide))⟩
  · rw [hn 15 (by decide)]; exact h5
  · rw [hn 19 (by decide)]; exact h6
  · rw [hn 19 (by decide)]; exact h7
theorem F_FN_chance {d : Nat} {x w : Int} (hN : zNet S P mv tg) (hC : zNetC S P mv tg M) (hL : zLetC lt M) (hlt : ∀ s, lt s < 256) (hF : zForm P n kd lf rt gp) (hFC : zFormC n kd lf rt gp M) (hT : zTabI S P mv tg M) (hI : zLawI S P n mv tg lt kd lf rt gp M) (hK : zPkC 5 ch M) (hch : ∀ s p, ch s p < mv s p) (hlo : M 36 1 = lo) (hlr : -1 ≤ lo ∧ lo < P) (hd : 7 ≤ d) : zF (zSH Ln) d i_FN_chance [zR 2, zI x, zI w] M fun r M' => r = some (zL (zChA S (zMx S mv tg P ch lo (zHp mv tg P lt kd lf rt gp 0)) x w)) ∧ zOutC S P n mv tg lt kd lf rt gp M M' := by
  rw [zF_en k_FN_chance_0 (L := [zR 2, zI x, zI w]) rfl]
  have hn := hF.1
  have hS := hN.2.1
  generalize hans : zChA S (zMx S mv tg P ch lo (zHp mv tg P lt kd lf rt gp 0)) x w = ans
  unfold zChA at hans
  by_cases c1 : 0 ≤ x ∧ x < S
  rotate_left
  · rw [if_neg (fun h => c1 h.1)] at hans
    subst hans
    simp (disch := first | omega | exact Nat.le_of_ble_eq_true rfl | assumption | (simp only [Int.natCast_add, Int.natCast_mul, Int.cast_ofNat_Int]; omega) | decide) only [k_FN_chance_3, x_aload, x_getf, w_goto, w_fall, w_iconst, w_if, w_icmp, x_iload, w_sipush, gf_36_2, gf_36_3, gf_2_0, gf_2_3, gf_2_6, w_jret r_FN_chance, q_eq, q_ne, q_lt, q_ge, q_gt, q_le, g_I, g_L, g_R, g_V, t_0, t_I, t_R, t_U, t_L, t_s, List.getElem?_cons_zero, List.getElem?_cons_succ, Nat.reduceAdd, zif10, zif01b, zib, if_pos, if_neg, ↓reduceIte, not_true_eq_false, not_false_eq_true, Bool.true_eq_false, Bool.false_eq_true, Classical.not_not, eq_self, and_self, and_true, true_and, Int.reduceEq, Int.reduceLE, Int.reduceLT, Int.reduceNeg, Option.toList, List.cons_append, List.nil_append, zup_s, zup_n, zst_s, zup_zs, zup_zn, decide_true, decide_false, c_Ne_hasState hC, c1, w_jret]
    exact zOutC_rf hT hI
  by_cases c2 : 0 ≤ w
  rotate_left
  · rw [if_neg (fun h => c2 h.2.1)] at hans
    subst hans
    simp (disch := first | omega | exact Nat.le_of_ble_eq_true rfl | assumption | (simp only [Int.natCast_add, Int.natCast_mul, Int.cast_ofNat_Int]; omega) | decide) only [k_FN_chance_1, k_FN_chance_3, x_aload, x_getf, w_goto, w_fall, w_iconst, w_if, w_icmp, x_iload, w_sipush, gf_36_2, gf_36_3, gf_2_0, gf_2_3, gf_2_6, w_jret r_FN_chance, q_eq, q_ne, q_lt, q_ge, q_gt, q_le, g_I, g_L, g_R, g_V, t_0, t_I, t_R, t_U, t_L, t_s, List.getElem?_cons_zero, List.getElem?_cons_succ, Nat.reduceAdd, zif10, zif01b, zib, if_pos, if_neg, ↓reduceIte, not_true_eq_false, not_false_eq_true, Bool.true_eq_false, Bool.false_eq_true, Classical.not_not, eq_self, and_self, and_true, true_and, Int.reduceEq, Int.reduceLE, Int.reduceLT, Int.reduceNeg, Option.toList, List.cons_append, List.nil_append, zup_s, zup_n, zst_s, zup_zs, zup_zn, decide_true, decide_false, c_Ne_hasState hC, c1, c2]
    exact zOutC_rf hT hI
  by_cases c3 : w ≤ 1
  rotate_left
  · rw [if_neg (fun h => c3 h.2.2)] at hans
    subst hans
    simp (disch := first | omega | exact Nat.le_of_ble_eq_true rfl | assumption | (simp only [Int.natCast_add, Int.natCast_mul, Int.cast_ofNat_Int]; omega) | decide) only [k_FN_chance_1, k_FN_chance_2, k_FN_chance_3, x_aload, x_getf, w_goto, w_fall, w_iconst, w_if, w_icmp, x_iload, w_sipush, gf_36_2, gf_36_3, gf_2_0, gf_2_3, gf_2_6, w_jret r_FN_chance, q_eq, q_ne, q_lt, q_ge, q_gt, q_le, g_I, g_L, g_R, g_V, t_0, t_I, t_R, t_U, t_L, t_s, List.getElem?_cons_zero, List.getElem?_cons_succ, Nat.reduceAdd, zif10, zif01b, zib, if_pos, if_neg, ↓reduceIte, not_true_eq_false, not_false_eq_true, Bool.true_eq_false, Bool.false_eq_true, Classical.not_not, eq_self, and_self, and_true, true_and, Int.reduceEq, Int.reduceLE, Int.reduceLT, Int.reduceNeg, Option.toList, List.cons_append, List.nil_append, zup_s, zup_n, zst_s, zup_zs, zup_zn, decide_true, decide_false, c_Ne_hasState hC, c1, c2, c3]
    exact zOutC_rf hT hI
  rw [if_pos ⟨c1, c2, c3⟩] at hans
  obtain ⟨s, rfl⟩ : ∃ s : Nat, x = (s : Int) := ⟨x.toNat, by omega⟩
  rw [Int.toNat_natCast] at hans
  simp (disch := first | omega | exact Nat.le_of_ble_eq_true rfl | assumption | (simp only [Int.natCast_add, Int.natCast_mul, Int.cast_ofNat_Int]; omega) | decide) only [k_FN_chance_1, k_FN_chance_2, k_FN_chance_4, x_aload, x_getf, w_goto, w_fall, w_iconst, w_if, w_icmp, x_iload, w_sipush, gf_36_2, gf_36_3, gf_2_0, gf_2_3, gf_2_6, w_jret r_FN_chance, q_eq, q_ne, q_lt, q_ge, q_gt, q_le, g_I, g_L, g_R, g_V, t_0, t_I, t_R, t_U, t_L, t_s, List.getElem?_cons_zero, List.getElem?_cons_succ, Nat.reduceAdd, zif10, zif01b, zib, if_pos, if_neg, ↓reduceIte, not_true_eq_false, not_false_eq_true, Bool.true_eq_false, Bool.false_eq_true, Classical.not_not, eq_self, and_self, and_true, true_and, Int.reduceEq, Int.reduceLE, Int.reduceLT, Int.reduceNeg, Option.toList, List.cons_append, List.nil_append, zup_s, zup_n, zst_s, zup_zs, zup_zn, decide_true, decide_false, c_Ne_hasState hC, c1, c2, c3]
  refine c_La_refresh hN hC hL hlt hF hFC hT hI (by omega) (Nat.le_of_ble_eq_true rfl) ?_
  rintro _ M1 ⟨rfl, hk, hT1, hv15, hv5, hv6, hW⟩
  have hout : zOutC S P n mv tg lt kd lf rt gp M M1 := zOutC_of ⟨hk, hv15⟩ hT1 hv5 hv6 hW
  have h20 : M1 20 0 = zset S (zHp mv tg P lt kd lf rt gp 0) := hW.1 0 hn
  have hC1 : zNetC S P mv tg M1 := zNetC_k hC (hk 3 (by decide)) (hk 4 (by decide)) (hk 7 (by decide))
  have hK1 : zPkC 5 ch M1 := fun s p a b => by rw [hk 5 (by decide)]; exact hK s p a b
  have hlo1 : M1 36 1 = lo := by rw [hk 36 (by decide)]; exact hlo
  simp (disch := first | omega | exact Nat.le_of_ble_eq_true rfl | assumption | (simp only [Int.natCast_add, Int.natCast_mul, Int.cast_ofNat_Int]; omega) | decide) only [x_aload, x_getf, w_goto, w_fall, w_iconst, w_if, w_icmp, x_iload, w_sipush, gf_36_2, gf_36_3, gf_2_0, gf_2_3, gf_2_6, w_jret r_FN_chance, q_eq, q_ne, q_lt, q_ge, q_gt, q_le, g_I, g_L, g_R, g_V, t_0, t_I, t_R, t_U, t_L, t_s, List.getElem?_cons_zero, List.getElem?_cons_succ, Nat.reduceAdd, zif10, zif01b, zib, if_pos, if_neg, ↓reduceIte, not_true_eq_false, not_false_eq_true, Bool.true_eq_false, Bool.false_eq_true, Classical.not_not, eq_self, and_self, and_true, true_and, Int.reduceEq, Int.reduceLE, Int.reduceLT, Int.reduceNeg, Option.toList, List.cons_append, List.nil_append, zup_s, zup_n, zst_s, zup_zs, zup_zn, decide_true, decide_false, c_La_whole, h20]
  refine c_Lo_weigh (s := s) hN hC1 hK1 hch hlo1 hlr (by omega) (by omega) (Nat.le_of_ble_eq_true rfl) ?_
  rintro _ M2 ⟨rfl, hk2, h36, g2, g3⟩
  have hout2 := zOutC_36 hk2 (h36 1 (by omega) (by omega)) hout
  by_cases c0 : w = 0
  · rw [if_pos c0] at hans
    simp (disch := first | omega | exact Nat.le_of_ble_eq_true rfl | assumption | (simp only [Int.natCast_add, Int.natCast_mul, Int.cast_ofNat_Int]; omega) | decide) only [k_FN_chance_5, k_FN_chance_7, x_aload, x_getf, w_goto, w_fall, w_iconst, w_if, w_icmp, x_iload, w_sipush, gf_36_2, gf_36_3, gf_2_0, gf_2_3, gf_2_6, w_jret r_FN_chance, q_eq, q_ne, q_lt, q_ge, q_gt, q_le, g_I, g_L, g_R, g_V, t_0, t_I, t_R, t_U, t_L, t_s, List.getElem?_cons_zero, List.getElem?_cons_succ, Nat.reduceAdd, zif10, zif01b, zib, if_pos, if_neg, ↓reduceIte, not_true_eq_false, not_false_eq_true, Bool.true_eq_false, Bool.false_eq_true, Classical.not_not, eq_self, and_self, and_true, true_and, Int.reduceEq, Int.reduceLE, Int.reduceLT, Int.reduceNeg, Option.toList, List.cons_append, List.nil_append, zup_s, zup_n, zst_s, zup_zs, zup_zn, decide_true, decide_false, c0, g2, hans]
    exact hout2
  · rw [if_neg c0] at hans
    simp (disch := first | omega | exact Nat.le_of_ble_eq_true rfl | assumption | (simp only [Int.natCast_add, Int.natCast_mul, Int.cast_ofNat_Int]; omega) | decide) only [k_FN_chance_6, k_FN_chance_7, x_aload, x_getf, w_goto, w_fall, w_iconst, w_if, w_icmp, x_iload, w_sipush, gf_36_2, gf_36_3, gf_2_0, gf_2_3, gf_2_6, w_jret r_FN_chance, q_eq, q_ne, q_lt, q_ge, q_gt, q_le, g_I, g_L, g_R, g_V, t_0, t_I, t_R, t_U, t_L, t_s, List.getElem?_cons_zero, List.getElem?_cons_succ, Nat.reduceAdd, zif10, zif01b, zib, if_pos, if_neg, ↓reduceIte, not_true_eq_false, not_false_eq_true, Bool.true_eq_false, Bool.false_eq_true, Classical.not_not, eq_self, and_self, and_true, true_and, Int.reduceEq, Int.reduceLE, Int.reduceLT, Int.reduceNeg, Option.toList, List.cons_append, List.nil_append, zup_s, zup_n, zst_s, zup_zs, zup_zn, decide_true, decide_false, c0, g3, hans]
    exact hout2
theorem c_FN_chance {d mi o b9 : Nat} {es : List zEnt} {L st : List zMV} {Q : Option zMV → (Nat → Int → Int) → Prop} {x w : Int} (hN : zNet S P mv tg) (hC : zNetC S P mv tg M) (hL : zLetC lt M) (hlt : ∀ s, lt s < 256) (hF : zForm P n kd lf rt gp) (hFC : zFormC n kd lf rt gp M) (hT : zTabI S P mv tg M) (hI : zLawI S P n mv tg lt kd lf rt gp M) (hK : zPkC 5 ch M) (hch : ∀ s p, ch s p < mv s p) (hlo : M 36 1 = lo) (hlr : -1 ≤ lo ∧ lo < P) (hd : 7 + 1 ≤ d) (hc : zcats st ≤ 8) (hpost : ∀ r M', (r = some (zL (zChA S (zMx S mv tg P ch lo (zHp mv tg P lt kd lf rt gp 0)) x w)) ∧ zOutC S P n mv tg lt kd lf rt gp M M') → zW (zSH Ln) d mi es L (r.toList ++ st) M' Q) : zW (zSH Ln) d mi ((.invokevirtual o, 148, b9) :: es) L (zI w :: zI x :: zR 2 :: st) M Q :=
  w_callv (ps := [zI x, zI w]) (by omega) rfl rfl (by omega) (by exact sh_2 Ln) hc (Nat.le_of_ble_eq_true rfl) (F_FN_chance hN hC hL hlt hF hFC hT hI hK hch hlo hlr (by omega)) hpost
end FC
