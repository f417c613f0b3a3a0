/-! the faces: copies between sheets, the reference's sheets -/
section FC
variable {Ln : Nat} {ln : Nat → Int} {sz : Nat → Nat} {it : Int → Int} {M : Nat → Int → Int}
theorem zcopy47 {d mi a b : Nat} {es : List zEnt} {L st : List zMV} {Q : Option zMV → (Nat → Int → Int) → Prop} {i j n : Int} (h : 0 ≤ n ∧ 0 ≤ i ∧ 0 ≤ j ∧ i + n ≤ 324 ∧ j + n ≤ 324) (hc : zcats st ≤ 8) : zW (zSH Ln) d mi ((.swap, a, b) :: es) L (zI n :: zI j :: zR 47 :: zI i :: zR 47 :: st) M Q = zW (zSH Ln) d mi es L st (zst M 47 (zmvd (M 47) i j n)) Q := by
  rw [w_copy (sh_47 Ln) (sh_47 Ln) ⟨h.1, h.2.1, h.2.2.1, h.2.2.2.1, h.2.2.2.2, by omega, by omega, hc⟩, zcpy_st]
set_option maxHeartbeats 20000000 in
theorem F_FN_copy {d : Nat} {x i z j n : Int} (hSh : zShC ln sz it M) (hs : ∀ k, k < 4 → sz k ≤ 81) (hd : 4 ≤ d) : zF (zSH Ln) d i_FN_copy [zR 2, zI x, zI i, zI z, zI j, zI n] M fun r M' => r = some (zI (zCyA ln sz x i z j n)) ∧ M' = (if zCyG ln sz x i z j n then zst M 47 (zmvd (M 47) (x * 81 + i) (z * 81 + j) n) else M) := by
  rw [zF_en k_FN_copy_0 (L := [zR 2, zI x, zI i, zI z, zI j, zI n]) rfl]
  generalize hans : zCyA ln sz x i z j n = ans
  generalize hmem : (if zCyG ln sz x i z j n then zst M 47 (zmvd (M 47) (x * 81 + i) (z * 81 + j) n) else M) = mem
  unfold zCyA at hans
  by_cases c1 : 0 ≤ x ∧ x < 4
  rotate_left
  · have c1' : ¬ zPlc x 0 := fun h => c1 h.1
    rw [if_neg (fun h => c1 h.1)] at hans
    rw [if_neg (fun h => c1 h.1.1)] at hmem
    subst hans; subst hmem
    simp (disch := first | omega | exact Nat.le_of_ble_eq_true rfl | assumption | (simp only [Int.natCast_add, Int.natCast_mul, Int.cast_ofNat_Int]; omega) | decide) only [k_FN_copy_2, x_aload, x_getf, w_fall, w_iadd, w_iconst, w_if, w_icmp, x_iload, w_imul, zadd_eq, zmul_eq, gf_44_0, gf_44_2, gf_2_8, at_45, ao_45, at_47, ao_47, w_nret r_FN_copy, q_eq, q_ne, q_lt, q_ge, q_gt, q_le, g_I, g_L, g_R, g_V, t_0, t_I, t_R, t_U, t_L, t_s, List.getElem?_cons_zero, List.getElem?_cons_succ, Nat.reduceAdd, zif10, zif01b, zib, if_pos, if_neg, ↓reduceIte, not_true_eq_false, not_false_eq_true, Bool.true_eq_false, Bool.false_eq_true, Classical.not_not, eq_self, and_self, and_true, true_and, Int.reduceEq, Int.reduceLE, Int.reduceLT, Int.reduceNeg, Option.toList, List.cons_append, List.nil_append, zup_s, zup_n, zst_s, zup_zs, zup_zn, decide_true, decide_false, c_Sh_place, c1']
  have c1' : zPlc x 0 := ⟨c1, by omega, by omega⟩
  by_cases c2 : 0 ≤ z ∧ z < 4
  rotate_left
  · have c2' : ¬ zPlc z 0 := fun h => c2 h.1
    rw [if_neg (fun h => c2 h.2)] at hans
    rw [if_neg (fun h => c2 h.1.2)] at hmem
    subst hans; subst hmem
    simp (disch := first | omega | exact Nat.le_of_ble_eq_true rfl | assumption | (simp only [Int.natCast_add, Int.natCast_mul, Int.cast_ofNat_Int]; omega) | decide) only [k_FN_copy_1, k_FN_copy_2, x_aload, x_getf, w_fall, w_iadd, w_iconst, w_if, w_icmp, x_iload, w_imul, zadd_eq, zmul_eq, gf_44_0, gf_44_2, gf_2_8, at_45, ao_45, at_47, ao_47, w_nret r_FN_copy, q_eq, q_ne, q_lt, q_ge, q_gt, q_le, g_I, g_L, g_R, g_V, t_0, t_I, t_R, t_U, t_L, t_s, List.getElem?_cons_zero, List.getElem?_cons_succ, Nat.reduceAdd, zif10, zif01b, zib, if_pos, if_neg, ↓reduceIte, not_true_eq_false, not_false_eq_true, Bool.true_eq_false, Bool.false_eq_true, Classical.not_not, eq_self, and_self, and_true, true_and, Int.reduceEq, Int.reduceLE, Int.reduceLT, Int.reduceNeg, Option.toList, List.cons_append, List.nil_append, zup_s, zup_n, zst_s, zup_zs, zup_zn, decide_true, decide_false, c_Sh_place, c1', c2']
  have c2' : zPlc z 0 := ⟨c2, by omega, by omega⟩
  rw [if_pos ⟨c1, c2⟩] at hans
  obtain ⟨p, rfl⟩ : ∃ k : Nat, x = (k : Int) := ⟨x.toNat, by omega⟩
  obtain ⟨q, rfl⟩ : ∃ k : Nat, z = (k : Int) := ⟨z.toNat, by omega⟩
  have hp : p < 4 := by omega
  have hq : q < 4 := by omega
  have hsp := hs p hp
  have hsq := hs q hq
  have hlp := (hSh.1 p hp).1
  have hlq := (hSh.1 q hq).1
  unfold zCyG at hmem
  simp only [Int.toNat_natCast] at hans hmem
  by_cases c3 : ln p = -1
  · rw [if_neg (fun h => h.1 c3)] at hans
    rw [if_neg (fun h => h.2.1.1 c3)] at hmem
    subst hans; subst hmem
    simp (disch := first | omega | exact Nat.le_of_ble_eq_true rfl | assumption | (simp only [Int.natCast_add, Int.natCast_mul, Int.cast_ofNat_Int]; omega) | decide) only [k_FN_copy_1, k_FN_copy_3, k_FN_copy_5, x_aload, x_getf, w_fall, w_iadd, w_iconst, w_if, w_icmp, x_iload, w_imul, zadd_eq, zmul_eq, gf_44_0, gf_44_2, gf_2_8, at_45, ao_45, at_47, ao_47, w_nret r_FN_copy, q_eq, q_ne, q_lt, q_ge, q_gt, q_le, g_I, g_L, g_R, g_V, t_0, t_I, t_R, t_U, t_L, t_s, List.getElem?_cons_zero, List.getElem?_cons_succ, Nat.reduceAdd, zif10, zif01b, zib, if_pos, if_neg, ↓reduceIte, not_true_eq_false, not_false_eq_true, Bool.true_eq_false, Bool.false_eq_true, Classical.not_not, eq_self, and_self, and_true, true_and, Int.reduceEq, Int.reduceLE, Int.reduceLT, Int.reduceNeg, Option.toList, List.cons_append, List.nil_append, zup_s, zup_n, zst_s, zup_zs, zup_zn, decide_true, decide_false, c_Sh_place, c1', c2', c_Sh_isEmptyPlace hSh hp, c3]
  by_cases c4 : ln q = -1
  · rw [if_neg (fun h => h.2 c4)] at hans
    rw [if_neg (fun h => h.2.1.2 c4)] at hmem
    subst hans; subst hmem
    simp (disch := first | omega | exact Nat.le_of_ble_eq_true rfl | assumption | (simp only [Int.natCast_add, Int.natCast_mul, Int.cast_ofNat_Int]; omega) | decide) only [k_FN_copy_1, k_FN_copy_3, k_FN_copy_4, k_FN_copy_5, x_aload, x_getf, w_fall, w_iadd, w_iconst, w_if, w_icmp, x_iload, w_imul, zadd_eq, zmul_eq, gf_44_0, gf_44_2, gf_2_8, at_45, ao_45, at_47, ao_47, w_nret r_FN_copy, q_eq, q_ne, q_lt, q_ge, q_gt, q_le, g_I, g_L, g_R, g_V, t_0, t_I, t_R, t_U, t_L, t_s, List.getElem?_cons_zero, List.getElem?_cons_succ, Nat.reduceAdd, zif10, zif01b, zib, if_pos, if_neg, ↓reduceIte, not_true_eq_false, not_false_eq_true, Bool.true_eq_false, Bool.false_eq_true, Classical.not_not, eq_self, and_self, and_true, true_and, Int.reduceEq, Int.reduceLE, Int.reduceLT, Int.reduceNeg, Option.toList, List.cons_append, List.nil_append, zup_s, zup_n, zst_s, zup_zs, zup_zn, decide_true, decide_false, c_Sh_place, c1', c2', c_Sh_isEmptyPlace hSh hp, c_Sh_isEmptyPlace hSh hq, c3, c4]
  rw [if_pos ⟨c3, c4⟩] at hans
  by_cases c5 : ln p = ln q
  rotate_left
  · rw [if_neg c5] at hans
    rw [if_neg (fun h => c5 h.2.2.1)] at hmem
    subst hans; subst hmem
    simp (disch := first | omega | exact Nat.le_of_ble_eq_true rfl | assumption | (simp only [Int.natCast_add, Int.natCast_mul, Int.cast_ofNat_Int]; omega) | decide) only [k_FN_copy_1, k_FN_copy_3, k_FN_copy_4, k_FN_copy_6, k_FN_copy_7, x_aload, x_getf, w_fall, w_iadd, w_iconst, w_if, w_icmp, x_iload, w_imul, zadd_eq, zmul_eq, gf_44_0, gf_44_2, gf_2_8, at_45, ao_45, at_47, ao_47, w_nret r_FN_copy, q_eq, q_ne, q_lt, q_ge, q_gt, q_le, g_I, g_L, g_R, g_V, t_0, t_I, t_R, t_U, t_L, t_s, List.getElem?_cons_zero, List.getElem?_cons_succ, Nat.reduceAdd, zif10, zif01b, zib, if_pos, if_neg, ↓reduceIte, not_true_eq_false, not_false_eq_true, Bool.true_eq_false, Bool.false_eq_true, Classical.not_not, eq_self, and_self, and_true, true_and, Int.reduceEq, Int.reduceLE, Int.reduceLT, Int.reduceNeg, Option.toList, List.cons_append, List.nil_append, zup_s, zup_n, zst_s, zup_zs, zup_zn, decide_true, decide_false, c_Sh_place, c1', c2', c_Sh_isEmptyPlace hSh hp, c_Sh_isEmptyPlace hSh hq, c3, c4, at_45, hlp, hlq, c5]
  rw [if_pos c5] at hans
  by_cases c6 : 0 ≤ n ∧ 0 ≤ i ∧ i + n ≤ sz p
  rotate_left
  · rw [if_neg (fun h => c6 ⟨h.1, h.2.1⟩)] at hans
    rw [if_neg (fun h => c6 ⟨h.2.2.2.1, h.2.2.2.2.1⟩)] at hmem
    subst hans; subst hmem
    simp (disch := first | omega | exact Nat.le_of_ble_eq_true rfl | assumption | (simp only [Int.natCast_add, Int.natCast_mul, Int.cast_ofNat_Int]; omega) | decide) only [k_FN_copy_1, k_FN_copy_3, k_FN_copy_4, k_FN_copy_6, k_FN_copy_8, k_FN_copy_10, x_aload, x_getf, w_fall, w_iadd, w_iconst, w_if, w_icmp, x_iload, w_imul, zadd_eq, zmul_eq, gf_44_0, gf_44_2, gf_2_8, at_45, ao_45, at_47, ao_47, w_nret r_FN_copy, q_eq, q_ne, q_lt, q_ge, q_gt, q_le, g_I, g_L, g_R, g_V, t_0, t_I, t_R, t_U, t_L, t_s, List.getElem?_cons_zero, List.getElem?_cons_succ, Nat.reduceAdd, zif10, zif01b, zib, if_pos, if_neg, ↓reduceIte, not_true_eq_false, not_false_eq_true, Bool.true_eq_false, Bool.false_eq_true, Classical.not_not, eq_self, and_self, and_true, true_and, Int.reduceEq, Int.reduceLE, Int.reduceLT, Int.reduceNeg, Option.toList, List.cons_append, List.nil_append, zup_s, zup_n, zst_s, zup_zs, zup_zn, decide_true, decide_false, c_Sh_place, c1', c2', c_Sh_isEmptyPlace hSh hp, c_Sh_isEmptyPlace hSh hq, c3, c4, at_45, hlp, hlq, c5, c_Sh_hasItems hSh hp hsp, c6]
  by_cases c7 : 0 ≤ n ∧ 0 ≤ j ∧ j + n ≤ sz q
  rotate_left
  · rw [if_neg (fun h => c7 ⟨h.1, h.2.2⟩)] at hans
    rw [if_neg (fun h => c7 ⟨h.2.2.2.1, h.2.2.2.2.2⟩)] at hmem
    subst hans; subst hmem
    simp (disch := first | omega | exact Nat.le_of_ble_eq_true rfl | assumption | (simp only [Int.natCast_add, Int.natCast_mul, Int.cast_ofNat_Int]; omega) | decide) only [k_FN_copy_1, k_FN_copy_3, k_FN_copy_4, k_FN_copy_6, k_FN_copy_8, k_FN_copy_9, k_FN_copy_10, x_aload, x_getf, w_fall, w_iadd, w_iconst, w_if, w_icmp, x_iload, w_imul, zadd_eq, zmul_eq, gf_44_0, gf_44_2, gf_2_8, at_45, ao_45, at_47, ao_47, w_nret r_FN_copy, q_eq, q_ne, q_lt, q_ge, q_gt, q_le, g_I, g_L, g_R, g_V, t_0, t_I, t_R, t_U, t_L, t_s, List.getElem?_cons_zero, List.getElem?_cons_succ, Nat.reduceAdd, zif10, zif01b, zib, if_pos, if_neg, ↓reduceIte, not_true_eq_false, not_false_eq_true, Bool.true_eq_false, Bool.false_eq_true, Classical.not_not, eq_self, and_self, and_true, true_and, Int.reduceEq, Int.reduceLE, Int.reduceLT, Int.reduceNeg, Option.toList, List.cons_append, List.nil_append, zup_s, zup_n, zst_s, zup_zs, zup_zn, decide_true, decide_false, c_Sh_place, c1', c2', c_Sh_isEmptyPlace hSh hp, c_Sh_isEmptyPlace hSh hq, c3, c4, at_45, hlp, hlq, c5, c_Sh_hasItems hSh hp hsp, c6, c_Sh_hasItems hSh hq hsq, c7]
  rw [if_pos ⟨c6.1, c6.2, c7.2⟩] at hans
  rw [if_pos ⟨⟨c1, c2⟩, ⟨c3, c4⟩, c5, c6.1, c6.2, c7.2⟩] at hmem
  subst hans; subst hmem
  have hcp : 0 ≤ n ∧ 0 ≤ (p : Int) * 81 + i ∧ 0 ≤ (q : Int) * 81 + j ∧ (p : Int) * 81 + i + n ≤ 324 ∧ (q : Int) * 81 + j + n ≤ 324 := by omega
  have m1 : zmul (p : Int) 81 = (p : Int) * 81 := zmul_eq (by omega) (by omega)
  have m2 : zmul (q : Int) 81 = (q : Int) * 81 := zmul_eq (by omega) (by omega)
  have a1 : zadd ((p : Int) * 81) i = (p : Int) * 81 + i := zadd_eq (by omega) (by omega)
  have a2 : zadd ((q : Int) * 81) j = (q : Int) * 81 + j := zadd_eq (by omega) (by omega)
  simp (disch := first | omega | exact Nat.le_of_ble_eq_true rfl | assumption | (simp only [Int.natCast_add, Int.natCast_mul, Int.cast_ofNat_Int]; omega) | decide) only [k_FN_copy_1, k_FN_copy_3, k_FN_copy_4, k_FN_copy_6, k_FN_copy_8, k_FN_copy_9, k_FN_copy_11, x_aload, x_getf, w_fall, w_iadd, w_iconst, w_if, w_icmp, x_iload, w_imul, zadd_eq, zmul_eq, gf_44_0, gf_44_2, gf_2_8, at_45, ao_45, at_47, ao_47, w_nret r_FN_copy, q_eq, q_ne, q_lt, q_ge, q_gt, q_le, g_I, g_L, g_R, g_V, t_0, t_I, t_R, t_U, t_L, t_s, List.getElem?_cons_zero, List.getElem?_cons_succ, Nat.reduceAdd, zif10, zif01b, zib, if_pos, if_neg, ↓reduceIte, not_true_eq_false, not_false_eq_true, Bool.true_eq_false, Bool.false_eq_true, Classical.not_not, eq_self, and_self, and_true, true_and, Int.reduceEq, Int.reduceLE, Int.reduceLT, Int.reduceNeg, Option.toList, List.cons_append, List.nil_append, zup_s, zup_n, zst_s, zup_zs, zup_zn, decide_true, decide_false, c_Sh_place, c1', c2', c_Sh_isEmptyPlace hSh hp, c_Sh_isEmptyPlace hSh hq, c3, c4, at_45, hlp, hlq, c5, c_Sh_hasItems hSh hp hsp, c6, c_Sh_hasItems hSh hq hsq, c7, m1, m2, a1, a2, zcopy47 hcp]
theorem c_FN_copy {d mi o b9 : Nat} {es : List zEnt} {L st : List zMV} {Q : Option zMV → (Nat → Int → Int) → Prop} {x i z j n : Int} (hSh : zShC ln sz it M) (hs : ∀ k, k < 4 → sz k ≤ 81) (hd : 4 + 1 ≤ d) (hc : zcats st ≤ 8) : zW (zSH Ln) d mi ((.invokevirtual o, 158, b9) :: es) L (zI n :: zI j :: zI z :: zI i :: zI x :: zR 2 :: st) M Q = zW (zSH Ln) d mi es L (zI (zCyA ln sz x i z j n) :: st) ((if zCyG ln sz x i z j n then zst M 47 (zmvd (M 47) (x * 81 + i) (z * 81 + j) n) else M)) Q :=
  c_virt (ps := [zI x, zI i, zI z, zI j, zI n]) (by omega) rfl rfl (by omega) (by exact sh_2 Ln) hc (Nat.le_of_ble_eq_true rfl) (F_FN_copy hSh hs (by omega))
end FC
section RE
variable {Ln : Nat} {ln : Nat → Int} {sz : Nat → Nat} {it : Int → Int} {M : Nat → Int → Int}
theorem F_Md_sheet {d : Nat} {x y n : Int} (hd : 2 ≤ d) : zF (zSH Ln) d i_Md_sheet [zR 48, zI x, zI y, zI n] M fun r M' => r = some (zI (zShtA x y n)) ∧ M' = if zShtG x y n then zst (zup (zup M 72 x y) 73 x n) 74 (zrng (M 74) (x.toNat * 81) 81 0) else M := by
  rw [zF_en k_Md_sheet_0 (L := [zR 48, zI x, zI y, zI n, zU]) rfl]
  unfold zShtA zShtG
  by_cases c1 : 0 ≤ x ∧ x < 4
  rotate_left
  · rw [if_neg (fun z => c1 z.1.1), if_neg (fun z => c1 z.1.1.1)]
    simp (disch := first | omega | exact Nat.le_of_ble_eq_true rfl | assumption | (simp only [Int.natCast_add, Int.natCast_mul, Int.cast_ofNat_Int]; omega) | decide) only [k_Md_sheet_3, x_aload, x_getf, w_goto, w_fall, w_iadd, w_iconst, w_if, w_icmp, x_iinc, x_iload, w_imul, x_istore, zadd_eq, zmul_eq, gf_48_33, gf_48_34, gf_48_35, sa_72, sa_73, sa_74, w_nret r_Md_sheet, q_eq, q_ne, q_lt, q_ge, q_gt, q_le, g_I, g_L, g_R, g_V, t_0, t_I, t_R, t_U, t_L, t_s, List.getElem?_cons_zero, List.getElem?_cons_succ, Nat.reduceAdd, zif10, zif01b, zib, if_pos, if_neg, ↓reduceIte, not_true_eq_false, not_false_eq_true, Bool.true_eq_false, Bool.false_eq_true, Classical.not_not, eq_self, and_self, and_true, true_and, Int.reduceEq, Int.reduceLE, Int.reduceLT, Int.reduceNeg, Option.toList, List.cons_append, List.nil_append, zup_s, zup_n, zst_s, zup_zs, zup_zn, decide_true, decide_false, c_Md_isSheet, c1]
  by_cases c1b : 0 ≤ y ∧ y < 3
  rotate_left
  · rw [if_neg (fun z => c1b z.1.2), if_neg (fun z => c1b z.1.1.2)]
    simp (disch := first | omega | exact Nat.le_of_ble_eq_true rfl | assumption | (simp only [Int.natCast_add, Int.natCast_mul, Int.cast_ofNat_Int]; omega) | decide) only [k_Md_sheet_1, k_Md_sheet_3, x_aload, x_getf, w_goto, w_fall, w_iadd, w_iconst, w_if, w_icmp, x_iinc, x_iload, w_imul, x_istore, zadd_eq, zmul_eq, gf_48_33, gf_48_34, gf_48_35, sa_72, sa_73, sa_74, w_nret r_Md_sheet, q_eq, q_ne, q_lt, q_ge, q_gt, q_le, g_I, g_L, g_R, g_V, t_0, t_I, t_R, t_U, t_L, t_s, List.getElem?_cons_zero, List.getElem?_cons_succ, Nat.reduceAdd, zif10, zif01b, zib, if_pos, if_neg, ↓reduceIte, not_true_eq_false, not_false_eq_true, Bool.true_eq_false, Bool.false_eq_true, Classical.not_not, eq_self, and_self, and_true, true_and, Int.reduceEq, Int.reduceLE, Int.reduceLT, Int.reduceNeg, Option.toList, List.cons_append, List.nil_append, zup_s, zup_n, zst_s, zup_zs, zup_zn, decide_true, decide_false, c_Md_isSheet, c_Md_isLane, c1, c1b]
  have cp : zPlc x y := ⟨c1, c1b⟩
  by_cases c2 : n ≤ 81
  rotate_left
  · rw [if_neg (fun z => c2 z.2), if_neg (fun z => c2 z.1.2)]
    simp (disch := first | omega | exact Nat.le_of_ble_eq_true rfl | assumption | (simp only [Int.natCast_add, Int.natCast_mul, Int.cast_ofNat_Int]; omega) | decide) only [k_Md_sheet_1, k_Md_sheet_2, k_Md_sheet_3, x_aload, x_getf, w_goto, w_fall, w_iadd, w_iconst, w_if, w_icmp, x_iinc, x_iload, w_imul, x_istore, zadd_eq, zmul_eq, gf_48_33, gf_48_34, gf_48_35, sa_72, sa_73, sa_74, w_nret r_Md_sheet, q_eq, q_ne, q_lt, q_ge, q_gt, q_le, g_I, g_L, g_R, g_V, t_0, t_I, t_R, t_U, t_L, t_s, List.getElem?_cons_zero, List.getElem?_cons_succ, Nat.reduceAdd, zif10, zif01b, zib, if_pos, if_neg, ↓reduceIte, not_true_eq_false, not_false_eq_true, Bool.true_eq_false, Bool.false_eq_true, Classical.not_not, eq_self, and_self, and_true, true_and, Int.reduceEq, Int.reduceLE, Int.reduceLT, Int.reduceNeg, Option.toList, List.cons_append, List.nil_append, zup_s, zup_n, zst_s, zup_zs, zup_zn, decide_true, decide_false, c_Md_isSheet, c_Md_isLane, c1, c1b, c2]
  by_cases c3 : 0 ≤ n
  rotate_left
  · rw [if_pos ⟨cp, c2⟩, if_neg c3, if_neg (fun z => c3 z.2)]
    simp (disch := first | omega | exact Nat.le_of_ble_eq_true rfl | assumption | (simp only [Int.natCast_add, Int.natCast_mul, Int.cast_ofNat_Int]; omega) | decide) only [k_Md_sheet_1, k_Md_sheet_2, k_Md_sheet_4, k_Md_sheet_5, x_aload, x_getf, w_goto, w_fall, w_iadd, w_iconst, w_if, w_icmp, x_iinc, x_iload, w_imul, x_istore, zadd_eq, zmul_eq, gf_48_33, gf_48_34, gf_48_35, sa_72, sa_73, sa_74, w_nret r_Md_sheet, q_eq, q_ne, q_lt, q_ge, q_gt, q_le, g_I, g_L, g_R, g_V, t_0, t_I, t_R, t_U, t_L, t_s, List.getElem?_cons_zero, List.getElem?_cons_succ, Nat.reduceAdd, zif10, zif01b, zib, if_pos, if_neg, ↓reduceIte, not_true_eq_false, not_false_eq_true, Bool.true_eq_false, Bool.false_eq_true, Classical.not_not, eq_self, and_self, and_true, true_and, Int.reduceEq, Int.reduceLE, Int.reduceLT, Int.reduceNeg, Option.toList, List.cons_append, List.nil_append, zup_s, zup_n, zst_s, zup_zs, zup_zn, decide_true, decide_false, c_Md_isSheet, c_Md_isLane, c1, c1b, c2, c3]
  rw [if_pos ⟨cp, c2⟩, if_pos c3, if_pos ⟨⟨cp, c2⟩, c3⟩]
  obtain ⟨k, rfl⟩ : ∃ k : Nat, x = (k : Int) := ⟨x.toNat, by omega⟩
  have hk : k < 4 := by omega
  rw [Int.toNat_natCast]
  simp (disch := first | omega | exact Nat.le_of_ble_eq_true rfl | assumption | (simp only [Int.natCast_add, Int.natCast_mul, Int.cast_ofNat_Int]; omega) | decide) only [k_Md_sheet_1, k_Md_sheet_2, k_Md_sheet_4, k_Md_sheet_6, x_aload, x_getf, w_goto, w_fall, w_iadd, w_iconst, w_if, w_icmp, x_iinc, x_iload, w_imul, x_istore, zadd_eq, zmul_eq, gf_48_33, gf_48_34, gf_48_35, sa_72, sa_73, sa_74, w_nret r_Md_sheet, q_eq, q_ne, q_lt, q_ge, q_gt, q_le, g_I, g_L, g_R, g_V, t_0, t_I, t_R, t_U, t_L, t_s, List.getElem?_cons_zero, List.getElem?_cons_succ, Nat.reduceAdd, zif10, zif01b, zib, if_pos, if_neg, ↓reduceIte, not_true_eq_false, not_false_eq_true, Bool.true_eq_false, Bool.false_eq_true, Classical.not_not, eq_self, and_self, and_true, true_and, Int.reduceEq, Int.reduceLE, Int.reduceLT, Int.reduceNeg, Option.toList, List.cons_append, List.nil_append, zup_s, zup_n, zst_s, zup_zs, zup_zn, decide_true, decide_false, c_Md_isSheet, c_Md_isLane, c1, c1b, c2, c3]
  refine zfor (a := 0) (N := 81) (b := 7) (fun p L0 M0 => L0 = [zR 48, zI k, zI y, zI n, zI (p : Int)] ∧ M0 = zst (zup (zup M 72 k y) 73 k n) 74 (zrng (M 74) (k * 81) p 0)) ?_ ?_ ?_ ?_
  · exact Nat.zero_le _
  · refine ⟨rfl, ?_⟩
    rw [zrng_0]
    exact (zst_id (zup (zup M 72 k y) 73 k n) 74).symm
  · rintro p _ _ _ hp ⟨rfl, rfl⟩ ih
    rw [k_Md_sheet_7]
    simp (disch := first | omega | exact Nat.le_of_ble_eq_true rfl | assumption | (simp only [Int.natCast_add, Int.natCast_mul, Int.cast_ofNat_Int]; omega) | decide) only [k_Md_sheet_8, x_aload, x_getf, w_goto, w_fall, w_iadd, w_iconst, w_if, w_icmp, x_iinc, x_iload, w_imul, x_istore, zadd_eq, zmul_eq, gf_48_33, gf_48_34, gf_48_35, sa_72, sa_73, sa_74, w_nret r_Md_sheet, q_eq, q_ne, q_lt, q_ge, q_gt, q_le, g_I, g_L, g_R, g_V, t_0, t_I, t_R, t_U, t_L, t_s, List.getElem?_cons_zero, List.getElem?_cons_succ, Nat.reduceAdd, zif10, zif01b, zib, if_pos, if_neg, ↓reduceIte, not_true_eq_false, not_false_eq_true, Bool.true_eq_false, Bool.false_eq_true, Classical.not_not, eq_self, and_self, and_true, true_and, Int.reduceEq, Int.reduceLE, Int.reduceLT, Int.reduceNeg, Option.toList, List.cons_append, List.nil_append, zup_s, zup_n, zst_s, zup_zs, zup_zn, decide_true, decide_false]
    refine ih _ _ ⟨rfl, ?_⟩
    rw [zrng_up2 (by omega)]
  · rintro _ _ ⟨rfl, rfl⟩
    rw [k_Md_sheet_7]
    simp (disch := first | omega | exact Nat.le_of_ble_eq_true rfl | assumption | (simp only [Int.natCast_add, Int.natCast_mul, Int.cast_ofNat_Int]; omega) | decide) only [k_Md_sheet_9, x_aload, x_getf, w_goto, w_fall, w_iadd, w_iconst, w_if, w_icmp, x_iinc, x_iload, w_imul, x_istore, zadd_eq, zmul_eq, gf_48_33, gf_48_34, gf_48_35, sa_72, sa_73, sa_74, w_nret r_Md_sheet, q_eq, q_ne, q_lt, q_ge, q_gt, q_le, g_I, g_L, g_R, g_V, t_0, t_I, t_R, t_U, t_L, t_s, List.getElem?_cons_zero, List.getElem?_cons_succ, Nat.reduceAdd, zif10, zif01b, zib, if_pos, if_neg, ↓reduceIte, not_true_eq_false, not_false_eq_true, Bool.true_eq_false, Bool.false_eq_true, Classical.not_not, eq_self, and_self, and_true, true_and, Int.reduceEq, Int.reduceLE, Int.reduceLT, Int.reduceNeg, Option.toList, List.cons_append, List.nil_append, zup_s, zup_n, zst_s, zup_zs, zup_zn, decide_true, decide_false]
theorem c_Md_sheet {d mi o b9 : Nat} {es : List zEnt} {L st : List zMV} {Q : Option zMV → (Nat → Int → Int) → Prop} {x y n : Int} (hd : 2 + 1 ≤ d) (hc : zcats st ≤ 8) (hpost : ∀ r M', (r = some (zI (zShtA x y n)) ∧ M' = if zShtG x y n then zst (zup (zup M 72 x y) 73 x n) 74 (zrng (M 74) (x.toNat * 81) 81 0) else M) → zW (zSH Ln) d mi es L (r.toList ++ st) M' Q) : zW (zSH Ln) d mi ((.invokevirtual o, 258, b9) :: es) L (zI n :: zI y :: zI x :: zR 48 :: st) M Q :=
  w_callv (ps := [zI x, zI y, zI n]) (by omega) rfl rfl (by omega) (by exact sh_48 Ln) hc (Nat.le_of_ble_eq_true rfl) (F_Md_sheet  (by omega)) hpost
theorem F_Md_drop {d : Nat} {x : Int} (hSh : zShR ln sz it M) (hl : ∀ k, k < 4 → -1 ≤ ln k) (hd : 2 ≤ d) : zF (zSH Ln) d i_Md_drop [zR 48, zI x] M fun r M' => r = some (zI (zDrA ln sz x)) ∧ M' = (if zDrG ln x then zup M 72 x (-1) else M) := by
  rw [zF_en k_Md_drop_0 (L := [zR 48, zI x]) rfl]
  unfold zDrA zDrG
  by_cases c1 : 0 ≤ x ∧ x < 4
  · obtain ⟨k, rfl⟩ : ∃ k : Nat, x = (k : Int) := ⟨x.toNat, by omega⟩
    have hk : k < 4 := by omega
    obtain ⟨h1, h2⟩ := hSh.1 k hk
    have hlk := hl k hk
    rw [Int.toNat_natCast]
    by_cases c2 : ln k = -1
    · have c2' : ¬ 0 ≤ ln k := by omega
      rw [if_pos c1, if_pos c2, if_neg (fun z => z.2 c2)]
      simp (disch := first | omega | exact Nat.le_of_ble_eq_true rfl | assumption | (simp only [Int.natCast_add, Int.natCast_mul, Int.cast_ofNat_Int]; omega) | decide) only [k_Md_drop_2, k_Md_drop_3, x_aload, x_getf, w_fall, w_iconst, w_if, x_iload, gf_48_33, gf_48_34, ia_72, sa_72, ia_73, sa_73, w_nret r_Md_drop, q_eq, q_ne, q_lt, q_ge, q_gt, q_le, g_I, g_L, g_R, g_V, t_0, t_I, t_R, t_U, t_L, t_s, List.getElem?_cons_zero, List.getElem?_cons_succ, Nat.reduceAdd, zif10, zif01b, zib, if_pos, if_neg, ↓reduceIte, not_true_eq_false, not_false_eq_true, Bool.true_eq_false, Bool.false_eq_true, Classical.not_not, eq_self, and_self, and_true, true_and, Int.reduceEq, Int.reduceLE, Int.reduceLT, Int.reduceNeg, Option.toList, List.cons_append, List.nil_append, zup_s, zup_n, zst_s, zup_zs, zup_zn, decide_true, decide_false, c_Md_isSheet, c1, h1, c2']
    · have c2' : 0 ≤ ln k := by omega
      rw [if_pos c1, if_neg c2, if_pos ⟨c1, c2⟩]
      simp (disch := first | omega | exact Nat.le_of_ble_eq_true rfl | assumption | (simp only [Int.natCast_add, Int.natCast_mul, Int.cast_ofNat_Int]; omega) | decide) only [k_Md_drop_2, k_Md_drop_4, x_aload, x_getf, w_fall, w_iconst, w_if, x_iload, gf_48_33, gf_48_34, ia_72, sa_72, ia_73, sa_73, w_nret r_Md_drop, q_eq, q_ne, q_lt, q_ge, q_gt, q_le, g_I, g_L, g_R, g_V, t_0, t_I, t_R, t_U, t_L, t_s, List.getElem?_cons_zero, List.getElem?_cons_succ, Nat.reduceAdd, zif10, zif01b, zib, if_pos, if_neg, ↓reduceIte, not_true_eq_false, not_false_eq_true, Bool.true_eq_false, Bool.false_eq_true, Classical.not_not, eq_self, and_self, and_true, true_and, Int.reduceEq, Int.reduceLE, Int.reduceLT, Int.reduceNeg, Option.toList, List.cons_append, List.nil_append, zup_s, zup_n, zst_s, zup_zs, zup_zn, decide_true, decide_false, c_Md_isSheet, c1, h1, c2', zup_n, h2]
  · rw [if_neg c1, if_neg (fun z => c1 z.1)]
    simp (disch := first | omega | exact Nat.le_of_ble_eq_true rfl | assumption | (simp only [Int.natCast_add, Int.natCast_mul, Int.cast_ofNat_Int]; omega) | decide) only [k_Md_drop_1, x_aload, x_getf, w_fall, w_iconst, w_if, x_iload, gf_48_33, gf_48_34, ia_72, sa_72, ia_73, sa_73, w_nret r_Md_drop, q_eq, q_ne, q_lt, q_ge, q_gt, q_le, g_I, g_L, g_R, g_V, t_0, t_I, t_R, t_U, t_L, t_s, List.getElem?_cons_zero, List.getElem?_cons_succ, Nat.reduceAdd, zif10, zif01b, zib, if_pos, if_neg, ↓reduceIte, not_true_eq_false, not_false_eq_true, Bool.true_eq_false, Bool.false_eq_true, Classical.not_not, eq_self, and_self, and_true, true_and, Int.reduceEq, Int.reduceLE, Int.reduceLT, Int.reduceNeg, Option.toList, List.cons_append, List.nil_append, zup_s, zup_n, zst_s, zup_zs, zup_zn, decide_true, decide_false, c_Md_isSheet, c1]
theorem c_Md_drop {d mi o b9 : Nat} {es : List zEnt} {L st : List zMV} {Q : Option zMV → (Nat → Int → Int) → Prop} {x : Int} (hSh : zShR ln sz it M) (hl : ∀ k, k < 4 → -1 ≤ ln k) (hd : 2 + 1 ≤ d) (hc : zcats st ≤ 8) : zW (zSH Ln) d mi ((.invokevirtual o, 259, b9) :: es) L (zI x :: zR 48 :: st) M Q = zW (zSH Ln) d mi es L (zI (zDrA ln sz x) :: st) ((if zDrG ln x then zup M 72 x (-1) else M)) Q :=
  c_virt (ps := [zI x]) (by omega) rfl rfl (by omega) (by exact sh_48 Ln) hc (Nat.le_of_ble_eq_true rfl) (F_Md_drop hSh hl (by omega))
theorem F_Md_item {d : Nat} {x y i v : Int} (hSh : zShR ln sz it M) (hs : ∀ k, k < 4 → sz k ≤ 81) (hl : ∀ k, k < 4 → -1 ≤ ln k) (hi : i < 2147483648) (hd : 2 ≤ d) : zF (zSH Ln) d i_Md_item [zR 48, zI x, zI y, zI i, zI v] M fun r M' => r = some (zI (zItA ln sz x y i)) ∧ M' = (if zItG ln sz x y i then zup M 74 (x * 81 + i) (if y = 0 then zi2b v else v) else M) := by
  rw [zF_en k_Md_item_0 (L := [zR 48, zI x, zI y, zI i, zI v, zU]) rfl]
  unfold zItA zItG
  by_cases c1 : 0 ≤ x ∧ x < 4
  rotate_left
  · rw [if_neg (fun z => c1 z.1), if_neg (fun z => c1 z.1.1)]
    simp (disch := first | omega | exact Nat.le_of_ble_eq_true rfl | assumption | (simp only [Int.natCast_add, Int.natCast_mul, Int.cast_ofNat_Int]; omega) | decide) only [k_Md_item_2, x_aload, x_getf, w_goto, w_fall, w_i2b, w_iadd, w_iconst, w_if, x_iload, w_imul, x_istore, zadd_eq, zmul_eq, gf_48_35, sa_74, w_nret r_Md_item, q_eq, q_ne, q_lt, q_ge, q_gt, q_le, g_I, g_L, g_R, g_V, t_0, t_I, t_R, t_U, t_L, t_s, List.getElem?_cons_zero, List.getElem?_cons_succ, Nat.reduceAdd, zif10, zif01b, zib, if_pos, if_neg, ↓reduceIte, not_true_eq_false, not_false_eq_true, Bool.true_eq_false, Bool.false_eq_true, Classical.not_not, eq_self, and_self, and_true, true_and, Int.reduceEq, Int.reduceLE, Int.reduceLT, Int.reduceNeg, Option.toList, List.cons_append, List.nil_append, zup_s, zup_n, zst_s, zup_zs, zup_zn, decide_true, decide_false, c_Md_isSheet, c1]
  by_cases c1b : 0 ≤ y ∧ y < 3
  rotate_left
  · rw [if_neg (fun z => c1b z.2), if_neg (fun z => c1b z.1.2)]
    simp (disch := first | omega | exact Nat.le_of_ble_eq_true rfl | assumption | (simp only [Int.natCast_add, Int.natCast_mul, Int.cast_ofNat_Int]; omega) | decide) only [k_Md_item_1, k_Md_item_2, x_aload, x_getf, w_goto, w_fall, w_i2b, w_iadd, w_iconst, w_if, x_iload, w_imul, x_istore, zadd_eq, zmul_eq, gf_48_35, sa_74, w_nret r_Md_item, q_eq, q_ne, q_lt, q_ge, q_gt, q_le, g_I, g_L, g_R, g_V, t_0, t_I, t_R, t_U, t_L, t_s, List.getElem?_cons_zero, List.getElem?_cons_succ, Nat.reduceAdd, zif10, zif01b, zib, if_pos, if_neg, ↓reduceIte, not_true_eq_false, not_false_eq_true, Bool.true_eq_false, Bool.false_eq_true, Classical.not_not, eq_self, and_self, and_true, true_and, Int.reduceEq, Int.reduceLE, Int.reduceLT, Int.reduceNeg, Option.toList, List.cons_append, List.nil_append, zup_s, zup_n, zst_s, zup_zs, zup_zn, decide_true, decide_false, c_Md_isSheet, c_Md_isLane, c1, c1b]
  have cp : zPlc x y := ⟨c1, c1b⟩
  obtain ⟨k, rfl⟩ : ∃ k : Nat, x = (k : Int) := ⟨x.toNat, by omega⟩
  have hk : k < 4 := by omega
  have hsk := hs k hk
  have hlk := hl k hk
  have hf1 : -2147483648 ≤ (1 : Int) ∧ (1 : Int) < 2147483648 := by omega
  rw [Int.toNat_natCast]
  rcases zWrg_v (ln := ln) (sz := sz) (k := k) (l := y) (i := i) (n := 1) with c2 | c2
  · obtain ⟨e1, e2, e3⟩ := zWrg_0 c2
    have m1 : zadd (zmul 81 (k : Int)) i = (k : Int) * 81 + i := by rw [zmul_eq (by omega) (by omega), zadd_eq (by omega) (by omega)]; omega
    rw [if_pos cp, if_pos c2, if_pos ⟨cp, c2⟩]
    by_cases c4 : y = 0
    · subst c4
      rw [if_pos rfl]
      simp (disch := first | omega | exact Nat.le_of_ble_eq_true rfl | assumption | (simp only [Int.natCast_add, Int.natCast_mul, Int.cast_ofNat_Int]; omega) | decide) only [k_Md_item_1, k_Md_item_3, k_Md_item_5, k_Md_item_6, k_Md_item_8, x_aload, x_getf, w_goto, w_fall, w_i2b, w_iadd, w_iconst, w_if, x_iload, w_imul, x_istore, zadd_eq, zmul_eq, gf_48_35, sa_74, w_nret r_Md_item, q_eq, q_ne, q_lt, q_ge, q_gt, q_le, g_I, g_L, g_R, g_V, t_0, t_I, t_R, t_U, t_L, t_s, List.getElem?_cons_zero, List.getElem?_cons_succ, Nat.reduceAdd, zif10, zif01b, zib, if_pos, if_neg, ↓reduceIte, not_true_eq_false, not_false_eq_true, Bool.true_eq_false, Bool.false_eq_true, Classical.not_not, eq_self, and_self, and_true, true_and, Int.reduceEq, Int.reduceLE, Int.reduceLT, Int.reduceNeg, Option.toList, List.cons_append, List.nil_append, zup_s, zup_n, zst_s, zup_zs, zup_zn, decide_true, decide_false, c_Md_isSheet, c_Md_isLane, c1, c1b, c_Md_finds hSh hk hsk hlk hi hf1, c2, m1]
      rw [Int.mul_comm]
    · rw [if_neg c4]
      simp (disch := first | omega | exact Nat.le_of_ble_eq_true rfl | assumption | (simp only [Int.natCast_add, Int.natCast_mul, Int.cast_ofNat_Int]; omega) | decide) only [k_Md_item_1, k_Md_item_3, k_Md_item_5, k_Md_item_7, k_Md_item_8, x_aload, x_getf, w_goto, w_fall, w_i2b, w_iadd, w_iconst, w_if, x_iload, w_imul, x_istore, zadd_eq, zmul_eq, gf_48_35, sa_74, w_nret r_Md_item, q_eq, q_ne, q_lt, q_ge, q_gt, q_le, g_I, g_L, g_R, g_V, t_0, t_I, t_R, t_U, t_L, t_s, List.getElem?_cons_zero, List.getElem?_cons_succ, Nat.reduceAdd, zif10, zif01b, zib, if_pos, if_neg, ↓reduceIte, not_true_eq_false, not_false_eq_true, Bool.true_eq_false, Bool.false_eq_true, Classical.not_not, eq_self, and_self, and_true, true_and, Int.reduceEq, Int.reduceLE, Int.reduceLT, Int.reduceNeg, Option.toList, List.cons_append, List.nil_append, zup_s, zup_n, zst_s, zup_zs, zup_zn, decide_true, decide_false, c_Md_isSheet, c_Md_isLane, c1, c1b, c_Md_finds hSh hk hsk hlk hi hf1, c2, m1, c4]
      rw [Int.mul_comm]
  · have c2' : ¬ zWrg ln sz k y i 1 = 0 := by omega
    have c2'' : ¬ 0 ≤ zWrg ln sz k y i 1 := by omega
    rw [if_pos cp, if_neg c2', if_neg (fun z => c2' z.2)]
    simp (disch := first | omega | exact Nat.le_of_ble_eq_true rfl | assumption | (simp only [Int.natCast_add, Int.natCast_mul, Int.cast_ofNat_Int]; omega) | decide) only [k_Md_item_1, k_Md_item_3, k_Md_item_4, x_aload, x_getf, w_goto, w_fall, w_i2b, w_iadd, w_iconst, w_if, x_iload, w_imul, x_istore, zadd_eq, zmul_eq, gf_48_35, sa_74, w_nret r_Md_item, q_eq, q_ne, q_lt, q_ge, q_gt, q_le, g_I, g_L, g_R, g_V, t_0, t_I, t_R, t_U, t_L, t_s, List.getElem?_cons_zero, List.getElem?_cons_succ, Nat.reduceAdd, zif10, zif01b, zib, if_pos, if_neg, ↓reduceIte, not_true_eq_false, not_false_eq_true, Bool.true_eq_false, Bool.false_eq_true, Classical.not_not, eq_self, and_self, and_true, true_and, Int.reduceEq, Int.reduceLE, Int.reduceLT, Int.reduceNeg, Option.toList, List.cons_append, List.nil_append, zup_s, zup_n, zst_s, zup_zs, zup_zn, decide_true, decide_false, c_Md_isSheet, c_Md_isLane, c1, c1b, c_Md_finds hSh hk hsk hlk hi hf1, c2'']
theorem c_Md_item {d mi o b9 : Nat} {es : List zEnt} {L st : List zMV} {Q : Option zMV → (Nat → Int → Int) → Prop} {x y i v : Int} (hSh : zShR ln sz it M) (hs : ∀ k, k < 4 → sz k ≤ 81) (hl : ∀ k, k < 4 → -1 ≤ ln k) (hi : i < 2147483648) (hd : 2 + 1 ≤ d) (hc : zcats st ≤ 8) : zW (zSH Ln) d mi ((.invokevirtual o, 260, b9) :: es) L (zI v :: zI i :: zI y :: zI x :: zR 48 :: st) M Q = zW (zSH Ln) d mi es L (zI (zItA ln sz x y i) :: st) ((if zItG ln sz x y i then zup M 74 (x * 81 + i) (if y = 0 then zi2b v else v) else M)) Q :=
  c_virt (ps := [zI x, zI y, zI i, zI v]) (by omega) rfl rfl (by omega) (by exact sh_48 Ln) hc (Nat.le_of_ble_eq_true rfl) (F_Md_item hSh hs hl hi (by omega))
end RE
