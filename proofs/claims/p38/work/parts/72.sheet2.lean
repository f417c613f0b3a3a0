/-! the faces: sheets -/
abbrev zPlc (x y : Int) : Prop := (0 ≤ x ∧ x < 4) ∧ 0 ≤ y ∧ y < 3
abbrev zShtG (x y n : Int) : Prop := (zPlc x y ∧ n ≤ 81) ∧ 0 ≤ n
def zShtA (x y n : Int) : Int := if zPlc x y ∧ n ≤ 81 then (if 0 ≤ n then n else -14) else -1
abbrev zItG (ln : Nat → Int) (sz : Nat → Nat) (x y i : Int) : Prop := zPlc x y ∧ zWrg ln sz x.toNat y i 1 = 0
def zItA (ln : Nat → Int) (sz : Nat → Nat) (x y i : Int) : Int := if zPlc x y then (if zWrg ln sz x.toNat y i 1 = 0 then 1 else zWrg ln sz x.toNat y i 1) else -1
section FC
variable {Ln : Nat} {ln : Nat → Int} {sz : Nat → Nat} {it : Int → Int} {M : Nat → Int → Int}
theorem c_Sh_place {d mi o b9 : Nat} {es : List zEnt} {L st : List zMV} {Q : Option zMV → (Nat → Int → Int) → Prop} {x y : Int} (hd : 0 + 1 ≤ d) (hc : zcats st ≤ 8) : zW (zSH Ln) d mi ((.invokevirtual o, 58, b9) :: es) L (zI y :: zI x :: zR 44 :: st) M Q = zW (zSH Ln) d mi es L (zI (if zPlc x y then 1 else 0) :: st) M Q := c_Sh_hasPlace hd hc
theorem c_Sh_wrg {d mi o b9 : Nat} {es : List zEnt} {L st : List zMV} {Q : Option zMV → (Nat → Int → Int) → Prop} {k : Nat} {l i n : Int} (hSh : zShC ln sz it M) (hk : k < 4) (hs : sz k ≤ 81) (hn : 0 ≤ n) (hd : 2 + 1 ≤ d) (hc : zcats st ≤ 8) : zW (zSH Ln) d mi ((.invokevirtual o, 61, b9) :: es) L (zI n :: zI i :: zI l :: zI (k : Int) :: zR 44 :: st) M Q = zW (zSH Ln) d mi es L (zI (zWrg ln sz k l i n) :: st) M Q := by
  rw [c_Sh_wrong hSh hk hs hd hc]
  unfold zWrg
  simp only [hn, true_and]
theorem F_FN_sheet {d : Nat} {x y n : Int} (hd : 3 ≤ d) : zF (zSH Ln) d i_FN_sheet [zR 2, zI x, zI y, zI n] M fun r M' => r = some (zI (zShtA x y n)) ∧ M' = (if zShtG x y n then zst (zup (zup M 45 x y) 46 x n) 47 (zrng (M 47) (x.toNat * 81) 81 0) else M) := by
  rw [zF_en k_FN_sheet_0 (L := [zR 2, zI x, zI y, zI n]) rfl]
  unfold zShtA zShtG
  by_cases c1 : zPlc x y
  · by_cases c2 : n ≤ 81
    · by_cases c3 : 0 ≤ n
      · obtain ⟨k, rfl⟩ : ∃ k : Nat, x = (k : Int) := ⟨x.toNat, by unfold zPlc at c1; omega⟩
        have hk : k < 4 := by unfold zPlc at c1; omega
        rw [if_pos ⟨c1, c2⟩, if_pos c3, if_pos ⟨⟨c1, c2⟩, c3⟩, Int.toNat_natCast]
        simp (disch := first | omega | exact Nat.le_of_ble_eq_true rfl | assumption | (simp only [Int.natCast_add, Int.natCast_mul, Int.cast_ofNat_Int]; omega) | decide) only [k_FN_sheet_1, k_FN_sheet_3, k_FN_sheet_5, x_aload, x_getf, w_fall, w_iconst, w_if, w_icmp, x_iload, gf_2_8, w_nret r_FN_sheet, q_eq, q_ne, q_lt, q_ge, q_gt, q_le, g_I, g_L, g_R, g_V, t_0, t_I, t_R, t_U, t_L, t_s, List.getElem?_cons_zero, List.getElem?_cons_succ, Nat.reduceAdd, zif10, zif01b, zib, if_pos, if_neg, ↓reduceIte, not_true_eq_false, not_false_eq_true, Bool.true_eq_false, Bool.false_eq_true, Classical.not_not, eq_self, and_self, and_true, true_and, Int.reduceEq, Int.reduceLE, Int.reduceLT, Int.reduceNeg, Option.toList, List.cons_append, List.nil_append, zup_s, zup_n, zst_s, zup_zs, zup_zn, decide_true, decide_false, c_Sh_place, c1, c2, c3, c_Sh_start hk]
      · rw [if_pos ⟨c1, c2⟩, if_neg c3, if_neg (fun z => c3 z.2)]
        simp (disch := first | omega | exact Nat.le_of_ble_eq_true rfl | assumption | (simp only [Int.natCast_add, Int.natCast_mul, Int.cast_ofNat_Int]; omega) | decide) only [k_FN_sheet_1, k_FN_sheet_3, k_FN_sheet_4, x_aload, x_getf, w_fall, w_iconst, w_if, w_icmp, x_iload, gf_2_8, w_nret r_FN_sheet, q_eq, q_ne, q_lt, q_ge, q_gt, q_le, g_I, g_L, g_R, g_V, t_0, t_I, t_R, t_U, t_L, t_s, List.getElem?_cons_zero, List.getElem?_cons_succ, Nat.reduceAdd, zif10, zif01b, zib, if_pos, if_neg, ↓reduceIte, not_true_eq_false, not_false_eq_true, Bool.true_eq_false, Bool.false_eq_true, Classical.not_not, eq_self, and_self, and_true, true_and, Int.reduceEq, Int.reduceLE, Int.reduceLT, Int.reduceNeg, Option.toList, List.cons_append, List.nil_append, zup_s, zup_n, zst_s, zup_zs, zup_zn, decide_true, decide_false, c_Sh_place, c1, c2, c3]
    · rw [if_neg (fun z => c2 z.2), if_neg (fun z => c2 z.1.2)]
      simp (disch := first | omega | exact Nat.le_of_ble_eq_true rfl | assumption | (simp only [Int.natCast_add, Int.natCast_mul, Int.cast_ofNat_Int]; omega) | decide) only [k_FN_sheet_1, k_FN_sheet_2, x_aload, x_getf, w_fall, w_iconst, w_if, w_icmp, x_iload, gf_2_8, w_nret r_FN_sheet, q_eq, q_ne, q_lt, q_ge, q_gt, q_le, g_I, g_L, g_R, g_V, t_0, t_I, t_R, t_U, t_L, t_s, List.getElem?_cons_zero, List.getElem?_cons_succ, Nat.reduceAdd, zif10, zif01b, zib, if_pos, if_neg, ↓reduceIte, not_true_eq_false, not_false_eq_true, Bool.true_eq_false, Bool.false_eq_true, Classical.not_not, eq_self, and_self, and_true, true_and, Int.reduceEq, Int.reduceLE, Int.reduceLT, Int.reduceNeg, Option.toList, List.cons_append, List.nil_append, zup_s, zup_n, zst_s, zup_zs, zup_zn, decide_true, decide_false, c_Sh_place, c1, c2]
  · rw [if_neg (fun z => c1 z.1), if_neg (fun z => c1 z.1.1)]
    simp (disch := first | omega | exact Nat.le_of_ble_eq_true rfl | assumption | (simp only [Int.natCast_add, Int.natCast_mul, Int.cast_ofNat_Int]; omega) | decide) only [k_FN_sheet_2, x_aload, x_getf, w_fall, w_iconst, w_if, w_icmp, x_iload, gf_2_8, w_nret r_FN_sheet, q_eq, q_ne, q_lt, q_ge, q_gt, q_le, g_I, g_L, g_R, g_V, t_0, t_I, t_R, t_U, t_L, t_s, List.getElem?_cons_zero, List.getElem?_cons_succ, Nat.reduceAdd, zif10, zif01b, zib, if_pos, if_neg, ↓reduceIte, not_true_eq_false, not_false_eq_true, Bool.true_eq_false, Bool.false_eq_true, Classical.not_not, eq_self, and_self, and_true, true_and, Int.reduceEq, Int.reduceLE, Int.reduceLT, Int.reduceNeg, Option.toList, List.cons_append, List.nil_append, zup_s, zup_n, zst_s, zup_zs, zup_zn, decide_true, decide_false, c_Sh_place, c1]
theorem F_FN_item {d : Nat} {x y i v : Int} (hSh : zShC ln sz it M) (hs : ∀ k, k < 4 → sz k ≤ 81) (hd : 4 ≤ d) : zF (zSH Ln) d i_FN_item [zR 2, zI x, zI y, zI i, zI v] M fun r M' => r = some (zI (zItA ln sz x y i)) ∧ M' = (if zItG ln sz x y i then zup M 47 (x * 81 + i) (if y = 0 then zi2b v else v) else M) := by
  rw [zF_en k_FN_item_0 (L := [zR 2, zI x, zI y, zI i, zI v, zU]) rfl]
  unfold zItA zItG
  by_cases c1 : zPlc x y
  · obtain ⟨k, rfl⟩ : ∃ k : Nat, x = (k : Int) := ⟨x.toNat, by unfold zPlc at c1; omega⟩
    have hk : k < 4 := by unfold zPlc at c1; omega
    have hsk := hs k hk
    rw [Int.toNat_natCast]
    by_cases c2 : zWrg ln sz k y i 1 = 0
    · obtain ⟨e1, e2, e3⟩ := zWrg_0 c2
      rw [if_pos c1, if_pos c2, if_pos ⟨c1, c2⟩]
      simp (disch := first | omega | exact Nat.le_of_ble_eq_true rfl | assumption | (simp only [Int.natCast_add, Int.natCast_mul, Int.cast_ofNat_Int]; omega) | decide) only [k_FN_item_2, k_FN_item_4, x_aload, x_getf, w_fall, w_iconst, w_if, x_iload, x_istore, gf_2_8, w_nret r_FN_item, q_eq, q_ne, q_lt, q_ge, q_gt, q_le, g_I, g_L, g_R, g_V, t_0, t_I, t_R, t_U, t_L, t_s, List.getElem?_cons_zero, List.getElem?_cons_succ, Nat.reduceAdd, zif10, zif01b, zib, if_pos, if_neg, ↓reduceIte, not_true_eq_false, not_false_eq_true, Bool.true_eq_false, Bool.false_eq_true, Classical.not_not, eq_self, and_self, and_true, true_and, Int.reduceEq, Int.reduceLE, Int.reduceLT, Int.reduceNeg, Option.toList, List.cons_append, List.nil_append, zup_s, zup_n, zst_s, zup_zs, zup_zn, decide_true, decide_false, c_Sh_place, c1, c_Sh_wrg hSh hk hsk (show (0 : Int) ≤ 1 by decide), c2, c_Sh_write hSh hk, e1]
    · rw [if_pos c1, if_neg c2, if_neg (fun z => c2 z.2)]
      simp (disch := first | omega | exact Nat.le_of_ble_eq_true rfl | assumption | (simp only [Int.natCast_add, Int.natCast_mul, Int.cast_ofNat_Int]; omega) | decide) only [k_FN_item_2, k_FN_item_3, x_aload, x_getf, w_fall, w_iconst, w_if, x_iload, x_istore, gf_2_8, w_nret r_FN_item, q_eq, q_ne, q_lt, q_ge, q_gt, q_le, g_I, g_L, g_R, g_V, t_0, t_I, t_R, t_U, t_L, t_s, List.getElem?_cons_zero, List.getElem?_cons_succ, Nat.reduceAdd, zif10, zif01b, zib, if_pos, if_neg, ↓reduceIte, not_true_eq_false, not_false_eq_true, Bool.true_eq_false, Bool.false_eq_true, Classical.not_not, eq_self, and_self, and_true, true_and, Int.reduceEq, Int.reduceLE, Int.reduceLT, Int.reduceNeg, Option.toList, List.cons_append, List.nil_append, zup_s, zup_n, zst_s, zup_zs, zup_zn, decide_true, decide_false, c_Sh_place, c1, c_Sh_wrg hSh hk hsk (show (0 : Int) ≤ 1 by decide), c2]
  · rw [if_neg c1, if_neg (fun z => c1 z.1)]
    simp (disch := first | omega | exact Nat.le_of_ble_eq_true rfl | assumption | (simp only [Int.natCast_add, Int.natCast_mul, Int.cast_ofNat_Int]; omega) | decide) only [k_FN_item_1, x_aload, x_getf, w_fall, w_iconst, w_if, x_iload, x_istore, gf_2_8, w_nret r_FN_item, q_eq, q_ne, q_lt, q_ge, q_gt, q_le, g_I, g_L, g_R, g_V, t_0, t_I, t_R, t_U, t_L, t_s, List.getElem?_cons_zero, List.getElem?_cons_succ, Nat.reduceAdd, zif10, zif01b, zib, if_pos, if_neg, ↓reduceIte, not_true_eq_false, not_false_eq_true, Bool.true_eq_false, Bool.false_eq_true, Classical.not_not, eq_self, and_self, and_true, true_and, Int.reduceEq, Int.reduceLE, Int.reduceLT, Int.reduceNeg, Option.toList, List.cons_append, List.nil_append, zup_s, zup_n, zst_s, zup_zs, zup_zn, decide_true, decide_false, c_Sh_place, c1]
end FC
