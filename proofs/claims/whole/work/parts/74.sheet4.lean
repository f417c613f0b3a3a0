/-! the reference's face: copies between sheets -/
theorem zmvd_0 (F : Int → Int) (a b : Int) : zmvd F a b ((0 : Nat) : Int) = F := by
  funext y; unfold zmvd; rw [if_neg (by omega)]
theorem zmvd_up (F : Int → Int) (a b : Int) (t : Nat) {i v : Int} (hi : i = b + t) (hv : v = F (a + t)) : zf (zmvd F a b (t : Int)) i v = zmvd F a b ((t + 1 : Nat) : Int) := by
  subst hi; subst hv
  funext y
  by_cases e : y = b + t
  · subst e
    rw [zf_s]; unfold zmvd; rw [if_pos (by omega)]
    congr 1; omega
  · rw [zf_n e]; unfold zmvd
    by_cases e2 : b ≤ y ∧ y < b + t
    · rw [if_pos e2, if_pos (by omega)]
    · rw [if_neg e2, if_neg (by omega)]
section RE
variable {Ln : Nat} {ln : Nat → Int} {sz : Nat → Nat} {it : Int → Int} {M : Nat → Int → Int}
theorem zWrg_own {k : Nat} {i c : Int} (h : ¬ ln k = -1) : zWrg ln sz k (ln k) i c = if 0 ≤ i ∧ i + c ≤ sz k then 0 else -13 := by
  unfold zWrg; rw [if_neg h, if_pos rfl]
set_option maxHeartbeats 20000000 in
theorem F_Md_copy {d : Nat} {x i z j n : Int} (hSh : zShR ln sz it M) (hs : ∀ k, k < 4 → sz k ≤ 81) (hl : ∀ k, k < 4 → -1 ≤ ln k) (hi : i < 2147483648) (hj : j < 2147483648) (hn2 : -2147483648 ≤ n ∧ n < 2147483648) (hd : 2 ≤ d) : zF (zSH Ln) d i_Md_copy [zR 48, zI x, zI i, zI z, zI j, zI n] M fun r M' => r = some (zI (zCyA ln sz x i z j n)) ∧ (zCyG ln sz x i z j n → ∃ D, M' = zst (zst M 75 D) 74 (zmvd (M 74) (x * 81 + i) (z * 81 + j) n)) ∧ (¬ zCyG ln sz x i z j n → M' = M) := by
  rw [zF_en k_Md_copy_0 (L := [zR 48, zI x, zI i, zI z, zI j, zI n, zU]) rfl]
  generalize hans : zCyA ln sz x i z j n = ans
  unfold zCyA at hans
  by_cases c1 : 0 ≤ x ∧ x < 4
  rotate_left
  · rw [if_neg (fun h => c1 h.1)] at hans
    have hng : ¬ zCyG ln sz x i z j n := fun h => c1 h.1.1
    subst hans
    simp (disch := first | omega | exact Nat.le_of_ble_eq_true rfl | assumption | (simp only [Int.natCast_add, Int.natCast_mul, Int.cast_ofNat_Int]; omega) | decide) only [k_Md_copy_2, x_aload, x_getf, w_goto, w_fall, w_iadd, w_iconst, w_if, w_icmp, x_iinc, x_iload, w_imul, x_istore, zadd_eq, zmul_eq, gf_48_33, gf_48_35, gf_48_36, ia_72, sa_72, ia_74, sa_74, ia_75, sa_75, w_nret r_Md_copy, q_eq, q_ne, q_lt, q_ge, q_gt, q_le, g_I, g_L, g_R, g_V, t_0, t_I, t_R, t_U, t_L, t_s, List.getElem?_cons_zero, List.getElem?_cons_succ, Nat.reduceAdd, zif10, zif01b, zib, if_pos, if_neg, ↓reduceIte, not_true_eq_false, not_false_eq_true, Bool.true_eq_false, Bool.false_eq_true, Classical.not_not, eq_self, and_self, and_true, true_and, Int.reduceEq, Int.reduceLE, Int.reduceLT, Int.reduceNeg, Option.toList, List.cons_append, List.nil_append, zup_s, zup_n, zst_s, zup_zs, zup_zn, decide_true, decide_false, c_Md_isSheet, c1]
    exact ⟨fun h => absurd h hng, fun _ => trivial⟩
  by_cases c2 : 0 ≤ z ∧ z < 4
  rotate_left
  · rw [if_neg (fun h => c2 h.2)] at hans
    have hng : ¬ zCyG ln sz x i z j n := fun h => c2 h.1.2
    subst hans
    simp (disch := first | omega | exact Nat.le_of_ble_eq_true rfl | assumption | (simp only [Int.natCast_add, Int.natCast_mul, Int.cast_ofNat_Int]; omega) | decide) only [k_Md_copy_1, k_Md_copy_2, x_aload, x_getf, w_goto, w_fall, w_iadd, w_iconst, w_if, w_icmp, x_iinc, x_iload, w_imul, x_istore, zadd_eq, zmul_eq, gf_48_33, gf_48_35, gf_48_36, ia_72, sa_72, ia_74, sa_74, ia_75, sa_75, w_nret r_Md_copy, q_eq, q_ne, q_lt, q_ge, q_gt, q_le, g_I, g_L, g_R, g_V, t_0, t_I, t_R, t_U, t_L, t_s, List.getElem?_cons_zero, List.getElem?_cons_succ, Nat.reduceAdd, zif10, zif01b, zib, if_pos, if_neg, ↓reduceIte, not_true_eq_false, not_false_eq_true, Bool.true_eq_false, Bool.false_eq_true, Classical.not_not, eq_self, and_self, and_true, true_and, Int.reduceEq, Int.reduceLE, Int.reduceLT, Int.reduceNeg, Option.toList, List.cons_append, List.nil_append, zup_s, zup_n, zst_s, zup_zs, zup_zn, decide_true, decide_false, c_Md_isSheet, c1, c2]
    exact ⟨fun h => absurd h hng, fun _ => trivial⟩
  rw [if_pos ⟨c1, c2⟩] at hans
  obtain ⟨p, rfl⟩ : ∃ k : Nat, x = (k : Int) := ⟨x.toNat, by omega⟩
  obtain ⟨q, rfl⟩ : ∃ k : Nat, z = (k : Int) := ⟨z.toNat, by omega⟩
  have hp : p < 4 := by omega
  have hq : q < 4 := by omega
  have hsp := hs p hp
  have hsq := hs q hq
  have hlp1 := hl p hp
  have hlq1 := hl q hq
  have hlp := (hSh.1 p hp).1
  have hlq := (hSh.1 q hq).1
  generalize hgd : zCyG ln sz (p : Int) i (q : Int) j n = gd
  unfold zCyG at hgd
  simp only [Int.toNat_natCast] at hans hgd
  by_cases c3 : ln p = -1
  · rw [if_neg (fun h => h.1 c3)] at hans
    have hng : ¬ gd := fun h => by rw [← hgd] at h; exact h.2.1.1 c3
    subst hans
    have c3' : ¬ 0 ≤ ln p := by omega
    simp (disch := first | omega | exact Nat.le_of_ble_eq_true rfl | assumption | (simp only [Int.natCast_add, Int.natCast_mul, Int.cast_ofNat_Int]; omega) | decide) only [k_Md_copy_1, k_Md_copy_3, k_Md_copy_5, x_aload, x_getf, w_goto, w_fall, w_iadd, w_iconst, w_if, w_icmp, x_iinc, x_iload, w_imul, x_istore, zadd_eq, zmul_eq, gf_48_33, gf_48_35, gf_48_36, ia_72, sa_72, ia_74, sa_74, ia_75, sa_75, w_nret r_Md_copy, q_eq, q_ne, q_lt, q_ge, q_gt, q_le, g_I, g_L, g_R, g_V, t_0, t_I, t_R, t_U, t_L, t_s, List.getElem?_cons_zero, List.getElem?_cons_succ, Nat.reduceAdd, zif10, zif01b, zib, if_pos, if_neg, ↓reduceIte, not_true_eq_false, not_false_eq_true, Bool.true_eq_false, Bool.false_eq_true, Classical.not_not, eq_self, and_self, and_true, true_and, Int.reduceEq, Int.reduceLE, Int.reduceLT, Int.reduceNeg, Option.toList, List.cons_append, List.nil_append, zup_s, zup_n, zst_s, zup_zs, zup_zn, decide_true, decide_false, c_Md_isSheet, c1, c2, hlp, c3']
    exact ⟨fun h => absurd h hng, fun _ => trivial⟩
  have c3' : 0 ≤ ln p := by omega
  by_cases c4 : ln q = -1
  · rw [if_neg (fun h => h.2 c4)] at hans
    have hng : ¬ gd := fun h => by rw [← hgd] at h; exact h.2.1.2 c4
    subst hans
    have c4' : ¬ 0 ≤ ln q := by omega
    simp (disch := first | omega | exact Nat.le_of_ble_eq_true rfl | assumption | (simp only [Int.natCast_add, Int.natCast_mul, Int.cast_ofNat_Int]; omega) | decide) only [k_Md_copy_1, k_Md_copy_3, k_Md_copy_4, k_Md_copy_5, x_aload, x_getf, w_goto, w_fall, w_iadd, w_iconst, w_if, w_icmp, x_iinc, x_iload, w_imul, x_istore, zadd_eq, zmul_eq, gf_48_33, gf_48_35, gf_48_36, ia_72, sa_72, ia_74, sa_74, ia_75, sa_75, w_nret r_Md_copy, q_eq, q_ne, q_lt, q_ge, q_gt, q_le, g_I, g_L, g_R, g_V, t_0, t_I, t_R, t_U, t_L, t_s, List.getElem?_cons_zero, List.getElem?_cons_succ, Nat.reduceAdd, zif10, zif01b, zib, if_pos, if_neg, ↓reduceIte, not_true_eq_false, not_false_eq_true, Bool.true_eq_false, Bool.false_eq_true, Classical.not_not, eq_self, and_self, and_true, true_and, Int.reduceEq, Int.reduceLE, Int.reduceLT, Int.reduceNeg, Option.toList, List.cons_append, List.nil_append, zup_s, zup_n, zst_s, zup_zs, zup_zn, decide_true, decide_false, c_Md_isSheet, c1, c2, hlp, hlq, c3', c4']
    exact ⟨fun h => absurd h hng, fun _ => trivial⟩
  have c4' : 0 ≤ ln q := by omega
  rw [if_pos ⟨c3, c4⟩] at hans
  by_cases c5 : ln p = ln q
  rotate_left
  · rw [if_neg c5] at hans
    have hng : ¬ gd := fun h => by rw [← hgd] at h; exact c5 h.2.2.1
    subst hans
    simp (disch := first | omega | exact Nat.le_of_ble_eq_true rfl | assumption | (simp only [Int.natCast_add, Int.natCast_mul, Int.cast_ofNat_Int]; omega) | decide) only [k_Md_copy_1, k_Md_copy_3, k_Md_copy_4, k_Md_copy_6, k_Md_copy_7, x_aload, x_getf, w_goto, w_fall, w_iadd, w_iconst, w_if, w_icmp, x_iinc, x_iload, w_imul, x_istore, zadd_eq, zmul_eq, gf_48_33, gf_48_35, gf_48_36, ia_72, sa_72, ia_74, sa_74, ia_75, sa_75, w_nret r_Md_copy, q_eq, q_ne, q_lt, q_ge, q_gt, q_le, g_I, g_L, g_R, g_V, t_0, t_I, t_R, t_U, t_L, t_s, List.getElem?_cons_zero, List.getElem?_cons_succ, Nat.reduceAdd, zif10, zif01b, zib, if_pos, if_neg, ↓reduceIte, not_true_eq_false, not_false_eq_true, Bool.true_eq_false, Bool.false_eq_true, Classical.not_not, eq_self, and_self, and_true, true_and, Int.reduceEq, Int.reduceLE, Int.reduceLT, Int.reduceNeg, Option.toList, List.cons_append, List.nil_append, zup_s, zup_n, zst_s, zup_zs, zup_zn, decide_true, decide_false, c_Md_isSheet, c1, c2, hlp, hlq, c3', c4', c5]
    exact ⟨fun h => absurd h hng, fun _ => trivial⟩
  rw [if_pos c5] at hans
  by_cases c0 : 0 ≤ n
  rotate_left
  · rw [if_neg (fun h => c0 h.1)] at hans
    have hng : ¬ gd := fun h => by rw [← hgd] at h; exact c0 h.2.2.2.1
    subst hans
    simp (disch := first | omega | exact Nat.le_of_ble_eq_true rfl | assumption | (simp only [Int.natCast_add, Int.natCast_mul, Int.cast_ofNat_Int]; omega) | decide) only [k_Md_copy_1, k_Md_copy_3, k_Md_copy_4, k_Md_copy_6, k_Md_copy_8, k_Md_copy_11, x_aload, x_getf, w_goto, w_fall, w_iadd, w_iconst, w_if, w_icmp, x_iinc, x_iload, w_imul, x_istore, zadd_eq, zmul_eq, gf_48_33, gf_48_35, gf_48_36, ia_72, sa_72, ia_74, sa_74, ia_75, sa_75, w_nret r_Md_copy, q_eq, q_ne, q_lt, q_ge, q_gt, q_le, g_I, g_L, g_R, g_V, t_0, t_I, t_R, t_U, t_L, t_s, List.getElem?_cons_zero, List.getElem?_cons_succ, Nat.reduceAdd, zif10, zif01b, zib, if_pos, if_neg, ↓reduceIte, not_true_eq_false, not_false_eq_true, Bool.true_eq_false, Bool.false_eq_true, Classical.not_not, eq_self, and_self, and_true, true_and, Int.reduceEq, Int.reduceLE, Int.reduceLT, Int.reduceNeg, Option.toList, List.cons_append, List.nil_append, zup_s, zup_n, zst_s, zup_zs, zup_zn, decide_true, decide_false, c_Md_isSheet, c1, c2, hlp, hlq, c3', c4', c5, c0]
    exact ⟨fun h => absurd h hng, fun _ => trivial⟩
  have w1 : zWrg ln sz p (ln q) i n = if 0 ≤ i ∧ i + n ≤ sz p then 0 else -13 := by rw [← c5, zWrg_own c3]
  have w2 : zWrg ln sz q (ln q) j n = if 0 ≤ j ∧ j + n ≤ sz q then 0 else -13 := zWrg_own c4
  by_cases c6 : 0 ≤ i ∧ i + n ≤ sz p
  rotate_left
  · rw [if_neg (fun h => c6 h.2.1)] at hans
    have hng : ¬ gd := fun h => by rw [← hgd] at h; exact c6 h.2.2.2.2.1
    subst hans
    simp (disch := first | omega | exact Nat.le_of_ble_eq_true rfl | assumption | (simp only [Int.natCast_add, Int.natCast_mul, Int.cast_ofNat_Int]; omega) | decide) only [k_Md_copy_1, k_Md_copy_3, k_Md_copy_4, k_Md_copy_6, k_Md_copy_8, k_Md_copy_9, k_Md_copy_11, x_aload, x_getf, w_goto, w_fall, w_iadd, w_iconst, w_if, w_icmp, x_iinc, x_iload, w_imul, x_istore, zadd_eq, zmul_eq, gf_48_33, gf_48_35, gf_48_36, ia_72, sa_72, ia_74, sa_74, ia_75, sa_75, w_nret r_Md_copy, q_eq, q_ne, q_lt, q_ge, q_gt, q_le, g_I, g_L, g_R, g_V, t_0, t_I, t_R, t_U, t_L, t_s, List.getElem?_cons_zero, List.getElem?_cons_succ, Nat.reduceAdd, zif10, zif01b, zib, if_pos, if_neg, ↓reduceIte, not_true_eq_false, not_false_eq_true, Bool.true_eq_false, Bool.false_eq_true, Classical.not_not, eq_self, and_self, and_true, true_and, Int.reduceEq, Int.reduceLE, Int.reduceLT, Int.reduceNeg, Option.toList, List.cons_append, List.nil_append, zup_s, zup_n, zst_s, zup_zs, zup_zn, decide_true, decide_false, c_Md_isSheet, c1, c2, hlp, hlq, c3', c4', c5, c0, c_Md_finds hSh hp hsp hlp1 hi hn2, c_Md_finds hSh hq hsq hlq1 hj hn2, w1, c6]
    exact ⟨fun h => absurd h hng, fun _ => trivial⟩
  by_cases c7 : 0 ≤ j ∧ j + n ≤ sz q
  rotate_left
  · rw [if_neg (fun h => c7 h.2.2)] at hans
    have hng : ¬ gd := fun h => by rw [← hgd] at h; exact c7 h.2.2.2.2.2
    subst hans
    simp (disch := first | omega | exact Nat.le_of_ble_eq_true rfl | assumption | (simp only [Int.natCast_add, Int.natCast_mul, Int.cast_ofNat_Int]; omega) | decide) only [k_Md_copy_1, k_Md_copy_3, k_Md_copy_4, k_Md_copy_6, k_Md_copy_8, k_Md_copy_9, k_Md_copy_10, k_Md_copy_11, x_aload, x_getf, w_goto, w_fall, w_iadd, w_iconst, w_if, w_icmp, x_iinc, x_iload, w_imul, x_istore, zadd_eq, zmul_eq, gf_48_33, gf_48_35, gf_48_36, ia_72, sa_72, ia_74, sa_74, ia_75, sa_75, w_nret r_Md_copy, q_eq, q_ne, q_lt, q_ge, q_gt, q_le, g_I, g_L, g_R, g_V, t_0, t_I, t_R, t_U, t_L, t_s, List.getElem?_cons_zero, List.getElem?_cons_succ, Nat.reduceAdd, zif10, zif01b, zib, if_pos, if_neg, ↓reduceIte, not_true_eq_false, not_false_eq_true, Bool.true_eq_false, Bool.false_eq_true, Classical.not_not, eq_self, and_self, and_true, true_and, Int.reduceEq, Int.reduceLE, Int.reduceLT, Int.reduceNeg, Option.toList, List.cons_append, List.nil_append, zup_s, zup_n, zst_s, zup_zs, zup_zn, decide_true, decide_false, c_Md_isSheet, c1, c2, hlp, hlq, c3', c4', c5, c0, c_Md_finds hSh hp hsp hlp1 hi hn2, c_Md_finds hSh hq hsq hlq1 hj hn2, w1, w2, c6, c7]
    exact ⟨fun h => absurd h hng, fun _ => trivial⟩
  rw [if_pos ⟨c0, c6, c7⟩] at hans
  have hg : gd := by rw [← hgd]; exact ⟨⟨c1, c2⟩, ⟨c3, c4⟩, c5, c0, c6, c7⟩
  subst hans
  simp (disch := first | omega | exact Nat.le_of_ble_eq_true rfl | assumption | (simp only [Int.natCast_add, Int.natCast_mul, Int.cast_ofNat_Int]; omega) | decide) only [k_Md_copy_1, k_Md_copy_3, k_Md_copy_4, k_Md_copy_6, k_Md_copy_8, k_Md_copy_9, k_Md_copy_10, k_Md_copy_12, x_aload, x_getf, w_goto, w_fall, w_iadd, w_iconst, w_if, w_icmp, x_iinc, x_iload, w_imul, x_istore, zadd_eq, zmul_eq, gf_48_33, gf_48_35, gf_48_36, ia_72, sa_72, ia_74, sa_74, ia_75, sa_75, w_nret r_Md_copy, q_eq, q_ne, q_lt, q_ge, q_gt, q_le, g_I, g_L, g_R, g_V, t_0, t_I, t_R, t_U, t_L, t_s, List.getElem?_cons_zero, List.getElem?_cons_succ, Nat.reduceAdd, zif10, zif01b, zib, if_pos, if_neg, ↓reduceIte, not_true_eq_false, not_false_eq_true, Bool.true_eq_false, Bool.false_eq_true, Classical.not_not, eq_self, and_self, and_true, true_and, Int.reduceEq, Int.reduceLE, Int.reduceLT, Int.reduceNeg, Option.toList, List.cons_append, List.nil_append, zup_s, zup_n, zst_s, zup_zs, zup_zn, decide_true, decide_false, c_Md_isSheet, c1, c2, hlp, hlq, c3', c4', c5, c0, c_Md_finds hSh hp hsp hlp1 hi hn2, c_Md_finds hSh hq hsq hlq1 hj hn2, w1, w2, c6, c7]
  obtain ⟨m, rfl⟩ : ∃ m : Nat, n = (m : Int) := ⟨n.toNat, by omega⟩
  obtain ⟨a, rfl⟩ : ∃ a : Nat, i = (a : Int) := ⟨i.toNat, by omega⟩
  obtain ⟨b, rfl⟩ : ∃ b : Nat, j = (b : Int) := ⟨j.toNat, by omega⟩
  have hm : m ≤ 81 := by omega
  refine zfor (a := 0) (N := m) (b := 13) (fun t L0 M0 => ∃ (D : Int → Int), L0 = [zR 48, zI p, zI a, zI q, zI b, zI m, zI (t : Int)] ∧ M0 = zst M 75 D ∧ (∀ u : Nat, u < t → D (u : Int) = M 74 ((p : Int) * 81 + a + u))) ?_ ?_ ?_ ?_
  · exact Nat.zero_le _
  · exact ⟨M 75, rfl, (zst_id _ _).symm, fun u hu => by omega⟩
  · rintro t _ _ _ ht ⟨D, rfl, rfl, hD⟩ ih
    rw [k_Md_copy_13]
    simp (disch := first | omega | exact Nat.le_of_ble_eq_true rfl | assumption | (simp only [Int.natCast_add, Int.natCast_mul, Int.cast_ofNat_Int]; omega) | decide) only [k_Md_copy_14, x_aload, x_getf, w_goto, w_fall, w_iadd, w_iconst, w_if, w_icmp, x_iinc, x_iload, w_imul, x_istore, zadd_eq, zmul_eq, gf_48_33, gf_48_35, gf_48_36, ia_72, sa_72, ia_74, sa_74, ia_75, sa_75, w_nret r_Md_copy, q_eq, q_ne, q_lt, q_ge, q_gt, q_le, g_I, g_L, g_R, g_V, t_0, t_I, t_R, t_U, t_L, t_s, List.getElem?_cons_zero, List.getElem?_cons_succ, Nat.reduceAdd, zif10, zif01b, zib, if_pos, if_neg, ↓reduceIte, not_true_eq_false, not_false_eq_true, Bool.true_eq_false, Bool.false_eq_true, Classical.not_not, eq_self, and_self, and_true, true_and, Int.reduceEq, Int.reduceLE, Int.reduceLT, Int.reduceNeg, Option.toList, List.cons_append, List.nil_append, zup_s, zup_n, zst_s, zup_zs, zup_zn, decide_true, decide_false, zst_n]
    refine ih _ _ ⟨_, rfl, rfl, fun u hu => ?_⟩
    by_cases e : u = t
    · subst e
      rw [zf_s, Int.mul_comm]
    · rw [zf_n (by omega)]; exact hD u (by omega)
  · rintro _ _ ⟨D, rfl, rfl, hD⟩
    rw [k_Md_copy_13]
    simp (disch := first | omega | exact Nat.le_of_ble_eq_true rfl | assumption | (simp only [Int.natCast_add, Int.natCast_mul, Int.cast_ofNat_Int]; omega) | decide) only [k_Md_copy_15, x_aload, x_getf, w_goto, w_fall, w_iadd, w_iconst, w_if, w_icmp, x_iinc, x_iload, w_imul, x_istore, zadd_eq, zmul_eq, gf_48_33, gf_48_35, gf_48_36, ia_72, sa_72, ia_74, sa_74, ia_75, sa_75, w_nret r_Md_copy, q_eq, q_ne, q_lt, q_ge, q_gt, q_le, g_I, g_L, g_R, g_V, t_0, t_I, t_R, t_U, t_L, t_s, List.getElem?_cons_zero, List.getElem?_cons_succ, Nat.reduceAdd, zif10, zif01b, zib, if_pos, if_neg, ↓reduceIte, not_true_eq_false, not_false_eq_true, Bool.true_eq_false, Bool.false_eq_true, Classical.not_not, eq_self, and_self, and_true, true_and, Int.reduceEq, Int.reduceLE, Int.reduceLT, Int.reduceNeg, Option.toList, List.cons_append, List.nil_append, zup_s, zup_n, zst_s, zup_zs, zup_zn, decide_true, decide_false]
    refine zfor (a := 0) (N := m) (b := 16) (fun t L0 M0 => L0 = [zR 48, zI p, zI a, zI q, zI b, zI m, zI (t : Int)] ∧ M0 = zst (zst M 75 D) 74 (zmvd (M 74) ((p : Int) * 81 + a) ((q : Int) * 81 + b) (t : Int))) ?_ ?_ ?_ ?_
    · exact Nat.zero_le _
    · refine ⟨rfl, ?_⟩
      rw [zmvd_0]
      exact (zst_id (zst M 75 D) 74).symm
    · rintro t _ _ _ ht ⟨rfl, rfl⟩ ih
      have hDt := hD t ht
      rw [k_Md_copy_16]
      simp (disch := first | omega | exact Nat.le_of_ble_eq_true rfl | assumption | (simp only [Int.natCast_add, Int.natCast_mul, Int.cast_ofNat_Int]; omega) | decide) only [k_Md_copy_17, x_aload, x_getf, w_goto, w_fall, w_iadd, w_iconst, w_if, w_icmp, x_iinc, x_iload, w_imul, x_istore, zadd_eq, zmul_eq, gf_48_33, gf_48_35, gf_48_36, ia_72, sa_72, ia_74, sa_74, ia_75, sa_75, w_nret r_Md_copy, q_eq, q_ne, q_lt, q_ge, q_gt, q_le, g_I, g_L, g_R, g_V, t_0, t_I, t_R, t_U, t_L, t_s, List.getElem?_cons_zero, List.getElem?_cons_succ, Nat.reduceAdd, zif10, zif01b, zib, if_pos, if_neg, ↓reduceIte, not_true_eq_false, not_false_eq_true, Bool.true_eq_false, Bool.false_eq_true, Classical.not_not, eq_self, and_self, and_true, true_and, Int.reduceEq, Int.reduceLE, Int.reduceLT, Int.reduceNeg, Option.toList, List.cons_append, List.nil_append, zup_s, zup_n, zst_s, zup_zs, zup_zn, decide_true, decide_false, zst_n, zst_s, hDt]
      refine ih _ _ ⟨rfl, ?_⟩
      rw [zmvd_up _ _ _ _ (by omega) rfl]
    · rintro _ _ ⟨rfl, rfl⟩
      rw [k_Md_copy_16]
      simp (disch := first | omega | exact Nat.le_of_ble_eq_true rfl | assumption | (simp only [Int.natCast_add, Int.natCast_mul, Int.cast_ofNat_Int]; omega) | decide) only [k_Md_copy_18, x_aload, x_getf, w_goto, w_fall, w_iadd, w_iconst, w_if, w_icmp, x_iinc, x_iload, w_imul, x_istore, zadd_eq, zmul_eq, gf_48_33, gf_48_35, gf_48_36, ia_72, sa_72, ia_74, sa_74, ia_75, sa_75, w_nret r_Md_copy, q_eq, q_ne, q_lt, q_ge, q_gt, q_le, g_I, g_L, g_R, g_V, t_0, t_I, t_R, t_U, t_L, t_s, List.getElem?_cons_zero, List.getElem?_cons_succ, Nat.reduceAdd, zif10, zif01b, zib, if_pos, if_neg, ↓reduceIte, not_true_eq_false, not_false_eq_true, Bool.true_eq_false, Bool.false_eq_true, Classical.not_not, eq_self, and_self, and_true, true_and, Int.reduceEq, Int.reduceLE, Int.reduceLT, Int.reduceNeg, Option.toList, List.cons_append, List.nil_append, zup_s, zup_n, zst_s, zup_zs, zup_zn, decide_true, decide_false]
      exact ⟨fun _ => ⟨D, rfl⟩, fun h => absurd hg h⟩
theorem c_Md_copy {d mi o b9 : Nat} {es : List zEnt} {L st : List zMV} {Q : Option zMV → (Nat → Int → Int) → Prop} {x i z j n : Int} (hSh : zShR ln sz it M) (hs : ∀ k, k < 4 → sz k ≤ 81) (hl : ∀ k, k < 4 → -1 ≤ ln k) (hi : i < 2147483648) (hj : j < 2147483648) (hn2 : -2147483648 ≤ n ∧ n < 2147483648) (hd : 2 + 1 ≤ d) (hc : zcats st ≤ 8) (hpost : ∀ r M', (r = some (zI (zCyA ln sz x i z j n)) ∧ (zCyG ln sz x i z j n → ∃ D, M' = zst (zst M 75 D) 74 (zmvd (M 74) (x * 81 + i) (z * 81 + j) n)) ∧ (¬ zCyG ln sz x i z j n → M' = M)) → zW (zSH Ln) d mi es L (r.toList ++ st) M' Q) : zW (zSH Ln) d mi ((.invokevirtual o, 261, b9) :: es) L (zI n :: zI j :: zI z :: zI i :: zI x :: zR 48 :: st) M Q :=
  w_callv (ps := [zI x, zI i, zI z, zI j, zI n]) (by omega) rfl rfl (by omega) (by exact sh_48 Ln) hc (Nat.le_of_ble_eq_true rfl) (F_Md_copy hSh hs hl hi hj hn2 (by omega)) hpost
end RE
