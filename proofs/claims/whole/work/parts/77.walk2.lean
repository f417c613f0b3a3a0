/-! the reference's face: walk -/
section RE
variable {Ln S P n : Nat} {mv tg : Nat → Nat → Nat} {lt kd lf rt gp : Nat → Nat} {ln : Nat → Int} {sz : Nat → Nat} {it : Int → Int} {M : Nat → Int → Int}
theorem c_Md_leadsBy0 {d mi o b9 : Nat} {es : List zEnt} {L st : List zMV} {Q : Option zMV → (Nat → Int → Int) → Prop} {s b : Nat} {g : Int} (hN : zNet S P mv tg) (hR : zNetR S P mv tg M) (hs : s < 12) (hb : b < 2147483648) (hd : 0 + 1 ≤ d) (hc : zcats st ≤ 8) : zW (zSH Ln) d mi ((.invokevirtual o, 184, b9) :: es) L (zI (b : Int) :: zI 0 :: zI g :: zI (s : Int) :: zR 48 :: st) M Q = zW (zSH Ln) d mi es L (zI (tg s (zcomb (mv s) (zbit g) P 0 b) : Int) :: st) M Q :=
  c_Md_leadsBy (a := 0) hN hR hs (by omega) hb hd hc
set_option maxHeartbeats 20000000 in
theorem F_Md_walk {d : Nat} {x y l i c : Int} (hN : zNet S P mv tg) (hR : zNetR S P mv tg M) (hL : zLetR lt M) (hlt : ∀ s, lt s < 256) (hF : zForm P n kd lf rt gp) (hFR : zFormR n kd lf rt gp M) (hSh : zShR ln sz it M) (hs : ∀ k, k < 4 → sz k ≤ 81) (hl : ∀ k, k < 4 → -1 ≤ ln k) (hit : ∀ x, it x < 2147483648) (hi : i < 2147483648) (hcb : -2147483648 ≤ c ∧ c < 2147483648) (hd : 10 ≤ d) : zF (zSH Ln) d i_Md_walk [zR 48, zI x, zI y, zI l, zI i, zI c] M fun r M' => r = some (zI (zWlA S P mv tg lt kd lf rt gp ln sz it x y l i c)) ∧ (zWlG S (kd 0) ln sz it x y l i c → zKp [48, 67, 68, 71] M M' ∧ (∀ j : Int, j ≠ 31 → M' 48 j = M 48 j) ∧ zTraR (c.toNat + 1) (zWkT mv tg P lt kd lf rt gp it (y * 81 + i) x.toNat) M') ∧ (¬ zWlG S (kd 0) ln sz it x y l i c → M' = M) := by
  rw [zF_en k_Md_walk_0 (L := [zR 48, zI x, zI y, zI l, zI i, zI c, zU, zU, zU, zU, zU, zU]) rfl]
  have hn := hF.1
  have hn2 := hF.2.1
  have hS := hN.2.1
  have hP := hN.2.2.2.1
  have g4 := (hFR.2.1 0 hn).2.2.2
  simp only [show ((0 : Nat) : Int) = 0 from rfl] at g4
  generalize hans : zWlA S P mv tg lt kd lf rt gp ln sz it x y l i c = ans
  unfold zWlA at hans
  generalize hgd : zWlG S (kd 0) ln sz it x y l i c = gd
  unfold zWlG at hgd
  by_cases c1 : 0 ≤ x ∧ x < S
  rotate_left
  · rw [if_neg (fun h => c1 h.1)] at hans
    have hng : ¬ gd := fun h => by rw [← hgd] at h; exact c1 h.1.1
    subst hans
    simp (disch := first | omega | exact Nat.le_of_ble_eq_true rfl | assumption | (simp only [Int.natCast_add, Int.natCast_mul, Int.cast_ofNat_Int]; omega) | decide) only [k_Md_walk_4, x_aload, x_getf, w_goto, w_fall, w_i2l, w_iadd, w_iconst, w_if, w_icmp, x_iinc, x_iload, w_imul, w_irem, x_istore, w_sipush, zadd_eq, zmul_eq, gf_48_14, gf_48_32, gf_48_35, xp_48_31, ia_59, sa_59, ia_71, sa_71, ia_74, sa_74, w_nret r_Md_walk, q_eq, q_ne, q_lt, q_ge, q_gt, q_le, g_I, g_L, g_R, g_V, t_0, t_I, t_R, t_U, t_L, t_s, List.getElem?_cons_zero, List.getElem?_cons_succ, Nat.reduceAdd, zif10, zif01b, zib, if_pos, if_neg, ↓reduceIte, not_true_eq_false, not_false_eq_true, Bool.true_eq_false, Bool.false_eq_true, Classical.not_not, eq_self, and_self, and_true, true_and, Int.reduceEq, Int.reduceLE, Int.reduceLT, Int.reduceNeg, Option.toList, List.cons_append, List.nil_append, zup_s, zup_n, zst_s, zup_zs, zup_zn, decide_true, decide_false, c_Md_isState hN hR, c1]
    exact ⟨fun h => absurd h hng, fun _ => trivial⟩
  by_cases c2 : 0 ≤ y ∧ y < 4
  rotate_left
  · rw [if_neg (fun h => c2 h.2.1.1)] at hans
    have hng : ¬ gd := fun h => by rw [← hgd] at h; exact c2 h.1.2.1.1
    subst hans
    simp (disch := first | omega | exact Nat.le_of_ble_eq_true rfl | assumption | (simp only [Int.natCast_add, Int.natCast_mul, Int.cast_ofNat_Int]; omega) | decide) only [k_Md_walk_1, k_Md_walk_4, x_aload, x_getf, w_goto, w_fall, w_i2l, w_iadd, w_iconst, w_if, w_icmp, x_iinc, x_iload, w_imul, w_irem, x_istore, w_sipush, zadd_eq, zmul_eq, gf_48_14, gf_48_32, gf_48_35, xp_48_31, ia_59, sa_59, ia_71, sa_71, ia_74, sa_74, w_nret r_Md_walk, q_eq, q_ne, q_lt, q_ge, q_gt, q_le, g_I, g_L, g_R, g_V, t_0, t_I, t_R, t_U, t_L, t_s, List.getElem?_cons_zero, List.getElem?_cons_succ, Nat.reduceAdd, zif10, zif01b, zib, if_pos, if_neg, ↓reduceIte, not_true_eq_false, not_false_eq_true, Bool.true_eq_false, Bool.false_eq_true, Classical.not_not, eq_self, and_self, and_true, true_and, Int.reduceEq, Int.reduceLE, Int.reduceLT, Int.reduceNeg, Option.toList, List.cons_append, List.nil_append, zup_s, zup_n, zst_s, zup_zs, zup_zn, decide_true, decide_false, c_Md_isState hN hR, c1, c_Md_isSheet, c2]
    exact ⟨fun h => absurd h hng, fun _ => trivial⟩
  by_cases c2b : 0 ≤ l ∧ l < 3
  rotate_left
  · rw [if_neg (fun h => c2b h.2.1.2)] at hans
    have hng : ¬ gd := fun h => by rw [← hgd] at h; exact c2b h.1.2.1.2
    subst hans
    simp (disch := first | omega | exact Nat.le_of_ble_eq_true rfl | assumption | (simp only [Int.natCast_add, Int.natCast_mul, Int.cast_ofNat_Int]; omega) | decide) only [k_Md_walk_1, k_Md_walk_2, k_Md_walk_4, x_aload, x_getf, w_goto, w_fall, w_i2l, w_iadd, w_iconst, w_if, w_icmp, x_iinc, x_iload, w_imul, w_irem, x_istore, w_sipush, zadd_eq, zmul_eq, gf_48_14, gf_48_32, gf_48_35, xp_48_31, ia_59, sa_59, ia_71, sa_71, ia_74, sa_74, w_nret r_Md_walk, q_eq, q_ne, q_lt, q_ge, q_gt, q_le, g_I, g_L, g_R, g_V, t_0, t_I, t_R, t_U, t_L, t_s, List.getElem?_cons_zero, List.getElem?_cons_succ, Nat.reduceAdd, zif10, zif01b, zib, if_pos, if_neg, ↓reduceIte, not_true_eq_false, not_false_eq_true, Bool.true_eq_false, Bool.false_eq_true, Classical.not_not, eq_self, and_self, and_true, true_and, Int.reduceEq, Int.reduceLE, Int.reduceLT, Int.reduceNeg, Option.toList, List.cons_append, List.nil_append, zup_s, zup_n, zst_s, zup_zs, zup_zn, decide_true, decide_false, c_Md_isState hN hR, c1, c_Md_isSheet, c2, c_Md_isLane, c2b]
    exact ⟨fun h => absurd h hng, fun _ => trivial⟩
  obtain ⟨s, rfl⟩ : ∃ s : Nat, x = (s : Int) := ⟨x.toNat, by omega⟩
  obtain ⟨k, rfl⟩ : ∃ k : Nat, y = (k : Int) := ⟨y.toNat, by omega⟩
  have hs12 : s < 12 := by omega
  have hk : k < 4 := by omega
  have hsk := hs k hk
  simp only [Int.toNat_natCast] at hans hgd
  by_cases c3 : 0 ≤ c ∧ c ≤ 40
  rotate_left
  · rw [if_neg (fun h => c3 h.2.2)] at hans
    have hng : ¬ gd := fun h => by rw [← hgd] at h; exact c3 h.1.2.2
    subst hans
    simp (disch := first | omega | exact Nat.le_of_ble_eq_true rfl | assumption | (simp only [Int.natCast_add, Int.natCast_mul, Int.cast_ofNat_Int]; omega) | decide) only [k_Md_walk_1, k_Md_walk_2, k_Md_walk_3, k_Md_walk_4, x_aload, x_getf, w_goto, w_fall, w_i2l, w_iadd, w_iconst, w_if, w_icmp, x_iinc, x_iload, w_imul, w_irem, x_istore, w_sipush, zadd_eq, zmul_eq, gf_48_14, gf_48_32, gf_48_35, xp_48_31, ia_59, sa_59, ia_71, sa_71, ia_74, sa_74, w_nret r_Md_walk, q_eq, q_ne, q_lt, q_ge, q_gt, q_le, g_I, g_L, g_R, g_V, t_0, t_I, t_R, t_U, t_L, t_s, List.getElem?_cons_zero, List.getElem?_cons_succ, Nat.reduceAdd, zif10, zif01b, zib, if_pos, if_neg, ↓reduceIte, not_true_eq_false, not_false_eq_true, Bool.true_eq_false, Bool.false_eq_true, Classical.not_not, eq_self, and_self, and_true, true_and, Int.reduceEq, Int.reduceLE, Int.reduceLT, Int.reduceNeg, Option.toList, List.cons_append, List.nil_append, zup_s, zup_n, zst_s, zup_zs, zup_zn, decide_true, decide_false, c_Md_isState hN hR, c1, c_Md_isSheet, c2, c_Md_isLane, c2b, c_Md_in, c3]
    exact ⟨fun h => absurd h hng, fun _ => trivial⟩
  have hK : zWlK S (s : Int) (k : Int) l c := ⟨c1, ⟨c2, c2b⟩, c3⟩
  rw [if_pos hK] at hans
  by_cases c6 : zWrg ln sz k l i c = 0
  rotate_left
  · rw [if_neg c6] at hans
    have hng : ¬ gd := fun h => by rw [← hgd] at h; exact c6 h.2.1
    have c6' : ¬ 0 ≤ zWrg ln sz k l i c := fun h => by rcases zWrg_v (ln := ln) (sz := sz) (k := k) (l := l) (i := i) (n := c) with e | e <;> omega
    simp (disch := first | omega | exact Nat.le_of_ble_eq_true rfl | assumption | (simp only [Int.natCast_add, Int.natCast_mul, Int.cast_ofNat_Int]; omega) | decide) only [k_Md_walk_1, k_Md_walk_2, k_Md_walk_3, k_Md_walk_5, k_Md_walk_6, x_aload, x_getf, w_goto, w_fall, w_i2l, w_iadd, w_iconst, w_if, w_icmp, x_iinc, x_iload, w_imul, w_irem, x_istore, w_sipush, zadd_eq, zmul_eq, gf_48_14, gf_48_32, gf_48_35, xp_48_31, ia_59, sa_59, ia_71, sa_71, ia_74, sa_74, w_nret r_Md_walk, q_eq, q_ne, q_lt, q_ge, q_gt, q_le, g_I, g_L, g_R, g_V, t_0, t_I, t_R, t_U, t_L, t_s, List.getElem?_cons_zero, List.getElem?_cons_succ, Nat.reduceAdd, zif10, zif01b, zib, if_pos, if_neg, ↓reduceIte, not_true_eq_false, not_false_eq_true, Bool.true_eq_false, Bool.false_eq_true, Classical.not_not, eq_self, and_self, and_true, true_and, Int.reduceEq, Int.reduceLE, Int.reduceLT, Int.reduceNeg, Option.toList, List.cons_append, List.nil_append, zup_s, zup_n, zst_s, zup_zs, zup_zn, decide_true, decide_false, c_Md_isState hN hR, c1, c_Md_isSheet, c2, c_Md_isLane, c2b, c_Md_in, c3, c_Md_finds hSh hk hsk (hl k hk) hi hcb, c6', hans]
    exact ⟨fun h => absurd h hng, fun _ => trivial⟩
  rw [if_pos c6] at hans
  obtain ⟨w1, w2, w3⟩ := zWrg_0 c6
  obtain ⟨m, rfl⟩ : ∃ m : Nat, c = (m : Int) := ⟨c.toNat, by omega⟩
  obtain ⟨a, rfl⟩ : ∃ a : Nat, i = (a : Int) := ⟨i.toNat, by omega⟩
  simp only [Int.toNat_natCast] at hans hgd ⊢
  have c3' : (0 : Int) ≤ (m : Int) ∧ (m : Int) ≤ 40 := c3
  simp (disch := first | omega | exact Nat.le_of_ble_eq_true rfl | assumption | (simp only [Int.natCast_add, Int.natCast_mul, Int.cast_ofNat_Int]; omega) | decide) only [k_Md_walk_1, k_Md_walk_2, k_Md_walk_3, k_Md_walk_5, k_Md_walk_7, x_aload, x_getf, w_goto, w_fall, w_i2l, w_iadd, w_iconst, w_if, w_icmp, x_iinc, x_iload, w_imul, w_irem, x_istore, w_sipush, zadd_eq, zmul_eq, gf_48_14, gf_48_32, gf_48_35, xp_48_31, ia_59, sa_59, ia_71, sa_71, ia_74, sa_74, w_nret r_Md_walk, q_eq, q_ne, q_lt, q_ge, q_gt, q_le, g_I, g_L, g_R, g_V, t_0, t_I, t_R, t_U, t_L, t_s, List.getElem?_cons_zero, List.getElem?_cons_succ, Nat.reduceAdd, zif10, zif01b, zib, if_pos, if_neg, ↓reduceIte, not_true_eq_false, not_false_eq_true, Bool.true_eq_false, Bool.false_eq_true, Classical.not_not, eq_self, and_self, and_true, true_and, Int.reduceEq, Int.reduceLE, Int.reduceLT, Int.reduceNeg, Option.toList, List.cons_append, List.nil_append, zup_s, zup_n, zst_s, zup_zs, zup_zn, decide_true, decide_false, c_Md_isState hN hR, c1, c_Md_isSheet, c2, c_Md_isLane, c2b, c_Md_in, c3', c_Md_finds hSh hk hsk (hl k hk) hi hcb, c6, c_Md_isOfGroup hF hFR]
  have G0 : (if 5 ≤ kd 0 then (1 : Int) else 0) = if (decide (5 ≤ kd 0) && !zan 0 (zNeg it ((k : Int) * 81 + a))) = true then 1 else 0 := by
    by_cases h : 5 ≤ kd 0 <;> simp [h, zan]
  rw [G0]
  refine zfor (a := 0) (N := m) (b := 8) (fun t L0 M0 => L0 = [zR 48, zI s, zI k, zI l, zI a, zI m, zI 0, zI (if (decide (5 ≤ kd 0) && !zan t (zNeg it ((k : Int) * 81 + a))) = true then 1 else 0), zI (t : Int), zU, zU, zU] ∧ M0 = M) ?_ ?_ ?_ ?_
  · exact Nat.zero_le _
  · exact ⟨rfl, rfl⟩
  · rintro t _ M _ ht ⟨rfl, rfl⟩ ih
    have ea : (k : Int) * 81 + (a : Int) + (t : Int) = 81 * (k : Int) + a + t := by omega
    have hI := hSh.2 ((k : Int) * 81 + a + t) (by omega) (by omega)
    rw [ea] at hI
    have hsuc : zan (t + 1) (zNeg it ((k : Int) * 81 + a)) = (zan t (zNeg it ((k : Int) * 81 + a)) || zNeg it ((k : Int) * 81 + a) t) := rfl
    rw [k_Md_walk_8]
    by_cases g : (decide (5 ≤ kd 0) && !zan t (zNeg it ((k : Int) * 81 + a))) = true
    · have g2 := g
      rw [Bool.and_eq_true, Bool.not_eq_true', decide_eq_true_eq] at g2
      by_cases hneg : it (81 * (k : Int) + a + t) < 0
      · simp (disch := first | omega | exact Nat.le_of_ble_eq_true rfl | assumption | (simp only [Int.natCast_add, Int.natCast_mul, Int.cast_ofNat_Int]; omega) | decide) only [k_Md_walk_9, k_Md_walk_10, k_Md_walk_12, k_Md_walk_13, x_aload, x_getf, w_goto, w_fall, w_i2l, w_iadd, w_iconst, w_if, w_icmp, x_iinc, x_iload, w_imul, w_irem, x_istore, w_sipush, zadd_eq, zmul_eq, gf_48_14, gf_48_32, gf_48_35, xp_48_31, ia_59, sa_59, ia_71, sa_71, ia_74, sa_74, w_nret r_Md_walk, q_eq, q_ne, q_lt, q_ge, q_gt, q_le, g_I, g_L, g_R, g_V, t_0, t_I, t_R, t_U, t_L, t_s, List.getElem?_cons_zero, List.getElem?_cons_succ, Nat.reduceAdd, zif10, zif01b, zib, if_pos, if_neg, ↓reduceIte, not_true_eq_false, not_false_eq_true, Bool.true_eq_false, Bool.false_eq_true, Classical.not_not, eq_self, and_self, and_true, true_and, Int.reduceEq, Int.reduceLE, Int.reduceLT, Int.reduceNeg, Option.toList, List.cons_append, List.nil_append, zup_s, zup_n, zst_s, zup_zs, zup_zn, decide_true, decide_false, g, hI, hneg]
        refine ih _ _ ⟨?_, rfl⟩
        rw [hsuc, g2.2]
        simp [zNeg, ea, hneg]
      · simp (disch := first | omega | exact Nat.le_of_ble_eq_true rfl | assumption | (simp only [Int.natCast_add, Int.natCast_mul, Int.cast_ofNat_Int]; omega) | decide) only [k_Md_walk_9, k_Md_walk_10, k_Md_walk_11, k_Md_walk_13, x_aload, x_getf, w_goto, w_fall, w_i2l, w_iadd, w_iconst, w_if, w_icmp, x_iinc, x_iload, w_imul, w_irem, x_istore, w_sipush, zadd_eq, zmul_eq, gf_48_14, gf_48_32, gf_48_35, xp_48_31, ia_59, sa_59, ia_71, sa_71, ia_74, sa_74, w_nret r_Md_walk, q_eq, q_ne, q_lt, q_ge, q_gt, q_le, g_I, g_L, g_R, g_V, t_0, t_I, t_R, t_U, t_L, t_s, List.getElem?_cons_zero, List.getElem?_cons_succ, Nat.reduceAdd, zif10, zif01b, zib, if_pos, if_neg, ↓reduceIte, not_true_eq_false, not_false_eq_true, Bool.true_eq_false, Bool.false_eq_true, Classical.not_not, eq_self, and_self, and_true, true_and, Int.reduceEq, Int.reduceLE, Int.reduceLT, Int.reduceNeg, Option.toList, List.cons_append, List.nil_append, zup_s, zup_n, zst_s, zup_zs, zup_zn, decide_true, decide_false, g, hI, hneg]
        refine ih _ _ ⟨?_, rfl⟩
        rw [hsuc, g2.2]
        simp [zNeg, ea, hneg, g2.1]
    · simp (disch := first | omega | exact Nat.le_of_ble_eq_true rfl | assumption | (simp only [Int.natCast_add, Int.natCast_mul, Int.cast_ofNat_Int]; omega) | decide) only [k_Md_walk_9, k_Md_walk_12, k_Md_walk_13, x_aload, x_getf, w_goto, w_fall, w_i2l, w_iadd, w_iconst, w_if, w_icmp, x_iinc, x_iload, w_imul, w_irem, x_istore, w_sipush, zadd_eq, zmul_eq, gf_48_14, gf_48_32, gf_48_35, xp_48_31, ia_59, sa_59, ia_71, sa_71, ia_74, sa_74, w_nret r_Md_walk, q_eq, q_ne, q_lt, q_ge, q_gt, q_le, g_I, g_L, g_R, g_V, t_0, t_I, t_R, t_U, t_L, t_s, List.getElem?_cons_zero, List.getElem?_cons_succ, Nat.reduceAdd, zif10, zif01b, zib, if_pos, if_neg, ↓reduceIte, not_true_eq_false, not_false_eq_true, Bool.true_eq_false, Bool.false_eq_true, Classical.not_not, eq_self, and_self, and_true, true_and, Int.reduceEq, Int.reduceLE, Int.reduceLT, Int.reduceNeg, Option.toList, List.cons_append, List.nil_append, zup_s, zup_n, zst_s, zup_zs, zup_zn, decide_true, decide_false, g]
      have hn2 : ¬ (decide (5 ≤ kd 0) && !zan (t + 1) (zNeg it ((k : Int) * 81 + a))) = true := fun h => by
        rw [hsuc] at h
        refine g ?_
        simp only [Bool.and_eq_true, Bool.not_eq_true', Bool.or_eq_false_iff] at h ⊢
        exact ⟨h.1, h.2.1⟩
      refine ih _ _ ⟨?_, rfl⟩
      rw [if_neg hn2]
      rfl
  · rintro _ M ⟨rfl, rfl⟩
    rw [k_Md_walk_8]
    by_cases g : (decide (5 ≤ kd 0) && !zan m (zNeg it ((k : Int) * 81 + a))) = true
    rotate_left
    · have g2 : ¬ (5 ≤ kd 0 ∧ ¬ zan m (zNeg it ((k : Int) * 81 + a)) = true) := by simpa using g
      rw [if_neg g2] at hans
      have hng : ¬ gd := fun h => by rw [← hgd] at h; exact g2 h.2.2
      simp (disch := first | omega | exact Nat.le_of_ble_eq_true rfl | assumption | (simp only [Int.natCast_add, Int.natCast_mul, Int.cast_ofNat_Int]; omega) | decide) only [k_Md_walk_14, k_Md_walk_15, x_aload, x_getf, w_goto, w_fall, w_i2l, w_iadd, w_iconst, w_if, w_icmp, x_iinc, x_iload, w_imul, w_irem, x_istore, w_sipush, zadd_eq, zmul_eq, gf_48_14, gf_48_32, gf_48_35, xp_48_31, ia_59, sa_59, ia_71, sa_71, ia_74, sa_74, w_nret r_Md_walk, q_eq, q_ne, q_lt, q_ge, q_gt, q_le, g_I, g_L, g_R, g_V, t_0, t_I, t_R, t_U, t_L, t_s, List.getElem?_cons_zero, List.getElem?_cons_succ, Nat.reduceAdd, zif10, zif01b, zib, if_pos, if_neg, ↓reduceIte, not_true_eq_false, not_false_eq_true, Bool.true_eq_false, Bool.false_eq_true, Classical.not_not, eq_self, and_self, and_true, true_and, Int.reduceEq, Int.reduceLE, Int.reduceLT, Int.reduceNeg, Option.toList, List.cons_append, List.nil_append, zup_s, zup_n, zst_s, zup_zs, zup_zn, decide_true, decide_false, g, hans]
      exact ⟨fun h => absurd h hng, fun _ => trivial⟩
    have g2 : 5 ≤ kd 0 ∧ ¬ zan m (zNeg it ((k : Int) * 81 + a)) = true := by simpa using g
    obtain ⟨c7, c8⟩ := g2
    have g4 := g4 c7
    rw [if_pos ⟨c7, c8⟩] at hans
    have hg : gd := by rw [← hgd]; exact ⟨hK, c6, c7, c8⟩
    have hpos : ∀ u : Nat, u < m → 0 ≤ it ((k : Int) * 81 + a + u) := fun u hu => by
      refine Classical.byContradiction fun h => c8 ((zan_iff _ _).mpr ⟨u, hu, ?_⟩)
      unfold zNeg; rw [decide_eq_true_eq]; omega
    generalize htr : zWkT mv tg P lt kd lf rt gp it ((k : Int) * 81 + a) s = tr at *
    have htr0 : tr 0 = s := by rw [← htr]; rfl
    have htrS : ∀ t, tr (t + 1) = zGo mv tg P lt kd lf rt gp (tr t) (it ((k : Int) * 81 + a + t)).toNat := fun t => by rw [← htr]; rfl
    have htrl : ∀ t, tr t < S := fun t => by rw [← htr]; exact zWkT_lt hN (by omega) t
    simp (disch := first | omega | exact Nat.le_of_ble_eq_true rfl | assumption | (simp only [Int.natCast_add, Int.natCast_mul, Int.cast_ofNat_Int]; omega) | decide) only [k_Md_walk_14, k_Md_walk_16, x_aload, x_getf, w_goto, w_fall, w_i2l, w_iadd, w_iconst, w_if, w_icmp, x_iinc, x_iload, w_imul, w_irem, x_istore, w_sipush, zadd_eq, zmul_eq, gf_48_14, gf_48_32, gf_48_35, xp_48_31, ia_59, sa_59, ia_71, sa_71, ia_74, sa_74, w_nret r_Md_walk, q_eq, q_ne, q_lt, q_ge, q_gt, q_le, g_I, g_L, g_R, g_V, t_0, t_I, t_R, t_U, t_L, t_s, List.getElem?_cons_zero, List.getElem?_cons_succ, Nat.reduceAdd, zif10, zif01b, zib, if_pos, if_neg, ↓reduceIte, not_true_eq_false, not_false_eq_true, Bool.true_eq_false, Bool.false_eq_true, Classical.not_not, eq_self, and_self, and_true, true_and, Int.reduceEq, Int.reduceLE, Int.reduceLT, Int.reduceNeg, Option.toList, List.cons_append, List.nil_append, zup_s, zup_n, zst_s, zup_zs, zup_zn, decide_true, decide_false, g]
    refine zfor (a := 0) (N := m) (b := 17) (fun t L0 M0 => ∃ M2 v9 v10 v11, L0 = [zR 48, zI s, zI k, zI l, zI a, zI m, zI 0, zI 1, zI (t : Int), v9, v10, v11] ∧ M0 = M2 ∧ (zKp [67, 68, 71] M M2 ∧ ∀ q : Nat, q ≤ t → M2 71 (q : Int) = tr q)) ?_ ?_ ?_ ?_
    · exact Nat.zero_le _
    · refine ⟨_, zU, zU, zU, rfl, rfl, zKp_up (by decide) (zKp_rf _ _), fun q hq => ?_⟩
      rw [show q = 0 by omega, show ((0 : Nat) : Int) = 0 from rfl, zup_s, htr0]
    · rintro t _ M2 _ ht ⟨_, v9, v10, v11, rfl, rfl, hk2, hTr⟩ ih
      have ea : (k : Int) * 81 + (a : Int) + (t : Int) = 81 * (k : Int) + a + t := by omega
      have hI := hSh.2 ((k : Int) * 81 + a + t) (by omega) (by omega)
      have hp := hpos t ht
      have hit2 := hit ((k : Int) * 81 + a + t)
      have hst := htrS t
      rw [ea] at hI hp hit2 hst
      obtain ⟨v, hv⟩ : ∃ v : Nat, it (81 * (k : Int) + a + t) = (v : Int) := ⟨_, (Int.toNat_of_nonneg hp).symm⟩
      rw [hv] at hI hit2 hst
      rw [Int.toNat_natCast] at hst
      have hv2 : v < 2147483648 := by omega
      have hm := hN.2.2.2.2.1 (tr t)
      have h48 : M2 48 = M 48 := hk2 48 (by decide)
      have hR2 : zNetR S P mv tg M2 := zNetR_k hR (by rw [h48]) (by rw [h48]) (hk2 49 (by decide)) (hk2 50 (by decide))
      have hFR2 : zFormR n kd lf rt gp M2 := zFormR_k hFR (by rw [h48]) (hk2 56 (by decide)) (hk2 57 (by decide)) (hk2 58 (by decide)) (hk2 59 (by decide))
      have hL2 : zLetR lt M2 := fun s hs => by rw [hk2 52 (by decide)]; exact hL s hs
      have e71 := hTr t (Nat.le_refl t)
      have htl := htrl t
      rw [k_Md_walk_17]
      simp (disch := first | omega | exact Nat.le_of_ble_eq_true rfl | assumption | (simp only [Int.natCast_add, Int.natCast_mul, Int.cast_ofNat_Int]; omega) | decide) only [k_Md_walk_18, x_aload, x_getf, w_goto, w_fall, w_i2l, w_iadd, w_iconst, w_if, w_icmp, x_iinc, x_iload, w_imul, w_irem, x_istore, w_sipush, zadd_eq, zmul_eq, gf_48_14, gf_48_32, gf_48_35, xp_48_31, ia_59, sa_59, ia_71, sa_71, ia_74, sa_74, w_nret r_Md_walk, q_eq, q_ne, q_lt, q_ge, q_gt, q_le, g_I, g_L, g_R, g_V, t_0, t_I, t_R, t_U, t_L, t_s, List.getElem?_cons_zero, List.getElem?_cons_succ, Nat.reduceAdd, zif10, zif01b, zib, if_pos, if_neg, ↓reduceIte, not_true_eq_false, not_false_eq_true, Bool.true_eq_false, Bool.false_eq_true, Classical.not_not, eq_self, and_self, and_true, true_and, Int.reduceEq, Int.reduceLE, Int.reduceLT, Int.reduceNeg, Option.toList, List.cons_append, List.nil_append, zup_s, zup_n, zst_s, zup_zs, zup_zn, decide_true, decide_false, e71]
      refine c_Md_planOf (s := tr t) hN hR2 hL2 hlt hF hFR2 c7 htl (by omega) (Nat.le_of_ble_eq_true rfl) ?_
      rintro _ _ ⟨rfl, H, R, rfl, _⟩
      have hR3 : zNetR S P mv tg (zst (zst M2 67 H) 68 R) := hR2
      have e59 : zst (zst M2 67 H) 68 R 59 0 = (gp 0 : Int) := by
        rw [zst_n (by decide), zst_n (by decide), hk2 59 (by decide)]; exact g4
      have e74 : zst (zst M2 67 H) 68 R 74 (81 * (k : Int) + a + t) = (v : Int) := by
        rw [zst_n (by decide), zst_n (by decide), hk2 74 (by decide)]; exact hI
      have hpos2 := zcnt_pos hm (znot (zbit (gp 0 : Int))) P
      have h81 := zcnt_81 hm (znot (zbit (gp 0 : Int))) hP
      have h81a := zcnt_81 hm (zbit (gp 0 : Int)) hP
      have hmod := Nat.mod_lt v hpos2
      unfold zGo at hst
      have hpl : zPlan (mv (tr t)) (tg (tr t)) (zbit (gp 0 : Int)) P (zHp mv tg P lt kd lf rt gp 0 (tr t)) (zAim (kd 0) (zHp mv tg P lt kd lf rt gp (lf 0)) (zHp mv tg P lt kd lf rt gp 0) (zRd mv tg P lt kd lf rt gp) (tr t)) = -4 ∨ (0 ≤ zPlan (mv (tr t)) (tg (tr t)) (zbit (gp 0 : Int)) P (zHp mv tg P lt kd lf rt gp 0 (tr t)) (zAim (kd 0) (zHp mv tg P lt kd lf rt gp (lf 0)) (zHp mv tg P lt kd lf rt gp 0) (zRd mv tg P lt kd lf rt gp) (tr t)) ∧ zPlan (mv (tr t)) (tg (tr t)) (zbit (gp 0 : Int)) P (zHp mv tg P lt kd lf rt gp 0 (tr t)) (zAim (kd 0) (zHp mv tg P lt kd lf rt gp (lf 0)) (zHp mv tg P lt kd lf rt gp 0) (zRd mv tg P lt kd lf rt gp) (tr t)) < 81) := by
        unfold zPlan; split
        · split
          · omega
          · exact Or.inl rfl
        · exact Or.inl rfl
      generalize zPlan (mv (tr t)) (tg (tr t)) (zbit (gp 0 : Int)) P (zHp mv tg P lt kd lf rt gp 0 (tr t)) (zAim (kd 0) (zHp mv tg P lt kd lf rt gp (lf 0)) (zHp mv tg P lt kd lf rt gp 0) (zRd mv tg P lt kd lf rt gp) (tr t)) = pl at *
      have fin : ∀ V : Int, V = (tr (t + 1) : Int) → zKp [67, 68, 71] M (zst (zst (zup M2 71 ((t : Int) + 1) V) 67 H) 68 R) ∧ ∀ q : Nat, q ≤ t + 1 → zst (zst (zup M2 71 ((t : Int) + 1) V) 67 H) 68 R 71 (q : Int) = tr q := by
        intro V hV
        refine ⟨zKp_st (by decide) (zKp_st (by decide) (zKp_up (by decide) hk2)), fun q hq => ?_⟩
        rw [zst_n (by decide), zst_n (by decide)]
        by_cases e : q = t + 1
        · subst e
          rw [show ((t + 1 : Nat) : Int) = (t : Int) + 1 by omega, zup_s, hV]
        · rw [zup_d (by omega)]
          exact hTr q (by omega)
      rcases hpl with rfl | ⟨p0, p81⟩
      · rw [show (-4 : Int).toNat = 0 from rfl] at hst
        simp (disch := first | omega | exact Nat.le_of_ble_eq_true rfl | assumption | (simp only [Int.natCast_add, Int.natCast_mul, Int.cast_ofNat_Int]; omega) | decide) only [k_Md_walk_19, k_Md_walk_21, x_aload, x_getf, w_goto, w_fall, w_i2l, w_iadd, w_iconst, w_if, w_icmp, x_iinc, x_iload, w_imul, w_irem, x_istore, w_sipush, zadd_eq, zmul_eq, gf_48_14, gf_48_32, gf_48_35, xp_48_31, ia_59, sa_59, ia_71, sa_71, ia_74, sa_74, w_nret r_Md_walk, q_eq, q_ne, q_lt, q_ge, q_gt, q_le, g_I, g_L, g_R, g_V, t_0, t_I, t_R, t_U, t_L, t_s, List.getElem?_cons_zero, List.getElem?_cons_succ, Nat.reduceAdd, zif10, zif01b, zib, if_pos, if_neg, ↓reduceIte, not_true_eq_false, not_false_eq_true, Bool.true_eq_false, Bool.false_eq_true, Classical.not_not, eq_self, and_self, and_true, true_and, Int.reduceEq, Int.reduceLE, Int.reduceLT, Int.reduceNeg, Option.toList, List.cons_append, List.nil_append, zup_s, zup_n, zst_s, zup_zs, zup_zn, decide_true, decide_false, e59, e74, c_Md_others hN hR3, c_Md_jointOf hN hR3 (show tr t < 12 by omega), zoth hP, zrem_nat hv2 (show 0 < zcnt (mv (tr t)) (znot (zbit (gp 0 : Int))) P by omega) (show zcnt (mv (tr t)) (znot (zbit (gp 0 : Int))) P < 2147483648 by omega), c_Md_leadsBy0 (b := v % zcnt (mv (tr t)) (znot (zbit (gp 0 : Int))) P) hN hR3 (show tr t < 12 by omega) (by omega)]
        exact ih _ _ ⟨_, _, _, _, rfl, rfl, fin _ (by rw [hst])⟩
      · obtain ⟨pn, rfl⟩ : ∃ pn : Nat, pl = (pn : Int) := ⟨pl.toNat, by omega⟩
        rw [Int.toNat_natCast] at hst
        simp (disch := first | omega | exact Nat.le_of_ble_eq_true rfl | assumption | (simp only [Int.natCast_add, Int.natCast_mul, Int.cast_ofNat_Int]; omega) | decide) only [k_Md_walk_20, k_Md_walk_21, x_aload, x_getf, w_goto, w_fall, w_i2l, w_iadd, w_iconst, w_if, w_icmp, x_iinc, x_iload, w_imul, w_irem, x_istore, w_sipush, zadd_eq, zmul_eq, gf_48_14, gf_48_32, gf_48_35, xp_48_31, ia_59, sa_59, ia_71, sa_71, ia_74, sa_74, w_nret r_Md_walk, q_eq, q_ne, q_lt, q_ge, q_gt, q_le, g_I, g_L, g_R, g_V, t_0, t_I, t_R, t_U, t_L, t_s, List.getElem?_cons_zero, List.getElem?_cons_succ, Nat.reduceAdd, zif10, zif01b, zib, if_pos, if_neg, ↓reduceIte, not_true_eq_false, not_false_eq_true, Bool.true_eq_false, Bool.false_eq_true, Classical.not_not, eq_self, and_self, and_true, true_and, Int.reduceEq, Int.reduceLE, Int.reduceLT, Int.reduceNeg, Option.toList, List.cons_append, List.nil_append, zup_s, zup_n, zst_s, zup_zs, zup_zn, decide_true, decide_false, e59, e74, c_Md_others hN hR3, c_Md_jointOf hN hR3 (show tr t < 12 by omega), zoth hP, zrem_nat hv2 (show 0 < zcnt (mv (tr t)) (znot (zbit (gp 0 : Int))) P by omega) (show zcnt (mv (tr t)) (znot (zbit (gp 0 : Int))) P < 2147483648 by omega), c_Md_leadsBy (a := pn) (b := v % zcnt (mv (tr t)) (znot (zbit (gp 0 : Int))) P) hN hR3 (show tr t < 12 by omega) (by omega) (by omega)]
        exact ih _ _ ⟨_, _, _, _, rfl, rfl, fin _ (by rw [hst])⟩
    · rintro _ M2 ⟨_, v9, v10, v11, rfl, rfl, hk2, hTr⟩
      have em := hTr m (Nat.le_refl m)
      rw [k_Md_walk_17]
      simp (disch := first | omega | exact Nat.le_of_ble_eq_true rfl | assumption | (simp only [Int.natCast_add, Int.natCast_mul, Int.cast_ofNat_Int]; omega) | decide) only [k_Md_walk_22, x_aload, x_getf, w_goto, w_fall, w_i2l, w_iadd, w_iconst, w_if, w_icmp, x_iinc, x_iload, w_imul, w_irem, x_istore, w_sipush, zadd_eq, zmul_eq, gf_48_14, gf_48_32, gf_48_35, xp_48_31, ia_59, sa_59, ia_71, sa_71, ia_74, sa_74, w_nret r_Md_walk, q_eq, q_ne, q_lt, q_ge, q_gt, q_le, g_I, g_L, g_R, g_V, t_0, t_I, t_R, t_U, t_L, t_s, List.getElem?_cons_zero, List.getElem?_cons_succ, Nat.reduceAdd, zif10, zif01b, zib, if_pos, if_neg, ↓reduceIte, not_true_eq_false, not_false_eq_true, Bool.true_eq_false, Bool.false_eq_true, Classical.not_not, eq_self, and_self, and_true, true_and, Int.reduceEq, Int.reduceLE, Int.reduceLT, Int.reduceNeg, Option.toList, List.cons_append, List.nil_append, zup_s, zup_n, zst_s, zup_zs, zup_zn, decide_true, decide_false, em, hans]
      refine ⟨fun _ => ⟨zKp_up (by decide) (zKp_mo hk2 (by decide)), fun j hj => ?_, ?_, fun q hq => ?_⟩, fun h => absurd hg h⟩
      · rw [zup_d hj, hk2 48 (by decide)]
      · rw [zup_s]; omega
      · rw [zup_n (by decide)]; exact hTr q (by omega)
theorem c_Md_walk {d mi o b9 : Nat} {es : List zEnt} {L st : List zMV} {Q : Option zMV → (Nat → Int → Int) → Prop} {x y l i c : Int} (hN : zNet S P mv tg) (hR : zNetR S P mv tg M) (hL : zLetR lt M) (hlt : ∀ s, lt s < 256) (hF : zForm P n kd lf rt gp) (hFR : zFormR n kd lf rt gp M) (hSh : zShR ln sz it M) (hs : ∀ k, k < 4 → sz k ≤ 81) (hl : ∀ k, k < 4 → -1 ≤ ln k) (hit : ∀ x, it x < 2147483648) (hi : i < 2147483648) (hcb : -2147483648 ≤ c ∧ c < 2147483648) (hd : 10 + 1 ≤ d) (hc : zcats st ≤ 8) (hpost : ∀ r M', (r = some (zI (zWlA S P mv tg lt kd lf rt gp ln sz it x y l i c)) ∧ (zWlG S (kd 0) ln sz it x y l i c → zKp [48, 67, 68, 71] M M' ∧ (∀ j : Int, j ≠ 31 → M' 48 j = M 48 j) ∧ zTraR (c.toNat + 1) (zWkT mv tg P lt kd lf rt gp it (y * 81 + i) x.toNat) M') ∧ (¬ zWlG S (kd 0) ln sz it x y l i c → M' = M)) → zW (zSH Ln) d mi es L (r.toList ++ st) M' Q) : zW (zSH Ln) d mi ((.invokevirtual o, 218, b9) :: es) L (zI c :: zI i :: zI l :: zI y :: zI x :: zR 48 :: st) M Q :=
  w_callv (ps := [zI x, zI y, zI l, zI i, zI c]) (by omega) rfl rfl (by omega) (by exact sh_48 Ln) hc (Nat.le_of_ble_eq_true rfl) (F_Md_walk hN hR hL hlt hF hFR hSh hs hl hit hi hcb (by omega)) hpost
end RE
