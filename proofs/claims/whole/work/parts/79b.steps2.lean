/-! the reference's face: steps -/
theorem zput_up2 (F : Int → Int) (b : Int) (t : Nat) (G : Int → Int) {i v : Int} (hi : i = b + t) (hv : v = G t) : zf (zput F b (t : Int) G) i v = zput F b ((t + 1 : Nat) : Int) G := zput_up F b t G hi hv
section RE
variable {Ln S P : Nat} {mv tg : Nat → Nat → Nat} {ln : Nat → Int} {sz : Nat → Nat} {it : Int → Int} {M : Nat → Int → Int}
set_option maxHeartbeats 20000000 in
theorem F_Md_steps {d : Nat} {x y l i c : Int} (hN : zNet S P mv tg) (hR : zNetR S P mv tg M) (hSh : zShR ln sz it M) (hs : ∀ k, k < 4 → sz k ≤ 81) (hl : ∀ k, k < 4 → -1 ≤ ln k) (hi : i < 2147483648) (hcb : -2147483648 ≤ c ∧ c < 2147483648) (hd : 2 ≤ d) : zF (zSH Ln) d i_Md_steps [zR 48, zI x, zI y, zI l, zI i, zI c] M fun r M' => r = some (zI (zSpA S P mv ln sz it x y l i c)) ∧ (zSpG S P mv ln sz it x y l i c → M' = zst M 50 (zput (M 50) (81 * x) c fun u => it (y * 81 + i + u))) ∧ (¬ zSpG S P mv ln sz it x y l i c → M' = M) := by
  rw [zF_en k_Md_steps_0 (L := [zR 48, zI x, zI y, zI l, zI i, zI c, zU, zU]) rfl]
  have hS := hN.2.1
  have hP := hN.2.2.2.1
  generalize hans : zSpA S P mv ln sz it x y l i c = ans
  unfold zSpA at hans
  generalize hgd : zSpG S P mv ln sz it x y l i c = gd
  unfold zSpG at hgd
  by_cases c1 : 0 ≤ x ∧ x < S
  rotate_left
  · rw [if_neg (fun h => c1 h.1)] at hans
    have hng : ¬ gd := fun h => by rw [← hgd] at h; exact c1 h.1.1
    subst hans
    simp (disch := first | omega | exact Nat.le_of_ble_eq_true rfl | assumption | (simp only [Int.natCast_add, Int.natCast_mul, Int.cast_ofNat_Int]; omega) | decide) only [k_Md_steps_4, x_aload, x_getf, w_goto, w_fall, w_i2l, w_iadd, w_iconst, w_if, w_icmp, x_iinc, x_iload, w_imul, x_istore, w_sipush, zadd_eq, zmul_eq, gf_48_3, gf_48_35, ia_50, sa_50, ia_74, sa_74, w_nret r_Md_steps, q_eq, q_ne, q_lt, q_ge, q_gt, q_le, g_I, g_L, g_R, g_V, t_0, t_I, t_R, t_U, t_L, t_s, List.getElem?_cons_zero, List.getElem?_cons_succ, Nat.reduceAdd, zif10, zif01b, zib, if_pos, if_neg, ↓reduceIte, not_true_eq_false, not_false_eq_true, Bool.true_eq_false, Bool.false_eq_true, Classical.not_not, eq_self, and_self, and_true, true_and, Int.reduceEq, Int.reduceLE, Int.reduceLT, Int.reduceNeg, Option.toList, List.cons_append, List.nil_append, zup_s, zup_n, zst_s, zup_zs, zup_zn, decide_true, decide_false, c_Md_isState hN hR, c1]
    exact ⟨fun h => absurd h hng, fun _ => trivial⟩
  by_cases c2 : 0 ≤ y ∧ y < 4
  rotate_left
  · rw [if_neg (fun h => c2 h.2.1.1)] at hans
    have hng : ¬ gd := fun h => by rw [← hgd] at h; exact c2 h.1.2.1.1
    subst hans
    simp (disch := first | omega | exact Nat.le_of_ble_eq_true rfl | assumption | (simp only [Int.natCast_add, Int.natCast_mul, Int.cast_ofNat_Int]; omega) | decide) only [k_Md_steps_1, k_Md_steps_4, x_aload, x_getf, w_goto, w_fall, w_i2l, w_iadd, w_iconst, w_if, w_icmp, x_iinc, x_iload, w_imul, x_istore, w_sipush, zadd_eq, zmul_eq, gf_48_3, gf_48_35, ia_50, sa_50, ia_74, sa_74, w_nret r_Md_steps, q_eq, q_ne, q_lt, q_ge, q_gt, q_le, g_I, g_L, g_R, g_V, t_0, t_I, t_R, t_U, t_L, t_s, List.getElem?_cons_zero, List.getElem?_cons_succ, Nat.reduceAdd, zif10, zif01b, zib, if_pos, if_neg, ↓reduceIte, not_true_eq_false, not_false_eq_true, Bool.true_eq_false, Bool.false_eq_true, Classical.not_not, eq_self, and_self, and_true, true_and, Int.reduceEq, Int.reduceLE, Int.reduceLT, Int.reduceNeg, Option.toList, List.cons_append, List.nil_append, zup_s, zup_n, zst_s, zup_zs, zup_zn, decide_true, decide_false, c_Md_isState hN hR, c1, c_Md_isSheet, c2]
    exact ⟨fun h => absurd h hng, fun _ => trivial⟩
  by_cases c2b : 0 ≤ l ∧ l < 3
  rotate_left
  · rw [if_neg (fun h => c2b h.2.1.2)] at hans
    have hng : ¬ gd := fun h => by rw [← hgd] at h; exact c2b h.1.2.1.2
    subst hans
    simp (disch := first | omega | exact Nat.le_of_ble_eq_true rfl | assumption | (simp only [Int.natCast_add, Int.natCast_mul, Int.cast_ofNat_Int]; omega) | decide) only [k_Md_steps_1, k_Md_steps_2, k_Md_steps_4, x_aload, x_getf, w_goto, w_fall, w_i2l, w_iadd, w_iconst, w_if, w_icmp, x_iinc, x_iload, w_imul, x_istore, w_sipush, zadd_eq, zmul_eq, gf_48_3, gf_48_35, ia_50, sa_50, ia_74, sa_74, w_nret r_Md_steps, q_eq, q_ne, q_lt, q_ge, q_gt, q_le, g_I, g_L, g_R, g_V, t_0, t_I, t_R, t_U, t_L, t_s, List.getElem?_cons_zero, List.getElem?_cons_succ, Nat.reduceAdd, zif10, zif01b, zib, if_pos, if_neg, ↓reduceIte, not_true_eq_false, not_false_eq_true, Bool.true_eq_false, Bool.false_eq_true, Classical.not_not, eq_self, and_self, and_true, true_and, Int.reduceEq, Int.reduceLE, Int.reduceLT, Int.reduceNeg, Option.toList, List.cons_append, List.nil_append, zup_s, zup_n, zst_s, zup_zs, zup_zn, decide_true, decide_false, c_Md_isState hN hR, c1, c_Md_isSheet, c2, c_Md_isLane, c2b]
    exact ⟨fun h => absurd h hng, fun _ => trivial⟩
  obtain ⟨s, rfl⟩ : ∃ s : Nat, x = (s : Int) := ⟨x.toNat, by omega⟩
  obtain ⟨k, rfl⟩ : ∃ k : Nat, y = (k : Int) := ⟨y.toNat, by omega⟩
  have hs12 : s < 12 := by omega
  have hk : k < 4 := by omega
  have hsk := hs k hk
  have h81 := zcnt_81 (hN.2.2.2.2.1 s) zall1 hP
  have e : zcnt (mv s) (zbit (zset P fun _ => true)) P = zcnt (mv s) zall1 P := zcnt_congr P fun i hi => by rw [zset_bit (by omega)]; simp [hi, zall1]
  simp only [Int.toNat_natCast] at hans hgd
  by_cases c3 : 0 ≤ c ∧ c ≤ (zcnt (mv s) zall1 P : Int)
  rotate_left
  · rw [if_neg (fun h => c3 h.2.2)] at hans
    have hng : ¬ gd := fun h => by rw [← hgd] at h; exact c3 h.1.2.2
    subst hans
    simp (disch := first | omega | exact Nat.le_of_ble_eq_true rfl | assumption | (simp only [Int.natCast_add, Int.natCast_mul, Int.cast_ofNat_Int]; omega) | decide) only [k_Md_steps_1, k_Md_steps_2, k_Md_steps_3, k_Md_steps_4, x_aload, x_getf, w_goto, w_fall, w_i2l, w_iadd, w_iconst, w_if, w_icmp, x_iinc, x_iload, w_imul, x_istore, w_sipush, zadd_eq, zmul_eq, gf_48_3, gf_48_35, ia_50, sa_50, ia_74, sa_74, w_nret r_Md_steps, q_eq, q_ne, q_lt, q_ge, q_gt, q_le, g_I, g_L, g_R, g_V, t_0, t_I, t_R, t_U, t_L, t_s, List.getElem?_cons_zero, List.getElem?_cons_succ, Nat.reduceAdd, zif10, zif01b, zib, if_pos, if_neg, ↓reduceIte, not_true_eq_false, not_false_eq_true, Bool.true_eq_false, Bool.false_eq_true, Classical.not_not, eq_self, and_self, and_true, true_and, Int.reduceEq, Int.reduceLE, Int.reduceLT, Int.reduceNeg, Option.toList, List.cons_append, List.nil_append, zup_s, zup_n, zst_s, zup_zs, zup_zn, decide_true, decide_false, c_Md_isState hN hR, c1, c_Md_isSheet, c2, c_Md_isLane, c2b, c_Md_everybody hN hR, c_Md_jointOf hN hR hs12, e, c_Md_in, c3]
    exact ⟨fun h => absurd h hng, fun _ => trivial⟩
  have hK : zSpK S P mv (s : Int) (k : Int) l c := ⟨c1, ⟨c2, c2b⟩, c3⟩
  rw [if_pos hK] at hans
  by_cases c6 : zWrg ln sz k l i c = 0
  rotate_left
  · rw [if_neg c6] at hans
    have hng : ¬ gd := fun h => by rw [← hgd] at h; exact c6 h.2.1
    have c6' : ¬ 0 ≤ zWrg ln sz k l i c := fun h => by rcases zWrg_v (ln := ln) (sz := sz) (k := k) (l := l) (i := i) (n := c) with e | e <;> omega
    simp (disch := first | omega | exact Nat.le_of_ble_eq_true rfl | assumption | (simp only [Int.natCast_add, Int.natCast_mul, Int.cast_ofNat_Int]; omega) | decide) only [k_Md_steps_1, k_Md_steps_2, k_Md_steps_3, k_Md_steps_5, k_Md_steps_6, x_aload, x_getf, w_goto, w_fall, w_i2l, w_iadd, w_iconst, w_if, w_icmp, x_iinc, x_iload, w_imul, x_istore, w_sipush, zadd_eq, zmul_eq, gf_48_3, gf_48_35, ia_50, sa_50, ia_74, sa_74, w_nret r_Md_steps, q_eq, q_ne, q_lt, q_ge, q_gt, q_le, g_I, g_L, g_R, g_V, t_0, t_I, t_R, t_U, t_L, t_s, List.getElem?_cons_zero, List.getElem?_cons_succ, Nat.reduceAdd, zif10, zif01b, zib, if_pos, if_neg, ↓reduceIte, not_true_eq_false, not_false_eq_true, Bool.true_eq_false, Bool.false_eq_true, Classical.not_not, eq_self, and_self, and_true, true_and, Int.reduceEq, Int.reduceLE, Int.reduceLT, Int.reduceNeg, Option.toList, List.cons_append, List.nil_append, zup_s, zup_n, zst_s, zup_zs, zup_zn, decide_true, decide_false, c_Md_isState hN hR, c1, c_Md_isSheet, c2, c_Md_isLane, c2b, c_Md_everybody hN hR, c_Md_jointOf hN hR hs12, e, c_Md_in, c3, c_Md_finds hSh hk hsk (hl k hk) hi hcb, c6', hans]
    exact ⟨fun h => absurd h hng, fun _ => trivial⟩
  rw [if_pos c6] at hans
  obtain ⟨w1, w2, w3⟩ := zWrg_0 c6
  obtain ⟨m, rfl⟩ : ∃ m : Nat, c = (m : Int) := ⟨c.toNat, by omega⟩
  obtain ⟨a, rfl⟩ : ∃ a : Nat, i = (a : Int) := ⟨i.toNat, by omega⟩
  simp only [Int.toNat_natCast] at hans hgd ⊢
  have c3' : (0 : Int) ≤ (m : Int) ∧ (m : Int) ≤ (zcnt (mv s) zall1 P : Int) := c3
  simp (disch := first | omega | exact Nat.le_of_ble_eq_true rfl | assumption | (simp only [Int.natCast_add, Int.natCast_mul, Int.cast_ofNat_Int]; omega) | decide) only [k_Md_steps_1, k_Md_steps_2, k_Md_steps_3, k_Md_steps_5, k_Md_steps_7, x_aload, x_getf, w_goto, w_fall, w_i2l, w_iadd, w_iconst, w_if, w_icmp, x_iinc, x_iload, w_imul, x_istore, w_sipush, zadd_eq, zmul_eq, gf_48_3, gf_48_35, ia_50, sa_50, ia_74, sa_74, w_nret r_Md_steps, q_eq, q_ne, q_lt, q_ge, q_gt, q_le, g_I, g_L, g_R, g_V, t_0, t_I, t_R, t_U, t_L, t_s, List.getElem?_cons_zero, List.getElem?_cons_succ, Nat.reduceAdd, zif10, zif01b, zib, if_pos, if_neg, ↓reduceIte, not_true_eq_false, not_false_eq_true, Bool.true_eq_false, Bool.false_eq_true, Classical.not_not, eq_self, and_self, and_true, true_and, Int.reduceEq, Int.reduceLE, Int.reduceLT, Int.reduceNeg, Option.toList, List.cons_append, List.nil_append, zup_s, zup_n, zst_s, zup_zs, zup_zn, decide_true, decide_false, c_Md_isState hN hR, c1, c_Md_isSheet, c2, c_Md_isLane, c2b, c_Md_everybody hN hR, c_Md_jointOf hN hR hs12, e, c_Md_in, c3', c_Md_finds hSh hk hsk (hl k hk) hi hcb, c6]
  have hall : zsts S it ((k : Int) * 81 + a) m = true ↔ ∀ u : Nat, u < m → 0 ≤ it ((k : Int) * 81 + a + u) ∧ it ((k : Int) * 81 + a + u) < S := by
    unfold zsts; rw [zfa_iff]
    exact ⟨fun h u hu => by simpa using h u hu, fun h u hu => by simpa using h u hu⟩
  refine zfor (a := 0) (N := m) (b := 8) (fun t L0 M0 => L0 = [zR 48, zI s, zI k, zI l, zI a, zI m, zI 0, zI (t : Int)] ∧ M0 = M ∧ (∀ u : Nat, u < t → 0 ≤ it ((k : Int) * 81 + a + u) ∧ it ((k : Int) * 81 + a + u) < S)) ?_ ?_ ?_ ?_
  · exact Nat.zero_le _
  · exact ⟨rfl, rfl, fun u hu => by omega⟩
  · rintro t _ M _ ht ⟨rfl, rfl, hok⟩ ih
    have hI := hSh.2 ((k : Int) * 81 + a + t) (by omega) (by omega)
    have ea : 81 * (k : Int) + (a : Int) + (t : Int) = (k : Int) * 81 + a + t := by omega
    have ea2 : 81 * (k : Int) = (k : Int) * 81 := by omega
    by_cases c7 : 0 ≤ it ((k : Int) * 81 + a + t) ∧ it ((k : Int) * 81 + a + t) < S
    · rw [k_Md_steps_8]
      simp (disch := first | omega | exact Nat.le_of_ble_eq_true rfl | assumption | (simp only [Int.natCast_add, Int.natCast_mul, Int.cast_ofNat_Int]; omega) | decide) only [k_Md_steps_9, k_Md_steps_11, x_aload, x_getf, w_goto, w_fall, w_i2l, w_iadd, w_iconst, w_if, w_icmp, x_iinc, x_iload, w_imul, x_istore, w_sipush, zadd_eq, zmul_eq, gf_48_3, gf_48_35, ia_50, sa_50, ia_74, sa_74, w_nret r_Md_steps, q_eq, q_ne, q_lt, q_ge, q_gt, q_le, g_I, g_L, g_R, g_V, t_0, t_I, t_R, t_U, t_L, t_s, List.getElem?_cons_zero, List.getElem?_cons_succ, Nat.reduceAdd, zif10, zif01b, zib, if_pos, if_neg, ↓reduceIte, not_true_eq_false, not_false_eq_true, Bool.true_eq_false, Bool.false_eq_true, Classical.not_not, eq_self, and_self, and_true, true_and, Int.reduceEq, Int.reduceLE, Int.reduceLT, Int.reduceNeg, Option.toList, List.cons_append, List.nil_append, zup_s, zup_n, zst_s, zup_zs, zup_zn, decide_true, decide_false, ea2, hI, c_Md_isState hN hR, c7]
      refine ih _ _ ⟨rfl, rfl, fun u hu => ?_⟩
      by_cases e2 : u = t
      · subst e2; exact c7
      · exact hok u (by omega)
    · have c8 : ¬ zsts S it ((k : Int) * 81 + a) m = true := fun h => c7 (hall.mp h t ht)
      rw [if_neg c8] at hans
      have hng : ¬ gd := fun h => by rw [← hgd] at h; exact c8 h.2.2
      rw [k_Md_steps_8]
      simp (disch := first | omega | exact Nat.le_of_ble_eq_true rfl | assumption | (simp only [Int.natCast_add, Int.natCast_mul, Int.cast_ofNat_Int]; omega) | decide) only [k_Md_steps_9, k_Md_steps_10, x_aload, x_getf, w_goto, w_fall, w_i2l, w_iadd, w_iconst, w_if, w_icmp, x_iinc, x_iload, w_imul, x_istore, w_sipush, zadd_eq, zmul_eq, gf_48_3, gf_48_35, ia_50, sa_50, ia_74, sa_74, w_nret r_Md_steps, q_eq, q_ne, q_lt, q_ge, q_gt, q_le, g_I, g_L, g_R, g_V, t_0, t_I, t_R, t_U, t_L, t_s, List.getElem?_cons_zero, List.getElem?_cons_succ, Nat.reduceAdd, zif10, zif01b, zib, if_pos, if_neg, ↓reduceIte, not_true_eq_false, not_false_eq_true, Bool.true_eq_false, Bool.false_eq_true, Classical.not_not, eq_self, and_self, and_true, true_and, Int.reduceEq, Int.reduceLE, Int.reduceLT, Int.reduceNeg, Option.toList, List.cons_append, List.nil_append, zup_s, zup_n, zst_s, zup_zs, zup_zn, decide_true, decide_false, ea2, hI, c_Md_isState hN hR, c7, hans]
      exact ⟨fun h => absurd h hng, fun _ => trivial⟩
  · rintro _ M ⟨rfl, rfl, hok⟩
    have c8 : zsts S it ((k : Int) * 81 + a) m = true := hall.mpr hok
    rw [if_pos c8] at hans
    have hg : gd := by rw [← hgd]; exact ⟨hK, c6, c8⟩
    rw [k_Md_steps_8]
    simp (disch := first | omega | exact Nat.le_of_ble_eq_true rfl | assumption | (simp only [Int.natCast_add, Int.natCast_mul, Int.cast_ofNat_Int]; omega) | decide) only [k_Md_steps_12, x_aload, x_getf, w_goto, w_fall, w_i2l, w_iadd, w_iconst, w_if, w_icmp, x_iinc, x_iload, w_imul, x_istore, w_sipush, zadd_eq, zmul_eq, gf_48_3, gf_48_35, ia_50, sa_50, ia_74, sa_74, w_nret r_Md_steps, q_eq, q_ne, q_lt, q_ge, q_gt, q_le, g_I, g_L, g_R, g_V, t_0, t_I, t_R, t_U, t_L, t_s, List.getElem?_cons_zero, List.getElem?_cons_succ, Nat.reduceAdd, zif10, zif01b, zib, if_pos, if_neg, ↓reduceIte, not_true_eq_false, not_false_eq_true, Bool.true_eq_false, Bool.false_eq_true, Classical.not_not, eq_self, and_self, and_true, true_and, Int.reduceEq, Int.reduceLE, Int.reduceLT, Int.reduceNeg, Option.toList, List.cons_append, List.nil_append, zup_s, zup_n, zst_s, zup_zs, zup_zn, decide_true, decide_false]
    refine zfor (a := 0) (N := m) (b := 13) (fun t L0 M0 => L0 = [zR 48, zI s, zI k, zI l, zI a, zI m, zI 0, zI (t : Int)] ∧ M0 = zst M 50 (zput (M 50) (81 * (s : Int)) (t : Int) fun u => it ((k : Int) * 81 + a + u))) ?_ ?_ ?_ ?_
    · exact Nat.zero_le _
    · refine ⟨rfl, ?_⟩
      rw [zput_0]
      exact (zst_id _ _).symm
    · rintro t _ _ _ ht ⟨rfl, rfl⟩ ih
      have hI := hSh.2 ((k : Int) * 81 + a + t) (by omega) (by omega)
      have ea2 : 81 * (k : Int) = (k : Int) * 81 := by omega
      have e74 : zst M 50 (zput (M 50) (81 * (s : Int)) (t : Int) fun u => it ((k : Int) * 81 + a + u)) 74 ((k : Int) * 81 + a + t) = it ((k : Int) * 81 + a + t) := hI
      rw [k_Md_steps_13]
      simp (disch := first | omega | exact Nat.le_of_ble_eq_true rfl | assumption | (simp only [Int.natCast_add, Int.natCast_mul, Int.cast_ofNat_Int]; omega) | decide) only [k_Md_steps_14, x_aload, x_getf, w_goto, w_fall, w_i2l, w_iadd, w_iconst, w_if, w_icmp, x_iinc, x_iload, w_imul, x_istore, w_sipush, zadd_eq, zmul_eq, gf_48_3, gf_48_35, ia_50, sa_50, ia_74, sa_74, w_nret r_Md_steps, q_eq, q_ne, q_lt, q_ge, q_gt, q_le, g_I, g_L, g_R, g_V, t_0, t_I, t_R, t_U, t_L, t_s, List.getElem?_cons_zero, List.getElem?_cons_succ, Nat.reduceAdd, zif10, zif01b, zib, if_pos, if_neg, ↓reduceIte, not_true_eq_false, not_false_eq_true, Bool.true_eq_false, Bool.false_eq_true, Classical.not_not, eq_self, and_self, and_true, true_and, Int.reduceEq, Int.reduceLE, Int.reduceLT, Int.reduceNeg, Option.toList, List.cons_append, List.nil_append, zup_s, zup_n, zst_s, zup_zs, zup_zn, decide_true, decide_false, ea2, e74]
      refine ih _ _ ⟨rfl, ?_⟩
      rw [zput_up (M 50) (81 * (s : Int)) t (fun u => it ((k : Int) * 81 + a + u)) rfl rfl]
    · rintro _ _ ⟨rfl, rfl⟩
      rw [k_Md_steps_13]
      simp (disch := first | omega | exact Nat.le_of_ble_eq_true rfl | assumption | (simp only [Int.natCast_add, Int.natCast_mul, Int.cast_ofNat_Int]; omega) | decide) only [k_Md_steps_15, x_aload, x_getf, w_goto, w_fall, w_i2l, w_iadd, w_iconst, w_if, w_icmp, x_iinc, x_iload, w_imul, x_istore, w_sipush, zadd_eq, zmul_eq, gf_48_3, gf_48_35, ia_50, sa_50, ia_74, sa_74, w_nret r_Md_steps, q_eq, q_ne, q_lt, q_ge, q_gt, q_le, g_I, g_L, g_R, g_V, t_0, t_I, t_R, t_U, t_L, t_s, List.getElem?_cons_zero, List.getElem?_cons_succ, Nat.reduceAdd, zif10, zif01b, zib, if_pos, if_neg, ↓reduceIte, not_true_eq_false, not_false_eq_true, Bool.true_eq_false, Bool.false_eq_true, Classical.not_not, eq_self, and_self, and_true, true_and, Int.reduceEq, Int.reduceLE, Int.reduceLT, Int.reduceNeg, Option.toList, List.cons_append, List.nil_append, zup_s, zup_n, zst_s, zup_zs, zup_zn, decide_true, decide_false, hans]
      exact ⟨fun _ => trivial, fun h => absurd hg h⟩
theorem c_Md_steps {d mi o b9 : Nat} {es : List zEnt} {L st : List zMV} {Q : Option zMV → (Nat → Int → Int) → Prop} {x y l i c : Int} (hN : zNet S P mv tg) (hR : zNetR S P mv tg M) (hSh : zShR ln sz it M) (hs : ∀ k, k < 4 → sz k ≤ 81) (hl : ∀ k, k < 4 → -1 ≤ ln k) (hi : i < 2147483648) (hcb : -2147483648 ≤ c ∧ c < 2147483648) (hd : 2 + 1 ≤ d) (hc : zcats st ≤ 8) (hpost : ∀ r M', (r = some (zI (zSpA S P mv ln sz it x y l i c)) ∧ (zSpG S P mv ln sz it x y l i c → M' = zst M 50 (zput (M 50) (81 * x) c fun u => it (y * 81 + i + u))) ∧ (¬ zSpG S P mv ln sz it x y l i c → M' = M)) → zW (zSH Ln) d mi es L (r.toList ++ st) M' Q) : zW (zSH Ln) d mi ((.invokevirtual o, 220, b9) :: es) L (zI c :: zI i :: zI l :: zI y :: zI x :: zR 48 :: st) M Q :=
  w_callv (ps := [zI x, zI y, zI l, zI i, zI c]) (by omega) rfl rfl (by omega) (by exact sh_48 Ln) hc (Nat.le_of_ble_eq_true rfl) (F_Md_steps hN hR hSh hs hl hi hcb (by omega)) hpost
end RE
