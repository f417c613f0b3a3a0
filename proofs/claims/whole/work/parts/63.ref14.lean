/-! the reference: what a row does -/
theorem zand_m1 {n : Nat} (hn : n ≤ 30) (f : Nat → Bool) : zand (zset n f) (-1) = zset n f := zext (zand_in _ _) (zset_in hn _) fun i hi => by
  have h1 := zbit_not 0 hi
  have h2 : zxor 0 (-1) = -1 := by decide
  rw [h2, zbit_0] at h1
  rw [zbit_and, h1]; simp
section RE
variable {Ln S P n : Nat} {mv tg hp rw0 : Nat → Nat → Nat} {kd lf rt gp : Nat → Nat} {M : Nat → Int → Int} {g : Int} {b : Nat → Nat} {N : Nat → Nat → Bool} {one two : Nat → Bool}
theorem F_Md_stays {d : Nat} {X : Nat → Bool} (hS : S ≤ 12) (hR : zNetR S P mv tg M) (hE : ∀ s : Nat, s < S → M 80 (s : Int) = zset S (N s)) (hd : 0 ≤ d) : zF (zSH Ln) d i_Md_stays [zR 48, zI (zset S X)] M fun r M' => r = some (zI (zset S (zNv S N X 12))) ∧ M' = M := by
  rw [zF_en k_Md_stays_0 (L := [zR 48, zI (zset S X), zU, zU, zU]) rfl]
  have hz0 := zset_0 S X
  simp (disch := first | omega | exact Nat.le_of_ble_eq_true rfl | assumption | (simp only [Int.natCast_add, Int.natCast_mul, Int.cast_ofNat_Int]; omega) | decide) only [x_aload, x_getf, w_goto, w_fall, w_iand, w_iconst, w_if, w_icmp, x_iinc, x_iload, w_ishl, x_istore, w_ixor, zadd_eq, gf_48_0, gf_48_42, ia_80, w_nret r_Md_stays, q_eq, q_ne, q_lt, q_ge, q_gt, q_le, g_I, g_L, g_R, g_V, t_0, t_I, t_R, t_U, t_L, t_s, List.getElem?_cons_zero, List.getElem?_cons_succ, Nat.reduceAdd, zif10, zif01b, zib, if_pos, if_neg, ↓reduceIte, not_true_eq_false, not_false_eq_true, Bool.true_eq_false, Bool.false_eq_true, Classical.not_not, eq_self, and_self, and_true, true_and, Int.reduceEq, Int.reduceLE, Int.reduceLT, Int.reduceNeg, Option.toList, List.cons_append, List.nil_append, zup_s, zup_n, zst_s, zup_zs, zup_zn, decide_true, decide_false]
  refine zfor (a := 0) (N := 14) (b := 1) (fun i L0 M0 => ∃ (w : Int) (v4 : zMV), L0 = [zR 48, zI (zset S X), zI (zset S (zNv S N X i)), zI w, v4] ∧ M0 = M ∧ ((¬ zset S (zNv S N X i) = w) ∧ ∀ j, j < i → ¬ zeqS S (zNv S N X (j + 1)) (zNv S N X j))) ?_ ?_ ?_ ?_
  · exact Nat.zero_le _
  · exact ⟨-1, zU, rfl, rfl, fun h => by have h : zset S X = -1 := h; omega, fun j hj => by omega⟩
  · rintro i _ M _ hi ⟨w, v4, rfl, rfl, hw, hne⟩ ih
    have hi12 : i ≤ 12 := by
      rcases Nat.lt_or_ge 12 i with h | h
      · exact absurd (zNv_stay 12 13 (Or.inr hS) (by omega)) (hne 12 h)
      · exact h
    have hsu : zNv S N X (i + 1) = fun s => zNv S N X i s && zsb S (N s) (zNv S N X i) := rfl
    generalize hY : zNv S N X i = Y at hw hsu ⊢
    rw [k_Md_stays_1]
    simp (disch := first | omega | exact Nat.le_of_ble_eq_true rfl | assumption | (simp only [Int.natCast_add, Int.natCast_mul, Int.cast_ofNat_Int]; omega) | decide) only [k_Md_stays_2, x_aload, x_getf, w_goto, w_fall, w_iand, w_iconst, w_if, w_icmp, x_iinc, x_iload, w_ishl, x_istore, w_ixor, zadd_eq, gf_48_0, gf_48_42, ia_80, w_nret r_Md_stays, q_eq, q_ne, q_lt, q_ge, q_gt, q_le, g_I, g_L, g_R, g_V, t_0, t_I, t_R, t_U, t_L, t_s, List.getElem?_cons_zero, List.getElem?_cons_succ, Nat.reduceAdd, zif10, zif01b, zib, if_pos, if_neg, ↓reduceIte, not_true_eq_false, not_false_eq_true, Bool.true_eq_false, Bool.false_eq_true, Classical.not_not, eq_self, and_self, and_true, true_and, Int.reduceEq, Int.reduceLE, Int.reduceLT, Int.reduceNeg, Option.toList, List.cons_append, List.nil_append, zup_s, zup_n, zst_s, zup_zs, zup_zn, decide_true, decide_false, hw]
    refine zfor (a := 0) (N := S) (b := 3) (fun t L0 M0 => L0 = [zR 48, zI (zset S X), zI (zset S fun s => Y s && !(decide (s < t) && !zsb S (N s) Y)), zI (zset S Y), zI (t : Int)] ∧ M0 = M) ?_ ?_ ?_ ?_
    · exact Nat.zero_le _
    · exact ⟨by simp, rfl⟩
    · rintro t _ M _ ht ⟨rfl, rfl⟩ ih2
      have he := hE t ht
      have nx : ∀ v : Bool, v = zsb S (N t) Y → (zset S fun s => Y s && !(decide (s < t + 1) && !zsb S (N s) Y)) = zset S fun s => (Y s && !(decide (s < t) && !zsb S (N s) Y)) && !(!v && decide (s = t)) := by
        intro v hv
        refine zset_cong fun i hi => ?_
        by_cases e : i = t
        · subst e; simp [hv]
        · simp [e, show (i < t + 1) ↔ (i < t) by omega]
      rw [k_Md_stays_3]
      cases hsb : zsb S (N t) Y
      · simp (disch := first | omega | exact Nat.le_of_ble_eq_true rfl | assumption | (simp only [Int.natCast_add, Int.natCast_mul, Int.cast_ofNat_Int]; omega) | decide) only [k_Md_stays_4, k_Md_stays_6, k_Md_stays_7, x_aload, x_getf, w_goto, w_fall, w_iand, w_iconst, w_if, w_icmp, x_iinc, x_iload, w_ishl, x_istore, w_ixor, zadd_eq, gf_48_0, gf_48_42, ia_80, w_nret r_Md_stays, q_eq, q_ne, q_lt, q_ge, q_gt, q_le, g_I, g_L, g_R, g_V, t_0, t_I, t_R, t_U, t_L, t_s, List.getElem?_cons_zero, List.getElem?_cons_succ, Nat.reduceAdd, zif10, zif01b, zib, if_pos, if_neg, ↓reduceIte, not_true_eq_false, not_false_eq_true, Bool.true_eq_false, Bool.false_eq_true, Classical.not_not, eq_self, and_self, and_true, true_and, Int.reduceEq, Int.reduceLE, Int.reduceLT, Int.reduceNeg, Option.toList, List.cons_append, List.nil_append, zup_s, zup_n, zst_s, zup_zs, zup_zn, decide_true, decide_false, hR.1, he, zset_dif, zset_sb, hsb, zset_one (n := S)]
        refine ih2 _ _ ⟨?_, rfl⟩
        rw [nx false hsb.symm]
        simp
      · simp (disch := first | omega | exact Nat.le_of_ble_eq_true rfl | assumption | (simp only [Int.natCast_add, Int.natCast_mul, Int.cast_ofNat_Int]; omega) | decide) only [k_Md_stays_4, k_Md_stays_5, k_Md_stays_7, x_aload, x_getf, w_goto, w_fall, w_iand, w_iconst, w_if, w_icmp, x_iinc, x_iload, w_ishl, x_istore, w_ixor, zadd_eq, gf_48_0, gf_48_42, ia_80, w_nret r_Md_stays, q_eq, q_ne, q_lt, q_ge, q_gt, q_le, g_I, g_L, g_R, g_V, t_0, t_I, t_R, t_U, t_L, t_s, List.getElem?_cons_zero, List.getElem?_cons_succ, Nat.reduceAdd, zif10, zif01b, zib, if_pos, if_neg, ↓reduceIte, not_true_eq_false, not_false_eq_true, Bool.true_eq_false, Bool.false_eq_true, Classical.not_not, eq_self, and_self, and_true, true_and, Int.reduceEq, Int.reduceLE, Int.reduceLT, Int.reduceNeg, Option.toList, List.cons_append, List.nil_append, zup_s, zup_n, zst_s, zup_zs, zup_zn, decide_true, decide_false, hR.1, he, zset_dif, zset_sb, hsb, zand_m1]
        refine ih2 _ _ ⟨?_, rfl⟩
        rw [nx true hsb.symm]
        simp
    · rintro _ M ⟨rfl, rfl⟩
      have e1 : (zset S fun s => Y s && !(decide (s < S) && !zsb S (N s) Y)) = zset S (zNv S N X (i + 1)) := by rw [hsu]; exact zset_cong fun i hi => by simp [hi]
      rw [k_Md_stays_3]
      simp (disch := first | omega | exact Nat.le_of_ble_eq_true rfl | assumption | (simp only [Int.natCast_add, Int.natCast_mul, Int.cast_ofNat_Int]; omega) | decide) only [k_Md_stays_8, x_aload, x_getf, w_goto, w_fall, w_iand, w_iconst, w_if, w_icmp, x_iinc, x_iload, w_ishl, x_istore, w_ixor, zadd_eq, gf_48_0, gf_48_42, ia_80, w_nret r_Md_stays, q_eq, q_ne, q_lt, q_ge, q_gt, q_le, g_I, g_L, g_R, g_V, t_0, t_I, t_R, t_U, t_L, t_s, List.getElem?_cons_zero, List.getElem?_cons_succ, Nat.reduceAdd, zif10, zif01b, zib, if_pos, if_neg, ↓reduceIte, not_true_eq_false, not_false_eq_true, Bool.true_eq_false, Bool.false_eq_true, Classical.not_not, eq_self, and_self, and_true, true_and, Int.reduceEq, Int.reduceLE, Int.reduceLT, Int.reduceNeg, Option.toList, List.cons_append, List.nil_append, zup_s, zup_n, zst_s, zup_zs, zup_zn, decide_true, decide_false, hR.1, e1]
      by_cases he : zeqS S (zNv S N X (i + 1)) (zNv S N X i)
      · have e2 := zset_cong he
        have e3 := zNv_stay i 12 (Or.inl he) hi12
        rw [hY] at e2 e3
        rw [k_Md_stays_1]
        simp (disch := first | omega | exact Nat.le_of_ble_eq_true rfl | assumption | (simp only [Int.natCast_add, Int.natCast_mul, Int.cast_ofNat_Int]; omega) | decide) only [k_Md_stays_9, x_aload, x_getf, w_goto, w_fall, w_iand, w_iconst, w_if, w_icmp, x_iinc, x_iload, w_ishl, x_istore, w_ixor, zadd_eq, gf_48_0, gf_48_42, ia_80, w_nret r_Md_stays, q_eq, q_ne, q_lt, q_ge, q_gt, q_le, g_I, g_L, g_R, g_V, t_0, t_I, t_R, t_U, t_L, t_s, List.getElem?_cons_zero, List.getElem?_cons_succ, Nat.reduceAdd, zif10, zif01b, zib, if_pos, if_neg, ↓reduceIte, not_true_eq_false, not_false_eq_true, Bool.true_eq_false, Bool.false_eq_true, Classical.not_not, eq_self, and_self, and_true, true_and, Int.reduceEq, Int.reduceLE, Int.reduceLT, Int.reduceNeg, Option.toList, List.cons_append, List.nil_append, zup_s, zup_n, zst_s, zup_zs, zup_zn, decide_true, decide_false, e2]
        rw [zset_cong e3]
      · rw [← hY]
        exact ih _ _ ⟨_, _, rfl, rfl, fun z => he ((zset_iff (by omega)).mp z), fun j hj => by
          by_cases e : j = i
          · subst e; exact he
          · exact hne j (by omega)⟩
  · rintro _ M ⟨w, v4, rfl, rfl, hw, hne⟩
    exact absurd (zNv_stay 12 13 (Or.inr hS) (by omega)) (hne 12 (by omega))
theorem c_Md_stays {d mi o b9 : Nat} {es : List zEnt} {L st : List zMV} {Q : Option zMV → (Nat → Int → Int) → Prop} {X : Nat → Bool} (hS : S ≤ 12) (hR : zNetR S P mv tg M) (hE : ∀ s : Nat, s < S → M 80 (s : Int) = zset S (N s)) (hd : 0 + 1 ≤ d) (hc : zcats st ≤ 8) : zW (zSH Ln) d mi ((.invokevirtual o, 227, b9) :: es) L (zI (zset S X) :: zR 48 :: st) M Q = zW (zSH Ln) d mi es L (zI (zset S (zNv S N X 12)) :: st) (M) Q :=
  c_virt (ps := [zI (zset S X)]) (by omega) rfl rfl (by omega) (by exact sh_48 Ln) hc (Nat.le_of_ble_eq_true rfl) (F_Md_stays hS hR hE (by omega))
theorem F_Md_does {d : Nat} (hN : zNet S P mv tg) (hR : zNetR S P mv tg M) (hF : zForm P n kd lf rt gp) (hFR : zFormR n kd lf rt gp M) (h5 : 5 ≤ kd 0) (h1 : M 67 (lf 0 : Int) = zset S one) (h2 : ztwo (kd 0) = true → M 67 (rt 0 : Int) = zset S two) (hE : ∀ s : Nat, s < S → M 80 (s : Int) = zset S (N s)) (hd : 1 ≤ d) : zF (zSH Ln) d i_Md_does [zR 48] M fun r M' => r = some (zI (zset S (zDo S (kd 0) N one two))) ∧ M' = M := by
  rw [zF_en k_Md_does_0 (L := [zR 48, zU, zU, zU]) rfl]
  have hn := hF.1
  have hn2 := hF.2.1
  have hS := hN.2.1
  obtain ⟨f1, f2, f3, f4, f5⟩ := hF.2.2 0 hn
  obtain ⟨g1, g2, g3, g4⟩ := hFR.2.1 0 hn
  have f3 := f3 (by omega)
  have g2 := g2 (by omega)
  simp only [show ((0 : Nat) : Int) = 0 from rfl] at g1 g2 g3
  have e : kd 0 = 5 ∨ kd 0 = 6 ∨ kd 0 = 7 ∨ kd 0 = 8 ∨ kd 0 = 9 := by omega
  rcases e with e | e | e | e | e
  · have g1 : M 56 0 = 5 := by rw [g1, e]; rfl
    rw [e]
    simp (disch := first | omega | exact Nat.le_of_ble_eq_true rfl | assumption | (simp only [Int.natCast_add, Int.natCast_mul, Int.cast_ofNat_Int]; omega) | decide) only [k_Md_does_1, x_aload, x_getf, w_goto, w_fall, w_iand, w_iconst, w_if, w_icmp, x_iinc, x_iload, w_ior, w_ishl, x_istore, w_ixor, zadd_eq, gf_48_0, gf_48_11, gf_48_12, gf_48_13, gf_48_27, gf_48_42, ia_56, ia_57, ia_58, ia_67, ia_80, w_nret r_Md_does, q_eq, q_ne, q_lt, q_ge, q_gt, q_le, g_I, g_L, g_R, g_V, t_0, t_I, t_R, t_U, t_L, t_s, List.getElem?_cons_zero, List.getElem?_cons_succ, Nat.reduceAdd, zif10, zif01b, zib, if_pos, if_neg, ↓reduceIte, not_true_eq_false, not_false_eq_true, Bool.true_eq_false, Bool.false_eq_true, Classical.not_not, eq_self, and_self, and_true, true_and, Int.reduceEq, Int.reduceLE, Int.reduceLT, Int.reduceNeg, Option.toList, List.cons_append, List.nil_append, zup_s, zup_n, zst_s, zup_zs, zup_zn, decide_true, decide_false, g1, g2, h1]
    refine zfor (a := 0) (N := S) (b := 2) (fun t L0 M0 => L0 = [zR 48, zI (zset S one), zI (zset S fun s => decide (s < t) && zsb S (N s) one), zI (t : Int)] ∧ M0 = M) ?_ ?_ ?_ ?_
    · exact Nat.zero_le _
    · exact ⟨by simp [zset_none], rfl⟩
    · rintro t _ M _ ht ⟨rfl, rfl⟩ ih
      have he := hE t ht
      have nx : ∀ v : Bool, v = zsb S (N t) one → (zset S fun s => decide (s < t + 1) && zsb S (N s) one) = zset S fun s => (decide (s < t) && zsb S (N s) one) || (v && decide (s = t)) := by
        intro v hv
        refine zset_cong fun i hi => ?_
        by_cases e : i = t
        · subst e; simp [hv]
        · simp [e, show (i < t + 1) ↔ (i < t) by omega]
      rw [k_Md_does_2]
      cases hsb : zsb S (N t) one
      · simp (disch := first | omega | exact Nat.le_of_ble_eq_true rfl | assumption | (simp only [Int.natCast_add, Int.natCast_mul, Int.cast_ofNat_Int]; omega) | decide) only [k_Md_does_3, k_Md_does_5, k_Md_does_6, x_aload, x_getf, w_goto, w_fall, w_iand, w_iconst, w_if, w_icmp, x_iinc, x_iload, w_ior, w_ishl, x_istore, w_ixor, zadd_eq, gf_48_0, gf_48_11, gf_48_12, gf_48_13, gf_48_27, gf_48_42, ia_56, ia_57, ia_58, ia_67, ia_80, w_nret r_Md_does, q_eq, q_ne, q_lt, q_ge, q_gt, q_le, g_I, g_L, g_R, g_V, t_0, t_I, t_R, t_U, t_L, t_s, List.getElem?_cons_zero, List.getElem?_cons_succ, Nat.reduceAdd, zif10, zif01b, zib, if_pos, if_neg, ↓reduceIte, not_true_eq_false, not_false_eq_true, Bool.true_eq_false, Bool.false_eq_true, Classical.not_not, eq_self, and_self, and_true, true_and, Int.reduceEq, Int.reduceLE, Int.reduceLT, Int.reduceNeg, Option.toList, List.cons_append, List.nil_append, zup_s, zup_n, zst_s, zup_zs, zup_zn, decide_true, decide_false, hR.1, he, zset_dif, zset_sb, hsb, zor_z]
        refine ih _ _ ⟨?_, rfl⟩
        rw [nx false hsb.symm]
        simp
      · simp (disch := first | omega | exact Nat.le_of_ble_eq_true rfl | assumption | (simp only [Int.natCast_add, Int.natCast_mul, Int.cast_ofNat_Int]; omega) | decide) only [k_Md_does_3, k_Md_does_4, k_Md_does_6, x_aload, x_getf, w_goto, w_fall, w_iand, w_iconst, w_if, w_icmp, x_iinc, x_iload, w_ior, w_ishl, x_istore, w_ixor, zadd_eq, gf_48_0, gf_48_11, gf_48_12, gf_48_13, gf_48_27, gf_48_42, ia_56, ia_57, ia_58, ia_67, ia_80, w_nret r_Md_does, q_eq, q_ne, q_lt, q_ge, q_gt, q_le, g_I, g_L, g_R, g_V, t_0, t_I, t_R, t_U, t_L, t_s, List.getElem?_cons_zero, List.getElem?_cons_succ, Nat.reduceAdd, zif10, zif01b, zib, if_pos, if_neg, ↓reduceIte, not_true_eq_false, not_false_eq_true, Bool.true_eq_false, Bool.false_eq_true, Classical.not_not, eq_self, and_self, and_true, true_and, Int.reduceEq, Int.reduceLE, Int.reduceLT, Int.reduceNeg, Option.toList, List.cons_append, List.nil_append, zup_s, zup_n, zst_s, zup_zs, zup_zn, decide_true, decide_false, hR.1, he, zset_dif, zset_sb, hsb, zset_up]
        refine ih _ _ ⟨?_, rfl⟩
        rw [nx true hsb.symm]
        simp
    · rintro _ M ⟨rfl, rfl⟩
      rw [k_Md_does_2]
      simp (disch := first | omega | exact Nat.le_of_ble_eq_true rfl | assumption | (simp only [Int.natCast_add, Int.natCast_mul, Int.cast_ofNat_Int]; omega) | decide) only [k_Md_does_7, x_aload, x_getf, w_goto, w_fall, w_iand, w_iconst, w_if, w_icmp, x_iinc, x_iload, w_ior, w_ishl, x_istore, w_ixor, zadd_eq, gf_48_0, gf_48_11, gf_48_12, gf_48_13, gf_48_27, gf_48_42, ia_56, ia_57, ia_58, ia_67, ia_80, w_nret r_Md_does, q_eq, q_ne, q_lt, q_ge, q_gt, q_le, g_I, g_L, g_R, g_V, t_0, t_I, t_R, t_U, t_L, t_s, List.getElem?_cons_zero, List.getElem?_cons_succ, Nat.reduceAdd, zif10, zif01b, zib, if_pos, if_neg, ↓reduceIte, not_true_eq_false, not_false_eq_true, Bool.true_eq_false, Bool.false_eq_true, Classical.not_not, eq_self, and_self, and_true, true_and, Int.reduceEq, Int.reduceLE, Int.reduceLT, Int.reduceNeg, Option.toList, List.cons_append, List.nil_append, zup_s, zup_n, zst_s, zup_zs, zup_zn, decide_true, decide_false, hR.1]
      congr 2
      exact zset_cong fun i hi => by simp [hi, zDo]
  · have g1 : M 56 0 = 6 := by rw [g1, e]; rfl
    rw [e, show zDo S 6 N one two = zNv S N one 12 from rfl]
    simp (disch := first | omega | exact Nat.le_of_ble_eq_true rfl | assumption | (simp only [Int.natCast_add, Int.natCast_mul, Int.cast_ofNat_Int]; omega) | decide) only [k_Md_does_8, k_Md_does_9, x_aload, x_getf, w_goto, w_fall, w_iand, w_iconst, w_if, w_icmp, x_iinc, x_iload, w_ior, w_ishl, x_istore, w_ixor, zadd_eq, gf_48_0, gf_48_11, gf_48_12, gf_48_13, gf_48_27, gf_48_42, ia_56, ia_57, ia_58, ia_67, ia_80, w_nret r_Md_does, q_eq, q_ne, q_lt, q_ge, q_gt, q_le, g_I, g_L, g_R, g_V, t_0, t_I, t_R, t_U, t_L, t_s, List.getElem?_cons_zero, List.getElem?_cons_succ, Nat.reduceAdd, zif10, zif01b, zib, if_pos, if_neg, ↓reduceIte, not_true_eq_false, not_false_eq_true, Bool.true_eq_false, Bool.false_eq_true, Classical.not_not, eq_self, and_self, and_true, true_and, Int.reduceEq, Int.reduceLE, Int.reduceLT, Int.reduceNeg, Option.toList, List.cons_append, List.nil_append, zup_s, zup_n, zst_s, zup_zs, zup_zn, decide_true, decide_false, g1, g2, h1, c_Md_stays hS hR hE]
  · have g1 : M 56 0 = 7 := by rw [g1, e]; rfl
    rw [e, show zDo S 7 N one two = zSu S N (fun _ => true) one 12 from rfl]
    simp (disch := first | omega | exact Nat.le_of_ble_eq_true rfl | assumption | (simp only [Int.natCast_add, Int.natCast_mul, Int.cast_ofNat_Int]; omega) | decide) only [k_Md_does_8, k_Md_does_10, k_Md_does_12, k_Md_does_13, k_Md_does_15, x_aload, x_getf, w_goto, w_fall, w_iand, w_iconst, w_if, w_icmp, x_iinc, x_iload, w_ior, w_ishl, x_istore, w_ixor, zadd_eq, gf_48_0, gf_48_11, gf_48_12, gf_48_13, gf_48_27, gf_48_42, ia_56, ia_57, ia_58, ia_67, ia_80, w_nret r_Md_does, q_eq, q_ne, q_lt, q_ge, q_gt, q_le, g_I, g_L, g_R, g_V, t_0, t_I, t_R, t_U, t_L, t_s, List.getElem?_cons_zero, List.getElem?_cons_succ, Nat.reduceAdd, zif10, zif01b, zib, if_pos, if_neg, ↓reduceIte, not_true_eq_false, not_false_eq_true, Bool.true_eq_false, Bool.false_eq_true, Classical.not_not, eq_self, and_self, and_true, true_and, Int.reduceEq, Int.reduceLE, Int.reduceLT, Int.reduceNeg, Option.toList, List.cons_append, List.nil_append, zup_s, zup_n, zst_s, zup_zs, zup_zn, decide_true, decide_false, g1, g2, h1, c_Md_whole hN hR, c_Md_surely hS hR hE]
  · have g1 : M 56 0 = 9 := by rw [g1, e]; rfl
    have ht : ztwo (kd 0) = true := by rw [e]; rfl
    have g3 := g3 ht
    have f4 := f4 ht
    have h2 := h2 ht
    rw [e, show zDo S 8 N one two = zSu S N one two 12 from rfl]
    simp (disch := first | omega | exact Nat.le_of_ble_eq_true rfl | assumption | (simp only [Int.natCast_add, Int.natCast_mul, Int.cast_ofNat_Int]; omega) | decide) only [k_Md_does_8, k_Md_does_10, k_Md_does_12, k_Md_does_14, k_Md_does_15, x_aload, x_getf, w_goto, w_fall, w_iand, w_iconst, w_if, w_icmp, x_iinc, x_iload, w_ior, w_ishl, x_istore, w_ixor, zadd_eq, gf_48_0, gf_48_11, gf_48_12, gf_48_13, gf_48_27, gf_48_42, ia_56, ia_57, ia_58, ia_67, ia_80, w_nret r_Md_does, q_eq, q_ne, q_lt, q_ge, q_gt, q_le, g_I, g_L, g_R, g_V, t_0, t_I, t_R, t_U, t_L, t_s, List.getElem?_cons_zero, List.getElem?_cons_succ, Nat.reduceAdd, zif10, zif01b, zib, if_pos, if_neg, ↓reduceIte, not_true_eq_false, not_false_eq_true, Bool.true_eq_false, Bool.false_eq_true, Classical.not_not, eq_self, and_self, and_true, true_and, Int.reduceEq, Int.reduceLE, Int.reduceLT, Int.reduceNeg, Option.toList, List.cons_append, List.nil_append, zup_s, zup_n, zst_s, zup_zs, zup_zn, decide_true, decide_false, g1, g2, g3, h1, h2, c_Md_surely hS hR hE]
  · have g1 : M 56 0 = 8 := by rw [g1, e]; rfl
    rw [e, show zDo S 9 N one two = zNv S N (zSu S N (fun _ => true) one 12) 12 from rfl]
    simp (disch := first | omega | exact Nat.le_of_ble_eq_true rfl | assumption | (simp only [Int.natCast_add, Int.natCast_mul, Int.cast_ofNat_Int]; omega) | decide) only [k_Md_does_8, k_Md_does_10, k_Md_does_11, x_aload, x_getf, w_goto, w_fall, w_iand, w_iconst, w_if, w_icmp, x_iinc, x_iload, w_ior, w_ishl, x_istore, w_ixor, zadd_eq, gf_48_0, gf_48_11, gf_48_12, gf_48_13, gf_48_27, gf_48_42, ia_56, ia_57, ia_58, ia_67, ia_80, w_nret r_Md_does, q_eq, q_ne, q_lt, q_ge, q_gt, q_le, g_I, g_L, g_R, g_V, t_0, t_I, t_R, t_U, t_L, t_s, List.getElem?_cons_zero, List.getElem?_cons_succ, Nat.reduceAdd, zif10, zif01b, zib, if_pos, if_neg, ↓reduceIte, not_true_eq_false, not_false_eq_true, Bool.true_eq_false, Bool.false_eq_true, Classical.not_not, eq_self, and_self, and_true, true_and, Int.reduceEq, Int.reduceLE, Int.reduceLT, Int.reduceNeg, Option.toList, List.cons_append, List.nil_append, zup_s, zup_n, zst_s, zup_zs, zup_zn, decide_true, decide_false, g1, g2, h1, c_Md_whole hN hR, c_Md_surely hS hR hE, c_Md_stays hS hR hE]
theorem c_Md_does {d mi o b9 : Nat} {es : List zEnt} {L st : List zMV} {Q : Option zMV → (Nat → Int → Int) → Prop} (hN : zNet S P mv tg) (hR : zNetR S P mv tg M) (hF : zForm P n kd lf rt gp) (hFR : zFormR n kd lf rt gp M) (h5 : 5 ≤ kd 0) (h1 : M 67 (lf 0 : Int) = zset S one) (h2 : ztwo (kd 0) = true → M 67 (rt 0 : Int) = zset S two) (hE : ∀ s : Nat, s < S → M 80 (s : Int) = zset S (N s)) (hd : 1 + 1 ≤ d) (hc : zcats st ≤ 8) : zW (zSH Ln) d mi ((.invokevirtual o, 228, b9) :: es) L (zR 48 :: st) M Q = zW (zSH Ln) d mi es L (zI (zset S (zDo S (kd 0) N one two)) :: st) (M) Q :=
  c_virt (ps := []) (by omega) rfl rfl (by omega) (by exact sh_48 Ln) hc (Nat.le_of_ble_eq_true rfl) (F_Md_does hN hR hF hFR h5 h1 h2 hE (by omega))
theorem F_Md_fits {d : Nat} {s0 : Nat} (hN : zNet S P mv tg) (hR : zNetR S P mv tg M) (hH : zHpR hp M) (hg : M 59 0 = g) (hs : s0 < S) (hd : 0 ≤ d) : zF (zSH Ln) d i_Md_fits [zR 48, zI (s0 : Int)] M fun r M' => r = some (zI (zset S (zFt P hp (zbit g) s0))) ∧ M' = M := by
  rw [zF_en k_Md_fits_0 (L := [zR 48, zI (s0 : Int), zU, zU, zU]) rfl]
  have hS := hN.2.1
  have hP := hN.2.2.2.1
  simp (disch := first | omega | exact Nat.le_of_ble_eq_true rfl | assumption | (simp only [Int.natCast_add, Int.natCast_mul, Int.cast_ofNat_Int]; omega) | decide) only [x_aload, x_getf, w_goto, w_fall, w_iadd, w_iand, w_iconst, w_icmp, x_iinc, x_iload, w_imul, w_ior, w_ishl, w_ishr, x_istore, zadd_eq, zmul_eq, gf_48_0, gf_48_1, gf_48_6, gf_48_14, ia_53, ia_59, w_nret r_Md_fits, q_eq, q_ne, q_lt, q_ge, q_gt, q_le, g_I, g_L, g_R, g_V, t_0, t_I, t_R, t_U, t_L, t_s, List.getElem?_cons_zero, List.getElem?_cons_succ, Nat.reduceAdd, zif10, zif01b, zib, if_pos, if_neg, ↓reduceIte, not_true_eq_false, not_false_eq_true, Bool.true_eq_false, Bool.false_eq_true, Classical.not_not, eq_self, and_self, and_true, true_and, Int.reduceEq, Int.reduceLE, Int.reduceLT, Int.reduceNeg, Option.toList, List.cons_append, List.nil_append, zup_s, zup_n, zst_s, zup_zs, zup_zn, decide_true, decide_false]
  refine zfor (a := 0) (N := P) (b := 1) (fun p L0 M0 => ∃ (v4 : zMV), L0 = [zR 48, zI (s0 : Int), zI (zset S (zFt p hp (zbit g) s0)), zI (p : Int), v4] ∧ M0 = M) ?_ ?_ ?_ ?_
  · exact Nat.zero_le _
  · refine ⟨zU, ?_, rfl⟩
    rw [zset_one (by omega) hs, show zFt 0 hp (zbit g) s0 = fun t => decide (t = s0) by funext t; simp [zFt, zan]]; rfl
  · rintro p _ M _ hp2 ⟨v4, rfl, rfl⟩ ih
    rw [k_Md_fits_1]
    simp (disch := first | omega | exact Nat.le_of_ble_eq_true rfl | assumption | (simp only [Int.natCast_add, Int.natCast_mul, Int.cast_ofNat_Int]; omega) | decide) only [k_Md_fits_2, x_aload, x_getf, w_goto, w_fall, w_iadd, w_iand, w_iconst, w_icmp, x_iinc, x_iload, w_imul, w_ior, w_ishl, w_ishr, x_istore, zadd_eq, zmul_eq, gf_48_0, gf_48_1, gf_48_6, gf_48_14, ia_53, ia_59, w_nret r_Md_fits, q_eq, q_ne, q_lt, q_ge, q_gt, q_le, g_I, g_L, g_R, g_V, t_0, t_I, t_R, t_U, t_L, t_s, List.getElem?_cons_zero, List.getElem?_cons_succ, Nat.reduceAdd, zif10, zif01b, zib, if_pos, if_neg, ↓reduceIte, not_true_eq_false, not_false_eq_true, Bool.true_eq_false, Bool.false_eq_true, Classical.not_not, eq_self, and_self, and_true, true_and, Int.reduceEq, Int.reduceLE, Int.reduceLT, Int.reduceNeg, Option.toList, List.cons_append, List.nil_append, zup_s, zup_n, zst_s, zup_zs, zup_zn, decide_true, decide_false, hR.2.1]
    cases hb : zbit g p
    · rw [k_Md_fits_3]
      have hlt : 0 < S := by omega
      simp (disch := first | omega | exact Nat.le_of_ble_eq_true rfl | assumption | (simp only [Int.natCast_add, Int.natCast_mul, Int.cast_ofNat_Int]; omega) | decide) only [k_Md_fits_4, k_Md_fits_9, x_aload, x_getf, w_goto, w_fall, w_iadd, w_iand, w_iconst, w_icmp, x_iinc, x_iload, w_imul, w_ior, w_ishl, w_ishr, x_istore, zadd_eq, zmul_eq, gf_48_0, gf_48_1, gf_48_6, gf_48_14, ia_53, ia_59, w_nret r_Md_fits, q_eq, q_ne, q_lt, q_ge, q_gt, q_le, g_I, g_L, g_R, g_V, t_0, t_I, t_R, t_U, t_L, t_s, List.getElem?_cons_zero, List.getElem?_cons_succ, Nat.reduceAdd, zif10, zif01b, zib, if_pos, if_neg, ↓reduceIte, not_true_eq_false, not_false_eq_true, Bool.true_eq_false, Bool.false_eq_true, Classical.not_not, eq_self, and_self, and_true, true_and, Int.reduceEq, Int.reduceLE, Int.reduceLT, Int.reduceNeg, Option.toList, List.cons_append, List.nil_append, zup_s, zup_n, zst_s, zup_zs, zup_zn, decide_true, decide_false, hR.1, hg, zhas, hb]
      refine ih _ _ ⟨zI 0, ?_, rfl⟩
      rw [show zset S (zFt (p + 1) hp (zbit g) s0) = zset S (zFt p hp (zbit g) s0) from zset_cong fun i hi => by simp [zFt, zan, hb]]
      rfl
    · refine zfor (a := 0) (N := S) (b := 3) (fun s L0 M0 => L0 = [zR 48, zI (s0 : Int), zI (zset S fun t => zFt p hp (zbit g) s0 t || (decide (t < s) && decide (hp p t = hp p s0))), zI (p : Int), zI (s : Int)] ∧ M0 = M) ?_ ?_ ?_ ?_
      · exact Nat.zero_le _
      · exact ⟨by simp, rfl⟩
      · rintro s _ M _ hs2 ⟨rfl, rfl⟩ ih2
        have h53 := hH p s (by omega) (by omega)
        have h530 := hH p s0 (by omega) (by omega)
        have nx : ∀ v : Bool, v = decide (hp p s = hp p s0) → (zset S fun t => zFt p hp (zbit g) s0 t || (decide (t < s + 1) && decide (hp p t = hp p s0))) = zset S fun t => (zFt p hp (zbit g) s0 t || (decide (t < s) && decide (hp p t = hp p s0))) || (v && decide (t = s)) := by
          intro v hv
          refine zset_cong fun i hi => ?_
          by_cases e : i = s
          · subst e; simp [hv]
          · simp [e, show (i < s + 1) ↔ (i < s) by omega]
        rw [k_Md_fits_3]
        by_cases he : hp p s = hp p s0
        · have he' : ((hp p s : Nat) : Int) = ((hp p s0 : Nat) : Int) := by omega
          simp (disch := first | omega | exact Nat.le_of_ble_eq_true rfl | assumption | (simp only [Int.natCast_add, Int.natCast_mul, Int.cast_ofNat_Int]; omega) | decide) only [k_Md_fits_4, k_Md_fits_5, k_Md_fits_6, k_Md_fits_8, x_aload, x_getf, w_goto, w_fall, w_iadd, w_iand, w_iconst, w_icmp, x_iinc, x_iload, w_imul, w_ior, w_ishl, w_ishr, x_istore, zadd_eq, zmul_eq, gf_48_0, gf_48_1, gf_48_6, gf_48_14, ia_53, ia_59, w_nret r_Md_fits, q_eq, q_ne, q_lt, q_ge, q_gt, q_le, g_I, g_L, g_R, g_V, t_0, t_I, t_R, t_U, t_L, t_s, List.getElem?_cons_zero, List.getElem?_cons_succ, Nat.reduceAdd, zif10, zif01b, zib, if_pos, if_neg, ↓reduceIte, not_true_eq_false, not_false_eq_true, Bool.true_eq_false, Bool.false_eq_true, Classical.not_not, eq_self, and_self, and_true, true_and, Int.reduceEq, Int.reduceLE, Int.reduceLT, Int.reduceNeg, Option.toList, List.cons_append, List.nil_append, zup_s, zup_n, zst_s, zup_zs, zup_zn, decide_true, decide_false, hR.1, hg, zhas, hb, h53, h530, he', zset_up]
          refine ih2 _ _ ⟨?_, rfl⟩
          rw [nx true (by simp [he])]
          simp
        · have he' : ¬ ((hp p s : Nat) : Int) = ((hp p s0 : Nat) : Int) := by omega
          simp (disch := first | omega | exact Nat.le_of_ble_eq_true rfl | assumption | (simp only [Int.natCast_add, Int.natCast_mul, Int.cast_ofNat_Int]; omega) | decide) only [k_Md_fits_4, k_Md_fits_5, k_Md_fits_7, k_Md_fits_8, x_aload, x_getf, w_goto, w_fall, w_iadd, w_iand, w_iconst, w_icmp, x_iinc, x_iload, w_imul, w_ior, w_ishl, w_ishr, x_istore, zadd_eq, zmul_eq, gf_48_0, gf_48_1, gf_48_6, gf_48_14, ia_53, ia_59, w_nret r_Md_fits, q_eq, q_ne, q_lt, q_ge, q_gt, q_le, g_I, g_L, g_R, g_V, t_0, t_I, t_R, t_U, t_L, t_s, List.getElem?_cons_zero, List.getElem?_cons_succ, Nat.reduceAdd, zif10, zif01b, zib, if_pos, if_neg, ↓reduceIte, not_true_eq_false, not_false_eq_true, Bool.true_eq_false, Bool.false_eq_true, Classical.not_not, eq_self, and_self, and_true, true_and, Int.reduceEq, Int.reduceLE, Int.reduceLT, Int.reduceNeg, Option.toList, List.cons_append, List.nil_append, zup_s, zup_n, zst_s, zup_zs, zup_zn, decide_true, decide_false, hR.1, hg, zhas, hb, h53, h530, he', zor_z]
          refine ih2 _ _ ⟨?_, rfl⟩
          rw [nx false (by simp [he])]
          simp
      · rintro _ M ⟨rfl, rfl⟩
        rw [k_Md_fits_3]
        simp (disch := first | omega | exact Nat.le_of_ble_eq_true rfl | assumption | (simp only [Int.natCast_add, Int.natCast_mul, Int.cast_ofNat_Int]; omega) | decide) only [k_Md_fits_9, x_aload, x_getf, w_goto, w_fall, w_iadd, w_iand, w_iconst, w_icmp, x_iinc, x_iload, w_imul, w_ior, w_ishl, w_ishr, x_istore, zadd_eq, zmul_eq, gf_48_0, gf_48_1, gf_48_6, gf_48_14, ia_53, ia_59, w_nret r_Md_fits, q_eq, q_ne, q_lt, q_ge, q_gt, q_le, g_I, g_L, g_R, g_V, t_0, t_I, t_R, t_U, t_L, t_s, List.getElem?_cons_zero, List.getElem?_cons_succ, Nat.reduceAdd, zif10, zif01b, zib, if_pos, if_neg, ↓reduceIte, not_true_eq_false, not_false_eq_true, Bool.true_eq_false, Bool.false_eq_true, Classical.not_not, eq_self, and_self, and_true, true_and, Int.reduceEq, Int.reduceLE, Int.reduceLT, Int.reduceNeg, Option.toList, List.cons_append, List.nil_append, zup_s, zup_n, zst_s, zup_zs, zup_zn, decide_true, decide_false, hR.1]
        refine ih _ _ ⟨zI (S : Int), ?_, rfl⟩
        rw [show (zset S fun t => zFt p hp (zbit g) s0 t || (decide (t < S) && decide (hp p t = hp p s0))) = zset S (zFt (p + 1) hp (zbit g) s0) from zset_cong fun i hi => by simp [zFt, zan, hi, hb, Bool.or_assoc]]
        rfl
  · rintro _ M ⟨v4, rfl, rfl⟩
    rw [k_Md_fits_1]
    simp (disch := first | omega | exact Nat.le_of_ble_eq_true rfl | assumption | (simp only [Int.natCast_add, Int.natCast_mul, Int.cast_ofNat_Int]; omega) | decide) only [k_Md_fits_10, x_aload, x_getf, w_goto, w_fall, w_iadd, w_iand, w_iconst, w_icmp, x_iinc, x_iload, w_imul, w_ior, w_ishl, w_ishr, x_istore, zadd_eq, zmul_eq, gf_48_0, gf_48_1, gf_48_6, gf_48_14, ia_53, ia_59, w_nret r_Md_fits, q_eq, q_ne, q_lt, q_ge, q_gt, q_le, g_I, g_L, g_R, g_V, t_0, t_I, t_R, t_U, t_L, t_s, List.getElem?_cons_zero, List.getElem?_cons_succ, Nat.reduceAdd, zif10, zif01b, zib, if_pos, if_neg, ↓reduceIte, not_true_eq_false, not_false_eq_true, Bool.true_eq_false, Bool.false_eq_true, Classical.not_not, eq_self, and_self, and_true, true_and, Int.reduceEq, Int.reduceLE, Int.reduceLT, Int.reduceNeg, Option.toList, List.cons_append, List.nil_append, zup_s, zup_n, zst_s, zup_zs, zup_zn, decide_true, decide_false, hR.2.1]
theorem c_Md_fits {d mi o b9 : Nat} {es : List zEnt} {L st : List zMV} {Q : Option zMV → (Nat → Int → Int) → Prop} {s0 : Nat} (hN : zNet S P mv tg) (hR : zNetR S P mv tg M) (hH : zHpR hp M) (hg : M 59 0 = g) (hs : s0 < S) (hd : 0 + 1 ≤ d) (hc : zcats st ≤ 8) : zW (zSH Ln) d mi ((.invokevirtual o, 229, b9) :: es) L (zI (s0 : Int) :: zR 48 :: st) M Q = zW (zSH Ln) d mi es L (zI (zset S (zFt P hp (zbit g) s0)) :: st) (M) Q :=
  c_virt (ps := [zI (s0 : Int)]) (by omega) rfl rfl (by omega) (by exact sh_48 Ln) hc (Nat.le_of_ble_eq_true rfl) (F_Md_fits hN hR hH hg hs (by omega))
theorem F_Md_links {d : Nat} (hN : zNet S P mv tg) (hR : zNetR S P mv tg M) (hH : zHpR hp M) (hhp : ∀ p s, hp p s < 12) (hg : M 59 0 = g) (hL : zLay (zBb S P mv hp (zbit g)) 48 M) (hD : ∀ p h : Nat, p < 4 → h < 12 → 0 < zBb S P mv hp (zbit g) (p * 12 + h) → M 79 (zix (zBb S P mv hp (zbit g)) (p * 12 + h) : Int) = rw0 p h) (hok : zRwOK S P mv hp (zbit g) rw0) (hd : 2 ≤ d) : zF (zSH Ln) d i_Md_links [zR 48] M fun r M' => r = none ∧ ∃ A, M' = zst M 80 A ∧ ∀ s : Nat, s < S → A (s : Int) = zset S (zN P mv tg hp (zbit g) rw0 s) := by
  rw [zF_en k_Md_links_0 (L := [zR 48, zU, zU, zU, zU]) rfl]
  have hS := hN.2.1
  have hP := hN.2.2.2.1
  have hm := hN.2.2.2.2.1
  simp (disch := first | omega | exact Nat.le_of_ble_eq_true rfl | assumption | (simp only [Int.natCast_add, Int.natCast_mul, Int.cast_ofNat_Int]; omega) | decide) only [x_aload, w_dup2, x_getf, w_goto, w_fall, w_iadd, w_iand, w_iconst, w_icmp, x_iinc, x_iload, w_imul, w_ior, w_ishl, w_ishr, x_istore, zadd_eq, zmul_eq, gf_48_0, gf_48_1, gf_48_2, gf_48_6, gf_48_14, gf_48_40, gf_48_42, ia_49, sa_49, ia_53, sa_53, ia_59, sa_59, ia_79, sa_79, ia_80, sa_80, w_vret r_Md_links, q_eq, q_ne, q_lt, q_ge, q_gt, q_le, g_I, g_L, g_R, g_V, t_0, t_I, t_R, t_U, t_L, t_s, List.getElem?_cons_zero, List.getElem?_cons_succ, Nat.reduceAdd, zif10, zif01b, zib, if_pos, if_neg, ↓reduceIte, not_true_eq_false, not_false_eq_true, Bool.true_eq_false, Bool.false_eq_true, Classical.not_not, eq_self, and_self, and_true, true_and, Int.reduceEq, Int.reduceLE, Int.reduceLT, Int.reduceNeg, Option.toList, List.cons_append, List.nil_append, zup_s, zup_n, zst_s, zup_zs, zup_zn, decide_true, decide_false]
  refine zfor (a := 0) (N := S) (b := 1) (fun s L0 M0 => ∃ (A : Int → Int) (v2 : zMV) (v3 : zMV) (v4 : zMV), L0 = [zR 48, zI (s : Int), v2, v3, v4] ∧ M0 = zst M 80 A ∧ (∀ t : Nat, t < s → A (t : Int) = zset S (zN P mv tg hp (zbit g) rw0 t))) ?_ ?_ ?_ ?_
  · exact Nat.zero_le _
  · exact ⟨M 80, zU, zU, zU, rfl, (zst_id _ _).symm, fun t ht => by omega⟩
  · rintro s _ _ _ hs ⟨A, v2, v3, v4, rfl, rfl, hA⟩ ih
    have hR1 : ∀ A, zNetR S P mv tg (zst M 80 A) := fun _ => hR
    have hH1 : ∀ A, zHpR hp (zst M 80 A) := fun _ => hH
    have hL1 : ∀ A, zLay (zBb S P mv hp (zbit g)) 48 (zst M 80 A) := fun _ => hL
    have hg1 : ∀ A, zst M 80 A 59 0 = g := fun _ => hg
    rw [k_Md_links_1]
    simp (disch := first | omega | exact Nat.le_of_ble_eq_true rfl | assumption | (simp only [Int.natCast_add, Int.natCast_mul, Int.cast_ofNat_Int]; omega) | decide) only [k_Md_links_2, x_aload, w_dup2, x_getf, w_goto, w_fall, w_iadd, w_iand, w_iconst, w_icmp, x_iinc, x_iload, w_imul, w_ior, w_ishl, w_ishr, x_istore, zadd_eq, zmul_eq, gf_48_0, gf_48_1, gf_48_2, gf_48_6, gf_48_14, gf_48_40, gf_48_42, ia_49, sa_49, ia_53, sa_53, ia_59, sa_59, ia_79, sa_79, ia_80, sa_80, w_vret r_Md_links, q_eq, q_ne, q_lt, q_ge, q_gt, q_le, g_I, g_L, g_R, g_V, t_0, t_I, t_R, t_U, t_L, t_s, List.getElem?_cons_zero, List.getElem?_cons_succ, Nat.reduceAdd, zif10, zif01b, zib, if_pos, if_neg, ↓reduceIte, not_true_eq_false, not_false_eq_true, Bool.true_eq_false, Bool.false_eq_true, Classical.not_not, eq_self, and_self, and_true, true_and, Int.reduceEq, Int.reduceLE, Int.reduceLT, Int.reduceNeg, Option.toList, List.cons_append, List.nil_append, zup_s, zup_n, zst_s, zup_zs, zup_zn, decide_true, decide_false, (hR1 _).1]
    refine zfor (a := 0) (N := P) (b := 3) (fun p L0 M0 => L0 = [zR 48, zI (s : Int), zI (zown (mv s) (zbit g) (fun p => rw0 p (hp p s)) p : Int), zI (p : Int), v4] ∧ M0 = zst M 80 A) ?_ ?_ ?_ ?_
    · exact Nat.zero_le _
    · exact ⟨rfl, rfl⟩
    · rintro p _ _ _ hp2 ⟨rfl, rfl⟩ ih2
      have hlt := zown_lt (hm s) (g := zbit g) (dg := fun p => rw0 p (hp p s)) p fun q hq hq2 => hok q s (by omega) hq2 hs
      have h81 := zcnt_81 (hm s) (zbit g) (show p ≤ 4 by omega)
      have hmp := hm s p
      have hms := hR.2.2.1 s p (by omega) (by omega)
      have h53 := hH p s (by omega) (by omega)
      rw [k_Md_links_3]
      cases hb : zbit g p
      · simp (disch := first | omega | exact Nat.le_of_ble_eq_true rfl | assumption | (simp only [Int.natCast_add, Int.natCast_mul, Int.cast_ofNat_Int]; omega) | decide) only [k_Md_links_4, k_Md_links_6, x_aload, w_dup2, x_getf, w_goto, w_fall, w_iadd, w_iand, w_iconst, w_icmp, x_iinc, x_iload, w_imul, w_ior, w_ishl, w_ishr, x_istore, zadd_eq, zmul_eq, gf_48_0, gf_48_1, gf_48_2, gf_48_6, gf_48_14, gf_48_40, gf_48_42, ia_49, sa_49, ia_53, sa_53, ia_59, sa_59, ia_79, sa_79, ia_80, sa_80, w_vret r_Md_links, q_eq, q_ne, q_lt, q_ge, q_gt, q_le, g_I, g_L, g_R, g_V, t_0, t_I, t_R, t_U, t_L, t_s, List.getElem?_cons_zero, List.getElem?_cons_succ, Nat.reduceAdd, zif10, zif01b, zib, if_pos, if_neg, ↓reduceIte, not_true_eq_false, not_false_eq_true, Bool.true_eq_false, Bool.false_eq_true, Classical.not_not, eq_self, and_self, and_true, true_and, Int.reduceEq, Int.reduceLE, Int.reduceLT, Int.reduceNeg, Option.toList, List.cons_append, List.nil_append, zup_s, zup_n, zst_s, zup_zs, zup_zn, decide_true, decide_false, (hR1 _).2.1, hg1, zhas, hb]
        refine ih2 _ _ ⟨?_, rfl⟩
        rw [zown, if_neg (by rw [hb]; decide)]; rfl
      · have hrk := hok p s hp2 hb hs
        have hh := hhp p s
        have hmn := zlm_min hm p (hp p s) S s hs rfl
        have hbb : 0 < zBb S P mv hp (zbit g) (p * 12 + hp p s) := by
          unfold zBb
          rw [show (p * 12 + hp p s) / 12 = p by omega, show (p * 12 + hp p s) % 12 = hp p s by omega, if_pos ⟨hp2, hb⟩]
          omega
        have hdd := hD p (hp p s) (by omega) hh hbb
        have hixl := zix_le (zBb S P mv hp (zbit g)) (p * 12 + hp p s)
        have hmul : zown (mv s) (zbit g) (fun p => rw0 p (hp p s)) p * mv s p ≤ 81 * 3 := Nat.mul_le_mul (by omega) hmp.2
        have hnu : zown (mv s) (zbit g) (fun p => rw0 p (hp p s)) (p + 1) = zown (mv s) (zbit g) (fun p => rw0 p (hp p s)) p * mv s p + rw0 p (hp p s) := by
          show (if zbit g p = true then _ else _) = _
          rw [if_pos hb]
        generalize hzo : zown (mv s) (zbit g) (fun p => rw0 p (hp p s)) p = zo at hlt hmul hnu ih2 ⊢
        generalize hrr : rw0 p (hp p s) = rr at hdd hrk hnu
        have ez : zmul (zo : Int) (mv s p : Int) = ((zo * mv s p : Nat) : Int) := zmul_nat (by omega)
        simp (disch := first | omega | exact Nat.le_of_ble_eq_true rfl | assumption | (simp only [Int.natCast_add, Int.natCast_mul, Int.cast_ofNat_Int]; omega) | decide) only [k_Md_links_4, k_Md_links_5, k_Md_links_6, x_aload, w_dup2, x_getf, w_goto, w_fall, w_iadd, w_iand, w_iconst, w_icmp, x_iinc, x_iload, w_imul, w_ior, w_ishl, w_ishr, x_istore, zadd_eq, zmul_eq, gf_48_0, gf_48_1, gf_48_2, gf_48_6, gf_48_14, gf_48_40, gf_48_42, ia_49, sa_49, ia_53, sa_53, ia_59, sa_59, ia_79, sa_79, ia_80, sa_80, w_vret r_Md_links, q_eq, q_ne, q_lt, q_ge, q_gt, q_le, g_I, g_L, g_R, g_V, t_0, t_I, t_R, t_U, t_L, t_s, List.getElem?_cons_zero, List.getElem?_cons_succ, Nat.reduceAdd, zif10, zif01b, zib, if_pos, if_neg, ↓reduceIte, not_true_eq_false, not_false_eq_true, Bool.true_eq_false, Bool.false_eq_true, Classical.not_not, eq_self, and_self, and_true, true_and, Int.reduceEq, Int.reduceLE, Int.reduceLT, Int.reduceNeg, Option.toList, List.cons_append, List.nil_append, zup_s, zup_n, zst_s, zup_zs, zup_zn, decide_true, decide_false, (hR1 _).2.1, hg1, zhas, hb, hms, h53, c_Md_digitOf (hL1 _) (show p < 4 by omega) hh hbb, hdd, ez, zst_n]
        refine ih2 _ _ ⟨?_, rfl⟩
        rw [hnu]; simp
    · rintro _ _ ⟨rfl, rfl⟩
      have hlt := zown_lt (hm s) (g := zbit g) (dg := fun p => rw0 p (hp p s)) P fun q hq hq2 => hok q s hq hq2 hs
      have h81 := zcnt_81 (hm s) (zbit g) hP
      have h81' := zcnt_81 (hm s) (znot (zbit g)) hP
      have hzn : zN P mv tg hp (zbit g) rw0 s = zend (mv s) (tg s) (zbit g) P (zown (mv s) (zbit g) (fun p => rw0 p (hp p s)) P) := rfl
      generalize zown (mv s) (zbit g) (fun p => rw0 p (hp p s)) P = own at hlt hzn
      rw [k_Md_links_3]
      simp (disch := first | omega | exact Nat.le_of_ble_eq_true rfl | assumption | (simp only [Int.natCast_add, Int.natCast_mul, Int.cast_ofNat_Int]; omega) | decide) only [k_Md_links_7, x_aload, w_dup2, x_getf, w_goto, w_fall, w_iadd, w_iand, w_iconst, w_icmp, x_iinc, x_iload, w_imul, w_ior, w_ishl, w_ishr, x_istore, zadd_eq, zmul_eq, gf_48_0, gf_48_1, gf_48_2, gf_48_6, gf_48_14, gf_48_40, gf_48_42, ia_49, sa_49, ia_53, sa_53, ia_59, sa_59, ia_79, sa_79, ia_80, sa_80, w_vret r_Md_links, q_eq, q_ne, q_lt, q_ge, q_gt, q_le, g_I, g_L, g_R, g_V, t_0, t_I, t_R, t_U, t_L, t_s, List.getElem?_cons_zero, List.getElem?_cons_succ, Nat.reduceAdd, zif10, zif01b, zib, if_pos, if_neg, ↓reduceIte, not_true_eq_false, not_false_eq_true, Bool.true_eq_false, Bool.false_eq_true, Classical.not_not, eq_self, and_self, and_true, true_and, Int.reduceEq, Int.reduceLE, Int.reduceLT, Int.reduceNeg, Option.toList, List.cons_append, List.nil_append, zup_s, zup_n, zst_s, zup_zs, zup_zn, decide_true, decide_false, (hR1 _).2.1, hg1, c_Md_others hN (hR1 _), c_Md_jointOf hN (hR1 _), zoth hP]
      refine zfor (a := 0) (N := (zcnt (mv s) (znot (zbit g)) P)) (b := 8) (fun o L0 M0 => ∃ (A : Int → Int), L0 = [zR 48, zI (s : Int), zI (own : Int), zI (zcnt (mv s) (znot (zbit g)) P : Int), zI (o : Int)] ∧ M0 = zst M 80 A ∧ ((∀ t : Nat, t < s → A (t : Int) = zset S (zN P mv tg hp (zbit g) rw0 t)) ∧ A (s : Int) = zset S (fun t => zan o fun b => decide (tg s (zcomb (mv s) (zbit g) P own b) = t)))) ?_ ?_ ?_ ?_
      · exact Nat.zero_le _
      · refine ⟨_, rfl, rfl, fun t ht => ?_, ?_⟩
        · rw [zf_n (by omega)]; exact hA t ht
        · rw [zf_s]; exact zset_none.symm
      · rintro o _ _ _ ho ⟨A, rfl, rfl, hA1, hA2⟩ ih3
        have htt := zNet_t hN hs _ (zcomb_lt (hm s) (zbit g) P own o)
        rw [k_Md_links_8]
        simp (disch := first | omega | exact Nat.le_of_ble_eq_true rfl | assumption | (simp only [Int.natCast_add, Int.natCast_mul, Int.cast_ofNat_Int]; omega) | decide) only [k_Md_links_9, x_aload, w_dup2, x_getf, w_goto, w_fall, w_iadd, w_iand, w_iconst, w_icmp, x_iinc, x_iload, w_imul, w_ior, w_ishl, w_ishr, x_istore, zadd_eq, zmul_eq, gf_48_0, gf_48_1, gf_48_2, gf_48_6, gf_48_14, gf_48_40, gf_48_42, ia_49, sa_49, ia_53, sa_53, ia_59, sa_59, ia_79, sa_79, ia_80, sa_80, w_vret r_Md_links, q_eq, q_ne, q_lt, q_ge, q_gt, q_le, g_I, g_L, g_R, g_V, t_0, t_I, t_R, t_U, t_L, t_s, List.getElem?_cons_zero, List.getElem?_cons_succ, Nat.reduceAdd, zif10, zif01b, zib, if_pos, if_neg, ↓reduceIte, not_true_eq_false, not_false_eq_true, Bool.true_eq_false, Bool.false_eq_true, Classical.not_not, eq_self, and_self, and_true, true_and, Int.reduceEq, Int.reduceLE, Int.reduceLT, Int.reduceNeg, Option.toList, List.cons_append, List.nil_append, zup_s, zup_n, zst_s, zup_zs, zup_zn, decide_true, decide_false, hg1, c_Md_leadsBy hN (hR1 _), zst_s, hA2, zset_up]
        refine ih3 _ _ ⟨_, rfl, rfl, fun t ht => ?_, ?_⟩
        · rw [zf_n (by omega)]; exact hA1 t ht
        · rw [zf_s]
          refine zset_cong fun t ht => ?_
          show _ = (_ || _)
          congr 1
          exact decide_eq_decide.mpr eq_comm
      · rintro _ _ ⟨A, rfl, rfl, hA1, hA2⟩
        rw [k_Md_links_8]
        simp (disch := first | omega | exact Nat.le_of_ble_eq_true rfl | assumption | (simp only [Int.natCast_add, Int.natCast_mul, Int.cast_ofNat_Int]; omega) | decide) only [k_Md_links_10, x_aload, w_dup2, x_getf, w_goto, w_fall, w_iadd, w_iand, w_iconst, w_icmp, x_iinc, x_iload, w_imul, w_ior, w_ishl, w_ishr, x_istore, zadd_eq, zmul_eq, gf_48_0, gf_48_1, gf_48_2, gf_48_6, gf_48_14, gf_48_40, gf_48_42, ia_49, sa_49, ia_53, sa_53, ia_59, sa_59, ia_79, sa_79, ia_80, sa_80, w_vret r_Md_links, q_eq, q_ne, q_lt, q_ge, q_gt, q_le, g_I, g_L, g_R, g_V, t_0, t_I, t_R, t_U, t_L, t_s, List.getElem?_cons_zero, List.getElem?_cons_succ, Nat.reduceAdd, zif10, zif01b, zib, if_pos, if_neg, ↓reduceIte, not_true_eq_false, not_false_eq_true, Bool.true_eq_false, Bool.false_eq_true, Classical.not_not, eq_self, and_self, and_true, true_and, Int.reduceEq, Int.reduceLE, Int.reduceLT, Int.reduceNeg, Option.toList, List.cons_append, List.nil_append, zup_s, zup_n, zst_s, zup_zs, zup_zn, decide_true, decide_false]
        refine ih _ _ ⟨A, _, _, _, rfl, rfl, fun t ht => ?_⟩
        by_cases e : t = s
        · subst e; rw [hA2, hzn]; rfl
        · exact hA1 t (by omega)
  · rintro _ _ ⟨A, v2, v3, v4, rfl, rfl, hA⟩
    have hR1 : ∀ A, zNetR S P mv tg (zst M 80 A) := fun _ => hR
    rw [k_Md_links_1]
    simp (disch := first | omega | exact Nat.le_of_ble_eq_true rfl | assumption | (simp only [Int.natCast_add, Int.natCast_mul, Int.cast_ofNat_Int]; omega) | decide) only [k_Md_links_11, x_aload, w_dup2, x_getf, w_goto, w_fall, w_iadd, w_iand, w_iconst, w_icmp, x_iinc, x_iload, w_imul, w_ior, w_ishl, w_ishr, x_istore, zadd_eq, zmul_eq, gf_48_0, gf_48_1, gf_48_2, gf_48_6, gf_48_14, gf_48_40, gf_48_42, ia_49, sa_49, ia_53, sa_53, ia_59, sa_59, ia_79, sa_79, ia_80, sa_80, w_vret r_Md_links, q_eq, q_ne, q_lt, q_ge, q_gt, q_le, g_I, g_L, g_R, g_V, t_0, t_I, t_R, t_U, t_L, t_s, List.getElem?_cons_zero, List.getElem?_cons_succ, Nat.reduceAdd, zif10, zif01b, zib, if_pos, if_neg, ↓reduceIte, not_true_eq_false, not_false_eq_true, Bool.true_eq_false, Bool.false_eq_true, Classical.not_not, eq_self, and_self, and_true, true_and, Int.reduceEq, Int.reduceLE, Int.reduceLT, Int.reduceNeg, Option.toList, List.cons_append, List.nil_append, zup_s, zup_n, zst_s, zup_zs, zup_zn, decide_true, decide_false, (hR1 _).1]
    exact ⟨A, rfl, hA⟩
theorem c_Md_links {d mi o b9 : Nat} {es : List zEnt} {L st : List zMV} {Q : Option zMV → (Nat → Int → Int) → Prop} (hN : zNet S P mv tg) (hR : zNetR S P mv tg M) (hH : zHpR hp M) (hhp : ∀ p s, hp p s < 12) (hg : M 59 0 = g) (hL : zLay (zBb S P mv hp (zbit g)) 48 M) (hD : ∀ p h : Nat, p < 4 → h < 12 → 0 < zBb S P mv hp (zbit g) (p * 12 + h) → M 79 (zix (zBb S P mv hp (zbit g)) (p * 12 + h) : Int) = rw0 p h) (hok : zRwOK S P mv hp (zbit g) rw0) (hd : 2 + 1 ≤ d) (hc : zcats st ≤ 8) (hpost : ∀ r M', (r = none ∧ ∃ A, M' = zst M 80 A ∧ ∀ s : Nat, s < S → A (s : Int) = zset S (zN P mv tg hp (zbit g) rw0 s)) → zW (zSH Ln) d mi es L (r.toList ++ st) M' Q) : zW (zSH Ln) d mi ((.invokevirtual o, 225, b9) :: es) L (zR 48 :: st) M Q :=
  w_callv (ps := []) (by omega) rfl rfl (by omega) (by exact sh_48 Ln) hc (Nat.le_of_ble_eq_true rfl) (F_Md_links hN hR hH hhp hg hL hD hok (by omega)) hpost
end RE
