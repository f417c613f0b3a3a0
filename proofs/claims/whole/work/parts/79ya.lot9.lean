/-! chances: the reference's equations -/
section RE
variable {Ln S P : Nat} {mv tg ch : Nat → Nat → Nat} {M : Nat → Int → Int} {lo : Int} {X Y : Nat → Bool}
set_option maxHeartbeats 20000000 in
theorem F_Md_equations {d : Nat} (hN : zNet S P mv tg) (hR : zNetR S P mv tg M) (hK : zPkR ch M) (hch : ∀ s p, ch s p < mv s p) (hlo : M 48 9 = lo) (hlr : -1 ≤ lo ∧ lo < P) (hd : 1 ≤ d) : zF (zSH Ln) d i_Md_equations [zR 48, zI (zset S X), zI (zset S Y)] M fun r M' => r = none ∧ ∃ F, M' = zst M 81 F ∧ ∀ s t : Nat, s < S → t < 13 → F (13 * (s : Int) + t) = zAm (zKc mv tg P ch lo) (zLm mv lo) X Y s t := by
  rw [zF_en k_Md_equations_0 (L := [zR 48, zI (zset S X), zI (zset S Y), zU, zU, zU, zU]) rfl]
  have hS := hN.2.1
  have hP := hN.2.2.2.1
  simp (disch := first | omega | exact Nat.le_of_ble_eq_true rfl | assumption | (simp only [Int.natCast_add, Int.natCast_mul, Int.cast_ofNat_Int]; omega) | decide) only [x_aload, w_dup2, x_getf, w_goto, w_fall, w_i2l, w_iadd, w_iand, w_iconst, w_if, w_icmp, x_iinc, x_iload, w_imul, w_ishr, x_istore, w_lsub, w_sipush, zadd_eq, zmul_eq, gf_48_0, gf_48_9, gf_48_43, ia_81, sa_81, w_vret r_Md_equations, q_eq, q_ne, q_lt, q_ge, q_gt, q_le, g_I, g_L, g_R, g_V, t_0, t_I, t_R, t_U, t_L, t_s, List.getElem?_cons_zero, List.getElem?_cons_succ, Nat.reduceAdd, zif10, zif01b, zib, if_pos, if_neg, ↓reduceIte, not_true_eq_false, not_false_eq_true, Bool.true_eq_false, Bool.false_eq_true, Classical.not_not, eq_self, and_self, and_true, true_and, Int.reduceEq, Int.reduceLE, Int.reduceLT, Int.reduceNeg, Option.toList, List.cons_append, List.nil_append, zup_s, zup_n, zst_s, zup_zs, zup_zn, decide_true, decide_false]
  refine zfor (a := 0) (N := 156) (b := 1) (fun k L0 M0 => ∃ (F : Int → Int), L0 = [zR 48, zI (zset S X), zI (zset S Y), zI (k : Int), zU, zU, zU] ∧ M0 = zst M 81 F ∧ (∀ x : Int, 0 ≤ x → x < k → F x = 0)) ?_ ?_ ?_ ?_
  · exact Nat.zero_le _
  · exact ⟨M 81, rfl, (zst_id _ _).symm, fun x a b => by omega⟩
  · rintro k _ _ _ hk ⟨F, rfl, rfl, hF⟩ ih
    rw [k_Md_equations_1]
    simp (disch := first | omega | exact Nat.le_of_ble_eq_true rfl | assumption | (simp only [Int.natCast_add, Int.natCast_mul, Int.cast_ofNat_Int]; omega) | decide) only [k_Md_equations_2, x_aload, w_dup2, x_getf, w_goto, w_fall, w_i2l, w_iadd, w_iand, w_iconst, w_if, w_icmp, x_iinc, x_iload, w_imul, w_ishr, x_istore, w_lsub, w_sipush, zadd_eq, zmul_eq, gf_48_0, gf_48_9, gf_48_43, ia_81, sa_81, w_vret r_Md_equations, q_eq, q_ne, q_lt, q_ge, q_gt, q_le, g_I, g_L, g_R, g_V, t_0, t_I, t_R, t_U, t_L, t_s, List.getElem?_cons_zero, List.getElem?_cons_succ, Nat.reduceAdd, zif10, zif01b, zib, if_pos, if_neg, ↓reduceIte, not_true_eq_false, not_false_eq_true, Bool.true_eq_false, Bool.false_eq_true, Classical.not_not, eq_self, and_self, and_true, true_and, Int.reduceEq, Int.reduceLE, Int.reduceLT, Int.reduceNeg, Option.toList, List.cons_append, List.nil_append, zup_s, zup_n, zst_s, zup_zs, zup_zn, decide_true, decide_false]
    refine ih _ _ ⟨_, rfl, rfl, fun x a b => ?_⟩
    by_cases e : x = k
    · rw [e, zf_s]
    · rw [zf_n e]; exact hF x a (by omega)
  rintro _ _ ⟨F0, rfl, rfl, hF0⟩
  rw [k_Md_equations_1]
  simp (disch := first | omega | exact Nat.le_of_ble_eq_true rfl | assumption | (simp only [Int.natCast_add, Int.natCast_mul, Int.cast_ofNat_Int]; omega) | decide) only [k_Md_equations_3, x_aload, w_dup2, x_getf, w_goto, w_fall, w_i2l, w_iadd, w_iand, w_iconst, w_if, w_icmp, x_iinc, x_iload, w_imul, w_ishr, x_istore, w_lsub, w_sipush, zadd_eq, zmul_eq, gf_48_0, gf_48_9, gf_48_43, ia_81, sa_81, w_vret r_Md_equations, q_eq, q_ne, q_lt, q_ge, q_gt, q_le, g_I, g_L, g_R, g_V, t_0, t_I, t_R, t_U, t_L, t_s, List.getElem?_cons_zero, List.getElem?_cons_succ, Nat.reduceAdd, zif10, zif01b, zib, if_pos, if_neg, ↓reduceIte, not_true_eq_false, not_false_eq_true, Bool.true_eq_false, Bool.false_eq_true, Classical.not_not, eq_self, and_self, and_true, true_and, Int.reduceEq, Int.reduceLE, Int.reduceLT, Int.reduceNeg, Option.toList, List.cons_append, List.nil_append, zup_s, zup_n, zst_s, zup_zs, zup_zn, decide_true, decide_false]
  refine zfor (a := 0) (N := S) (b := 4) (fun s L0 M0 => ∃ (F : Int → Int) (v4 : zMV) (v5 : zMV) (v6 : zMV), L0 = [zR 48, zI (zset S X), zI (zset S Y), zI (s : Int), v4, v5, v6] ∧ M0 = zst M 81 F ∧ ((∀ u t : Nat, u < s → t < 13 → F (13 * (u : Int) + t) = zAm (zKc mv tg P ch lo) (zLm mv lo) X Y u t) ∧ ∀ x : Int, 13 * (s : Int) ≤ x → x < 156 → F x = 0)) ?_ ?_ ?_ ?_
  · exact Nat.zero_le _
  · exact ⟨F0, zU, zU, zU, rfl, rfl, fun u t a b => by omega, fun x a b => hF0 x (by omega) b⟩
  · rintro s _ _ _ hs ⟨F, v4, v5, v6, rfl, rfl, g1, g2⟩ ih
    have hR1 : zNetR S P mv tg (zst M 81 F) := hR
    have hlo1 : zst M 81 F 48 9 = lo := hlo
    have hlm := zLm_3 hN.2.2.2.2.1 lo s
    have e10 : zst M 81 F 48 0 = (S : Int) := hR.1
    -- a closed state
    have hcl : ∀ (b4 b5 : Int) (rh : Int), (X s = true ∨ Y s = false) → b4 = (if X s = true then 1 else 0) → b5 = (if Y s = true then 1 else 0) → rh = (if X s = true then 1 else 0) → zW (zSH Ln) d i_Md_equations (zblk i_Md_equations 19) [zR 48, zI (zset S X), zI (zset S Y), zI (s : Int), zI b4, zI b5, zI 0] [] (zst M 81 (zf (zf F (13 * (s : Int) + s) 1) (13 * (s : Int) + 12) rh)) fun r M' => r = none ∧ ∃ F, M' = zst M 81 F ∧ ∀ s t : Nat, s < S → t < 13 → F (13 * (s : Int) + t) = zAm (zKc mv tg P ch lo) (zLm mv lo) X Y s t := by
      intro b4 b5 rh hcl h4 h5 hrh
      have hR2 : zNetR S P mv tg (zst M 81 (zf (zf F (13 * (s : Int) + s) 1) (13 * (s : Int) + 12) rh)) := hR
      have hlo2 : zst M 81 (zf (zf F (13 * (s : Int) + s) 1) (13 * (s : Int) + 12) rh) 48 9 = lo := hlo
      have h0 : ¬ (zLm mv lo s : Int) ≤ 0 := by omega
      have nx : ∀ v6 : zMV, zW (zSH Ln) d i_Md_equations (zblk i_Md_equations 23) [zR 48, zI (zset S X), zI (zset S Y), zI (s : Int), zI b4, zI b5, v6] [] (zst M 81 (zf (zf F (13 * (s : Int) + s) 1) (13 * (s : Int) + 12) rh)) fun r M' => r = none ∧ ∃ F, M' = zst M 81 F ∧ ∀ s t : Nat, s < S → t < 13 → F (13 * (s : Int) + t) = zAm (zKc mv tg P ch lo) (zLm mv lo) X Y s t := by
        intro v6
        rw [k_Md_equations_23]
        simp (disch := first | omega | exact Nat.le_of_ble_eq_true rfl | assumption | (simp only [Int.natCast_add, Int.natCast_mul, Int.cast_ofNat_Int]; omega) | decide) only [x_aload, w_dup2, x_getf, w_goto, w_fall, w_i2l, w_iadd, w_iand, w_iconst, w_if, w_icmp, x_iinc, x_iload, w_imul, w_ishr, x_istore, w_lsub, w_sipush, zadd_eq, zmul_eq, gf_48_0, gf_48_9, gf_48_43, ia_81, sa_81, w_vret r_Md_equations, q_eq, q_ne, q_lt, q_ge, q_gt, q_le, g_I, g_L, g_R, g_V, t_0, t_I, t_R, t_U, t_L, t_s, List.getElem?_cons_zero, List.getElem?_cons_succ, Nat.reduceAdd, zif10, zif01b, zib, if_pos, if_neg, ↓reduceIte, not_true_eq_false, not_false_eq_true, Bool.true_eq_false, Bool.false_eq_true, Classical.not_not, eq_self, and_self, and_true, true_and, Int.reduceEq, Int.reduceLE, Int.reduceLT, Int.reduceNeg, Option.toList, List.cons_append, List.nil_append, zup_s, zup_n, zst_s, zup_zs, zup_zn, decide_true, decide_false]
        refine ih _ _ ⟨_, _, _, _, rfl, rfl, fun u t a b => ?_, fun x a b => ?_⟩
        · by_cases e : u = s
          · subst e
            unfold zAm
            rw [if_pos hcl]
            by_cases et : t = u
            · subst et
              rw [zf_n (by omega), zf_s, if_pos rfl]
            · by_cases e12 : t = 12
              · subst e12
                rw [if_neg et, if_pos rfl, show ((12 : Nat) : Int) = 12 from rfl, zf_s, hrh]
              · rw [zf_n (by omega), zf_n (by omega), if_neg et, if_neg e12]
                exact g2 _ (by omega) (by omega)
          · rw [zf_n (by omega), zf_n (by omega)]
            exact g1 u t (by omega) b
        · rw [zf_n (by omega), zf_n (by omega)]
          exact g2 x (by omega) b
      rw [k_Md_equations_19]
      rcases hcl with hx | hy
      · rw [hx, if_pos rfl] at h4
        subst h4
        have n22 := nx (zI 0)
        by_cases hyy : Y s = true
        · rw [if_pos hyy] at h5
          subst h5
          simp (disch := first | omega | exact Nat.le_of_ble_eq_true rfl | assumption | (simp only [Int.natCast_add, Int.natCast_mul, Int.cast_ofNat_Int]; omega) | decide) only [k_Md_equations_20, k_Md_equations_21, x_aload, w_dup2, x_getf, w_goto, w_fall, w_i2l, w_iadd, w_iand, w_iconst, w_if, w_icmp, x_iinc, x_iload, w_imul, w_ishr, x_istore, w_lsub, w_sipush, zadd_eq, zmul_eq, gf_48_0, gf_48_9, gf_48_43, ia_81, sa_81, w_vret r_Md_equations, q_eq, q_ne, q_lt, q_ge, q_gt, q_le, g_I, g_L, g_R, g_V, t_0, t_I, t_R, t_U, t_L, t_s, List.getElem?_cons_zero, List.getElem?_cons_succ, Nat.reduceAdd, zif10, zif01b, zib, if_pos, if_neg, ↓reduceIte, not_true_eq_false, not_false_eq_true, Bool.true_eq_false, Bool.false_eq_true, Classical.not_not, eq_self, and_self, and_true, true_and, Int.reduceEq, Int.reduceLE, Int.reduceLT, Int.reduceNeg, Option.toList, List.cons_append, List.nil_append, zup_s, zup_n, zst_s, zup_zs, zup_zn, decide_true, decide_false, c_Md_lotMany hN hR2 hlo2 hlr (show s < 12 by omega), h0]
          exact n22
        · rw [if_neg hyy] at h5
          subst h5
          simp (disch := first | omega | exact Nat.le_of_ble_eq_true rfl | assumption | (simp only [Int.natCast_add, Int.natCast_mul, Int.cast_ofNat_Int]; omega) | decide) only [k_Md_equations_20, x_aload, w_dup2, x_getf, w_goto, w_fall, w_i2l, w_iadd, w_iand, w_iconst, w_if, w_icmp, x_iinc, x_iload, w_imul, w_ishr, x_istore, w_lsub, w_sipush, zadd_eq, zmul_eq, gf_48_0, gf_48_9, gf_48_43, ia_81, sa_81, w_vret r_Md_equations, q_eq, q_ne, q_lt, q_ge, q_gt, q_le, g_I, g_L, g_R, g_V, t_0, t_I, t_R, t_U, t_L, t_s, List.getElem?_cons_zero, List.getElem?_cons_succ, Nat.reduceAdd, zif10, zif01b, zib, if_pos, if_neg, ↓reduceIte, not_true_eq_false, not_false_eq_true, Bool.true_eq_false, Bool.false_eq_true, Classical.not_not, eq_self, and_self, and_true, true_and, Int.reduceEq, Int.reduceLE, Int.reduceLT, Int.reduceNeg, Option.toList, List.cons_append, List.nil_append, zup_s, zup_n, zst_s, zup_zs, zup_zn, decide_true, decide_false, c_Md_lotMany hN hR2 hlo2 hlr (show s < 12 by omega), h0]
          exact n22
      · rw [hy, if_neg (by simp)] at h5
        subst h5
        have n22 := nx (zI 0)
        simp (disch := first | omega | exact Nat.le_of_ble_eq_true rfl | assumption | (simp only [Int.natCast_add, Int.natCast_mul, Int.cast_ofNat_Int]; omega) | decide) only [k_Md_equations_20, x_aload, w_dup2, x_getf, w_goto, w_fall, w_i2l, w_iadd, w_iand, w_iconst, w_if, w_icmp, x_iinc, x_iload, w_imul, w_ishr, x_istore, w_lsub, w_sipush, zadd_eq, zmul_eq, gf_48_0, gf_48_9, gf_48_43, ia_81, sa_81, w_vret r_Md_equations, q_eq, q_ne, q_lt, q_ge, q_gt, q_le, g_I, g_L, g_R, g_V, t_0, t_I, t_R, t_U, t_L, t_s, List.getElem?_cons_zero, List.getElem?_cons_succ, Nat.reduceAdd, zif10, zif01b, zib, if_pos, if_neg, ↓reduceIte, not_true_eq_false, not_false_eq_true, Bool.true_eq_false, Bool.false_eq_true, Classical.not_not, eq_self, and_self, and_true, true_and, Int.reduceEq, Int.reduceLE, Int.reduceLT, Int.reduceNeg, Option.toList, List.cons_append, List.nil_append, zup_s, zup_n, zst_s, zup_zs, zup_zn, decide_true, decide_false, c_Md_lotMany hN hR2 hlo2 hlr (show s < 12 by omega), h0]
        exact n22
    rw [k_Md_equations_4]
    cases hx : X s
    · cases hy : Y s
      · have := hcl 0 0 0 (Or.inr hy) (by rw [hx]; rfl) (by rw [hy]; rfl) (by rw [hx]; rfl)
        simp (disch := first | omega | exact Nat.le_of_ble_eq_true rfl | assumption | (simp only [Int.natCast_add, Int.natCast_mul, Int.cast_ofNat_Int]; omega) | decide) only [k_Md_equations_5, k_Md_equations_7, k_Md_equations_8, k_Md_equations_10, k_Md_equations_11, k_Md_equations_12, k_Md_equations_13, k_Md_equations_15, k_Md_equations_17, k_Md_equations_18, x_aload, w_dup2, x_getf, w_goto, w_fall, w_i2l, w_iadd, w_iand, w_iconst, w_if, w_icmp, x_iinc, x_iload, w_imul, w_ishr, x_istore, w_lsub, w_sipush, zadd_eq, zmul_eq, gf_48_0, gf_48_9, gf_48_43, ia_81, sa_81, w_vret r_Md_equations, q_eq, q_ne, q_lt, q_ge, q_gt, q_le, g_I, g_L, g_R, g_V, t_0, t_I, t_R, t_U, t_L, t_s, List.getElem?_cons_zero, List.getElem?_cons_succ, Nat.reduceAdd, zif10, zif01b, zib, if_pos, if_neg, ↓reduceIte, not_true_eq_false, not_false_eq_true, Bool.true_eq_false, Bool.false_eq_true, Classical.not_not, eq_self, and_self, and_true, true_and, Int.reduceEq, Int.reduceLE, Int.reduceLT, Int.reduceNeg, Option.toList, List.cons_append, List.nil_append, zup_s, zup_n, zst_s, zup_zs, zup_zn, decide_true, decide_false, e10, zset_has, hx, hy]
        exact this
      · -- an open state
        have nX : ¬ (X s = true ∨ Y s = false) := by rw [hx, hy]; simp
        simp (disch := first | omega | exact Nat.le_of_ble_eq_true rfl | assumption | (simp only [Int.natCast_add, Int.natCast_mul, Int.cast_ofNat_Int]; omega) | decide) only [k_Md_equations_5, k_Md_equations_7, k_Md_equations_8, k_Md_equations_9, k_Md_equations_11, k_Md_equations_12, k_Md_equations_14, k_Md_equations_15, k_Md_equations_17, k_Md_equations_18, x_aload, w_dup2, x_getf, w_goto, w_fall, w_i2l, w_iadd, w_iand, w_iconst, w_if, w_icmp, x_iinc, x_iload, w_imul, w_ishr, x_istore, w_lsub, w_sipush, zadd_eq, zmul_eq, gf_48_0, gf_48_9, gf_48_43, ia_81, sa_81, w_vret r_Md_equations, q_eq, q_ne, q_lt, q_ge, q_gt, q_le, g_I, g_L, g_R, g_V, t_0, t_I, t_R, t_U, t_L, t_s, List.getElem?_cons_zero, List.getElem?_cons_succ, Nat.reduceAdd, zif10, zif01b, zib, if_pos, if_neg, ↓reduceIte, not_true_eq_false, not_false_eq_true, Bool.true_eq_false, Bool.false_eq_true, Classical.not_not, eq_self, and_self, and_true, true_and, Int.reduceEq, Int.reduceLE, Int.reduceLT, Int.reduceNeg, Option.toList, List.cons_append, List.nil_append, zup_s, zup_n, zst_s, zup_zs, zup_zn, decide_true, decide_false, e10, zset_has, hx, hy, c_Md_lotMany hN hR1 hlo1 hlr (show s < 12 by omega)]
        refine zfor (a := 0) (N := (zLm mv lo s)) (b := 19) (fun k L0 M0 => ∃ (F2 : Int → Int), L0 = [zR 48, zI (zset S X), zI (zset S Y), zI (s : Int), zI 0, zI 1, zI (k : Int)] ∧ M0 = zst M 81 F2 ∧ ((∀ x : Int, x < 13 * (s : Int) ∨ 13 * (s : Int) + 13 ≤ x → F2 x = F x) ∧ F2 (13 * (s : Int) + 12) = 0 ∧ ∀ t : Nat, t < 12 → F2 (13 * (s : Int) + t) = (if t = s then (zLm mv lo s : Int) else 0) - (zcard k fun a => decide (zLt mv tg P ch lo s a = t) : Nat))) ?_ ?_ ?_ ?_
        · exact Nat.zero_le _
        · refine ⟨_, rfl, rfl, fun x a => by rw [zf_n (by omega), zf_n (by omega)], by rw [zf_s], fun t ht => ?_⟩
          by_cases et : t = s
          · subst et
            rw [zf_n (by omega), zf_s, if_pos rfl]; simp [zcard]
          · rw [zf_n (by omega), zf_n (by omega), if_neg et, g2 _ (by omega) (by omega)]; simp [zcard]
        · rintro k _ _ _ hk ⟨F2, rfl, rfl, k1, k2, k3⟩ ih2
          have hR2 : zNetR S P mv tg (zst M 81 F2) := hR
          have hK2 : zPkR ch (zst M 81 F2) := hK
          have hlo2 : zst M 81 F2 48 9 = lo := hlo
          have hlt := zLt_lt hN hch hs hk
          have hyk : ∀ p : Nat, (p : Int) = lo → k < mv s p := fun p h => by
            unfold zLm at hk
            rw [if_neg (by omega), ← h] at hk
            simpa using hk
          have hmo : tg s (znum (mv s) (fun p : Nat => if (p : Int) = lo then k else ch s p) P) = zLt mv tg P ch lo s k := rfl
          have k3k := k3 (zLt mv tg P ch lo s k) (by omega)
          have hcl := zcard_le k fun a => decide (zLt mv tg P ch lo s a = zLt mv tg P ch lo s k)
          have hsub : zlsub (F2 (13 * (s : Int) + (zLt mv tg P ch lo s k : Int))) 1 = F2 (13 * (s : Int) + (zLt mv tg P ch lo s k : Int)) - 1 := zlsub_eq (by rw [k3k]; split <;> omega) (by rw [k3k]; split <;> omega)
          rw [k_Md_equations_19]
          simp (disch := first | omega | exact Nat.le_of_ble_eq_true rfl | assumption | (simp only [Int.natCast_add, Int.natCast_mul, Int.cast_ofNat_Int]; omega) | decide) only [k_Md_equations_20, k_Md_equations_21, k_Md_equations_22, x_aload, w_dup2, x_getf, w_goto, w_fall, w_i2l, w_iadd, w_iand, w_iconst, w_if, w_icmp, x_iinc, x_iload, w_imul, w_ishr, x_istore, w_lsub, w_sipush, zadd_eq, zmul_eq, gf_48_0, gf_48_9, gf_48_43, ia_81, sa_81, w_vret r_Md_equations, q_eq, q_ne, q_lt, q_ge, q_gt, q_le, g_I, g_L, g_R, g_V, t_0, t_I, t_R, t_U, t_L, t_s, List.getElem?_cons_zero, List.getElem?_cons_succ, Nat.reduceAdd, zif10, zif01b, zib, if_pos, if_neg, ↓reduceIte, not_true_eq_false, not_false_eq_true, Bool.true_eq_false, Bool.false_eq_true, Classical.not_not, eq_self, and_self, and_true, true_and, Int.reduceEq, Int.reduceLE, Int.reduceLT, Int.reduceNeg, Option.toList, List.cons_append, List.nil_append, zup_s, zup_n, zst_s, zup_zs, zup_zn, decide_true, decide_false, c_Md_lotMany hN hR2 hlo2 hlr (show s < 12 by omega), hlo2, c_Md_leadsWith hN hR2 hK2 hch hs hyk, hmo, w_dup2, hsub]
          refine ih2 _ _ ⟨_, rfl, rfl, fun x a => ?_, ?_, fun t ht => ?_⟩
          · rw [zf_n (by omega)]; exact k1 x a
          · rw [zf_n (by omega)]; exact k2
          · show _ = _ - ((zcard k (fun a => decide (zLt mv tg P ch lo s a = t)) + if decide (zLt mv tg P ch lo s k = t) = true then 1 else 0 : Nat) : Int)
            by_cases e : zLt mv tg P ch lo s k = t
            · subst e
              rw [zf_s, k3k, if_pos (show decide (zLt mv tg P ch lo s k = zLt mv tg P ch lo s k) = true by simp)]; omega
            · rw [zf_n (by omega), if_neg (show ¬ decide (zLt mv tg P ch lo s k = t) = true by simpa using e)]
              exact k3 t ht
        · rintro _ _ ⟨F2, rfl, rfl, k1, k2, k3⟩
          have hR2 : zNetR S P mv tg (zst M 81 F2) := hR
          have hlo2 : zst M 81 F2 48 9 = lo := hlo
          rw [k_Md_equations_19]
          simp (disch := first | omega | exact Nat.le_of_ble_eq_true rfl | assumption | (simp only [Int.natCast_add, Int.natCast_mul, Int.cast_ofNat_Int]; omega) | decide) only [k_Md_equations_23, x_aload, w_dup2, x_getf, w_goto, w_fall, w_i2l, w_iadd, w_iand, w_iconst, w_if, w_icmp, x_iinc, x_iload, w_imul, w_ishr, x_istore, w_lsub, w_sipush, zadd_eq, zmul_eq, gf_48_0, gf_48_9, gf_48_43, ia_81, sa_81, w_vret r_Md_equations, q_eq, q_ne, q_lt, q_ge, q_gt, q_le, g_I, g_L, g_R, g_V, t_0, t_I, t_R, t_U, t_L, t_s, List.getElem?_cons_zero, List.getElem?_cons_succ, Nat.reduceAdd, zif10, zif01b, zib, if_pos, if_neg, ↓reduceIte, not_true_eq_false, not_false_eq_true, Bool.true_eq_false, Bool.false_eq_true, Classical.not_not, eq_self, and_self, and_true, true_and, Int.reduceEq, Int.reduceLE, Int.reduceLT, Int.reduceNeg, Option.toList, List.cons_append, List.nil_append, zup_s, zup_n, zst_s, zup_zs, zup_zn, decide_true, decide_false, c_Md_lotMany hN hR2 hlo2 hlr (show s < 12 by omega)]
          refine ih _ _ ⟨F2, _, _, _, rfl, rfl, fun u t a b => ?_, fun x a b => ?_⟩
          · by_cases e : u = s
            · subst e
              unfold zAm
              rw [if_neg nX]
              by_cases e12 : t = 12
              · subst e12
                rw [if_pos rfl]; exact k2
              · rw [if_neg e12, k3 t (by omega)]; rfl
            · rw [k1 _ (by omega)]; exact g1 u t (by omega) b
          · rw [k1 _ (by omega)]; exact g2 x (by omega) b
    · cases hy : Y s
      · have := hcl 1 0 1 (Or.inl hx) (by rw [hx]; rfl) (by rw [hy]; rfl) (by rw [hx]; rfl)
        simp (disch := first | omega | exact Nat.le_of_ble_eq_true rfl | assumption | (simp only [Int.natCast_add, Int.natCast_mul, Int.cast_ofNat_Int]; omega) | decide) only [k_Md_equations_5, k_Md_equations_6, k_Md_equations_8, k_Md_equations_10, k_Md_equations_11, k_Md_equations_13, k_Md_equations_15, k_Md_equations_16, k_Md_equations_18, x_aload, w_dup2, x_getf, w_goto, w_fall, w_i2l, w_iadd, w_iand, w_iconst, w_if, w_icmp, x_iinc, x_iload, w_imul, w_ishr, x_istore, w_lsub, w_sipush, zadd_eq, zmul_eq, gf_48_0, gf_48_9, gf_48_43, ia_81, sa_81, w_vret r_Md_equations, q_eq, q_ne, q_lt, q_ge, q_gt, q_le, g_I, g_L, g_R, g_V, t_0, t_I, t_R, t_U, t_L, t_s, List.getElem?_cons_zero, List.getElem?_cons_succ, Nat.reduceAdd, zif10, zif01b, zib, if_pos, if_neg, ↓reduceIte, not_true_eq_false, not_false_eq_true, Bool.true_eq_false, Bool.false_eq_true, Classical.not_not, eq_self, and_self, and_true, true_and, Int.reduceEq, Int.reduceLE, Int.reduceLT, Int.reduceNeg, Option.toList, List.cons_append, List.nil_append, zup_s, zup_n, zst_s, zup_zs, zup_zn, decide_true, decide_false, e10, zset_has, hx, hy]
        exact this
      · have := hcl 1 1 1 (Or.inl hx) (by rw [hx]; rfl) (by rw [hy]; rfl) (by rw [hx]; rfl)
        simp (disch := first | omega | exact Nat.le_of_ble_eq_true rfl | assumption | (simp only [Int.natCast_add, Int.natCast_mul, Int.cast_ofNat_Int]; omega) | decide) only [k_Md_equations_5, k_Md_equations_6, k_Md_equations_8, k_Md_equations_9, k_Md_equations_11, k_Md_equations_13, k_Md_equations_15, k_Md_equations_16, k_Md_equations_18, x_aload, w_dup2, x_getf, w_goto, w_fall, w_i2l, w_iadd, w_iand, w_iconst, w_if, w_icmp, x_iinc, x_iload, w_imul, w_ishr, x_istore, w_lsub, w_sipush, zadd_eq, zmul_eq, gf_48_0, gf_48_9, gf_48_43, ia_81, sa_81, w_vret r_Md_equations, q_eq, q_ne, q_lt, q_ge, q_gt, q_le, g_I, g_L, g_R, g_V, t_0, t_I, t_R, t_U, t_L, t_s, List.getElem?_cons_zero, List.getElem?_cons_succ, Nat.reduceAdd, zif10, zif01b, zib, if_pos, if_neg, ↓reduceIte, not_true_eq_false, not_false_eq_true, Bool.true_eq_false, Bool.false_eq_true, Classical.not_not, eq_self, and_self, and_true, true_and, Int.reduceEq, Int.reduceLE, Int.reduceLT, Int.reduceNeg, Option.toList, List.cons_append, List.nil_append, zup_s, zup_n, zst_s, zup_zs, zup_zn, decide_true, decide_false, e10, zset_has, hx, hy]
        exact this
  · rintro _ _ ⟨F, v4, v5, v6, rfl, rfl, g1, g2⟩
    have e10 : zst M 81 F 48 0 = (S : Int) := hR.1
    rw [k_Md_equations_4]
    simp (disch := first | omega | exact Nat.le_of_ble_eq_true rfl | assumption | (simp only [Int.natCast_add, Int.natCast_mul, Int.cast_ofNat_Int]; omega) | decide) only [k_Md_equations_24, x_aload, w_dup2, x_getf, w_goto, w_fall, w_i2l, w_iadd, w_iand, w_iconst, w_if, w_icmp, x_iinc, x_iload, w_imul, w_ishr, x_istore, w_lsub, w_sipush, zadd_eq, zmul_eq, gf_48_0, gf_48_9, gf_48_43, ia_81, sa_81, w_vret r_Md_equations, q_eq, q_ne, q_lt, q_ge, q_gt, q_le, g_I, g_L, g_R, g_V, t_0, t_I, t_R, t_U, t_L, t_s, List.getElem?_cons_zero, List.getElem?_cons_succ, Nat.reduceAdd, zif10, zif01b, zib, if_pos, if_neg, ↓reduceIte, not_true_eq_false, not_false_eq_true, Bool.true_eq_false, Bool.false_eq_true, Classical.not_not, eq_self, and_self, and_true, true_and, Int.reduceEq, Int.reduceLE, Int.reduceLT, Int.reduceNeg, Option.toList, List.cons_append, List.nil_append, zup_s, zup_n, zst_s, zup_zs, zup_zn, decide_true, decide_false, e10]
    exact ⟨F, rfl, g1⟩
theorem c_Md_equations {d mi o b9 : Nat} {es : List zEnt} {L st : List zMV} {Q : Option zMV → (Nat → Int → Int) → Prop} (hN : zNet S P mv tg) (hR : zNetR S P mv tg M) (hK : zPkR ch M) (hch : ∀ s p, ch s p < mv s p) (hlo : M 48 9 = lo) (hlr : -1 ≤ lo ∧ lo < P) (hd : 1 + 1 ≤ d) (hc : zcats st ≤ 8) (hpost : ∀ r M', (r = none ∧ ∃ F, M' = zst M 81 F ∧ ∀ s t : Nat, s < S → t < 13 → F (13 * (s : Int) + t) = zAm (zKc mv tg P ch lo) (zLm mv lo) X Y s t) → zW (zSH Ln) d mi es L (r.toList ++ st) M' Q) : zW (zSH Ln) d mi ((.invokevirtual o, 239, b9) :: es) L (zI (zset S Y) :: zI (zset S X) :: zR 48 :: st) M Q :=
  w_callv (ps := [zI (zset S X), zI (zset S Y)]) (by omega) rfl rfl (by omega) (by exact sh_48 Ln) hc (Nat.le_of_ble_eq_true rfl) (F_Md_equations hN hR hK hch hlo hlr (by omega)) hpost
end RE
