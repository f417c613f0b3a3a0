/-! all rows of moves: the class -/
section BL
variable {Ln S P : Nat} {mv tg hp rw0 : Nat → Nat → Nat} {M : Nat → Int → Int} {gi : Int} {one two : Nat → Bool} {kd : Nat}
theorem F_Bl_prepare {d : Nat} (hN : zNet S P mv tg) (hC : zNetC S P mv tg M) (hH : zHpC hp M) (hd : 3 ≤ d) : zF (zSH Ln) d i_Bl_prepare [zR 32, zI gi] M fun r M' => r = some (zI (zcap (zBb S P mv hp (zbit gi)) 48 : Int)) ∧ ∃ B, M' = zst (zup M 32 5 gi) 34 B ∧ ∀ i : Nat, i < 48 → B (i : Int) = zBb S P mv hp (zbit gi) i := by
  rw [zF_en k_Bl_prepare_0 (L := [zR 32, zI gi, zU, zU, zU, zU]) rfl]
  have hS := hN.2.1
  have hP := hN.2.2.2.1
  have hm := hN.2.2.2.2.1
  have hC1 : ∀ B, zNetC S P mv tg (zst (zup M 32 5 gi) 34 B) := fun _ => hC
  have hH1 : ∀ B, zHpC hp (zst (zup M 32 5 gi) 34 B) := fun _ => hH
  have hg1 : ∀ B, zst (zup M 32 5 gi) 34 B 32 5 = gi := fun B => by rw [zst_n (by decide), zup_s]
  simp (disch := first | omega | exact Nat.le_of_ble_eq_true rfl | assumption | (simp only [Int.natCast_add, Int.natCast_mul, Int.cast_ofNat_Int]; omega) | decide) only [x_aload, w_imax, w_imin, x_getf, w_goto, w_fall, w_iadd, w_iconst, w_if, w_icmp, x_iinc, x_iload, w_imul, x_istore, zadd_eq, zmul_eq, gf_32_0, gf_32_3, gf_32_5, gf_3_1, xp_32_5, pu_34, w_nret r_Bl_prepare, q_eq, q_ne, q_lt, q_ge, q_gt, q_le, g_I, g_L, g_R, g_V, t_0, t_I, t_R, t_U, t_L, t_s, List.getElem?_cons_zero, List.getElem?_cons_succ, Nat.reduceAdd, zif10, zif01b, zib, if_pos, if_neg, reduceIte, not_true_eq_false, not_false_eq_true, Bool.true_eq_false, Bool.false_eq_true, Classical.not_not, eq_self, and_self, and_true, true_and, Int.reduceEq, Int.reduceLE, Int.reduceLT, Int.reduceNeg, Option.toList, List.cons_append, List.nil_append, zup_s, zup_n, zst_s, zup_zs, zup_zn, decide_true, decide_false]
  refine zfor (a := 0) (N := 4) (b := 1) (fun p L0 M0 => ∃ (B : Int → Int) (v4 : zMV) (v5 : zMV), L0 = [zR 32, zI gi, zI (zcap (zBb S P mv hp (zbit gi)) (p * 12) : Int), zI (p : Int), v4, v5] ∧ M0 = zst (zup M 32 5 gi) 34 B ∧ ∀ i : Nat, i < p * 12 → B (i : Int) = zBb S P mv hp (zbit gi) i) ?_ ?_ ?_ ?_
  · exact Nat.zero_le _
  · exact ⟨M 34, zU, zU, rfl, (zst_id (zup M 32 5 gi) 34).symm, fun i hi => by omega⟩
  · rintro p _ _ _ hp2 ⟨B, v4, v5, rfl, rfl, hB⟩ ih
    rw [k_Bl_prepare_1]
    simp (disch := first | omega | exact Nat.le_of_ble_eq_true rfl | assumption | (simp only [Int.natCast_add, Int.natCast_mul, Int.cast_ofNat_Int]; omega) | decide) only [k_Bl_prepare_2, x_aload, w_imax, w_imin, x_getf, w_goto, w_fall, w_iadd, w_iconst, w_if, w_icmp, x_iinc, x_iload, w_imul, x_istore, zadd_eq, zmul_eq, gf_32_0, gf_32_3, gf_32_5, gf_3_1, xp_32_5, pu_34, w_nret r_Bl_prepare, q_eq, q_ne, q_lt, q_ge, q_gt, q_le, g_I, g_L, g_R, g_V, t_0, t_I, t_R, t_U, t_L, t_s, List.getElem?_cons_zero, List.getElem?_cons_succ, Nat.reduceAdd, zif10, zif01b, zib, if_pos, if_neg, reduceIte, not_true_eq_false, not_false_eq_true, Bool.true_eq_false, Bool.false_eq_true, Classical.not_not, eq_self, and_self, and_true, true_and, Int.reduceEq, Int.reduceLE, Int.reduceLT, Int.reduceNeg, Option.toList, List.cons_append, List.nil_append, zup_s, zup_n, zst_s, zup_zs, zup_zn, decide_true, decide_false]
    refine zfor (a := 0) (N := 12) (b := 3) (fun h L0 M0 => ∃ (B : Int → Int) (v5 : zMV), L0 = [zR 32, zI gi, zI (zcap (zBb S P mv hp (zbit gi)) (p * 12 + h) : Int), zI (p : Int), zI (h : Int), v5] ∧ M0 = zst (zup M 32 5 gi) 34 B ∧ ∀ i : Nat, i < p * 12 + h → B (i : Int) = zBb S P mv hp (zbit gi) i) ?_ ?_ ?_ ?_
    · exact Nat.zero_le _
    · exact ⟨B, v5, rfl, rfl, hB⟩
    · rintro h _ _ _ hh ⟨B, v5, rfl, rfl, hB⟩ ih2
      have e1 : (p * 12 + h) / 12 = p := by omega
      have e2 : (p * 12 + h) % 12 = h := by omega
      have hb3 : zBb S P mv hp (zbit gi) (p * 12 + h) ≤ 3 := by
        unfold zBb; split
        · exact zlm_le hm _ _ _
        · omega
      have hcap := zcap_le (zBb S P mv hp (zbit gi)) (p * 12 + h)
      have hsu : zcap (zBb S P mv hp (zbit gi)) (p * 12 + (h + 1)) = min (zcap (zBb S P mv hp (zbit gi)) (p * 12 + h) * max (zBb S P mv hp (zbit gi) (p * 12 + h)) 1) 5001 := rfl
      have go : ∀ v5 : zMV, zW (zSH Ln) d i_Bl_prepare (zblk i_Bl_prepare 8) [zR 32, zI gi, zI (zcap (zBb S P mv hp (zbit gi)) (p * 12 + h) : Int), zI (p : Int), zI (h : Int), v5] [zI (zBb S P mv hp (zbit gi) (p * 12 + h) : Int)] (zst (zup M 32 5 gi) 34 B) fun r M' => r = some (zI (zcap (zBb S P mv hp (zbit gi)) 48 : Int)) ∧ ∃ B, M' = zst (zup M 32 5 gi) 34 B ∧ ∀ i : Nat, i < 48 → B (i : Int) = zBb S P mv hp (zbit gi) i := by
        intro v5
        generalize hbb : zBb S P mv hp (zbit gi) (p * 12 + h) = b at hb3 hsu
        generalize hcc : zcap (zBb S P mv hp (zbit gi)) (p * 12 + h) = c at hcap hsu
        have emx : (if (b : Int) < 1 then (1 : Int) else (b : Int)) = ((max b 1 : Nat) : Int) := by split <;> omega
        have hmul : c * max b 1 ≤ 5001 * 3 := Nat.mul_le_mul hcap (by omega)
        have emn : (if (5001 : Int) < ((c * max b 1 : Nat) : Int) then (5001 : Int) else ((c * max b 1 : Nat) : Int)) = ((min (c * max b 1) 5001 : Nat) : Int) := by split <;> omega
        have ez : zmul (c : Int) ((max b 1 : Nat) : Int) = ((c * max b 1 : Nat) : Int) := zmul_nat (by omega)
        rw [k_Bl_prepare_8]
        simp (disch := first | omega | exact Nat.le_of_ble_eq_true rfl) only [x_aload, x_getf, w_goto, w_iconst, x_iinc, x_iload, w_imul, w_iadd, x_istore, w_imax, w_imin, emx, ez, emn, gf_32_3, pu_34, zup_zs, show zadd (h : Int) 1 = (h : Int) + 1 from zadd_eq (by omega) (by omega), show zmul (p : Int) 12 = (p : Int) * 12 from zmul_eq (by omega) (by omega), show zadd ((p : Int) * 12) (h : Int) = (p : Int) * 12 + h from zadd_eq (by omega) (by omega), g_I, g_R, g_V, t_0, t_I, t_R, t_U, t_L, t_s, List.getElem?_cons_zero, List.getElem?_cons_succ, Nat.reduceAdd]
        refine ih2 _ _ ⟨_, zI (b : Int), ?_, rfl, fun i hi => ?_⟩
        · rw [hsu]; rfl
        · by_cases e : i = p * 12 + h
          · subst e
            rw [hbb, show ((p * 12 + h : Nat) : Int) = (p : Int) * 12 + h by simp, zf_s]
          · rw [zf_n (by omega)]; exact hB i (by omega)
      rw [k_Bl_prepare_3]
      by_cases c1 : p < P
      · cases hb : zbit gi p
        · simp (disch := first | omega | exact Nat.le_of_ble_eq_true rfl | assumption | (simp only [Int.natCast_add, Int.natCast_mul, Int.cast_ofNat_Int]; omega) | decide) only [k_Bl_prepare_4, k_Bl_prepare_5, k_Bl_prepare_7, x_aload, w_imax, w_imin, x_getf, w_goto, w_fall, w_iadd, w_iconst, w_if, w_icmp, x_iinc, x_iload, w_imul, x_istore, zadd_eq, zmul_eq, gf_32_0, gf_32_3, gf_32_5, gf_3_1, xp_32_5, pu_34, w_nret r_Bl_prepare, q_eq, q_ne, q_lt, q_ge, q_gt, q_le, g_I, g_L, g_R, g_V, t_0, t_I, t_R, t_U, t_L, t_s, List.getElem?_cons_zero, List.getElem?_cons_succ, Nat.reduceAdd, zif10, zif01b, zib, if_pos, if_neg, reduceIte, not_true_eq_false, not_false_eq_true, Bool.true_eq_false, Bool.false_eq_true, Classical.not_not, eq_self, and_self, and_true, true_and, Int.reduceEq, Int.reduceLE, Int.reduceLT, Int.reduceNeg, Option.toList, List.cons_append, List.nil_append, zup_s, zup_n, zst_s, zup_zs, zup_zn, decide_true, decide_false, hC.2.1, zst_n, zup_n, hg1, c_has, hb]
          have := go v5
          rw [show zBb S P mv hp (zbit gi) (p * 12 + h) = 0 by unfold zBb; rw [e1, if_neg (by rw [hb]; simp)]] at this
          exact this
        · simp (disch := first | omega | exact Nat.le_of_ble_eq_true rfl | assumption | (simp only [Int.natCast_add, Int.natCast_mul, Int.cast_ofNat_Int]; omega) | decide) only [k_Bl_prepare_4, k_Bl_prepare_5, k_Bl_prepare_6, x_aload, w_imax, w_imin, x_getf, w_goto, w_fall, w_iadd, w_iconst, w_if, w_icmp, x_iinc, x_iload, w_imul, x_istore, zadd_eq, zmul_eq, gf_32_0, gf_32_3, gf_32_5, gf_3_1, xp_32_5, pu_34, w_nret r_Bl_prepare, q_eq, q_ne, q_lt, q_ge, q_gt, q_le, g_I, g_L, g_R, g_V, t_0, t_I, t_R, t_U, t_L, t_s, List.getElem?_cons_zero, List.getElem?_cons_succ, Nat.reduceAdd, zif10, zif01b, zib, if_pos, if_neg, reduceIte, not_true_eq_false, not_false_eq_true, Bool.true_eq_false, Bool.false_eq_true, Classical.not_not, eq_self, and_self, and_true, true_and, Int.reduceEq, Int.reduceLE, Int.reduceLT, Int.reduceNeg, Option.toList, List.cons_append, List.nil_append, zup_s, zup_n, zst_s, zup_zs, zup_zn, decide_true, decide_false, hC.2.1, zst_n, zup_n, hg1, c_has, hb, c_Ne_leastMoves hN (hC1 _) (hH1 _)]
          have := go v5
          rw [show zBb S P mv hp (zbit gi) (p * 12 + h) = zlm mv hp p h S by unfold zBb; rw [e1, e2, if_pos ⟨c1, hb⟩]] at this
          exact this
      · simp (disch := first | omega | exact Nat.le_of_ble_eq_true rfl | assumption | (simp only [Int.natCast_add, Int.natCast_mul, Int.cast_ofNat_Int]; omega) | decide) only [k_Bl_prepare_4, k_Bl_prepare_7, x_aload, w_imax, w_imin, x_getf, w_goto, w_fall, w_iadd, w_iconst, w_if, w_icmp, x_iinc, x_iload, w_imul, x_istore, zadd_eq, zmul_eq, gf_32_0, gf_32_3, gf_32_5, gf_3_1, xp_32_5, pu_34, w_nret r_Bl_prepare, q_eq, q_ne, q_lt, q_ge, q_gt, q_le, g_I, g_L, g_R, g_V, t_0, t_I, t_R, t_U, t_L, t_s, List.getElem?_cons_zero, List.getElem?_cons_succ, Nat.reduceAdd, zif10, zif01b, zib, if_pos, if_neg, reduceIte, not_true_eq_false, not_false_eq_true, Bool.true_eq_false, Bool.false_eq_true, Classical.not_not, eq_self, and_self, and_true, true_and, Int.reduceEq, Int.reduceLE, Int.reduceLT, Int.reduceNeg, Option.toList, List.cons_append, List.nil_append, zup_s, zup_n, zst_s, zup_zs, zup_zn, decide_true, decide_false, hC.2.1, zst_n, zup_n]
        have := go v5
        rw [show zBb S P mv hp (zbit gi) (p * 12 + h) = 0 by unfold zBb; rw [e1, if_neg (fun z => c1 z.1)]] at this
        exact this
    · rintro _ _ ⟨B, v5, rfl, rfl, hB⟩
      rw [k_Bl_prepare_3]
      simp (disch := first | omega | exact Nat.le_of_ble_eq_true rfl | assumption | (simp only [Int.natCast_add, Int.natCast_mul, Int.cast_ofNat_Int]; omega) | decide) only [k_Bl_prepare_9, x_aload, w_imax, w_imin, x_getf, w_goto, w_fall, w_iadd, w_iconst, w_if, w_icmp, x_iinc, x_iload, w_imul, x_istore, zadd_eq, zmul_eq, gf_32_0, gf_32_3, gf_32_5, gf_3_1, xp_32_5, pu_34, w_nret r_Bl_prepare, q_eq, q_ne, q_lt, q_ge, q_gt, q_le, g_I, g_L, g_R, g_V, t_0, t_I, t_R, t_U, t_L, t_s, List.getElem?_cons_zero, List.getElem?_cons_succ, Nat.reduceAdd, zif10, zif01b, zib, if_pos, if_neg, reduceIte, not_true_eq_false, not_false_eq_true, Bool.true_eq_false, Bool.false_eq_true, Classical.not_not, eq_self, and_self, and_true, true_and, Int.reduceEq, Int.reduceLE, Int.reduceLT, Int.reduceNeg, Option.toList, List.cons_append, List.nil_append, zup_s, zup_n, zst_s, zup_zs, zup_zn, decide_true, decide_false]
      refine ih _ _ ⟨B, zI ((12 : Nat) : Int), v5, ?_, rfl, fun i hi => hB i (by omega)⟩
      rw [show (p + 1) * 12 = p * 12 + 12 by omega]; rfl
  · rintro _ _ ⟨B, v4, v5, rfl, rfl, hB⟩
    rw [k_Bl_prepare_1]
    simp (disch := first | omega | exact Nat.le_of_ble_eq_true rfl | assumption | (simp only [Int.natCast_add, Int.natCast_mul, Int.cast_ofNat_Int]; omega) | decide) only [k_Bl_prepare_10, x_aload, w_imax, w_imin, x_getf, w_goto, w_fall, w_iadd, w_iconst, w_if, w_icmp, x_iinc, x_iload, w_imul, x_istore, zadd_eq, zmul_eq, gf_32_0, gf_32_3, gf_32_5, gf_3_1, xp_32_5, pu_34, w_nret r_Bl_prepare, q_eq, q_ne, q_lt, q_ge, q_gt, q_le, g_I, g_L, g_R, g_V, t_0, t_I, t_R, t_U, t_L, t_s, List.getElem?_cons_zero, List.getElem?_cons_succ, Nat.reduceAdd, zif10, zif01b, zib, if_pos, if_neg, reduceIte, not_true_eq_false, not_false_eq_true, Bool.true_eq_false, Bool.false_eq_true, Classical.not_not, eq_self, and_self, and_true, true_and, Int.reduceEq, Int.reduceLE, Int.reduceLT, Int.reduceNeg, Option.toList, List.cons_append, List.nil_append, zup_s, zup_n, zst_s, zup_zs, zup_zn, decide_true, decide_false]
    exact ⟨B, rfl, fun i hi => hB i (by omega)⟩
theorem c_Bl_prepare {d mi o b9 : Nat} {es : List zEnt} {L st : List zMV} {Q : Option zMV → (Nat → Int → Int) → Prop} (hN : zNet S P mv tg) (hC : zNetC S P mv tg M) (hH : zHpC hp M) (hd : 3 + 1 ≤ d) (hc : zcats st ≤ 8) (hpost : ∀ r M', (r = some (zI (zcap (zBb S P mv hp (zbit gi)) 48 : Int)) ∧ ∃ B, M' = zst (zup M 32 5 gi) 34 B ∧ ∀ i : Nat, i < 48 → B (i : Int) = zBb S P mv hp (zbit gi) i) → zW (zSH Ln) d mi es L (r.toList ++ st) M' Q) : zW (zSH Ln) d mi ((.invokevirtual o, 1, b9) :: es) L (zI gi :: zR 32 :: st) M Q :=
  w_callv (ps := [zI gi]) (by omega) rfl rfl (by omega) (by exact sh_32 Ln) hc (Nat.le_of_ble_eq_true rfl) (F_Bl_prepare hN hC hH (by omega)) hpost
theorem F_Bl_advance {d : Nat} {b : Nat → Nat} {n : Nat} (hb3 : ∀ i, b i ≤ 3) (hB : ∀ i : Nat, i < 48 → M 34 (i : Int) = b i) (hn : n < zcnt (fun i => max (b i) 1) zall1 48) (hT : ∀ i : Nat, i < 48 → M 33 (i : Int) = zdg (fun i => max (b i) 1) 48 n i) (hd : 1 ≤ d) : zF (zSH Ln) d i_Bl_advance [zR 32] M fun r M' => r = some (zI (if n + 1 < zcnt (fun i => max (b i) 1) zall1 48 then 1 else 0)) ∧ ∃ F, M' = zst M 33 F ∧ (n + 1 < zcnt (fun i => max (b i) 1) zall1 48 → ∀ i : Nat, i < 48 → F (i : Int) = zdg (fun i => max (b i) 1) 48 (n + 1) i) := by
  rw [zF_en k_Bl_advance_0 (L := [zR 32, zU]) rfl]
  have hb : ∀ i, 1 ≤ (fun i => max (b i) 1) i := fun i => by dsimp only; omega
  simp (disch := first | omega | exact Nat.le_of_ble_eq_true rfl | assumption | (simp only [Int.natCast_add, Int.natCast_mul, Int.cast_ofNat_Int]; omega) | decide) only [x_aload, x_getf, w_goto, w_fall, w_iadd, w_iconst, w_if, w_icmp, x_iinc, x_iload, x_istore, zadd_eq, gf_32_2, gf_32_3, at_33, ao_33, pu_33, at_34, ao_34, pu_34, w_bret r_Bl_advance, q_eq, q_ne, q_lt, q_ge, q_gt, q_le, g_I, g_L, g_R, g_V, t_0, t_I, t_R, t_U, t_L, t_s, List.getElem?_cons_zero, List.getElem?_cons_succ, Nat.reduceAdd, zif10, zif01b, zib, if_pos, if_neg, reduceIte, not_true_eq_false, not_false_eq_true, Bool.true_eq_false, Bool.false_eq_true, Classical.not_not, eq_self, and_self, and_true, true_and, Int.reduceEq, Int.reduceLE, Int.reduceLT, Int.reduceNeg, Option.toList, List.cons_append, List.nil_append, zup_s, zup_n, zst_s, zup_zs, zup_zn, decide_true, decide_false]
  refine zford (N := 48) (b := 1) (fun p L0 M0 => ∃ (F : Int → Int), L0 = [zR 32, zI ((p : Int) - 1)] ∧ M0 = zst M 33 F ∧ zcry (fun i => max (b i) 1) 48 n p ∧ (∀ i : Nat, i < p → F (i : Int) = zdg (fun i => max (b i) 1) 48 n i) ∧ ∀ i : Nat, p ≤ i → i < 48 → F (i : Int) = 0) ?_ ?_ ?_
  · exact ⟨M 33, rfl, (zst_id _ _).symm, zcry_0 _ _ _, hT, fun i h1 h2 => by omega⟩
  · rintro p _ _ hp2 ⟨F, rfl, rfl, hc, hF1, hF2⟩ ih
    have h1 := hF1 p (by omega)
    have h2 := hB p hp2
    have h3 := zdg_lt hb 48 n p
    have h4 := hb3 p
    rw [k_Bl_advance_1]
    by_cases hd : zdg (fun i => max (b i) 1) 48 n p + 1 < max (b p) 1
    · have hup := zcry_up hb hp2 hc hd
      have hmo := zcry_more hb hp2 hc hd hn
      simp (disch := first | omega | exact Nat.le_of_ble_eq_true rfl | assumption | (simp only [Int.natCast_add, Int.natCast_mul, Int.cast_ofNat_Int]; omega) | decide) only [k_Bl_advance_2, k_Bl_advance_3, x_aload, x_getf, w_goto, w_fall, w_iadd, w_iconst, w_if, w_icmp, x_iinc, x_iload, x_istore, zadd_eq, gf_32_2, gf_32_3, at_33, ao_33, pu_33, at_34, ao_34, pu_34, w_bret r_Bl_advance, q_eq, q_ne, q_lt, q_ge, q_gt, q_le, g_I, g_L, g_R, g_V, t_0, t_I, t_R, t_U, t_L, t_s, List.getElem?_cons_zero, List.getElem?_cons_succ, Nat.reduceAdd, zif10, zif01b, zib, if_pos, if_neg, reduceIte, not_true_eq_false, not_false_eq_true, Bool.true_eq_false, Bool.false_eq_true, Classical.not_not, eq_self, and_self, and_true, true_and, Int.reduceEq, Int.reduceLE, Int.reduceLT, Int.reduceNeg, Option.toList, List.cons_append, List.nil_append, zup_s, zup_n, zst_s, zup_zs, zup_zn, decide_true, decide_false, show ((p + 1 : Nat) : Int) - 1 = (p : Int) by omega, zst_n, zst_s, h1, h2, hmo]
      refine ⟨_, rfl, fun _ i hi => ?_⟩
      by_cases e : i = p
      · subst e; rw [zf_s, hup.1]; simp
      · rw [zf_n (by omega)]
        rcases Nat.lt_or_ge i p with h | h
        · rw [hF1 i (by omega), hup.2 i h]
        · rw [hF2 i (by omega) hi, hc.2 i (by omega) hi]; rfl
    · have hon := zcry_on hb hp2 hc hd
      simp (disch := first | omega | exact Nat.le_of_ble_eq_true rfl | assumption | (simp only [Int.natCast_add, Int.natCast_mul, Int.cast_ofNat_Int]; omega) | decide) only [k_Bl_advance_2, k_Bl_advance_4, x_aload, x_getf, w_goto, w_fall, w_iadd, w_iconst, w_if, w_icmp, x_iinc, x_iload, x_istore, zadd_eq, gf_32_2, gf_32_3, at_33, ao_33, pu_33, at_34, ao_34, pu_34, w_bret r_Bl_advance, q_eq, q_ne, q_lt, q_ge, q_gt, q_le, g_I, g_L, g_R, g_V, t_0, t_I, t_R, t_U, t_L, t_s, List.getElem?_cons_zero, List.getElem?_cons_succ, Nat.reduceAdd, zif10, zif01b, zib, if_pos, if_neg, reduceIte, not_true_eq_false, not_false_eq_true, Bool.true_eq_false, Bool.false_eq_true, Classical.not_not, eq_self, and_self, and_true, true_and, Int.reduceEq, Int.reduceLE, Int.reduceLT, Int.reduceNeg, Option.toList, List.cons_append, List.nil_append, zup_s, zup_n, zst_s, zup_zs, zup_zn, decide_true, decide_false, show ((p + 1 : Nat) : Int) - 1 = (p : Int) by omega, zst_n, zst_s, h1, h2]
      refine ih _ _ ⟨_, rfl, rfl, hon, fun i hi => ?_, fun i h5 h6 => ?_⟩
      · rw [zf_n (by omega)]; exact hF1 i (by omega)
      · by_cases e : i = p
        · subst e; rw [zf_s]
        · rw [zf_n (by omega)]; exact hF2 i (by omega) h6
  · rintro _ _ ⟨F, rfl, rfl, hc, hF1, hF2⟩
    have he := zcry_end hb hn hc
    have hno : ¬ n + 1 < zcnt (fun i => max (b i) 1) zall1 48 := by omega
    rw [k_Bl_advance_1]
    simp (disch := first | omega | exact Nat.le_of_ble_eq_true rfl | assumption | (simp only [Int.natCast_add, Int.natCast_mul, Int.cast_ofNat_Int]; omega) | decide) only [k_Bl_advance_5, x_aload, x_getf, w_goto, w_fall, w_iadd, w_iconst, w_if, w_icmp, x_iinc, x_iload, x_istore, zadd_eq, gf_32_2, gf_32_3, at_33, ao_33, pu_33, at_34, ao_34, pu_34, w_bret r_Bl_advance, q_eq, q_ne, q_lt, q_ge, q_gt, q_le, g_I, g_L, g_R, g_V, t_0, t_I, t_R, t_U, t_L, t_s, List.getElem?_cons_zero, List.getElem?_cons_succ, Nat.reduceAdd, zif10, zif01b, zib, if_pos, if_neg, reduceIte, not_true_eq_false, not_false_eq_true, Bool.true_eq_false, Bool.false_eq_true, Classical.not_not, eq_self, and_self, and_true, true_and, Int.reduceEq, Int.reduceLE, Int.reduceLT, Int.reduceNeg, Option.toList, List.cons_append, List.nil_append, zup_s, zup_n, zst_s, zup_zs, zup_zn, decide_true, decide_false, hno]
    exact ⟨F, rfl, fun h => h.elim⟩
theorem c_Bl_advance {d mi o b9 : Nat} {es : List zEnt} {L st : List zMV} {Q : Option zMV → (Nat → Int → Int) → Prop} {b : Nat → Nat} {n : Nat} (hb3 : ∀ i, b i ≤ 3) (hB : ∀ i : Nat, i < 48 → M 34 (i : Int) = b i) (hn : n < zcnt (fun i => max (b i) 1) zall1 48) (hT : ∀ i : Nat, i < 48 → M 33 (i : Int) = zdg (fun i => max (b i) 1) 48 n i) (hd : 1 + 1 ≤ d) (hc : zcats st ≤ 8) (hpost : ∀ r M', (r = some (zI (if n + 1 < zcnt (fun i => max (b i) 1) zall1 48 then 1 else 0)) ∧ ∃ F, M' = zst M 33 F ∧ (n + 1 < zcnt (fun i => max (b i) 1) zall1 48 → ∀ i : Nat, i < 48 → F (i : Int) = zdg (fun i => max (b i) 1) 48 (n + 1) i)) → zW (zSH Ln) d mi es L (r.toList ++ st) M' Q) : zW (zSH Ln) d mi ((.invokevirtual o, 5, b9) :: es) L (zR 32 :: st) M Q :=
  w_callv (ps := []) (by omega) rfl rfl (by omega) (by exact sh_32 Ln) hc (Nat.le_of_ble_eq_true rfl) (F_Bl_advance hb3 hB hn hT (by omega)) hpost
theorem F_Bl_search {d : Nat} {F : Nat → Bool} (hN : zNet S P mv tg) (hC : zNetC S P mv tg M) (hH : zHpC hp M) (hhp : ∀ p s, hp p s < 12) (hT : zTabC S P mv tg (zbit gi) M) (hg : M 32 5 = gi) (hB : ∀ i : Nat, i < 48 → M 34 (i : Int) = zBb S P mv hp (zbit gi) i) (hkd : 5 ≤ kd ∧ kd ≤ 9) (h6 : M 32 6 = kd) (h7 : M 32 7 = zset S one) (h8 : kd = 8 → M 32 8 = zset S two) (hmax : zcnt (zBm S P mv hp (zbit gi)) zall1 48 ≤ 5000) (hd : 5 ≤ d) : zF (zSH Ln) d i_Bl_search [zR 32, zI (zset S F)] M fun r M' => r = some (zI (if zSk S P mv tg hp (zbit gi) kd one two F < zcnt (zBm S P mv hp (zbit gi)) zall1 48 then 1 else 0)) ∧ ∃ A E, M' = zst (zst M 33 A) 35 E ∧ (zSk S P mv tg hp (zbit gi) kd one two F < zcnt (zBm S P mv hp (zbit gi)) zall1 48 → ∀ p h : Nat, p < 4 → h < 12 → A ((p : Int) * 12 + h) = zRow (zBm S P mv hp (zbit gi)) (zSk S P mv tg hp (zbit gi) kd one two F) p h) := by
  rw [zF_en k_Bl_search_0 (L := [zR 32, zI (zset S F), zU]) rfl]
  have hS := hN.2.1
  have hm := hN.2.2.2.2.1
  have hb3 : ∀ i, zBb S P mv hp (zbit gi) i ≤ 3 := fun i => by
    unfold zBb; split
    · exact zlm_le hm _ _ _
    · omega
  have hb : ∀ i, 1 ≤ zBm S P mv hp (zbit gi) i := fun i => by unfold zBm; omega
  have hpos : 0 < zcnt (zBm S P mv hp (zbit gi)) zall1 48 := by
    have : ∀ k, 0 < zcnt (zBm S P mv hp (zbit gi)) zall1 k := fun k => by
      induction k with
      | zero => exact Nat.one_pos
      | succ k ih => simp only [zcnt, zall1, if_true]; exact Nat.mul_pos ih (hb k)
    exact this _
  have h0 : ∀ i, zdg (zBm S P mv hp (zbit gi)) 48 0 i = 0 := fun i => by
    have : ∀ k, zpre (zBm S P mv hp (zbit gi)) 48 0 k = 0 := fun k => by
      induction k with
      | zero => rfl
      | succ k ih => simp only [zpre, ih, Nat.zero_div]
    unfold zdg; rw [this, Nat.zero_mod]
  have hrow : ∀ (A : Int → Int) (n : Nat), (∀ i : Nat, i < 48 → A (i : Int) = zdg (zBm S P mv hp (zbit gi)) 48 n i) → ∀ p h : Nat, p < 4 → h < 12 → A ((p : Int) * 12 + h) = zRow (zBm S P mv hp (zbit gi)) n p h := fun A n hA p h h1 h2 => by
    have := hA (p * 12 + h) (by omega)
    rw [Int.natCast_add, Int.natCast_mul] at this
    exact this
  simp (disch := first | omega | exact Nat.le_of_ble_eq_true rfl | assumption | (simp only [Int.natCast_add, Int.natCast_mul, Int.cast_ofNat_Int]; omega) | decide) only [x_aload, x_getf, w_goto, w_fall, w_iconst, w_if, w_icmp, x_iinc, x_iload, x_istore, zadd_eq, gf_32_2, w_bret r_Bl_search, q_eq, q_ne, q_lt, q_ge, q_gt, q_le, g_I, g_L, g_R, g_V, t_0, t_I, t_R, t_U, t_L, t_s, List.getElem?_cons_zero, List.getElem?_cons_succ, Nat.reduceAdd, zif10, zif01b, zib, if_pos, if_neg, reduceIte, not_true_eq_false, not_false_eq_true, Bool.true_eq_false, Bool.false_eq_true, Classical.not_not, eq_self, and_self, and_true, true_and, Int.reduceEq, Int.reduceLE, Int.reduceLT, Int.reduceNeg, Option.toList, List.cons_append, List.nil_append, zup_s, zup_n, zst_s, zup_zs, zup_zn, decide_true, decide_false]
  refine c_JA_fill (sh_33 Ln) (by omega) (by omega) (by omega) (Nat.le_of_ble_eq_true rfl) ?_
  rintro _ _ ⟨rfl, rfl⟩
  simp (disch := first | omega | exact Nat.le_of_ble_eq_true rfl | assumption | (simp only [Int.natCast_add, Int.natCast_mul, Int.cast_ofNat_Int]; omega) | decide) only [x_aload, x_getf, w_goto, w_fall, w_iconst, w_if, w_icmp, x_iinc, x_iload, x_istore, zadd_eq, gf_32_2, w_bret r_Bl_search, q_eq, q_ne, q_lt, q_ge, q_gt, q_le, g_I, g_L, g_R, g_V, t_0, t_I, t_R, t_U, t_L, t_s, List.getElem?_cons_zero, List.getElem?_cons_succ, Nat.reduceAdd, zif10, zif01b, zib, if_pos, if_neg, reduceIte, not_true_eq_false, not_false_eq_true, Bool.true_eq_false, Bool.false_eq_true, Classical.not_not, eq_self, and_self, and_true, true_and, Int.reduceEq, Int.reduceLE, Int.reduceLT, Int.reduceNeg, Option.toList, List.cons_append, List.nil_append, zup_s, zup_n, zst_s, zup_zs, zup_zn, decide_true, decide_false]
  refine zfor (a := 0) (N := 5000) (b := 1) (fun n L0 M0 => ∃ (A : Int → Int) (E : Int → Int), L0 = [zR 32, zI (zset S F), zI (n : Int)] ∧ M0 = zst (zst M 33 A) 35 E ∧ n < zcnt (zBm S P mv hp (zbit gi)) zall1 48 ∧ (∀ i : Nat, i < 48 → A (i : Int) = zdg (zBm S P mv hp (zbit gi)) 48 n i) ∧ ∀ i, i < n → zsb S F (zDo S kd (zN P mv tg hp (zbit gi) (zRow (zBm S P mv hp (zbit gi)) i)) one two) = false) ?_ ?_ ?_ ?_
  · exact Nat.zero_le _
  · refine ⟨_, M 35, rfl, (zst_id (zst M 33 _) 35).symm, hpos, fun i hi => ?_, fun i hi => by omega⟩
    rw [zrng_in (by omega), h0]; rfl
  · rintro n _ _ _ hn ⟨A, E, rfl, rfl, hlt, hA, hno⟩ ih
    have hok := zRow_ok (S := S) (P := P) hm hhp (zbit gi) n
    have hrw : zRwC (zRow (zBm S P mv hp (zbit gi)) n) (zst (zst M 33 A) 35 E) := hrow A n hA
    have hsk : ∀ v, zsb S F (zDo S kd (zN P mv tg hp (zbit gi) (zRow (zBm S P mv hp (zbit gi)) n)) one two) = v → zsb S F (zDo S kd (zN P mv tg hp (zbit gi) (zRow (zBm S P mv hp (zbit gi)) n)) one two) = v := fun _ h => h
    rw [k_Bl_search_1]
    simp (disch := first | omega | exact Nat.le_of_ble_eq_true rfl | assumption | (simp only [Int.natCast_add, Int.natCast_mul, Int.cast_ofNat_Int]; omega) | decide) only [k_Bl_search_2, x_aload, x_getf, w_goto, w_fall, w_iconst, w_if, w_icmp, x_iinc, x_iload, x_istore, zadd_eq, gf_32_2, w_bret r_Bl_search, q_eq, q_ne, q_lt, q_ge, q_gt, q_le, g_I, g_L, g_R, g_V, t_0, t_I, t_R, t_U, t_L, t_s, List.getElem?_cons_zero, List.getElem?_cons_succ, Nat.reduceAdd, zif10, zif01b, zib, if_pos, if_neg, reduceIte, not_true_eq_false, not_false_eq_true, Bool.true_eq_false, Bool.false_eq_true, Classical.not_not, eq_self, and_self, and_true, true_and, Int.reduceEq, Int.reduceLE, Int.reduceLT, Int.reduceNeg, Option.toList, List.cons_append, List.nil_append, zup_s, zup_n, zst_s, zup_zs, zup_zn, decide_true, decide_false]
    refine c_Bl_does (rw0 := zRow (zBm S P mv hp (zbit gi)) n) hN hC hH hhp hT hg hrw hok hkd h6 h7 h8 (by omega) (Nat.le_of_ble_eq_true rfl) ?_
    rintro _ _ ⟨rfl, E', rfl⟩
    cases hst : zsb S F (zDo S kd (zN P mv tg hp (zbit gi) (zRow (zBm S P mv hp (zbit gi)) n)) one two)
    · simp (disch := first | omega | exact Nat.le_of_ble_eq_true rfl | assumption | (simp only [Int.natCast_add, Int.natCast_mul, Int.cast_ofNat_Int]; omega) | decide) only [k_Bl_search_4, x_aload, x_getf, w_goto, w_fall, w_iconst, w_if, w_icmp, x_iinc, x_iload, x_istore, zadd_eq, gf_32_2, w_bret r_Bl_search, q_eq, q_ne, q_lt, q_ge, q_gt, q_le, g_I, g_L, g_R, g_V, t_0, t_I, t_R, t_U, t_L, t_s, List.getElem?_cons_zero, List.getElem?_cons_succ, Nat.reduceAdd, zif10, zif01b, zib, if_pos, if_neg, reduceIte, not_true_eq_false, not_false_eq_true, Bool.true_eq_false, Bool.false_eq_true, Classical.not_not, eq_self, and_self, and_true, true_and, Int.reduceEq, Int.reduceLE, Int.reduceLT, Int.reduceNeg, Option.toList, List.cons_append, List.nil_append, zup_s, zup_n, zst_s, zup_zs, zup_zn, decide_true, decide_false, zst_zst]
      refine c_Bl_advance (b := zBb S P mv hp (zbit gi)) hb3 hB hlt hA (by omega) (Nat.le_of_ble_eq_true rfl) ?_
      rintro _ _ ⟨rfl, A', rfl, hA'⟩
      have hno' : ∀ i, i < n + 1 → zsb S F (zDo S kd (zN P mv tg hp (zbit gi) (zRow (zBm S P mv hp (zbit gi)) i)) one two) = false := fun i hi => by
        by_cases e : i = n
        · subst e; exact hst
        · exact hno i (by omega)
      have hsw : zst (zst (zst M 33 A) 35 E') 33 A' = zst (zst M 33 A') 35 E' := by
        funext k; by_cases h1 : k = 33 <;> by_cases h2 : k = 35 <;> simp [zst, h1, h2] <;> omega
      rw [hsw]
      by_cases hmo : n + 1 < zcnt (fun i => max (zBb S P mv hp (zbit gi) i) 1) zall1 48
      · simp (disch := first | omega | exact Nat.le_of_ble_eq_true rfl | assumption | (simp only [Int.natCast_add, Int.natCast_mul, Int.cast_ofNat_Int]; omega) | decide) only [k_Bl_search_6, x_aload, x_getf, w_goto, w_fall, w_iconst, w_if, w_icmp, x_iinc, x_iload, x_istore, zadd_eq, gf_32_2, w_bret r_Bl_search, q_eq, q_ne, q_lt, q_ge, q_gt, q_le, g_I, g_L, g_R, g_V, t_0, t_I, t_R, t_U, t_L, t_s, List.getElem?_cons_zero, List.getElem?_cons_succ, Nat.reduceAdd, zif10, zif01b, zib, if_pos, if_neg, reduceIte, not_true_eq_false, not_false_eq_true, Bool.true_eq_false, Bool.false_eq_true, Classical.not_not, eq_self, and_self, and_true, true_and, Int.reduceEq, Int.reduceLE, Int.reduceLT, Int.reduceNeg, Option.toList, List.cons_append, List.nil_append, zup_s, zup_n, zst_s, zup_zs, zup_zn, decide_true, decide_false, hmo]
        exact ih _ _ ⟨A', E', rfl, rfl, hmo, hA' hmo, hno'⟩
      · have hf : zSk S P mv tg hp (zbit gi) kd one two F = zcnt (zBm S P mv hp (zbit gi)) zall1 48 := zfst_none fun i hi => hno' i (by
          have : zcnt (fun i => max (zBb S P mv hp (zbit gi) i) 1) zall1 48 = zcnt (zBm S P mv hp (zbit gi)) zall1 48 := rfl
          omega)
        simp (disch := first | omega | exact Nat.le_of_ble_eq_true rfl | assumption | (simp only [Int.natCast_add, Int.natCast_mul, Int.cast_ofNat_Int]; omega) | decide) only [k_Bl_search_5, x_aload, x_getf, w_goto, w_fall, w_iconst, w_if, w_icmp, x_iinc, x_iload, x_istore, zadd_eq, gf_32_2, w_bret r_Bl_search, q_eq, q_ne, q_lt, q_ge, q_gt, q_le, g_I, g_L, g_R, g_V, t_0, t_I, t_R, t_U, t_L, t_s, List.getElem?_cons_zero, List.getElem?_cons_succ, Nat.reduceAdd, zif10, zif01b, zib, if_pos, if_neg, reduceIte, not_true_eq_false, not_false_eq_true, Bool.true_eq_false, Bool.false_eq_true, Classical.not_not, eq_self, and_self, and_true, true_and, Int.reduceEq, Int.reduceLE, Int.reduceLT, Int.reduceNeg, Option.toList, List.cons_append, List.nil_append, zup_s, zup_n, zst_s, zup_zs, zup_zn, decide_true, decide_false, hmo, hf, Nat.lt_irrefl]
        exact ⟨A', E', rfl, fun h => h.elim⟩
    · have hf : zSk S P mv tg hp (zbit gi) kd one two F = n := zfst_is hlt hst hno
      simp (disch := first | omega | exact Nat.le_of_ble_eq_true rfl | assumption | (simp only [Int.natCast_add, Int.natCast_mul, Int.cast_ofNat_Int]; omega) | decide) only [k_Bl_search_3, x_aload, x_getf, w_goto, w_fall, w_iconst, w_if, w_icmp, x_iinc, x_iload, x_istore, zadd_eq, gf_32_2, w_bret r_Bl_search, q_eq, q_ne, q_lt, q_ge, q_gt, q_le, g_I, g_L, g_R, g_V, t_0, t_I, t_R, t_U, t_L, t_s, List.getElem?_cons_zero, List.getElem?_cons_succ, Nat.reduceAdd, zif10, zif01b, zib, if_pos, if_neg, reduceIte, not_true_eq_false, not_false_eq_true, Bool.true_eq_false, Bool.false_eq_true, Classical.not_not, eq_self, and_self, and_true, true_and, Int.reduceEq, Int.reduceLE, Int.reduceLT, Int.reduceNeg, Option.toList, List.cons_append, List.nil_append, zup_s, zup_n, zst_s, zup_zs, zup_zn, decide_true, decide_false, hf, hlt, zst_zst]
      exact ⟨A, E', rfl, fun _ => hrow A n hA⟩
  · rintro _ _ ⟨A, E, rfl, rfl, hlt, hA, hno⟩
    omega
theorem c_Bl_search {d mi o b9 : Nat} {es : List zEnt} {L st : List zMV} {Q : Option zMV → (Nat → Int → Int) → Prop} {F : Nat → Bool} (hN : zNet S P mv tg) (hC : zNetC S P mv tg M) (hH : zHpC hp M) (hhp : ∀ p s, hp p s < 12) (hT : zTabC S P mv tg (zbit gi) M) (hg : M 32 5 = gi) (hB : ∀ i : Nat, i < 48 → M 34 (i : Int) = zBb S P mv hp (zbit gi) i) (hkd : 5 ≤ kd ∧ kd ≤ 9) (h6 : M 32 6 = kd) (h7 : M 32 7 = zset S one) (h8 : kd = 8 → M 32 8 = zset S two) (hmax : zcnt (zBm S P mv hp (zbit gi)) zall1 48 ≤ 5000) (hd : 5 + 1 ≤ d) (hc : zcats st ≤ 8) (hpost : ∀ r M', (r = some (zI (if zSk S P mv tg hp (zbit gi) kd one two F < zcnt (zBm S P mv hp (zbit gi)) zall1 48 then 1 else 0)) ∧ ∃ A E, M' = zst (zst M 33 A) 35 E ∧ (zSk S P mv tg hp (zbit gi) kd one two F < zcnt (zBm S P mv hp (zbit gi)) zall1 48 → ∀ p h : Nat, p < 4 → h < 12 → A ((p : Int) * 12 + h) = zRow (zBm S P mv hp (zbit gi)) (zSk S P mv tg hp (zbit gi) kd one two F) p h)) → zW (zSH Ln) d mi es L (r.toList ++ st) M' Q) : zW (zSH Ln) d mi ((.invokevirtual o, 4, b9) :: es) L (zI (zset S F) :: zR 32 :: st) M Q :=
  w_callv (ps := [zI (zset S F)]) (by omega) rfl rfl (by omega) (by exact sh_32 Ln) hc (Nat.le_of_ble_eq_true rfl) (F_Bl_search hN hC hH hhp hT hg hB hkd h6 h7 h8 hmax (by omega)) hpost
end BL
