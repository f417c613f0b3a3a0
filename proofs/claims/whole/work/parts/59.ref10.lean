/-! the reference: settle -/
theorem zplans_small {S P : Nat} {mv : Nat → Nat → Nat} (hm : ∀ s, zmOK (mv s)) (h : zplans S P mv S ≤ 20000) : zPt S P mv = zplans S P mv S := by
  rw [zplans_pr hm] at h ⊢
  rw [zPt_pr]
  omega
/-- settle finds plans -/
def zSeF (S P : Nat) (mv tg : Nat → Nat → Nat) (gl : Nat → Nat → Bool) (x : Int) : Prop := (0 ≤ x ∧ x < S) ∧ zplans S P mv S ≤ 20000 ∧ zStf S P mv tg gl x.toNat < zPt S P mv
def zSeA (S P : Nat) (mv tg : Nat → Nat → Nat) (gl : Nat → Nat → Bool) (x : Int) : Int := if 0 ≤ x ∧ x < S then (if zplans S P mv S ≤ 20000 then (if zStf S P mv tg gl x.toNat < zPt S P mv then zset P (zCon S P mv tg (zPk S P mv (zStf S P mv tg gl x.toNat)) gl x.toNat) else -4) else -5) else -1
section RE
variable {Ln S P : Nat} {mv tg ch : Nat → Nat → Nat} {gl : Nat → Nat → Bool} {M : Nat → Int → Int}
theorem F_Md_settle {d : Nat} {x : Int} (hN : zNet S P mv tg) (hR : zNetR S P mv tg M) (hG : zGlR S P gl M) (hK : zPkR ch M) (hd : 5 ≤ d) : zF (zSH Ln) d i_Md_settle [zR 48, zI x] M fun r M' => r = some (zI (zSeA S P mv tg gl x)) ∧ zKp [54, 82] M M' ∧ (zSeF S P mv tg gl x → zPkR (zPk S P mv (zStf S P mv tg gl x.toNat)) M') ∧ (¬ zSeF S P mv tg gl x → zPkR ch M') := by
  rw [zF_en k_Md_settle_0 (L := [zR 48, zI x, zU, zU]) rfl]
  have hS := hN.2.1
  have hP := hN.2.2.2.1
  have hm := hN.2.2.2.2.1
  have hb : ∀ i, 1 ≤ zPb S mv i := fun i => (hm _ _).1
  generalize hans : zSeA S P mv tg gl x = ans
  unfold zSeA at hans
  unfold zSeF
  by_cases c1 : 0 ≤ x ∧ x < S
  rotate_left
  · have ha : ans = -1 := by rw [← hans, if_neg c1]
    simp (disch := first | omega | exact Nat.le_of_ble_eq_true rfl | assumption | (simp only [Int.natCast_add, Int.natCast_mul, Int.cast_ofNat_Int]; omega) | decide) only [k_Md_settle_1, x_aload, x_getf, w_goto, w_fall, w_iconst, w_if, w_icmp, x_iinc, x_iload, x_istore, zadd_eq, gf_48_7, gf_48_46, ia_54, sa_54, ia_82, sa_82, w_nret r_Md_settle, q_eq, q_ne, q_lt, q_ge, q_gt, q_le, g_I, g_L, g_R, g_V, t_0, t_I, t_R, t_U, t_L, t_s, List.getElem?_cons_zero, List.getElem?_cons_succ, Nat.reduceAdd, zif10, zif01b, zib, if_pos, if_neg, ↓reduceIte, not_true_eq_false, not_false_eq_true, Bool.true_eq_false, Bool.false_eq_true, Classical.not_not, eq_self, and_self, and_true, true_and, Int.reduceEq, Int.reduceLE, Int.reduceLT, Int.reduceNeg, Option.toList, List.cons_append, List.nil_append, zup_s, zup_n, zst_s, zup_zs, zup_zn, decide_true, decide_false, c_Md_isState hN hR, c1, ha, false_and]
    exact ⟨zKp_rf _ _, fun h => h.elim, fun _ => hK⟩
  rw [if_pos c1] at hans
  obtain ⟨s, rfl⟩ : ∃ s : Nat, x = (s : Int) := ⟨x.toNat, by omega⟩
  rw [Int.toNat_natCast] at hans ⊢
  by_cases c2 : zplans S P mv S ≤ 20000
  rotate_left
  · have ha : ans = -5 := by rw [← hans, if_neg c2]
    simp (disch := first | omega | exact Nat.le_of_ble_eq_true rfl | assumption | (simp only [Int.natCast_add, Int.natCast_mul, Int.cast_ofNat_Int]; omega) | decide) only [k_Md_settle_2, k_Md_settle_3, x_aload, x_getf, w_goto, w_fall, w_iconst, w_if, w_icmp, x_iinc, x_iload, x_istore, zadd_eq, gf_48_7, gf_48_46, ia_54, sa_54, ia_82, sa_82, w_nret r_Md_settle, q_eq, q_ne, q_lt, q_ge, q_gt, q_le, g_I, g_L, g_R, g_V, t_0, t_I, t_R, t_U, t_L, t_s, List.getElem?_cons_zero, List.getElem?_cons_succ, Nat.reduceAdd, zif10, zif01b, zib, if_pos, if_neg, ↓reduceIte, not_true_eq_false, not_false_eq_true, Bool.true_eq_false, Bool.false_eq_true, Classical.not_not, eq_self, and_self, and_true, true_and, Int.reduceEq, Int.reduceLE, Int.reduceLT, Int.reduceNeg, Option.toList, List.cons_append, List.nil_append, zup_s, zup_n, zst_s, zup_zs, zup_zn, decide_true, decide_false, c_Md_isState hN hR, c1, c_Md_plansOfAll hN hR, ha, c2, false_and, and_false]
    exact ⟨zKp_rf _ _, fun h => h.elim, fun _ => hK⟩
  rw [if_pos c2] at hans
  have hmax := zplans_small hm c2
  have hpos : 0 < zPt S P mv := by
    have : ∀ k, 0 < zcnt (zPb S mv) zall1 k := fun k => by
      induction k with
      | zero => exact Nat.one_pos
      | succ k ih => simp only [zcnt, zall1, if_true]; exact Nat.mul_pos ih (hb k)
    exact this _
  have h0 : ∀ i, zdg (zPb S mv) (P * S) 0 i = 0 := fun i => by
    have : ∀ k, zpre (zPb S mv) (P * S) 0 k = 0 := fun k => by
      induction k with
      | zero => rfl
      | succ k ih => simp only [zpre, ih, Nat.zero_div]
    unfold zdg; rw [this, Nat.zero_mod]
  have hsS : s < S := by omega
  have hfin : ∀ (r : Option zMV) (M' : Nat → Int → Int), r = some (zI ans) ∧ zKp [54, 82] M M' ∧ (zStf S P mv tg gl s < zPt S P mv → zPkR (zPk S P mv (zStf S P mv tg gl s)) M') ∧ (¬ zStf S P mv tg gl s < zPt S P mv → zPkR ch M') → r = some (zI ans) ∧ zKp [54, 82] M M' ∧ ((0 ≤ (s : Int) ∧ (s : Int) < S) ∧ zplans S P mv S ≤ 20000 ∧ zStf S P mv tg gl s < zPt S P mv → zPkR (zPk S P mv (zStf S P mv tg gl s)) M') ∧ (¬ ((0 ≤ (s : Int) ∧ (s : Int) < S) ∧ zplans S P mv S ≤ 20000 ∧ zStf S P mv tg gl s < zPt S P mv) → zPkR ch M') := fun r M' h => ⟨h.1, h.2.1, fun h2 => h.2.2.1 h2.2.2, fun h2 => h.2.2.2 fun h3 => h2 ⟨c1, c2, h3⟩⟩
  refine zW_mono ?_ hfin
  simp (disch := first | omega | exact Nat.le_of_ble_eq_true rfl | assumption | (simp only [Int.natCast_add, Int.natCast_mul, Int.cast_ofNat_Int]; omega) | decide) only [k_Md_settle_2, k_Md_settle_4, x_aload, x_getf, w_goto, w_fall, w_iconst, w_if, w_icmp, x_iinc, x_iload, x_istore, zadd_eq, gf_48_7, gf_48_46, ia_54, sa_54, ia_82, sa_82, w_nret r_Md_settle, q_eq, q_ne, q_lt, q_ge, q_gt, q_le, g_I, g_L, g_R, g_V, t_0, t_I, t_R, t_U, t_L, t_s, List.getElem?_cons_zero, List.getElem?_cons_succ, Nat.reduceAdd, zif10, zif01b, zib, if_pos, if_neg, ↓reduceIte, not_true_eq_false, not_false_eq_true, Bool.true_eq_false, Bool.false_eq_true, Classical.not_not, eq_self, and_self, and_true, true_and, Int.reduceEq, Int.reduceLE, Int.reduceLT, Int.reduceNeg, Option.toList, List.cons_append, List.nil_append, zup_s, zup_n, zst_s, zup_zs, zup_zn, decide_true, decide_false, c_Md_isState hN hR, c1, c_Md_plansOfAll hN hR]
  refine zfor (a := 0) (N := 48) (b := 5) (fun p L0 M0 => ∃ (K : Int → Int), L0 = [zR 48, zI (s : Int), zI (p : Int), zU] ∧ M0 = zst (zst M 82 K) 54 (zrng (M 54) 0 p 0) ∧ ∀ k : Nat, k < p → K (k : Int) = M 54 (k : Int)) ?_ ?_ ?_ ?_
  · exact Nat.zero_le _
  · refine ⟨M 82, rfl, ?_, fun k hk => by omega⟩
    rw [zrng_0, zst_id]
    exact (zst_id M 54).symm
  · rintro p _ _ _ hp ⟨K, rfl, rfl, hK1⟩ ih
    have h54 : zrng (M 54) 0 p 0 (p : Int) = M 54 (p : Int) := zrng_out (by omega)
    rw [k_Md_settle_5]
    simp (disch := first | omega | exact Nat.le_of_ble_eq_true rfl | assumption | (simp only [Int.natCast_add, Int.natCast_mul, Int.cast_ofNat_Int]; omega) | decide) only [k_Md_settle_6, x_aload, x_getf, w_goto, w_fall, w_iconst, w_if, w_icmp, x_iinc, x_iload, x_istore, zadd_eq, gf_48_7, gf_48_46, ia_54, sa_54, ia_82, sa_82, w_nret r_Md_settle, q_eq, q_ne, q_lt, q_ge, q_gt, q_le, g_I, g_L, g_R, g_V, t_0, t_I, t_R, t_U, t_L, t_s, List.getElem?_cons_zero, List.getElem?_cons_succ, Nat.reduceAdd, zif10, zif01b, zib, if_pos, if_neg, ↓reduceIte, not_true_eq_false, not_false_eq_true, Bool.true_eq_false, Bool.false_eq_true, Classical.not_not, eq_self, and_self, and_true, true_and, Int.reduceEq, Int.reduceLE, Int.reduceLT, Int.reduceNeg, Option.toList, List.cons_append, List.nil_append, zup_s, zup_n, zst_s, zup_zs, zup_zn, decide_true, decide_false, zst_s, h54]
    refine ih _ _ ⟨_, rfl, by rw [zrng_up2 (by omega)], fun k hk => ?_⟩
    by_cases e : k = p
    · subst e; rw [zf_s]
    · rw [zf_n (by omega)]; exact hK1 k (by omega)
  · rintro _ _ ⟨K, rfl, rfl, hK1⟩
    rw [k_Md_settle_5]
    simp (disch := first | omega | exact Nat.le_of_ble_eq_true rfl | assumption | (simp only [Int.natCast_add, Int.natCast_mul, Int.cast_ofNat_Int]; omega) | decide) only [k_Md_settle_7, x_aload, x_getf, w_goto, w_fall, w_iconst, w_if, w_icmp, x_iinc, x_iload, x_istore, zadd_eq, gf_48_7, gf_48_46, ia_54, sa_54, ia_82, sa_82, w_nret r_Md_settle, q_eq, q_ne, q_lt, q_ge, q_gt, q_le, g_I, g_L, g_R, g_V, t_0, t_I, t_R, t_U, t_L, t_s, List.getElem?_cons_zero, List.getElem?_cons_succ, Nat.reduceAdd, zif10, zif01b, zib, if_pos, if_neg, ↓reduceIte, not_true_eq_false, not_false_eq_true, Bool.true_eq_false, Bool.false_eq_true, Classical.not_not, eq_self, and_self, and_true, true_and, Int.reduceEq, Int.reduceLE, Int.reduceLT, Int.reduceNeg, Option.toList, List.cons_append, List.nil_append, zup_s, zup_n, zst_s, zup_zs, zup_zn, decide_true, decide_false]
    refine zfor (a := 0) (N := 20000) (b := 8) (fun n L0 M0 => ∃ (F : Int → Int), L0 = [zR 48, zI (s : Int), zI 1, zU] ∧ M0 = zst (zst M 82 K) 54 F ∧ n < zPt S P mv ∧ zTrR S P mv n F ∧ ∀ i, i < n → zStb S P mv tg (zPk S P mv i) gl s = false) ?_ ?_ ?_ ?_
    · exact Nat.zero_le _
    · refine ⟨_, rfl, rfl, hpos, fun t p ht hp => ?_, fun i hi => by omega⟩
      rw [zrng_in (by omega)]
      unfold zPk
      split
      · rw [h0]; rfl
      · rfl
    · rintro n _ _ _ hn ⟨F, rfl, rfl, hlt, hF, hno⟩ ih
      have hR1 : zNetR S P mv tg (zst (zst M 82 K) 54 F) := hR
      have hG1 : zGlR S P gl (zst (zst M 82 K) 54 F) := hG
      have hch : ∀ s p, zPk S P mv n s p < mv s p := fun s p => zPk_lt hm n s p
      have hK2 : zPkR (zPk S P mv n) (zst (zst M 82 K) 54 F) := hF
      have hkp : ∀ F', zKp [54, 82] M (zst (zst M 82 K) 54 F') := fun _ => zKp_st (by decide) (zKp_st (by decide) (zKp_rf _ _))
      rw [k_Md_settle_8]
      cases hst : zStb S P mv tg (zPk S P mv n) gl s
      · have hno' : ∀ i, i < n + 1 → zStb S P mv tg (zPk S P mv i) gl s = false := fun i hi => by
          by_cases e : i = n
          · subst e; exact hst
          · exact hno i (by omega)
        simp (disch := first | omega | exact Nat.le_of_ble_eq_true rfl | assumption | (simp only [Int.natCast_add, Int.natCast_mul, Int.cast_ofNat_Int]; omega) | decide) only [k_Md_settle_9, k_Md_settle_11, x_aload, x_getf, w_goto, w_fall, w_iconst, w_if, w_icmp, x_iinc, x_iload, x_istore, zadd_eq, gf_48_7, gf_48_46, ia_54, sa_54, ia_82, sa_82, w_nret r_Md_settle, q_eq, q_ne, q_lt, q_ge, q_gt, q_le, g_I, g_L, g_R, g_V, t_0, t_I, t_R, t_U, t_L, t_s, List.getElem?_cons_zero, List.getElem?_cons_succ, Nat.reduceAdd, zif10, zif01b, zib, if_pos, if_neg, ↓reduceIte, not_true_eq_false, not_false_eq_true, Bool.true_eq_false, Bool.false_eq_true, Classical.not_not, eq_self, and_self, and_true, true_and, Int.reduceEq, Int.reduceLE, Int.reduceLT, Int.reduceNeg, Option.toList, List.cons_append, List.nil_append, zup_s, zup_n, zst_s, zup_zs, zup_zn, decide_true, decide_false, c_Md_isStable hN hR1 hG1 hK2 hch hsS, hst]
        refine c_Md_plansUp hN hR1 hlt hF (by omega) (Nat.le_of_ble_eq_true rfl) ?_
        rintro _ _ ⟨rfl, F', rfl, hF'⟩
        by_cases hmo : n + 1 < zPt S P mv
        · simp (disch := first | omega | exact Nat.le_of_ble_eq_true rfl | assumption | (simp only [Int.natCast_add, Int.natCast_mul, Int.cast_ofNat_Int]; omega) | decide) only [x_aload, x_getf, w_goto, w_fall, w_iconst, w_if, w_icmp, x_iinc, x_iload, x_istore, zadd_eq, gf_48_7, gf_48_46, ia_54, sa_54, ia_82, sa_82, w_nret r_Md_settle, q_eq, q_ne, q_lt, q_ge, q_gt, q_le, g_I, g_L, g_R, g_V, t_0, t_I, t_R, t_U, t_L, t_s, List.getElem?_cons_zero, List.getElem?_cons_succ, Nat.reduceAdd, zif10, zif01b, zib, if_pos, if_neg, ↓reduceIte, not_true_eq_false, not_false_eq_true, Bool.true_eq_false, Bool.false_eq_true, Classical.not_not, eq_self, and_self, and_true, true_and, Int.reduceEq, Int.reduceLE, Int.reduceLT, Int.reduceNeg, Option.toList, List.cons_append, List.nil_append, zup_s, zup_n, zst_s, zup_zs, zup_zn, decide_true, decide_false, hmo, zst_zst]
          exact ih _ _ ⟨F', rfl, rfl, hmo, hF' hmo, hno'⟩
        · have hf : zStf S P mv tg gl s = zPt S P mv := zfst_none fun i hi => hno' i (by omega)
          have hfl : ¬ zStf S P mv tg gl s < zPt S P mv := by omega
          have ha : ans = -4 := by rw [← hans, if_neg hfl]
          simp (disch := first | omega | exact Nat.le_of_ble_eq_true rfl | assumption | (simp only [Int.natCast_add, Int.natCast_mul, Int.cast_ofNat_Int]; omega) | decide) only [x_aload, x_getf, w_goto, w_fall, w_iconst, w_if, w_icmp, x_iinc, x_iload, x_istore, zadd_eq, gf_48_7, gf_48_46, ia_54, sa_54, ia_82, sa_82, w_nret r_Md_settle, q_eq, q_ne, q_lt, q_ge, q_gt, q_le, g_I, g_L, g_R, g_V, t_0, t_I, t_R, t_U, t_L, t_s, List.getElem?_cons_zero, List.getElem?_cons_succ, Nat.reduceAdd, zif10, zif01b, zib, if_pos, if_neg, ↓reduceIte, not_true_eq_false, not_false_eq_true, Bool.true_eq_false, Bool.false_eq_true, Classical.not_not, eq_self, and_self, and_true, true_and, Int.reduceEq, Int.reduceLE, Int.reduceLT, Int.reduceNeg, Option.toList, List.cons_append, List.nil_append, zup_s, zup_n, zst_s, zup_zs, zup_zn, decide_true, decide_false, hmo, zst_zst]
          rw [k_Md_settle_8]
          simp (disch := first | omega | exact Nat.le_of_ble_eq_true rfl | assumption | (simp only [Int.natCast_add, Int.natCast_mul, Int.cast_ofNat_Int]; omega) | decide) only [k_Md_settle_12, x_aload, x_getf, w_goto, w_fall, w_iconst, w_if, w_icmp, x_iinc, x_iload, x_istore, zadd_eq, gf_48_7, gf_48_46, ia_54, sa_54, ia_82, sa_82, w_nret r_Md_settle, q_eq, q_ne, q_lt, q_ge, q_gt, q_le, g_I, g_L, g_R, g_V, t_0, t_I, t_R, t_U, t_L, t_s, List.getElem?_cons_zero, List.getElem?_cons_succ, Nat.reduceAdd, zif10, zif01b, zib, if_pos, if_neg, ↓reduceIte, not_true_eq_false, not_false_eq_true, Bool.true_eq_false, Bool.false_eq_true, Classical.not_not, eq_self, and_self, and_true, true_and, Int.reduceEq, Int.reduceLE, Int.reduceLT, Int.reduceNeg, Option.toList, List.cons_append, List.nil_append, zup_s, zup_n, zst_s, zup_zs, zup_zn, decide_true, decide_false]
          refine zfor (a := 0) (N := 48) (b := 13) (fun p L0 M0 => ∃ (G : Int → Int), L0 = [zR 48, zI (s : Int), zI 0, zI (p : Int)] ∧ M0 = zst (zst M 82 K) 54 G ∧ ∀ k : Nat, k < p → G (k : Int) = M 54 (k : Int)) ?_ ?_ ?_ ?_
          · exact Nat.zero_le _
          · exact ⟨F', rfl, rfl, fun k hk => by omega⟩
          · rintro p _ _ _ hp ⟨G, rfl, rfl, hG2⟩ ih2
            have hKp := hK1 p hp
            rw [k_Md_settle_13]
            simp (disch := first | omega | exact Nat.le_of_ble_eq_true rfl | assumption | (simp only [Int.natCast_add, Int.natCast_mul, Int.cast_ofNat_Int]; omega) | decide) only [k_Md_settle_14, x_aload, x_getf, w_goto, w_fall, w_iconst, w_if, w_icmp, x_iinc, x_iload, x_istore, zadd_eq, gf_48_7, gf_48_46, ia_54, sa_54, ia_82, sa_82, w_nret r_Md_settle, q_eq, q_ne, q_lt, q_ge, q_gt, q_le, g_I, g_L, g_R, g_V, t_0, t_I, t_R, t_U, t_L, t_s, List.getElem?_cons_zero, List.getElem?_cons_succ, Nat.reduceAdd, zif10, zif01b, zib, if_pos, if_neg, ↓reduceIte, not_true_eq_false, not_false_eq_true, Bool.true_eq_false, Bool.false_eq_true, Classical.not_not, eq_self, and_self, and_true, true_and, Int.reduceEq, Int.reduceLE, Int.reduceLT, Int.reduceNeg, Option.toList, List.cons_append, List.nil_append, zup_s, zup_n, zst_s, zup_zs, zup_zn, decide_true, decide_false, zst_n, zst_s, hKp]
            refine ih2 _ _ ⟨_, rfl, rfl, fun k hk => ?_⟩
            by_cases e : k = p
            · subst e; rw [zf_s]
            · rw [zf_n (by omega)]; exact hG2 k (by omega)
          · rintro _ _ ⟨G, rfl, rfl, hG2⟩
            rw [k_Md_settle_13]
            simp (disch := first | omega | exact Nat.le_of_ble_eq_true rfl | assumption | (simp only [Int.natCast_add, Int.natCast_mul, Int.cast_ofNat_Int]; omega) | decide) only [k_Md_settle_15, x_aload, x_getf, w_goto, w_fall, w_iconst, w_if, w_icmp, x_iinc, x_iload, x_istore, zadd_eq, gf_48_7, gf_48_46, ia_54, sa_54, ia_82, sa_82, w_nret r_Md_settle, q_eq, q_ne, q_lt, q_ge, q_gt, q_le, g_I, g_L, g_R, g_V, t_0, t_I, t_R, t_U, t_L, t_s, List.getElem?_cons_zero, List.getElem?_cons_succ, Nat.reduceAdd, zif10, zif01b, zib, if_pos, if_neg, ↓reduceIte, not_true_eq_false, not_false_eq_true, Bool.true_eq_false, Bool.false_eq_true, Classical.not_not, eq_self, and_self, and_true, true_and, Int.reduceEq, Int.reduceLE, Int.reduceLT, Int.reduceNeg, Option.toList, List.cons_append, List.nil_append, zup_s, zup_n, zst_s, zup_zs, zup_zn, decide_true, decide_false, ha]
            refine ⟨hkp G, fun h => absurd h hfl, fun _ t p ht hp => ?_⟩
            show G _ = _
            have := hG2 (4 * t + p) (by omega)
            rw [Int.natCast_add, Int.natCast_mul] at this
            exact this.trans (hK t p ht hp)
      · have hf : zStf S P mv tg gl s = n := zfst_is hlt hst hno
        have ha : ans = zset P (zCon S P mv tg (zPk S P mv n) gl s) := by rw [← hans, hf, if_pos hlt]
        simp (disch := first | omega | exact Nat.le_of_ble_eq_true rfl | assumption | (simp only [Int.natCast_add, Int.natCast_mul, Int.cast_ofNat_Int]; omega) | decide) only [k_Md_settle_9, k_Md_settle_10, x_aload, x_getf, w_goto, w_fall, w_iconst, w_if, w_icmp, x_iinc, x_iload, x_istore, zadd_eq, gf_48_7, gf_48_46, ia_54, sa_54, ia_82, sa_82, w_nret r_Md_settle, q_eq, q_ne, q_lt, q_ge, q_gt, q_le, g_I, g_L, g_R, g_V, t_0, t_I, t_R, t_U, t_L, t_s, List.getElem?_cons_zero, List.getElem?_cons_succ, Nat.reduceAdd, zif10, zif01b, zib, if_pos, if_neg, ↓reduceIte, not_true_eq_false, not_false_eq_true, Bool.true_eq_false, Bool.false_eq_true, Classical.not_not, eq_self, and_self, and_true, true_and, Int.reduceEq, Int.reduceLE, Int.reduceLT, Int.reduceNeg, Option.toList, List.cons_append, List.nil_append, zup_s, zup_n, zst_s, zup_zs, zup_zn, decide_true, decide_false, c_Md_isStable hN hR1 hG1 hK2 hch hsS, hst, c_Md_contentOf hN hR1 hG1 hK2 hch hsS, ha]
        rw [hf]
        exact ⟨hkp F, fun _ => hF, fun h => absurd hlt h⟩
    · rintro _ _ ⟨F, rfl, rfl, hlt, hF, hno⟩
      omega
theorem c_Md_settle {d mi o b9 : Nat} {es : List zEnt} {L st : List zMV} {Q : Option zMV → (Nat → Int → Int) → Prop} {x : Int} (hN : zNet S P mv tg) (hR : zNetR S P mv tg M) (hG : zGlR S P gl M) (hK : zPkR ch M) (hd : 5 + 1 ≤ d) (hc : zcats st ≤ 8) (hpost : ∀ r M', (r = some (zI (zSeA S P mv tg gl x)) ∧ zKp [54, 82] M M' ∧ (zSeF S P mv tg gl x → zPkR (zPk S P mv (zStf S P mv tg gl x.toNat)) M') ∧ (¬ zSeF S P mv tg gl x → zPkR ch M')) → zW (zSH Ln) d mi es L (r.toList ++ st) M' Q) : zW (zSH Ln) d mi ((.invokevirtual o, 253, b9) :: es) L (zI x :: zR 48 :: st) M Q :=
  w_callv (ps := [zI x]) (by omega) rfl rfl (by omega) (by exact sh_48 Ln) hc (Nat.le_of_ble_eq_true rfl) (F_Md_settle hN hR hG hK (by omega)) hpost
end RE
