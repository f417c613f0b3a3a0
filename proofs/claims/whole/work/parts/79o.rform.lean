/-! the reference's face: form -/
section RR
variable {Ln q P : Nat} {tb : Nat → Nat} {M : Nat → Int → Int}
set_option maxHeartbeats 20000000 in
theorem F_Md_form {d : Nat} (hT : zTpR q tb M) (hq : q ≤ 100) (hP : M 48 1 = P) (hP4 : P ≤ 4) (htb : ∀ j, j < q → 32 ≤ tb j ∧ tb j ≤ 126) (hrng : zRng M) (hr57 : ∀ k : Nat, k < 24 → (0 ≤ M 57 k ∧ M 57 k < 2147483648) ∧ 0 ≤ M 58 k ∧ M 58 k < 2147483648) (hd : 8 ≤ d) : zF (zSH Ln) d i_Md_form [zR 48] M fun r M' => r = some (zI (zFoR (zqT q P tb))) ∧ M' 48 24 = 0 ∧ zRng M' ∧ (∀ e, zqT q P tb = .inl e → zKp [48, 60, 61, 62, 63, 64, 65] M M' ∧ ∀ i : Int, i ≠ 15 → i ≠ 22 → i ≠ 24 → i ≠ 25 → i ≠ 26 → M' 48 i = M 48 i) ∧ ∀ l, zqT q P tb = .inr l → zKp [48, 56, 57, 58, 59, 60, 61, 62, 63, 64, 65] M M' ∧ (∀ i : Int, i ≠ 10 → i ≠ 15 → i ≠ 22 → i ≠ 24 → i ≠ 25 → i ≠ 26 → M' 48 i = M 48 i) ∧ zFormR l.length (zqd l) (zql l) (zqr l) (zqg l) M' := by
  rw [zF_en k_Md_form_0 (L := [zR 48, zU, zU]) rfl]
  have hrT := fun l => zqT_r (q := q) (P := P) (tb := tb) (l := l)
  generalize hQ : (fun r M' => r = some (zI (zFoR (zqT q P tb))) ∧ M' 48 24 = 0 ∧ zRng M' ∧ (∀ e, zqT q P tb = .inl e → zKp [48, 60, 61, 62, 63, 64, 65] M M' ∧ ∀ i : Int, i ≠ 15 → i ≠ 22 → i ≠ 24 → i ≠ 25 → i ≠ 26 → M' 48 i = M 48 i) ∧ ∀ l, zqT q P tb = .inr l → zKp [48, 56, 57, 58, 59, 60, 61, 62, 63, 64, 65] M M' ∧ (∀ i : Int, i ≠ 10 → i ≠ 15 → i ≠ 22 → i ≠ 24 → i ≠ 25 → i ≠ 26 → M' 48 i = M 48 i) ∧ zFormR l.length (zqd l) (zql l) (zqr l) (zqg l) M') = Q
  have hG := zqF_g (q := q) (P := P) (tb := tb) 25 0 0 (Nat.zero_le _) (Nat.zero_le _)
  simp (disch := first | omega | exact Nat.le_of_ble_eq_true rfl | assumption | (simp only [Int.natCast_add, Int.natCast_mul, Int.cast_ofNat_Int]; omega) | decide) only [x_aload, x_getf, w_goto, w_fall, w_iconst, w_if, w_icmp, x_iinc, x_iload, x_istore, w_isub, zsub_eq, zadd_eq, gf_48_10, gf_48_11, gf_48_12, gf_48_13, gf_48_14, gf_48_15, gf_48_16, gf_48_17, gf_48_18, gf_48_19, gf_48_22, gf_48_25, gf_48_26, xp_48_10, xp_48_15, xp_48_22, xp_48_24, xp_48_25, xp_48_26, ia_56, sa_56, ia_57, sa_57, ia_58, sa_58, ia_59, sa_59, ia_60, sa_60, ia_61, sa_61, ia_62, sa_62, ia_63, sa_63, w_nret r_Md_form, q_eq, q_ne, q_lt, q_ge, q_gt, q_le, g_I, g_L, g_R, g_V, t_0, t_I, t_R, t_U, t_L, t_s, List.getElem?_cons_zero, List.getElem?_cons_succ, Nat.reduceAdd, zif10, zif01b, zib, if_pos, if_neg, ↓reduceIte, not_true_eq_false, not_false_eq_true, Bool.true_eq_false, Bool.false_eq_true, Classical.not_not, eq_self, and_self, and_true, true_and, Int.reduceEq, Int.reduceLE, Int.reduceLT, Int.reduceNeg, Option.toList, List.cons_append, List.nil_append, zup_s, zup_n, zst_s, zup_zs, zup_zn, decide_true, decide_false]
  generalize hM0 : zup (zup (zup (zup M 48 25 0) 48 26 0) 48 15 0) 48 22 0 = M0
  have r0 : zRr M M0 := by rw [← hM0]; exact zRr_48 (zRr_48 (zRr_48 (zRr_48 (zRr_rf M) (by omega)) (by omega)) (by omega)) (by omega)
  have e0 : zEn 0 0 [] M0 := by rw [← hM0]; exact ⟨rfl, rfl, rfl, rfl, trivial, hrng⟩
  have hT0 : zTpR q tb M0 := zRr_tp hT r0
  -- a fault, as the loop stands
  have bad : ∀ (e : Nat), e ≤ q → zqT q P tb = .inl e → ∀ M1 : Nat → Int → Int, zRr M M1 → zRng M1 → M1 48 25 = (e : Int) → M1 48 26 = 1 → ∀ v1 v2, zW (zSH Ln) d i_Md_form (zblk i_Md_form 10) [zR 48, v1, v2] [] M1 Q := by
    intro e he hz M1 hr hg h25 h26 v1 v2
    have hm : zup (zup M1 48 26 1) 48 24 0 = zup M1 48 24 0 := by rw [zup_self h26]
    have hf : Q (some (zI (-20 - (e : Int)))) (zup M1 48 24 0) := by
      rw [← hQ]
      refine ⟨by rw [hz]; rfl, zup_s _ _ _ _, hg, fun e2 h2 => ⟨zKp_up (by decide) hr.1, fun i a b c f g => ?_⟩, fun l hl => by rw [hz] at hl; cases hl⟩
      rw [zup_d c]; exact hr.2 i a b f g
    rw [k_Md_form_10]
    simp (disch := first | omega | exact Nat.le_of_ble_eq_true rfl | assumption | (simp only [Int.natCast_add, Int.natCast_mul, Int.cast_ofNat_Int]; omega) | decide) only [k_Md_form_12, k_Md_form_14, k_Md_form_15, x_aload, x_getf, w_goto, w_fall, w_iconst, w_if, w_icmp, x_iinc, x_iload, x_istore, w_isub, zsub_eq, zadd_eq, gf_48_10, gf_48_11, gf_48_12, gf_48_13, gf_48_14, gf_48_15, gf_48_16, gf_48_17, gf_48_18, gf_48_19, gf_48_22, gf_48_25, gf_48_26, xp_48_10, xp_48_15, xp_48_22, xp_48_24, xp_48_25, xp_48_26, ia_56, sa_56, ia_57, sa_57, ia_58, sa_58, ia_59, sa_59, ia_60, sa_60, ia_61, sa_61, ia_62, sa_62, ia_63, sa_63, w_nret r_Md_form, q_eq, q_ne, q_lt, q_ge, q_gt, q_le, g_I, g_L, g_R, g_V, t_0, t_I, t_R, t_U, t_L, t_s, List.getElem?_cons_zero, List.getElem?_cons_succ, Nat.reduceAdd, zif10, zif01b, zib, if_pos, if_neg, ↓reduceIte, not_true_eq_false, not_false_eq_true, Bool.true_eq_false, Bool.false_eq_true, Classical.not_not, eq_self, and_self, and_true, true_and, Int.reduceEq, Int.reduceLE, Int.reduceLT, Int.reduceNeg, Option.toList, List.cons_append, List.nil_append, zup_s, zup_n, zst_s, zup_zs, zup_zn, decide_true, decide_false, h26, true_or, or_true, hm, zup_d, h25, zsub_eq]
    exact hf
  have badL : ∀ (e : Nat), e ≤ q → zqT q P tb = .inl e → ∀ M1 : Nat → Int → Int, zRr M M1 → zRng M1 → M1 48 25 = (e : Int) → M1 48 26 = 1 → ∀ more v2, zFL Ln d Q M1 more v2 := by
    intro e he hz M1 hr hg h25 h26 more v2
    have := bad e he hz M1 hr hg h25 h26 (zI more) v2
    unfold zFL
    rw [k_Md_form_1]
    by_cases c : more = 0
    · subst c
      simp (disch := first | omega | exact Nat.le_of_ble_eq_true rfl | assumption | (simp only [Int.natCast_add, Int.natCast_mul, Int.cast_ofNat_Int]; omega) | decide) only [x_aload, x_getf, w_goto, w_fall, w_iconst, w_if, w_icmp, x_iinc, x_iload, x_istore, w_isub, zsub_eq, zadd_eq, gf_48_10, gf_48_11, gf_48_12, gf_48_13, gf_48_14, gf_48_15, gf_48_16, gf_48_17, gf_48_18, gf_48_19, gf_48_22, gf_48_25, gf_48_26, xp_48_10, xp_48_15, xp_48_22, xp_48_24, xp_48_25, xp_48_26, ia_56, sa_56, ia_57, sa_57, ia_58, sa_58, ia_59, sa_59, ia_60, sa_60, ia_61, sa_61, ia_62, sa_62, ia_63, sa_63, w_nret r_Md_form, q_eq, q_ne, q_lt, q_ge, q_gt, q_le, g_I, g_L, g_R, g_V, t_0, t_I, t_R, t_U, t_L, t_s, List.getElem?_cons_zero, List.getElem?_cons_succ, Nat.reduceAdd, zif10, zif01b, zib, if_pos, if_neg, ↓reduceIte, not_true_eq_false, not_false_eq_true, Bool.true_eq_false, Bool.false_eq_true, Classical.not_not, eq_self, and_self, and_true, true_and, Int.reduceEq, Int.reduceLE, Int.reduceLT, Int.reduceNeg, Option.toList, List.cons_append, List.nil_append, zup_s, zup_n, zst_s, zup_zs, zup_zn, decide_true, decide_false]
      exact this
    · simp (disch := first | omega | exact Nat.le_of_ble_eq_true rfl | assumption | (simp only [Int.natCast_add, Int.natCast_mul, Int.cast_ofNat_Int]; omega) | decide) only [k_Md_form_2, x_aload, x_getf, w_goto, w_fall, w_iconst, w_if, w_icmp, x_iinc, x_iload, x_istore, w_isub, zsub_eq, zadd_eq, gf_48_10, gf_48_11, gf_48_12, gf_48_13, gf_48_14, gf_48_15, gf_48_16, gf_48_17, gf_48_18, gf_48_19, gf_48_22, gf_48_25, gf_48_26, xp_48_10, xp_48_15, xp_48_22, xp_48_24, xp_48_25, xp_48_26, ia_56, sa_56, ia_57, sa_57, ia_58, sa_58, ia_59, sa_59, ia_60, sa_60, ia_61, sa_61, ia_62, sa_62, ia_63, sa_63, w_nret r_Md_form, q_eq, q_ne, q_lt, q_ge, q_gt, q_le, g_I, g_L, g_R, g_V, t_0, t_I, t_R, t_U, t_L, t_s, List.getElem?_cons_zero, List.getElem?_cons_succ, Nat.reduceAdd, zif10, zif01b, zib, if_pos, if_neg, ↓reduceIte, not_true_eq_false, not_false_eq_true, Bool.true_eq_false, Bool.false_eq_true, Classical.not_not, eq_self, and_self, and_true, true_and, Int.reduceEq, Int.reduceLE, Int.reduceLT, Int.reduceNeg, Option.toList, List.cons_append, List.nil_append, zup_s, zup_n, zst_s, zup_zs, zup_zn, decide_true, decide_false, c, h26]
      exact this
  refine zsim (Ln := Ln) (q := q) (P := P) (d := d) (tb := tb) (Q := Q) (by omega) hq hP4 htb 25 0 0 [] M0 hT0 (zRr_P hP r0) e0 (Nat.zero_le _) (Nat.zero_le _) (by omega) (Nat.le_refl _) ?_ zU
  cases e1 : zqF q P tb 25 0 0 with
  | inl e =>
    rw [e1] at hG
    intro M1 a b c f more v2
    exact badL e hG (by unfold zqT; rw [e1]) M1 (zRr_tr r0 a) b c f more v2
  | inr y =>
    obtain ⟨p1, l⟩ := y
    rw [e1] at hG
    obtain ⟨_, hp1q, hl1, hl24, _⟩ := hG
    intro M1 a s en ho
    obtain ⟨h25, h26, h15, h22, _, hg⟩ := en
    have rM1 := zRr_tr r0 a
    have hT1 : zTpR q tb M1 := zRr_tp hT rM1
    have h22' : M1 48 22 = 0 := h22
    have h15' : M1 48 15 = (l.length : Int) := by rw [h15, Nat.zero_add]
    have hnp := zNp_le (tb := tb) hp1q
    intro e1' v3 v4 v5 v6
    have hfin : ∀ v2, zFL Ln d Q M1 0 v2 := by
      intro v2
      unfold zFL
      by_cases hlt : zNp q tb p1 < q
      · have hz : zqT q P tb = .inl (zNp q tb p1) := by unfold zqT; rw [e1]; show (if _ then _ else _) = _; rw [if_pos hlt]
        have hc : ¬ (zNc q tb p1 : Int) = 0 := by
          have := (zNc_0 htb p1)
          intro z
          exact absurd hlt (this.mp (by omega))
        have hb := bad (zNp q tb p1) (by omega) hz (zup (zup M1 48 25 (zNp q tb p1 : Int)) 48 26 1) (zRr_48 (zRr_48 rM1 (by omega)) (by omega)) (zRng_up (zRng_up hg (fun h => by omega)) (fun h => by omega)) rfl rfl (zI 0) v2
        rw [k_Md_form_10] at hb
        have hm : zup (zup (zup (zup M1 48 25 (zNp q tb p1 : Int)) 48 26 1) 48 26 1) 48 24 0 = zup (zup (zup M1 48 25 (zNp q tb p1 : Int)) 48 26 1) 48 24 0 := by rw [zup_up]
        rw [k_Md_form_1]
        simp (disch := first | omega | exact Nat.le_of_ble_eq_true rfl | assumption | (simp only [Int.natCast_add, Int.natCast_mul, Int.cast_ofNat_Int]; omega) | decide) only [k_Md_form_10, k_Md_form_11, k_Md_form_12, k_Md_form_14, k_Md_form_15, x_aload, x_getf, w_goto, w_fall, w_iconst, w_if, w_icmp, x_iinc, x_iload, x_istore, w_isub, zsub_eq, zadd_eq, gf_48_10, gf_48_11, gf_48_12, gf_48_13, gf_48_14, gf_48_15, gf_48_16, gf_48_17, gf_48_18, gf_48_19, gf_48_22, gf_48_25, gf_48_26, xp_48_10, xp_48_15, xp_48_22, xp_48_24, xp_48_25, xp_48_26, ia_56, sa_56, ia_57, sa_57, ia_58, sa_58, ia_59, sa_59, ia_60, sa_60, ia_61, sa_61, ia_62, sa_62, ia_63, sa_63, w_nret r_Md_form, q_eq, q_ne, q_lt, q_ge, q_gt, q_le, g_I, g_L, g_R, g_V, t_0, t_I, t_R, t_U, t_L, t_s, List.getElem?_cons_zero, List.getElem?_cons_succ, Nat.reduceAdd, zif10, zif01b, zib, if_pos, if_neg, ↓reduceIte, not_true_eq_false, not_false_eq_true, Bool.true_eq_false, Bool.false_eq_true, Classical.not_not, eq_self, and_self, and_true, true_and, Int.reduceEq, Int.reduceLE, Int.reduceLT, Int.reduceNeg, Option.toList, List.cons_append, List.nil_append, zup_s, zup_n, zst_s, zup_zs, zup_zn, decide_true, decide_false, h26, c_Md_next hT1 hq h25 hp1q, hc, true_or, or_true, zup_d, zsub_eq]
        have hf : Q (some (zI (-20 - (zNp q tb p1 : Int)))) (zup (zup (zup M1 48 25 (zNp q tb p1 : Int)) 48 26 1) 48 24 0) := by
          rw [← hQ]
          refine ⟨by rw [hz]; rfl, zup_s _ _ _ _, zRng_up (zRng_up (zRng_up hg (fun h => by omega)) (fun h => by omega)) (fun h => by omega), fun e2 h2 => ⟨zKp_up (by decide) (zKp_up (by decide) (zKp_up (by decide) rM1.1)), fun i a b c f g => ?_⟩, fun l hl => by rw [hz] at hl; cases hl⟩
          rw [zup_d c, zup_d g, zup_d f]; exact rM1.2 i a b f g
        exact hf
      · have hz : zqT q P tb = .inr l := by unfold zqT; rw [e1]; show (if _ then _ else _) = _; rw [if_neg hlt]
        have hc : (zNc q tb p1 : Int) = 0 := by
          have := (zNc_0 htb p1).mpr hlt
          omega
        have hm : zup (zup M1 48 25 (zNp q tb p1 : Int)) 48 26 0 = zup M1 48 25 (zNp q tb p1 : Int) := zup_self h26
        rw [k_Md_form_1]
        simp (disch := first | omega | exact Nat.le_of_ble_eq_true rfl | assumption | (simp only [Int.natCast_add, Int.natCast_mul, Int.cast_ofNat_Int]; omega) | decide) only [k_Md_form_10, k_Md_form_11, k_Md_form_13, k_Md_form_14, k_Md_form_16, x_aload, x_getf, w_goto, w_fall, w_iconst, w_if, w_icmp, x_iinc, x_iload, x_istore, w_isub, zsub_eq, zadd_eq, gf_48_10, gf_48_11, gf_48_12, gf_48_13, gf_48_14, gf_48_15, gf_48_16, gf_48_17, gf_48_18, gf_48_19, gf_48_22, gf_48_25, gf_48_26, xp_48_10, xp_48_15, xp_48_22, xp_48_24, xp_48_25, xp_48_26, ia_56, sa_56, ia_57, sa_57, ia_58, sa_58, ia_59, sa_59, ia_60, sa_60, ia_61, sa_61, ia_62, sa_62, ia_63, sa_63, w_nret r_Md_form, q_eq, q_ne, q_lt, q_ge, q_gt, q_le, g_I, g_L, g_R, g_V, t_0, t_I, t_R, t_U, t_L, t_s, List.getElem?_cons_zero, List.getElem?_cons_succ, Nat.reduceAdd, zif10, zif01b, zib, if_pos, if_neg, ↓reduceIte, not_true_eq_false, not_false_eq_true, Bool.true_eq_false, Bool.false_eq_true, Classical.not_not, eq_self, and_self, and_true, true_and, Int.reduceEq, Int.reduceLE, Int.reduceLT, Int.reduceNeg, Option.toList, List.cons_append, List.nil_append, zup_s, zup_n, zst_s, zup_zs, zup_zn, decide_true, decide_false, h26, c_Md_next hT1 hq h25 hp1q, hc, true_or, or_true, zup_d, zsub_eq, hm, h15']
        generalize hM5 : zup (zup (zup M1 48 25 (zNp q tb p1 : Int)) 48 24 0) 48 10 (l.length : Int) = M5
        have k5 : zKp [48] M1 M5 := by rw [← hM5]; exact zKp_up (by decide) (zKp_up (by decide) (zKp_up (by decide) (zKp_rf _ _)))
        have f5 : ∀ i : Int, i ≠ 10 → i ≠ 24 → i ≠ 25 → M5 48 i = M1 48 i := fun i a b c => by
          rw [← hM5, zup_d a, zup_d b, zup_d c]
        have f510 : M5 48 10 = (l.length : Int) := by rw [← hM5]; rfl
        have f524 : M5 48 24 = 0 := by rw [← hM5]; rfl
        refine zfor (a := 0) (N := l.length) (b := 17) (fun t L0 M0 => ∃ M2, L0 = [zR 48, zI 0, zI (t : Int)] ∧ M0 = M2 ∧ (zKp [56, 57, 58, 59] M5 M2 ∧ (∀ k : Nat, k < t → M2 56 k = M5 60 k ∧ M2 57 k = M5 61 k ∧ M2 58 k = M5 62 k ∧ M2 59 k = M5 63 k) ∧ ∀ k : Nat, t ≤ k → M2 57 k = M5 57 k ∧ M2 58 k = M5 58 k)) ?_ ?_ ?_ ?_
        · exact Nat.zero_le _
        · exact ⟨_, rfl, rfl, zKp_rf _ _, fun k hk => by omega, fun k _ => ⟨rfl, rfl⟩⟩
        · rintro t _ M2 _ ht ⟨_, rfl, rfl, hk, hrow, hold⟩ ih
          have z10 : M2 48 10 = (l.length : Int) := by rw [hk 48 (by decide)]; exact f510
          have z60 := hk 60 (by decide)
          have z61 := hk 61 (by decide)
          have z62 := hk 62 (by decide)
          have z63 := hk 63 (by decide)
          rw [k_Md_form_17]
          simp (disch := first | omega | exact Nat.le_of_ble_eq_true rfl | assumption | (simp only [Int.natCast_add, Int.natCast_mul, Int.cast_ofNat_Int]; omega) | decide) only [k_Md_form_18, x_aload, x_getf, w_goto, w_fall, w_iconst, w_if, w_icmp, x_iinc, x_iload, x_istore, w_isub, zsub_eq, zadd_eq, gf_48_10, gf_48_11, gf_48_12, gf_48_13, gf_48_14, gf_48_15, gf_48_16, gf_48_17, gf_48_18, gf_48_19, gf_48_22, gf_48_25, gf_48_26, xp_48_10, xp_48_15, xp_48_22, xp_48_24, xp_48_25, xp_48_26, ia_56, sa_56, ia_57, sa_57, ia_58, sa_58, ia_59, sa_59, ia_60, sa_60, ia_61, sa_61, ia_62, sa_62, ia_63, sa_63, w_nret r_Md_form, q_eq, q_ne, q_lt, q_ge, q_gt, q_le, g_I, g_L, g_R, g_V, t_0, t_I, t_R, t_U, t_L, t_s, List.getElem?_cons_zero, List.getElem?_cons_succ, Nat.reduceAdd, zif10, zif01b, zib, if_pos, if_neg, ↓reduceIte, not_true_eq_false, not_false_eq_true, Bool.true_eq_false, Bool.false_eq_true, Classical.not_not, eq_self, and_self, and_true, true_and, Int.reduceEq, Int.reduceLE, Int.reduceLT, Int.reduceNeg, Option.toList, List.cons_append, List.nil_append, zup_s, zup_n, zst_s, zup_zs, zup_zn, decide_true, decide_false, z10, z60, z61, z62, z63]
          refine ih _ _ ⟨_, rfl, rfl, zKp_up (by decide) (zKp_up (by decide) (zKp_up (by decide) (zKp_up (by decide) hk))), fun k h => ?_, fun k h => ?_⟩
          rotate_left
          · have := hold k (by omega)
            exact ⟨by rw [zup_n (by decide), zup_n (by decide), zup_d (by omega), zup_n (by decide)]; exact this.1, by rw [zup_n (by decide), zup_d (by omega), zup_n (by decide), zup_n (by decide)]; exact this.2⟩
          by_cases e : k = t
          · subst e
            refine ⟨?_, ?_, ?_, ?_⟩
            · rw [zup_n (by decide), zup_n (by decide), zup_n (by decide), zup_s]
            · rw [zup_n (by decide), zup_n (by decide), zup_s]
            · rw [zup_n (by decide), zup_s]
            · rw [zup_s]
          · have hrow := hrow k (by omega)
            refine ⟨?_, ?_, ?_, ?_⟩
            · rw [zup_n (by decide), zup_n (by decide), zup_n (by decide), zup_d (by omega)]; exact hrow.1
            · rw [zup_n (by decide), zup_n (by decide), zup_d (by omega), zup_n (by decide)]; exact hrow.2.1
            · rw [zup_n (by decide), zup_d (by omega), zup_n (by decide), zup_n (by decide)]; exact hrow.2.2.1
            · rw [zup_d (by omega), zup_n (by decide), zup_n (by decide), zup_n (by decide)]; exact hrow.2.2.2
        · rintro _ M2 ⟨_, rfl, rfl, hk, hrow, hold⟩
          have z10 : M2 48 10 = (l.length : Int) := by rw [hk 48 (by decide)]; exact f510
          have z48 := hk 48 (by decide)
          have hF := hrT l hz
          have hg5 : zRng M5 := by
            rw [← hM5]
            exact zRng_up (zRng_up (zRng_up hg (fun h => by omega)) (fun h => by omega)) (fun h => by omega)
          have hfr : zFormR l.length (zqd l) (zql l) (zqr l) (zqg l) M2 := by
            refine ⟨z10, fun k hk4 => ?_, fun k hk4 => ?_⟩
            · have h1 := zHoR_at l 0 k ho hk4
              rw [Nat.zero_add] at h1
              obtain ⟨b1, b2, b3, b4⟩ := hrow k hk4
              exact ⟨by rw [b1, k5 60 (by decide)]; exact h1.1, fun z => by rw [b2, k5 61 (by decide)]; exact h1.2.1 z, fun z => by rw [b3, k5 62 (by decide)]; exact h1.2.2.1 z, fun z => by rw [b4, k5 63 (by decide)]; exact h1.2.2.2 z⟩
            · by_cases e : k < l.length
              · obtain ⟨b1, b2, b3, b4⟩ := hrow k e
                rw [b2, b3]
                exact hg5 k hk4
              · obtain ⟨b1, b2⟩ := hold k (by omega)
                rw [b1, b2, k5 57 (by decide), k5 58 (by decide), rM1.1 57 (by decide), rM1.1 58 (by decide)]
                exact hr57 k hk4
          have hf : Q (some (zI (l.length : Int))) M2 := by
            rw [← hQ]
            refine ⟨by rw [hz]; rfl, by rw [z48]; exact f524, ?_, fun e2 h2 => (by rw [hz] at h2; cases h2), fun l2 hl2 => ?_⟩
            · intro k hk4
              rw [hk 61 (by decide), hk 62 (by decide)]; exact hg5 k hk4
            · rw [hz] at hl2; cases hl2
              refine ⟨zKp_tr (zKp_mo rM1.1 (by decide)) (zKp_tr (zKp_mo k5 (by decide)) (zKp_mo hk (by decide))), fun i a b c f g h => ?_, hfr⟩
              rw [z48, f5 i a f g]; exact rM1.2 i b c g h
          rw [k_Md_form_17]
          simp (disch := first | omega | exact Nat.le_of_ble_eq_true rfl | assumption | (simp only [Int.natCast_add, Int.natCast_mul, Int.cast_ofNat_Int]; omega) | decide) only [k_Md_form_19, x_aload, x_getf, w_goto, w_fall, w_iconst, w_if, w_icmp, x_iinc, x_iload, x_istore, w_isub, zsub_eq, zadd_eq, gf_48_10, gf_48_11, gf_48_12, gf_48_13, gf_48_14, gf_48_15, gf_48_16, gf_48_17, gf_48_18, gf_48_19, gf_48_22, gf_48_25, gf_48_26, xp_48_10, xp_48_15, xp_48_22, xp_48_24, xp_48_25, xp_48_26, ia_56, sa_56, ia_57, sa_57, ia_58, sa_58, ia_59, sa_59, ia_60, sa_60, ia_61, sa_61, ia_62, sa_62, ia_63, sa_63, w_nret r_Md_form, q_eq, q_ne, q_lt, q_ge, q_gt, q_le, g_I, g_L, g_R, g_V, t_0, t_I, t_R, t_U, t_L, t_s, List.getElem?_cons_zero, List.getElem?_cons_succ, Nat.reduceAdd, zif10, zif01b, zib, if_pos, if_neg, ↓reduceIte, not_true_eq_false, not_false_eq_true, Bool.true_eq_false, Bool.false_eq_true, Classical.not_not, eq_self, and_self, and_true, true_and, Int.reduceEq, Int.reduceLE, Int.reduceLT, Int.reduceNeg, Option.toList, List.cons_append, List.nil_append, zup_s, zup_n, zst_s, zup_zs, zup_zn, decide_true, decide_false, z10]
          exact hf
    have hc0 : ¬ (0 : Int) < M1 48 22 := by omega
    rw [k_Md_closes_1]
    simp (disch := first | omega | exact Nat.le_of_ble_eq_true rfl | assumption | (simp only [Int.natCast_add, Int.natCast_mul, Int.cast_ofNat_Int]; omega) | decide) only [k_Md_closes_30, x_aload, w_dupI, w_dupR, x_getf, w_goto, w_fall, w_iadd, w_iconst, w_if, w_icmp, x_iload, x_istore, w_isub, zadd_eq, zsub_eq, gf_48_16, gf_48_17, gf_48_18, gf_48_20, gf_48_21, gf_48_22, gf_48_25, gf_48_26, xp_48_22, xp_48_25, xp_48_26, ia_60, sa_60, ia_61, sa_61, ia_62, sa_62, ia_64, sa_64, ia_65, sa_65, w_vret r_Md_closes, q_eq, q_ne, q_lt, q_ge, q_gt, q_le, g_I, g_L, g_R, g_V, t_0, t_I, t_R, t_U, t_L, t_s, List.getElem?_cons_zero, List.getElem?_cons_succ, Nat.reduceAdd, zif10, zif01b, zib, if_pos, if_neg, ↓reduceIte, not_true_eq_false, not_false_eq_true, Bool.true_eq_false, Bool.false_eq_true, Classical.not_not, eq_self, and_self, and_true, true_and, Int.reduceEq, Int.reduceLE, Int.reduceLT, Int.reduceNeg, Option.toList, List.cons_append, List.nil_append, zup_s, zup_n, zst_s, zup_zs, zup_zn, decide_true, decide_false, h22']
    exact hfin
theorem c_Md_form {d mi o b9 : Nat} {es : List zEnt} {L st : List zMV} {Q : Option zMV → (Nat → Int → Int) → Prop} (hT : zTpR q tb M) (hq : q ≤ 100) (hP : M 48 1 = P) (hP4 : P ≤ 4) (htb : ∀ j, j < q → 32 ≤ tb j ∧ tb j ≤ 126) (hrng : zRng M) (hr57 : ∀ k : Nat, k < 24 → (0 ≤ M 57 k ∧ M 57 k < 2147483648) ∧ 0 ≤ M 58 k ∧ M 58 k < 2147483648) (hd : 8 + 1 ≤ d) (hc : zcats st ≤ 8) (hpost : ∀ r M', (r = some (zI (zFoR (zqT q P tb))) ∧ M' 48 24 = 0 ∧ zRng M' ∧ (∀ e, zqT q P tb = .inl e → zKp [48, 60, 61, 62, 63, 64, 65] M M' ∧ ∀ i : Int, i ≠ 15 → i ≠ 22 → i ≠ 24 → i ≠ 25 → i ≠ 26 → M' 48 i = M 48 i) ∧ ∀ l, zqT q P tb = .inr l → zKp [48, 56, 57, 58, 59, 60, 61, 62, 63, 64, 65] M M' ∧ (∀ i : Int, i ≠ 10 → i ≠ 15 → i ≠ 22 → i ≠ 24 → i ≠ 25 → i ≠ 26 → M' 48 i = M 48 i) ∧ zFormR l.length (zqd l) (zql l) (zqr l) (zqg l) M') → zW (zSH Ln) d mi es L (r.toList ++ st) M' Q) : zW (zSH Ln) d mi ((.invokevirtual o, 195, b9) :: es) L (zR 48 :: st) M Q :=
  w_callv (ps := []) (by omega) rfl rfl (by omega) (by exact sh_48 Ln) hc (Nat.le_of_ble_eq_true rfl) (F_Md_form hT hq hP hP4 htb hrng hr57 (by omega)) hpost
end RR
