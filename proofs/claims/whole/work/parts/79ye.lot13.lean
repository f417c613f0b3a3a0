/-! the reference's face: chance -/
section RE
variable {Ln S P n : Nat} {mv tg ch : Nat → Nat → Nat} {lt kd lf rt gp : Nat → Nat} {M : Nat → Int → Int} {lo : Int}
set_option maxHeartbeats 20000000 in
theorem F_Md_chance {d : Nat} {x w : Int} (hN : zNet S P mv tg) (hR : zNetR S P mv tg M) (hL : zLetR lt M) (hlt : ∀ s, lt s < 256) (hF : zForm P n kd lf rt gp) (hFR : zFormR n kd lf rt gp M) (hK : zPkR ch M) (hch : ∀ s p, ch s p < mv s p) (hlo : M 48 9 = lo) (hlr : -1 ≤ lo ∧ lo < P) (hd : 8 ≤ d) : zF (zSH Ln) d i_Md_chance [zR 48, zI x, zI w] M fun r M' => r = some (zL (zChA S (zMx S mv tg P ch lo (zHp mv tg P lt kd lf rt gp 0)) x w)) ∧ zScrR M M' := by
  rw [zF_en k_Md_chance_0 (L := [zR 48, zI x, zI w, zU, zU, zU]) rfl]
  have hn := hF.1
  have hS := hN.2.1
  generalize hans : zChA S (zMx S mv tg P ch lo (zHp mv tg P lt kd lf rt gp 0)) x w = ans
  unfold zChA at hans
  by_cases c1 : 0 ≤ x ∧ x < S
  rotate_left
  · rw [if_neg (fun h => c1 h.1)] at hans
    subst hans
    simp (disch := first | omega | exact Nat.le_of_ble_eq_true rfl | assumption | (simp only [Int.natCast_add, Int.natCast_mul, Int.cast_ofNat_Int]; omega) | decide) only [k_Md_chance_2, x_aload, x_getf, w_goto, w_fall, w_i2l, w_iadd, w_iconst, w_if, x_iload, w_imul, x_istore, w_lcmp, w_ldiv, x_lload, x_lstore2, List.length_cons, List.length_nil, List.set_cons_succ, List.set_cons_zero, Nat.reduceLT, Nat.zero_add, w_lsub, w_sipush, zadd_eq, zmul_eq, gf_48_43, gf_48_44, gf_48_45, xp_48_44, xp_48_45, ia_81, w_jret r_Md_chance, q_eq, q_ne, q_lt, q_ge, q_gt, q_le, g_I, g_L, g_R, g_V, t_0, t_I, t_R, t_U, t_L, t_s, List.getElem?_cons_zero, List.getElem?_cons_succ, Nat.reduceAdd, zif10, zif01b, zib, if_pos, if_neg, ↓reduceIte, not_true_eq_false, not_false_eq_true, Bool.true_eq_false, Bool.false_eq_true, Classical.not_not, eq_self, and_self, and_true, true_and, Int.reduceEq, Int.reduceLE, Int.reduceLT, Int.reduceNeg, Option.toList, List.cons_append, List.nil_append, zup_s, zup_n, zst_s, zup_zs, zup_zn, decide_true, decide_false, c_Md_isState hN hR, c1]
    exact zScrR_rf _
  by_cases c2 : 0 ≤ w ∧ w ≤ 1
  rotate_left
  · rw [if_neg (fun h => c2 h.2)] at hans
    subst hans
    simp (disch := first | omega | exact Nat.le_of_ble_eq_true rfl | assumption | (simp only [Int.natCast_add, Int.natCast_mul, Int.cast_ofNat_Int]; omega) | decide) only [k_Md_chance_1, k_Md_chance_2, x_aload, x_getf, w_goto, w_fall, w_i2l, w_iadd, w_iconst, w_if, x_iload, w_imul, x_istore, w_lcmp, w_ldiv, x_lload, x_lstore2, List.length_cons, List.length_nil, List.set_cons_succ, List.set_cons_zero, Nat.reduceLT, Nat.zero_add, w_lsub, w_sipush, zadd_eq, zmul_eq, gf_48_43, gf_48_44, gf_48_45, xp_48_44, xp_48_45, ia_81, w_jret r_Md_chance, q_eq, q_ne, q_lt, q_ge, q_gt, q_le, g_I, g_L, g_R, g_V, t_0, t_I, t_R, t_U, t_L, t_s, List.getElem?_cons_zero, List.getElem?_cons_succ, Nat.reduceAdd, zif10, zif01b, zib, if_pos, if_neg, ↓reduceIte, not_true_eq_false, not_false_eq_true, Bool.true_eq_false, Bool.false_eq_true, Classical.not_not, eq_self, and_self, and_true, true_and, Int.reduceEq, Int.reduceLE, Int.reduceLT, Int.reduceNeg, Option.toList, List.cons_append, List.nil_append, zup_s, zup_n, zst_s, zup_zs, zup_zn, decide_true, decide_false, c_Md_isState hN hR, c1, c_Md_in, c2]
    exact zScrR_rf _
  rw [if_pos ⟨c1, c2⟩] at hans
  obtain ⟨s, rfl⟩ : ∃ s : Nat, x = (s : Int) := ⟨x.toNat, by omega⟩
  rw [Int.toNat_natCast] at hans
  have hs : s < S := by omega
  generalize hX : zHp mv tg P lt kd lf rt gp 0 = X at *
  have h0 := zMx_sg (lo := lo) (X := X) hN hch
  obtain ⟨q1, q2, q3, q4, q5⟩ := zCh_b h0 hS hs
  have hz : ∀ i j, i < S → S ≤ j → j < 12 → zMx S mv tg P ch lo X i j = 0 := fun i j hi hj hj2 => by
    have hc0 : zKc mv tg P ch lo i j = 0 := by
      rcases Nat.eq_zero_or_pos (zKc mv tg P ch lo i j) with h | h
      · exact h
      · have h : 0 < zKc mv tg P ch lo i j := h
        unfold zKc at h
        rw [zcard_pos, zan_iff] at h
        obtain ⟨k, hk, h2⟩ := h
        rw [decide_eq_true_eq] at h2
        have := zLt_lt (lo := lo) hN hch hi hk
        omega
    unfold zMx zAm
    split
    · rw [if_neg (by omega), if_neg (by omega)]
    · rw [if_neg (by omega), if_neg (by omega), hc0]; rfl
  simp (disch := first | omega | exact Nat.le_of_ble_eq_true rfl | assumption | (simp only [Int.natCast_add, Int.natCast_mul, Int.cast_ofNat_Int]; omega) | decide) only [k_Md_chance_1, k_Md_chance_3, x_aload, x_getf, w_goto, w_fall, w_i2l, w_iadd, w_iconst, w_if, x_iload, w_imul, x_istore, w_lcmp, w_ldiv, x_lload, x_lstore2, List.length_cons, List.length_nil, List.set_cons_succ, List.set_cons_zero, Nat.reduceLT, Nat.zero_add, w_lsub, w_sipush, zadd_eq, zmul_eq, gf_48_43, gf_48_44, gf_48_45, xp_48_44, xp_48_45, ia_81, w_jret r_Md_chance, q_eq, q_ne, q_lt, q_ge, q_gt, q_le, g_I, g_L, g_R, g_V, t_0, t_I, t_R, t_U, t_L, t_s, List.getElem?_cons_zero, List.getElem?_cons_succ, Nat.reduceAdd, zif10, zif01b, zib, if_pos, if_neg, ↓reduceIte, not_true_eq_false, not_false_eq_true, Bool.true_eq_false, Bool.false_eq_true, Classical.not_not, eq_self, and_self, and_true, true_and, Int.reduceEq, Int.reduceLE, Int.reduceLT, Int.reduceNeg, Option.toList, List.cons_append, List.nil_append, zup_s, zup_n, zst_s, zup_zs, zup_zn, decide_true, decide_false, c_Md_isState hN hR, c1, c_Md_in, c2]
  refine c_Md_tell hN hR hL hlt hF hFR (by omega) (Nat.le_of_ble_eq_true rfl) ?_
  rintro _ _ ⟨rfl, H, R, rfl, _⟩
  rw [hX]
  have hR1 : zNetR S P mv tg (zst (zst M 67 H) 68 R) := hR
  have hK1 : zPkR ch (zst (zst M 67 H) 68 R) := hK
  have hlo1 : zst (zst M 67 H) 68 R 48 9 = lo := hlo
  simp (disch := first | omega | exact Nat.le_of_ble_eq_true rfl | assumption | (simp only [Int.natCast_add, Int.natCast_mul, Int.cast_ofNat_Int]; omega) | decide) only [x_aload, x_getf, w_goto, w_fall, w_i2l, w_iadd, w_iconst, w_if, x_iload, w_imul, x_istore, w_lcmp, w_ldiv, x_lload, x_lstore2, List.length_cons, List.length_nil, List.set_cons_succ, List.set_cons_zero, Nat.reduceLT, Nat.zero_add, w_lsub, w_sipush, zadd_eq, zmul_eq, gf_48_43, gf_48_44, gf_48_45, xp_48_44, xp_48_45, ia_81, w_jret r_Md_chance, q_eq, q_ne, q_lt, q_ge, q_gt, q_le, g_I, g_L, g_R, g_V, t_0, t_I, t_R, t_U, t_L, t_s, List.getElem?_cons_zero, List.getElem?_cons_succ, Nat.reduceAdd, zif10, zif01b, zib, if_pos, if_neg, ↓reduceIte, not_true_eq_false, not_false_eq_true, Bool.true_eq_false, Bool.false_eq_true, Classical.not_not, eq_self, and_self, and_true, true_and, Int.reduceEq, Int.reduceLE, Int.reduceLT, Int.reduceNeg, Option.toList, List.cons_append, List.nil_append, zup_s, zup_n, zst_s, zup_zs, zup_zn, decide_true, decide_false, c_Md_coming hN hR1 hK1 hch hlo1 hlr]
  refine c_Md_equations (X := X) (Y := zRc S (zEc (zKc mv tg P ch lo)) X 12) hN hR1 hK1 hch hlo1 hlr (by omega) (Nat.le_of_ble_eq_true rfl) ?_
  rintro _ _ ⟨rfl, F, rfl, hF⟩
  have hM : zMx S mv tg P ch lo X = zAm (zKc mv tg P ch lo) (zLm mv lo) X (zRc S (zEc (zKc mv tg P ch lo)) X 12) := rfl
  rw [← hM] at hF
  generalize zMx S mv tg P ch lo X = A at *
  simp (disch := first | omega | exact Nat.le_of_ble_eq_true rfl | assumption | (simp only [Int.natCast_add, Int.natCast_mul, Int.cast_ofNat_Int]; omega) | decide) only [x_aload, x_getf, w_goto, w_fall, w_i2l, w_iadd, w_iconst, w_if, x_iload, w_imul, x_istore, w_lcmp, w_ldiv, x_lload, x_lstore2, List.length_cons, List.length_nil, List.set_cons_succ, List.set_cons_zero, Nat.reduceLT, Nat.zero_add, w_lsub, w_sipush, zadd_eq, zmul_eq, gf_48_43, gf_48_44, gf_48_45, xp_48_44, xp_48_45, ia_81, w_jret r_Md_chance, q_eq, q_ne, q_lt, q_ge, q_gt, q_le, g_I, g_L, g_R, g_V, t_0, t_I, t_R, t_U, t_L, t_s, List.getElem?_cons_zero, List.getElem?_cons_succ, Nat.reduceAdd, zif10, zif01b, zib, if_pos, if_neg, ↓reduceIte, not_true_eq_false, not_false_eq_true, Bool.true_eq_false, Bool.false_eq_true, Classical.not_not, eq_self, and_self, and_true, true_and, Int.reduceEq, Int.reduceLE, Int.reduceLT, Int.reduceNeg, Option.toList, List.cons_append, List.nil_append, zup_s, zup_n, zst_s, zup_zs, zup_zn, decide_true, decide_false]
  refine c_Md_solve (S := S) (A := A) hS hR.1 h0 hz (fun i j hi hj => hF i j hi hj) (by omega) (Nat.le_of_ble_eq_true rfl) ?_
  rintro _ _ ⟨rfl, F2, rfl, hF2⟩
  rw [zst_zst]
  obtain ⟨⟨al, be, ha, hb, hr⟩, hbd⟩ := hF2 s hs
  have r12 : (al : Int) * F2 (13 * (s : Int) + 12) = (be : Int) * (zChN S A s : Int) := by rw [q1]; exact hr 12 (by omega)
  have rss : (al : Int) * F2 (13 * (s : Int) + s) = (be : Int) * (zChD S A s : Int) := by rw [q2]; exact hr s (by omega)
  have b12 : -531441 ≤ F2 (13 * (s : Int) + 12) ∧ F2 (13 * (s : Int) + 12) ≤ 531441 := hbd 12 (by omega)
  have bss : -531441 ≤ F2 (13 * (s : Int) + s) ∧ F2 (13 * (s : Int) + s) ≤ 531441 := hbd s (by omega)
  generalize hv12 : F2 (13 * (s : Int) + 12) = v12 at *
  generalize hvss : F2 (13 * (s : Int) + s) = vss at *
  have p12 : 0 ≤ v12 := by
    rcases Int.lt_or_le v12 0 with h | h
    · have h1 := Int.mul_neg_of_pos_of_neg (show (0 : Int) < (al : Int) by omega) h
      have h2 := Int.mul_nonneg (show (0 : Int) ≤ (be : Int) by omega) (show (0 : Int) ≤ (zChN S A s : Int) by omega)
      omega
    · exact h
  have pss : 0 ≤ vss := by
    rcases Int.lt_or_le vss 0 with h | h
    · have h1 := Int.mul_neg_of_pos_of_neg (show (0 : Int) < (al : Int) by omega) h
      have h2 := Int.mul_nonneg (show (0 : Int) ≤ (be : Int) by omega) (show (0 : Int) ≤ (zChD S A s : Int) by omega)
      omega
    · exact h
  obtain ⟨a, rfl⟩ : ∃ a : Nat, v12 = (a : Int) := ⟨v12.toNat, by omega⟩
  obtain ⟨b, rfl⟩ : ∃ b : Nat, vss = (b : Int) := ⟨vss.toNat, by omega⟩
  obtain ⟨f1, f2, f3⟩ := zfrac (a := a) (b := b) (n := zChN S A s) (m := zChD S A s) ha hb q3 (by
    have := r12
    rw [← Int.natCast_mul, ← Int.natCast_mul] at this
    omega) (by
    have := rss
    rw [← Int.natCast_mul, ← Int.natCast_mul] at this
    omega)
  have hg1 : 0 < Nat.gcd a b := Nat.gcd_pos_of_pos_right _ f3
  have hgle : Nat.gcd a b ≤ b := Nat.gcd_le_right _ f3
  have na : (a : Int).natAbs = a := Int.natAbs_natCast _
  have nb : (b : Int).natAbs = b := Int.natAbs_natCast _
  have hlc : 0 ≤ zlcmp (b : Int) 0 := by
    unfold zlcmp; rw [if_neg (by omega)]; split <;> omega
  have d1 := zldiv_nat (a := a) (d := Nat.gcd a b) (by omega) (by omega)
  have d2 := zldiv_nat (a := b) (d := Nat.gcd a b) (by omega) (by omega)
  have hg0 : ¬ ((Nat.gcd a b : Nat) : Int) = 0 := by omega
  have hcm := fun {d2 mi o b9 : Nat} {es : List zEnt} {L st : List zMV} {Q2 : Option zMV → (Nat → Int → Int) → Prop} {M2 : Nat → Int → Int} (h1 : 0 + 1 ≤ d2) (h2 : zcats st ≤ 8) => c_Md_common (Ln := Ln) (d := d2) (mi := mi) (o := o) (b9 := b9) (es := es) (L := L) (st := st) (Q := Q2) (M := M2) (a := (a : Int)) (b := (b : Int)) (by omega) (by omega) h1 h2
  rw [na, nb] at hcm
  have hsc : zScrR M (zst (zst (zst (zup (zup M 48 44 (a : Int)) 48 45 (b : Int)) 67 H) 68 R) 81 F2) := by
    refine ⟨zKp_st (by decide) (zKp_st (by decide) (zKp_st (by decide) (zKp_up (by decide) (zKp_up (by decide) (zKp_rf _ _))))), fun i _ _ _ _ _ h6 h7 => ?_⟩
    rw [zst_n (by decide), zst_n (by decide), zst_n (by decide), zup_d h7, zup_d h6]
  have e44 : ∀ v, zup (zup M 48 44 (a : Int)) 48 45 v 48 44 = (a : Int) := fun v => by rw [zup_d (by omega), zup_s]
  by_cases c0 : w = 0
  · rw [if_pos c0, ← f1] at hans
    simp (disch := first | omega | exact Nat.le_of_ble_eq_true rfl | assumption | (simp only [Int.natCast_add, Int.natCast_mul, Int.cast_ofNat_Int]; omega) | decide) only [k_Md_chance_5, k_Md_chance_6, k_Md_chance_7, k_Md_chance_9, x_aload, x_getf, w_goto, w_fall, w_i2l, w_iadd, w_iconst, w_if, x_iload, w_imul, x_istore, w_lcmp, w_ldiv, x_lload, x_lstore2, List.length_cons, List.length_nil, List.set_cons_succ, List.set_cons_zero, Nat.reduceLT, Nat.zero_add, w_lsub, w_sipush, zadd_eq, zmul_eq, gf_48_43, gf_48_44, gf_48_45, xp_48_44, xp_48_45, ia_81, w_jret r_Md_chance, q_eq, q_ne, q_lt, q_ge, q_gt, q_le, g_I, g_L, g_R, g_V, t_0, t_I, t_R, t_U, t_L, t_s, List.getElem?_cons_zero, List.getElem?_cons_succ, Nat.reduceAdd, zif10, zif01b, zib, if_pos, if_neg, ↓reduceIte, not_true_eq_false, not_false_eq_true, Bool.true_eq_false, Bool.false_eq_true, Classical.not_not, eq_self, and_self, and_true, true_and, Int.reduceEq, Int.reduceLE, Int.reduceLT, Int.reduceNeg, Option.toList, List.cons_append, List.nil_append, zup_s, zup_n, zst_s, zup_zs, zup_zn, decide_true, decide_false, zst_s, zst_n, hv12, hvss, zup_d, hcm, hlc, c0, d1, d2, w_ldiv hg0, hans]
    exact hsc
  · rw [if_neg c0, ← f2] at hans
    simp (disch := first | omega | exact Nat.le_of_ble_eq_true rfl | assumption | (simp only [Int.natCast_add, Int.natCast_mul, Int.cast_ofNat_Int]; omega) | decide) only [k_Md_chance_5, k_Md_chance_6, k_Md_chance_8, k_Md_chance_9, x_aload, x_getf, w_goto, w_fall, w_i2l, w_iadd, w_iconst, w_if, x_iload, w_imul, x_istore, w_lcmp, w_ldiv, x_lload, x_lstore2, List.length_cons, List.length_nil, List.set_cons_succ, List.set_cons_zero, Nat.reduceLT, Nat.zero_add, w_lsub, w_sipush, zadd_eq, zmul_eq, gf_48_43, gf_48_44, gf_48_45, xp_48_44, xp_48_45, ia_81, w_jret r_Md_chance, q_eq, q_ne, q_lt, q_ge, q_gt, q_le, g_I, g_L, g_R, g_V, t_0, t_I, t_R, t_U, t_L, t_s, List.getElem?_cons_zero, List.getElem?_cons_succ, Nat.reduceAdd, zif10, zif01b, zib, if_pos, if_neg, ↓reduceIte, not_true_eq_false, not_false_eq_true, Bool.true_eq_false, Bool.false_eq_true, Classical.not_not, eq_self, and_self, and_true, true_and, Int.reduceEq, Int.reduceLE, Int.reduceLT, Int.reduceNeg, Option.toList, List.cons_append, List.nil_append, zup_s, zup_n, zst_s, zup_zs, zup_zn, decide_true, decide_false, zst_s, zst_n, hv12, hvss, zup_d, hcm, hlc, c0, d1, d2, w_ldiv hg0, hans]
    exact hsc
theorem c_Md_chance {d mi o b9 : Nat} {es : List zEnt} {L st : List zMV} {Q : Option zMV → (Nat → Int → Int) → Prop} {x w : Int} (hN : zNet S P mv tg) (hR : zNetR S P mv tg M) (hL : zLetR lt M) (hlt : ∀ s, lt s < 256) (hF : zForm P n kd lf rt gp) (hFR : zFormR n kd lf rt gp M) (hK : zPkR ch M) (hch : ∀ s p, ch s p < mv s p) (hlo : M 48 9 = lo) (hlr : -1 ≤ lo ∧ lo < P) (hd : 8 + 1 ≤ d) (hc : zcats st ≤ 8) (hpost : ∀ r M', (r = some (zL (zChA S (zMx S mv tg P ch lo (zHp mv tg P lt kd lf rt gp 0)) x w)) ∧ zScrR M M') → zW (zSH Ln) d mi es L (r.toList ++ st) M' Q) : zW (zSH Ln) d mi ((.invokevirtual o, 243, b9) :: es) L (zI w :: zI x :: zR 48 :: st) M Q :=
  w_callv (ps := [zI x, zI w]) (by omega) rfl rfl (by omega) (by exact sh_48 Ln) hc (Nat.le_of_ble_eq_true rfl) (F_Md_chance hN hR hL hlt hF hFR hK hch hlo hlr (by omega)) hpost
end RE
