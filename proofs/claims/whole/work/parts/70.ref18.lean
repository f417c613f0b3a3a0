/-! the reference's face: blind, the trail, sheets -/
def zTraR (n : Nat) (tr : Nat → Nat) (M : Nat → Int → Int) : Prop := M 48 31 = n ∧ ∀ k : Nat, k < n → M 71 (k : Int) = tr k
def zShR (ln : Nat → Int) (sz : Nat → Nat) (it : Int → Int) (M : Nat → Int → Int) : Prop := (∀ k : Nat, k < 4 → M 72 (k : Int) = ln k ∧ M 73 (k : Int) = sz k) ∧ ∀ x : Int, 0 ≤ x → x < 324 → M 74 x = it x
/-- what a place of a sheet answers to a reader -/
def zWrg (ln : Nat → Int) (sz : Nat → Nat) (k : Nat) (l i n : Int) : Int := if ln k = -1 then -11 else if ln k = l then (if 0 ≤ i ∧ i + n ≤ sz k then 0 else -13) else -12
theorem zWrg_v {ln : Nat → Int} {sz : Nat → Nat} {k : Nat} {l i n : Int} : zWrg ln sz k l i n = 0 ∨ zWrg ln sz k l i n < 0 := by
  unfold zWrg; (repeat' split) <;> omega
theorem zWrg_0 {ln : Nat → Int} {sz : Nat → Nat} {k : Nat} {l i n : Int} (h : zWrg ln sz k l i n = 0) : ln k = l ∧ 0 ≤ i ∧ i + n ≤ sz k := by
  unfold zWrg at h
  split at h
  · omega
  · split at h
    · split at h
      · exact ⟨by assumption, by omega, by omega⟩
      · omega
    · omega
theorem zladd_eq {x y : Int} (h1 : -9223372036854775808 ≤ x + y) (h2 : x + y < 9223372036854775808) : zladd x y = x + y := by
  unfold zladd
  rw [← Int64.ofInt_add, ztoL ⟨h1, h2⟩]
section RE
variable {Ln S P n : Nat} {mv tg hp : Nat → Nat → Nat} {lt kd lf rt gp : Nat → Nat} {M : Nat → Int → Int} {ln : Nat → Int} {sz : Nat → Nat} {it : Int → Int}
theorem zScrR_sk {M' : Nat → Int → Int} (h : zKp [48, 67, 68, 76, 77, 78, 79, 80] M M') (h2 : ∀ i : Int, i ≠ 41 → M' 48 i = M 48 i) : zScrR M M' := ⟨zKp_mo h (by decide), fun i _ _ _ _ h5 _ _ => h2 i h5⟩
theorem F_Md_blind {d : Nat} {x : Int} (hN : zNet S P mv tg) (hR : zNetR S P mv tg M) (hL : zLetR lt M) (hlt : ∀ s, lt s < 256) (hF : zForm P n kd lf rt gp) (hFR : zFormR n kd lf rt gp M) (hH : zHpR hp M) (hhp : ∀ p s, hp p s < 12) (hd : 9 ≤ d) : zF (zSH Ln) d i_Md_blind [zR 48, zI x] M fun r M' => r = some (zI (zBlA S P mv tg hp lt kd lf rt gp x)) ∧ zScrR M M' := by
  rw [zF_en k_Md_blind_0 (L := [zR 48, zI x]) rfl]
  generalize hans : zBlA S P mv tg hp lt kd lf rt gp x = ans
  unfold zBlA at hans
  by_cases c1 : 0 ≤ x ∧ x < S
  rotate_left
  · rw [if_neg c1] at hans
    subst hans
    simp (disch := first | omega | exact Nat.le_of_ble_eq_true rfl | assumption | (simp only [Int.natCast_add, Int.natCast_mul, Int.cast_ofNat_Int]; omega) | decide) only [k_Md_blind_1, x_aload, w_goto, w_fall, w_iconst, w_if, x_iload, w_nret r_Md_blind, q_eq, q_ne, q_lt, q_ge, q_gt, q_le, g_I, g_L, g_R, g_V, t_0, t_I, t_R, t_U, t_L, t_s, List.getElem?_cons_zero, List.getElem?_cons_succ, Nat.reduceAdd, zif10, zif01b, zib, if_pos, if_neg, ↓reduceIte, not_true_eq_false, not_false_eq_true, Bool.true_eq_false, Bool.false_eq_true, Classical.not_not, eq_self, and_self, and_true, true_and, Int.reduceEq, Int.reduceLE, Int.reduceLT, Int.reduceNeg, Option.toList, List.cons_append, List.nil_append, zup_s, zup_n, zst_s, zup_zs, zup_zn, decide_true, decide_false, c_Md_isState hN hR, c1]
    exact zScrR_rf _
  rw [if_pos c1] at hans
  obtain ⟨s, rfl⟩ : ∃ s : Nat, x = (s : Int) := ⟨x.toNat, by omega⟩
  rw [Int.toNat_natCast] at hans
  by_cases c2 : 5 ≤ kd 0
  rotate_left
  · rw [if_neg c2] at hans
    subst hans
    simp (disch := first | omega | exact Nat.le_of_ble_eq_true rfl | assumption | (simp only [Int.natCast_add, Int.natCast_mul, Int.cast_ofNat_Int]; omega) | decide) only [k_Md_blind_2, k_Md_blind_4, k_Md_blind_5, x_aload, w_goto, w_fall, w_iconst, w_if, x_iload, w_nret r_Md_blind, q_eq, q_ne, q_lt, q_ge, q_gt, q_le, g_I, g_L, g_R, g_V, t_0, t_I, t_R, t_U, t_L, t_s, List.getElem?_cons_zero, List.getElem?_cons_succ, Nat.reduceAdd, zif10, zif01b, zib, if_pos, if_neg, ↓reduceIte, not_true_eq_false, not_false_eq_true, Bool.true_eq_false, Bool.false_eq_true, Classical.not_not, eq_self, and_self, and_true, true_and, Int.reduceEq, Int.reduceLE, Int.reduceLT, Int.reduceNeg, Option.toList, List.cons_append, List.nil_append, zup_s, zup_n, zst_s, zup_zs, zup_zn, decide_true, decide_false, c_Md_isState hN hR, c1, c_Md_isOfGroup hF hFR, c2]
    exact zScrR_rf _
  rw [if_pos c2] at hans
  simp (disch := first | omega | exact Nat.le_of_ble_eq_true rfl | assumption | (simp only [Int.natCast_add, Int.natCast_mul, Int.cast_ofNat_Int]; omega) | decide) only [k_Md_blind_2, k_Md_blind_3, x_aload, w_goto, w_fall, w_iconst, w_if, x_iload, w_nret r_Md_blind, q_eq, q_ne, q_lt, q_ge, q_gt, q_le, g_I, g_L, g_R, g_V, t_0, t_I, t_R, t_U, t_L, t_s, List.getElem?_cons_zero, List.getElem?_cons_succ, Nat.reduceAdd, zif10, zif01b, zib, if_pos, if_neg, ↓reduceIte, not_true_eq_false, not_false_eq_true, Bool.true_eq_false, Bool.false_eq_true, Classical.not_not, eq_self, and_self, and_true, true_and, Int.reduceEq, Int.reduceLE, Int.reduceLT, Int.reduceNeg, Option.toList, List.cons_append, List.nil_append, zup_s, zup_n, zst_s, zup_zs, zup_zn, decide_true, decide_false, c_Md_isState hN hR, c1, c_Md_isOfGroup hF hFR, c2]
  refine c_Md_seeks hN hR hL hlt hF hFR hH hhp c2 (show s < S by omega) rfl rfl (by omega) (Nat.le_of_ble_eq_true rfl) ?_
  rintro _ M1 ⟨rfl, hk, h48, _⟩
  rw [hans]
  simp (disch := first | omega | exact Nat.le_of_ble_eq_true rfl | assumption | (simp only [Int.natCast_add, Int.natCast_mul, Int.cast_ofNat_Int]; omega) | decide) only [k_Md_blind_5, x_aload, w_goto, w_fall, w_iconst, w_if, x_iload, w_nret r_Md_blind, q_eq, q_ne, q_lt, q_ge, q_gt, q_le, g_I, g_L, g_R, g_V, t_0, t_I, t_R, t_U, t_L, t_s, List.getElem?_cons_zero, List.getElem?_cons_succ, Nat.reduceAdd, zif10, zif01b, zib, if_pos, if_neg, ↓reduceIte, not_true_eq_false, not_false_eq_true, Bool.true_eq_false, Bool.false_eq_true, Classical.not_not, eq_self, and_self, and_true, true_and, Int.reduceEq, Int.reduceLE, Int.reduceLT, Int.reduceNeg, Option.toList, List.cons_append, List.nil_append, zup_s, zup_n, zst_s, zup_zs, zup_zn, decide_true, decide_false]
  exact zScrR_sk hk h48
theorem c_Md_blind {d mi o b9 : Nat} {es : List zEnt} {L st : List zMV} {Q : Option zMV → (Nat → Int → Int) → Prop} {x : Int} (hN : zNet S P mv tg) (hR : zNetR S P mv tg M) (hL : zLetR lt M) (hlt : ∀ s, lt s < 256) (hF : zForm P n kd lf rt gp) (hFR : zFormR n kd lf rt gp M) (hH : zHpR hp M) (hhp : ∀ p s, hp p s < 12) (hd : 9 + 1 ≤ d) (hc : zcats st ≤ 8) (hpost : ∀ r M', (r = some (zI (zBlA S P mv tg hp lt kd lf rt gp x)) ∧ zScrR M M') → zW (zSH Ln) d mi es L (r.toList ++ st) M' Q) : zW (zSH Ln) d mi ((.invokevirtual o, 231, b9) :: es) L (zI x :: zR 48 :: st) M Q :=
  w_callv (ps := [zI x]) (by omega) rfl rfl (by omega) (by exact sh_48 Ln) hc (Nat.le_of_ble_eq_true rfl) (F_Md_blind hN hR hL hlt hF hFR hH hhp (by omega)) hpost
theorem F_Md_blindMove {d : Nat} {x y h : Int} (hN : zNet S P mv tg) (hR : zNetR S P mv tg M) (hL : zLetR lt M) (hlt : ∀ s, lt s < 256) (hF : zForm P n kd lf rt gp) (hFR : zFormR n kd lf rt gp M) (hH : zHpR hp M) (hhp : ∀ p s, hp p s < 12) (hd : 9 ≤ d) : zF (zSH Ln) d i_Md_blindMove [zR 48, zI x, zI y, zI h] M fun r M' => r = some (zI (zBmA S P mv tg hp lt kd lf rt gp x y h)) ∧ zScrR M M' := by
  rw [zF_en k_Md_blindMove_0 (L := [zR 48, zI x, zI y, zI h, zU]) rfl]
  have hn := hF.1
  have hS := hN.2.1
  have hP4 := hN.2.2.2.1
  generalize hans : zBmA S P mv tg hp lt kd lf rt gp x y h = ans
  unfold zBmA at hans
  by_cases c1 : (0 ≤ x ∧ x < S) ∧ (0 ≤ y ∧ y < P) ∧ 0 ≤ h ∧ h < 12
  rotate_left
  · rw [if_neg c1] at hans
    subst hans
    by_cases c2 : 0 ≤ x ∧ x < S
    · by_cases c3 : 0 ≤ y ∧ y < P
      · have c4 : ¬ (0 ≤ h ∧ h ≤ 11) := fun z => c1 ⟨c2, c3, z.1, by omega⟩
        simp (disch := first | omega | exact Nat.le_of_ble_eq_true rfl | assumption | (simp only [Int.natCast_add, Int.natCast_mul, Int.cast_ofNat_Int]; omega) | decide) only [k_Md_blindMove_1, k_Md_blindMove_2, k_Md_blindMove_3, x_aload, x_getf, w_goto, w_fall, w_i2l, w_iand, w_iconst, w_if, x_iload, w_ishr, x_istore, w_sipush, gf_48_14, gf_48_40, ia_59, ia_79, w_nret r_Md_blindMove, q_eq, q_ne, q_lt, q_ge, q_gt, q_le, g_I, g_L, g_R, g_V, t_0, t_I, t_R, t_U, t_L, t_s, List.getElem?_cons_zero, List.getElem?_cons_succ, Nat.reduceAdd, zif10, zif01b, zib, if_pos, if_neg, ↓reduceIte, not_true_eq_false, not_false_eq_true, Bool.true_eq_false, Bool.false_eq_true, Classical.not_not, eq_self, and_self, and_true, true_and, Int.reduceEq, Int.reduceLE, Int.reduceLT, Int.reduceNeg, Option.toList, List.cons_append, List.nil_append, zup_s, zup_n, zst_s, zup_zs, zup_zn, decide_true, decide_false, c_Md_isState hN hR, c2, c_Md_isPlayer hN hR, c3, c_Md_in, c4]
        exact zScrR_rf _
      · simp (disch := first | omega | exact Nat.le_of_ble_eq_true rfl | assumption | (simp only [Int.natCast_add, Int.natCast_mul, Int.cast_ofNat_Int]; omega) | decide) only [k_Md_blindMove_1, k_Md_blindMove_3, x_aload, x_getf, w_goto, w_fall, w_i2l, w_iand, w_iconst, w_if, x_iload, w_ishr, x_istore, w_sipush, gf_48_14, gf_48_40, ia_59, ia_79, w_nret r_Md_blindMove, q_eq, q_ne, q_lt, q_ge, q_gt, q_le, g_I, g_L, g_R, g_V, t_0, t_I, t_R, t_U, t_L, t_s, List.getElem?_cons_zero, List.getElem?_cons_succ, Nat.reduceAdd, zif10, zif01b, zib, if_pos, if_neg, ↓reduceIte, not_true_eq_false, not_false_eq_true, Bool.true_eq_false, Bool.false_eq_true, Classical.not_not, eq_self, and_self, and_true, true_and, Int.reduceEq, Int.reduceLE, Int.reduceLT, Int.reduceNeg, Option.toList, List.cons_append, List.nil_append, zup_s, zup_n, zst_s, zup_zs, zup_zn, decide_true, decide_false, c_Md_isState hN hR, c2, c_Md_isPlayer hN hR, c3]
        exact zScrR_rf _
    · simp (disch := first | omega | exact Nat.le_of_ble_eq_true rfl | assumption | (simp only [Int.natCast_add, Int.natCast_mul, Int.cast_ofNat_Int]; omega) | decide) only [k_Md_blindMove_3, x_aload, x_getf, w_goto, w_fall, w_i2l, w_iand, w_iconst, w_if, x_iload, w_ishr, x_istore, w_sipush, gf_48_14, gf_48_40, ia_59, ia_79, w_nret r_Md_blindMove, q_eq, q_ne, q_lt, q_ge, q_gt, q_le, g_I, g_L, g_R, g_V, t_0, t_I, t_R, t_U, t_L, t_s, List.getElem?_cons_zero, List.getElem?_cons_succ, Nat.reduceAdd, zif10, zif01b, zib, if_pos, if_neg, ↓reduceIte, not_true_eq_false, not_false_eq_true, Bool.true_eq_false, Bool.false_eq_true, Classical.not_not, eq_self, and_self, and_true, true_and, Int.reduceEq, Int.reduceLE, Int.reduceLT, Int.reduceNeg, Option.toList, List.cons_append, List.nil_append, zup_s, zup_n, zst_s, zup_zs, zup_zn, decide_true, decide_false, c_Md_isState hN hR, c2]
      exact zScrR_rf _
  rw [if_pos c1] at hans
  obtain ⟨c1, c3, c4⟩ := c1
  have c4' : 0 ≤ h ∧ h ≤ 11 := by omega
  obtain ⟨s, rfl⟩ : ∃ s : Nat, x = (s : Int) := ⟨x.toNat, by omega⟩
  obtain ⟨p, rfl⟩ : ∃ p : Nat, y = (p : Int) := ⟨y.toNat, by omega⟩
  obtain ⟨q, rfl⟩ : ∃ q : Nat, h = (q : Int) := ⟨h.toNat, by omega⟩
  simp only [Int.toNat_natCast] at hans
  by_cases c2 : 5 ≤ kd 0
  rotate_left
  · rw [if_neg c2] at hans
    subst hans
    simp (disch := first | omega | exact Nat.le_of_ble_eq_true rfl | assumption | (simp only [Int.natCast_add, Int.natCast_mul, Int.cast_ofNat_Int]; omega) | decide) only [k_Md_blindMove_1, k_Md_blindMove_2, k_Md_blindMove_4, k_Md_blindMove_5, x_aload, x_getf, w_goto, w_fall, w_i2l, w_iand, w_iconst, w_if, x_iload, w_ishr, x_istore, w_sipush, gf_48_14, gf_48_40, ia_59, ia_79, w_nret r_Md_blindMove, q_eq, q_ne, q_lt, q_ge, q_gt, q_le, g_I, g_L, g_R, g_V, t_0, t_I, t_R, t_U, t_L, t_s, List.getElem?_cons_zero, List.getElem?_cons_succ, Nat.reduceAdd, zif10, zif01b, zib, if_pos, if_neg, ↓reduceIte, not_true_eq_false, not_false_eq_true, Bool.true_eq_false, Bool.false_eq_true, Classical.not_not, eq_self, and_self, and_true, true_and, Int.reduceEq, Int.reduceLE, Int.reduceLT, Int.reduceNeg, Option.toList, List.cons_append, List.nil_append, zup_s, zup_n, zst_s, zup_zs, zup_zn, decide_true, decide_false, c_Md_isState hN hR, c1, c_Md_isPlayer hN hR, c3, c_Md_in, c4', c_Md_isOfGroup hF hFR, c2]
    exact zScrR_rf _
  rw [if_pos c2] at hans
  have g4 := (hFR.2.1 0 hn).2.2.2 c2
  simp only [show ((0 : Nat) : Int) = 0 from rfl] at g4
  by_cases c5 : zbit (gp 0 : Int) p = true
  rotate_left
  · have c5' : zbit (gp 0 : Int) p = false := by simpa using c5
    rw [if_neg (fun z => c5 z.1)] at hans
    subst hans
    simp (disch := first | omega | exact Nat.le_of_ble_eq_true rfl | assumption | (simp only [Int.natCast_add, Int.natCast_mul, Int.cast_ofNat_Int]; omega) | decide) only [k_Md_blindMove_1, k_Md_blindMove_2, k_Md_blindMove_4, k_Md_blindMove_6, k_Md_blindMove_8, x_aload, x_getf, w_goto, w_fall, w_i2l, w_iand, w_iconst, w_if, x_iload, w_ishr, x_istore, w_sipush, gf_48_14, gf_48_40, ia_59, ia_79, w_nret r_Md_blindMove, q_eq, q_ne, q_lt, q_ge, q_gt, q_le, g_I, g_L, g_R, g_V, t_0, t_I, t_R, t_U, t_L, t_s, List.getElem?_cons_zero, List.getElem?_cons_succ, Nat.reduceAdd, zif10, zif01b, zib, if_pos, if_neg, ↓reduceIte, not_true_eq_false, not_false_eq_true, Bool.true_eq_false, Bool.false_eq_true, Classical.not_not, eq_self, and_self, and_true, true_and, Int.reduceEq, Int.reduceLE, Int.reduceLT, Int.reduceNeg, Option.toList, List.cons_append, List.nil_append, zup_s, zup_n, zst_s, zup_zs, zup_zn, decide_true, decide_false, c_Md_isState hN hR, c1, c_Md_isPlayer hN hR, c3, c_Md_in, c4', c_Md_isOfGroup hF hFR, c2, g4, zhas, c5']
    exact zScrR_rf _
  by_cases c6 : zlm mv hp p q S = 0
  · rw [if_neg (fun z => z.2 c6)] at hans
    subst hans
    simp (disch := first | omega | exact Nat.le_of_ble_eq_true rfl | assumption | (simp only [Int.natCast_add, Int.natCast_mul, Int.cast_ofNat_Int]; omega) | decide) only [k_Md_blindMove_1, k_Md_blindMove_2, k_Md_blindMove_4, k_Md_blindMove_6, k_Md_blindMove_7, k_Md_blindMove_8, x_aload, x_getf, w_goto, w_fall, w_i2l, w_iand, w_iconst, w_if, x_iload, w_ishr, x_istore, w_sipush, gf_48_14, gf_48_40, ia_59, ia_79, w_nret r_Md_blindMove, q_eq, q_ne, q_lt, q_ge, q_gt, q_le, g_I, g_L, g_R, g_V, t_0, t_I, t_R, t_U, t_L, t_s, List.getElem?_cons_zero, List.getElem?_cons_succ, Nat.reduceAdd, zif10, zif01b, zib, if_pos, if_neg, ↓reduceIte, not_true_eq_false, not_false_eq_true, Bool.true_eq_false, Bool.false_eq_true, Classical.not_not, eq_self, and_self, and_true, true_and, Int.reduceEq, Int.reduceLE, Int.reduceLT, Int.reduceNeg, Option.toList, List.cons_append, List.nil_append, zup_s, zup_n, zst_s, zup_zs, zup_zn, decide_true, decide_false, c_Md_isState hN hR, c1, c_Md_isPlayer hN hR, c3, c_Md_in, c4', c_Md_isOfGroup hF hFR, c2, g4, zhas, c5, c_Md_mostOf hN hR hH (show p < 4 by omega), c6]
    exact zScrR_rf _
  rw [if_pos ⟨c5, c6⟩] at hans
  have c6' : ¬ (zlm mv hp p q S : Int) = 0 := by omega
  simp (disch := first | omega | exact Nat.le_of_ble_eq_true rfl | assumption | (simp only [Int.natCast_add, Int.natCast_mul, Int.cast_ofNat_Int]; omega) | decide) only [k_Md_blindMove_1, k_Md_blindMove_2, k_Md_blindMove_4, k_Md_blindMove_6, k_Md_blindMove_7, k_Md_blindMove_9, x_aload, x_getf, w_goto, w_fall, w_i2l, w_iand, w_iconst, w_if, x_iload, w_ishr, x_istore, w_sipush, gf_48_14, gf_48_40, ia_59, ia_79, w_nret r_Md_blindMove, q_eq, q_ne, q_lt, q_ge, q_gt, q_le, g_I, g_L, g_R, g_V, t_0, t_I, t_R, t_U, t_L, t_s, List.getElem?_cons_zero, List.getElem?_cons_succ, Nat.reduceAdd, zif10, zif01b, zib, if_pos, if_neg, ↓reduceIte, not_true_eq_false, not_false_eq_true, Bool.true_eq_false, Bool.false_eq_true, Classical.not_not, eq_self, and_self, and_true, true_and, Int.reduceEq, Int.reduceLE, Int.reduceLT, Int.reduceNeg, Option.toList, List.cons_append, List.nil_append, zup_s, zup_n, zst_s, zup_zs, zup_zn, decide_true, decide_false, c_Md_isState hN hR, c1, c_Md_isPlayer hN hR, c3, c_Md_in, c4', c_Md_isOfGroup hF hFR, c2, g4, zhas, c5, c_Md_mostOf hN hR hH (show p < 4 by omega), c6']
  refine c_Md_seeks hN hR hL hlt hF hFR hH hhp c2 (show s < S by omega) rfl rfl (by omega) (Nat.le_of_ble_eq_true rfl) ?_
  rintro _ M1 ⟨rfl, hk, h48, hrow⟩
  have hbp : 0 < zBb S P mv hp (zbit (gp 0 : Int)) (p * 12 + q) := by
    unfold zBb
    rw [show (p * 12 + q) / 12 = p by omega, show (p * 12 + q) % 12 = q by omega, if_pos ⟨by omega, c5⟩]
    omega
  rcases zSkA_v (S := S) (P := P) (mv := mv) (tg := tg) (hp := hp) (g := zbit (gp 0 : Int)) (kd := kd 0) (one := zHp mv tg P lt kd lf rt gp (lf 0)) (two := zHp mv tg P lt kd lf rt gp (rt 0)) (F := zFt P hp (zbit (gp 0 : Int)) s) with e | e | e
  · rw [if_neg (by rw [e]; decide), if_pos e] at hans
    subst hans
    simp (disch := first | omega | exact Nat.le_of_ble_eq_true rfl | assumption | (simp only [Int.natCast_add, Int.natCast_mul, Int.cast_ofNat_Int]; omega) | decide) only [k_Md_blindMove_10, k_Md_blindMove_14, x_aload, x_getf, w_goto, w_fall, w_i2l, w_iand, w_iconst, w_if, x_iload, w_ishr, x_istore, w_sipush, gf_48_14, gf_48_40, ia_59, ia_79, w_nret r_Md_blindMove, q_eq, q_ne, q_lt, q_ge, q_gt, q_le, g_I, g_L, g_R, g_V, t_0, t_I, t_R, t_U, t_L, t_s, List.getElem?_cons_zero, List.getElem?_cons_succ, Nat.reduceAdd, zif10, zif01b, zib, if_pos, if_neg, ↓reduceIte, not_true_eq_false, not_false_eq_true, Bool.true_eq_false, Bool.false_eq_true, Classical.not_not, eq_self, and_self, and_true, true_and, Int.reduceEq, Int.reduceLE, Int.reduceLT, Int.reduceNeg, Option.toList, List.cons_append, List.nil_append, zup_s, zup_n, zst_s, zup_zs, zup_zn, decide_true, decide_false, e]
    exact zScrR_sk hk h48
  · rw [if_pos e] at hans
    subst hans
    obtain ⟨hlay, hrw⟩ := hrow e
    have hv := hrw p q (by omega) (by omega) hbp
    have hix : zix (zBb S P mv hp (zbit (gp 0 : Int))) (p * 12 + q) ≤ p * 12 + q := zix_le _ _
    simp (disch := first | omega | exact Nat.le_of_ble_eq_true rfl | assumption | (simp only [Int.natCast_add, Int.natCast_mul, Int.cast_ofNat_Int]; omega) | decide) only [k_Md_blindMove_11, k_Md_blindMove_13, k_Md_blindMove_14, x_aload, x_getf, w_goto, w_fall, w_i2l, w_iand, w_iconst, w_if, x_iload, w_ishr, x_istore, w_sipush, gf_48_14, gf_48_40, ia_59, ia_79, w_nret r_Md_blindMove, q_eq, q_ne, q_lt, q_ge, q_gt, q_le, g_I, g_L, g_R, g_V, t_0, t_I, t_R, t_U, t_L, t_s, List.getElem?_cons_zero, List.getElem?_cons_succ, Nat.reduceAdd, zif10, zif01b, zib, if_pos, if_neg, ↓reduceIte, not_true_eq_false, not_false_eq_true, Bool.true_eq_false, Bool.false_eq_true, Classical.not_not, eq_self, and_self, and_true, true_and, Int.reduceEq, Int.reduceLE, Int.reduceLT, Int.reduceNeg, Option.toList, List.cons_append, List.nil_append, zup_s, zup_n, zst_s, zup_zs, zup_zn, decide_true, decide_false, e, c_Md_digitOf hlay (show p < 4 by omega) (show q < 12 by omega) hbp, hv]
    exact zScrR_sk hk h48
  · rw [if_neg (by rw [e]; decide), if_neg (by rw [e]; decide)] at hans
    subst hans
    simp (disch := first | omega | exact Nat.le_of_ble_eq_true rfl | assumption | (simp only [Int.natCast_add, Int.natCast_mul, Int.cast_ofNat_Int]; omega) | decide) only [k_Md_blindMove_11, k_Md_blindMove_12, k_Md_blindMove_14, x_aload, x_getf, w_goto, w_fall, w_i2l, w_iand, w_iconst, w_if, x_iload, w_ishr, x_istore, w_sipush, gf_48_14, gf_48_40, ia_59, ia_79, w_nret r_Md_blindMove, q_eq, q_ne, q_lt, q_ge, q_gt, q_le, g_I, g_L, g_R, g_V, t_0, t_I, t_R, t_U, t_L, t_s, List.getElem?_cons_zero, List.getElem?_cons_succ, Nat.reduceAdd, zif10, zif01b, zib, if_pos, if_neg, ↓reduceIte, not_true_eq_false, not_false_eq_true, Bool.true_eq_false, Bool.false_eq_true, Classical.not_not, eq_self, and_self, and_true, true_and, Int.reduceEq, Int.reduceLE, Int.reduceLT, Int.reduceNeg, Option.toList, List.cons_append, List.nil_append, zup_s, zup_n, zst_s, zup_zs, zup_zn, decide_true, decide_false, e]
    exact zScrR_sk hk h48
theorem c_Md_blindMove {d mi o b9 : Nat} {es : List zEnt} {L st : List zMV} {Q : Option zMV → (Nat → Int → Int) → Prop} {x y h : Int} (hN : zNet S P mv tg) (hR : zNetR S P mv tg M) (hL : zLetR lt M) (hlt : ∀ s, lt s < 256) (hF : zForm P n kd lf rt gp) (hFR : zFormR n kd lf rt gp M) (hH : zHpR hp M) (hhp : ∀ p s, hp p s < 12) (hd : 9 + 1 ≤ d) (hc : zcats st ≤ 8) (hpost : ∀ r M', (r = some (zI (zBmA S P mv tg hp lt kd lf rt gp x y h)) ∧ zScrR M M') → zW (zSH Ln) d mi es L (r.toList ++ st) M' Q) : zW (zSH Ln) d mi ((.invokevirtual o, 232, b9) :: es) L (zI h :: zI y :: zI x :: zR 48 :: st) M Q :=
  w_callv (ps := [zI x, zI y, zI h]) (by omega) rfl rfl (by omega) (by exact sh_48 Ln) hc (Nat.le_of_ble_eq_true rfl) (F_Md_blindMove hN hR hL hlt hF hFR hH hhp (by omega)) hpost
theorem F_Md_walked {d : Nat} {k : Int} {tr : Nat → Nat} (hn : n ≤ 41) (hTr : zTraR n tr M) (hd : 1 ≤ d) : zF (zSH Ln) d i_Md_walked [zR 48, zI k] M fun r M' => r = some (zI (if 0 ≤ k ∧ k < n then (tr k.toNat : Int) else -1)) ∧ M' = M := by
  rw [zF_en k_Md_walked_0 (L := [zR 48, zI k]) rfl]
  have h31 := hTr.1
  by_cases c : 0 ≤ k ∧ k < n
  · obtain ⟨j, rfl⟩ : ∃ j : Nat, k = (j : Int) := ⟨k.toNat, by omega⟩
    have c' : (0 : Int) ≤ (j : Int) ∧ (j : Int) ≤ (n : Int) - 1 := by omega
    have hj := hTr.2 j (by omega)
    simp (disch := first | omega | exact Nat.le_of_ble_eq_true rfl | assumption | (simp only [Int.natCast_add, Int.natCast_mul, Int.cast_ofNat_Int]; omega) | decide) only [k_Md_walked_1, k_Md_walked_3, x_aload, x_getf, w_goto, w_fall, w_i2l, w_iconst, w_if, x_iload, w_isub, w_sipush, zsub_eq, gf_48_31, gf_48_32, ia_71, w_nret r_Md_walked, q_eq, q_ne, q_lt, q_ge, q_gt, q_le, g_I, g_L, g_R, g_V, t_0, t_I, t_R, t_U, t_L, t_s, List.getElem?_cons_zero, List.getElem?_cons_succ, Nat.reduceAdd, zif10, zif01b, zib, if_pos, if_neg, ↓reduceIte, not_true_eq_false, not_false_eq_true, Bool.true_eq_false, Bool.false_eq_true, Classical.not_not, eq_self, and_self, and_true, true_and, Int.reduceEq, Int.reduceLE, Int.reduceLT, Int.reduceNeg, Option.toList, List.cons_append, List.nil_append, zup_s, zup_n, zst_s, zup_zs, zup_zn, decide_true, decide_false, h31, c_Md_in, c', c, hj, Int.toNat_natCast]
  · have c' : ¬ (0 ≤ k ∧ k ≤ (n : Int) - 1) := by omega
    simp (disch := first | omega | exact Nat.le_of_ble_eq_true rfl | assumption | (simp only [Int.natCast_add, Int.natCast_mul, Int.cast_ofNat_Int]; omega) | decide) only [k_Md_walked_2, k_Md_walked_3, x_aload, x_getf, w_goto, w_fall, w_i2l, w_iconst, w_if, x_iload, w_isub, w_sipush, zsub_eq, gf_48_31, gf_48_32, ia_71, w_nret r_Md_walked, q_eq, q_ne, q_lt, q_ge, q_gt, q_le, g_I, g_L, g_R, g_V, t_0, t_I, t_R, t_U, t_L, t_s, List.getElem?_cons_zero, List.getElem?_cons_succ, Nat.reduceAdd, zif10, zif01b, zib, if_pos, if_neg, ↓reduceIte, not_true_eq_false, not_false_eq_true, Bool.true_eq_false, Bool.false_eq_true, Classical.not_not, eq_self, and_self, and_true, true_and, Int.reduceEq, Int.reduceLE, Int.reduceLT, Int.reduceNeg, Option.toList, List.cons_append, List.nil_append, zup_s, zup_n, zst_s, zup_zs, zup_zn, decide_true, decide_false, h31, c_Md_in, c', c]
theorem c_Md_walked {d mi o b9 : Nat} {es : List zEnt} {L st : List zMV} {Q : Option zMV → (Nat → Int → Int) → Prop} {k : Int} {tr : Nat → Nat} (hn : n ≤ 41) (hTr : zTraR n tr M) (hd : 1 + 1 ≤ d) (hc : zcats st ≤ 8) : zW (zSH Ln) d mi ((.invokevirtual o, 219, b9) :: es) L (zI k :: zR 48 :: st) M Q = zW (zSH Ln) d mi es L (zI (if 0 ≤ k ∧ k < n then (tr k.toNat : Int) else -1) :: st) (M) Q :=
  c_virt (ps := [zI k]) (by omega) rfl rfl (by omega) (by exact sh_48 Ln) hc (Nat.le_of_ble_eq_true rfl) (F_Md_walked hn hTr (by omega))
theorem F_Md_isSheet {d : Nat} {x : Int} (hd : 1 ≤ d) : zF (zSH Ln) d i_Md_isSheet [zI x] M fun r M' => r = some (zI (if 0 ≤ x ∧ x < 4 then 1 else 0)) ∧ M' = M := by
  rw [zF_en k_Md_isSheet_0 (L := [zI x]) rfl]
  by_cases c : 0 ≤ x ∧ x < 4
  · have c' : 0 ≤ x ∧ x ≤ 3 := by omega
    simp (disch := first | omega | exact Nat.le_of_ble_eq_true rfl | assumption | (simp only [Int.natCast_add, Int.natCast_mul, Int.cast_ofNat_Int]; omega) | decide) only [w_i2l, x_iload, w_sipush, w_bret r_Md_isSheet, q_eq, q_ne, q_lt, q_ge, q_gt, q_le, g_I, g_L, g_R, g_V, t_0, t_I, t_R, t_U, t_L, t_s, List.getElem?_cons_zero, List.getElem?_cons_succ, Nat.reduceAdd, zif10, zif01b, zib, if_pos, if_neg, ↓reduceIte, not_true_eq_false, not_false_eq_true, Bool.true_eq_false, Bool.false_eq_true, Classical.not_not, eq_self, and_self, and_true, true_and, Int.reduceEq, Int.reduceLE, Int.reduceLT, Int.reduceNeg, Option.toList, List.cons_append, List.nil_append, zup_s, zup_n, zst_s, zup_zs, zup_zn, decide_true, decide_false, c_Md_in, c, c']
  · have c' : ¬ (0 ≤ x ∧ x ≤ 3) := by omega
    simp (disch := first | omega | exact Nat.le_of_ble_eq_true rfl | assumption | (simp only [Int.natCast_add, Int.natCast_mul, Int.cast_ofNat_Int]; omega) | decide) only [w_i2l, x_iload, w_sipush, w_bret r_Md_isSheet, q_eq, q_ne, q_lt, q_ge, q_gt, q_le, g_I, g_L, g_R, g_V, t_0, t_I, t_R, t_U, t_L, t_s, List.getElem?_cons_zero, List.getElem?_cons_succ, Nat.reduceAdd, zif10, zif01b, zib, if_pos, if_neg, ↓reduceIte, not_true_eq_false, not_false_eq_true, Bool.true_eq_false, Bool.false_eq_true, Classical.not_not, eq_self, and_self, and_true, true_and, Int.reduceEq, Int.reduceLE, Int.reduceLT, Int.reduceNeg, Option.toList, List.cons_append, List.nil_append, zup_s, zup_n, zst_s, zup_zs, zup_zn, decide_true, decide_false, c_Md_in, c, c']
theorem c_Md_isSheet {d mi o b9 : Nat} {es : List zEnt} {L st : List zMV} {Q : Option zMV → (Nat → Int → Int) → Prop} {x : Int} (hd : 1 + 1 ≤ d) (hc : zcats st ≤ 8) : zW (zSH Ln) d mi ((.invokestatic o, 215, b9) :: es) L (zI x :: st) M Q = zW (zSH Ln) d mi es L (zI (if 0 ≤ x ∧ x < 4 then 1 else 0) :: st) (M) Q :=
  c_stat (vs := [zI x]) (by omega) rfl rfl hc (Nat.le_of_ble_eq_true rfl) (F_Md_isSheet  (by omega))
theorem F_Md_isLane {d : Nat} {x : Int} (hd : 1 ≤ d) : zF (zSH Ln) d i_Md_isLane [zI x] M fun r M' => r = some (zI (if 0 ≤ x ∧ x < 3 then 1 else 0)) ∧ M' = M := by
  rw [zF_en k_Md_isLane_0 (L := [zI x]) rfl]
  by_cases c : 0 ≤ x ∧ x < 3
  · have c' : 0 ≤ x ∧ x ≤ 2 := by omega
    simp (disch := first | omega | exact Nat.le_of_ble_eq_true rfl | assumption | (simp only [Int.natCast_add, Int.natCast_mul, Int.cast_ofNat_Int]; omega) | decide) only [w_i2l, x_iload, w_sipush, w_bret r_Md_isLane, q_eq, q_ne, q_lt, q_ge, q_gt, q_le, g_I, g_L, g_R, g_V, t_0, t_I, t_R, t_U, t_L, t_s, List.getElem?_cons_zero, List.getElem?_cons_succ, Nat.reduceAdd, zif10, zif01b, zib, if_pos, if_neg, ↓reduceIte, not_true_eq_false, not_false_eq_true, Bool.true_eq_false, Bool.false_eq_true, Classical.not_not, eq_self, and_self, and_true, true_and, Int.reduceEq, Int.reduceLE, Int.reduceLT, Int.reduceNeg, Option.toList, List.cons_append, List.nil_append, zup_s, zup_n, zst_s, zup_zs, zup_zn, decide_true, decide_false, c_Md_in, c, c']
  · have c' : ¬ (0 ≤ x ∧ x ≤ 2) := by omega
    simp (disch := first | omega | exact Nat.le_of_ble_eq_true rfl | assumption | (simp only [Int.natCast_add, Int.natCast_mul, Int.cast_ofNat_Int]; omega) | decide) only [w_i2l, x_iload, w_sipush, w_bret r_Md_isLane, q_eq, q_ne, q_lt, q_ge, q_gt, q_le, g_I, g_L, g_R, g_V, t_0, t_I, t_R, t_U, t_L, t_s, List.getElem?_cons_zero, List.getElem?_cons_succ, Nat.reduceAdd, zif10, zif01b, zib, if_pos, if_neg, ↓reduceIte, not_true_eq_false, not_false_eq_true, Bool.true_eq_false, Bool.false_eq_true, Classical.not_not, eq_self, and_self, and_true, true_and, Int.reduceEq, Int.reduceLE, Int.reduceLT, Int.reduceNeg, Option.toList, List.cons_append, List.nil_append, zup_s, zup_n, zst_s, zup_zs, zup_zn, decide_true, decide_false, c_Md_in, c, c']
theorem c_Md_isLane {d mi o b9 : Nat} {es : List zEnt} {L st : List zMV} {Q : Option zMV → (Nat → Int → Int) → Prop} {x : Int} (hd : 1 + 1 ≤ d) (hc : zcats st ≤ 8) : zW (zSH Ln) d mi ((.invokestatic o, 216, b9) :: es) L (zI x :: st) M Q = zW (zSH Ln) d mi es L (zI (if 0 ≤ x ∧ x < 3 then 1 else 0) :: st) (M) Q :=
  c_stat (vs := [zI x]) (by omega) rfl rfl hc (Nat.le_of_ble_eq_true rfl) (F_Md_isLane  (by omega))
theorem F_Md_finds {d : Nat} {k : Nat} {l i c : Int} (hSh : zShR ln sz it M) (hk : k < 4) (hs : sz k ≤ 81) (hl : -1 ≤ ln k) (hi : i < 2147483648) (hc2 : -2147483648 ≤ c ∧ c < 2147483648) (hd : 0 ≤ d) : zF (zSH Ln) d i_Md_finds [zR 48, zI (k : Int), zI l, zI i, zI c] M fun r M' => r = some (zI (zWrg ln sz k l i c)) ∧ M' = M := by
  rw [zF_en k_Md_finds_0 (L := [zR 48, zI (k : Int), zI l, zI i, zI c]) rfl]
  obtain ⟨h1, h2⟩ := hSh.1 k hk
  unfold zWrg
  by_cases c1 : ln k = -1
  · simp (disch := first | omega | exact Nat.le_of_ble_eq_true rfl | assumption | (simp only [Int.natCast_add, Int.natCast_mul, Int.cast_ofNat_Int]; omega) | decide) only [k_Md_finds_1, x_aload, x_getf, w_goto, w_fall, w_i2l, w_iconst, w_if, w_icmp, x_iload, w_ladd, w_lcmp, gf_48_33, gf_48_34, ia_72, ia_73, w_nret r_Md_finds, q_eq, q_ne, q_lt, q_ge, q_gt, q_le, g_I, g_L, g_R, g_V, t_0, t_I, t_R, t_U, t_L, t_s, List.getElem?_cons_zero, List.getElem?_cons_succ, Nat.reduceAdd, zif10, zif01b, zib, if_pos, if_neg, ↓reduceIte, not_true_eq_false, not_false_eq_true, Bool.true_eq_false, Bool.false_eq_true, Classical.not_not, eq_self, and_self, and_true, true_and, Int.reduceEq, Int.reduceLE, Int.reduceLT, Int.reduceNeg, Option.toList, List.cons_append, List.nil_append, zup_s, zup_n, zst_s, zup_zs, zup_zn, decide_true, decide_false, h1, c1]
  · have c1' : 0 ≤ ln k := by omega
    by_cases c2 : ln k = l
    · by_cases c3 : 0 ≤ i
      · have e1 : zladd i c = i + c := zladd_eq (by omega) (by omega)
        by_cases c4 : i + c ≤ sz k
        · simp (disch := first | omega | exact Nat.le_of_ble_eq_true rfl | assumption | (simp only [Int.natCast_add, Int.natCast_mul, Int.cast_ofNat_Int]; omega) | decide) only [k_Md_finds_2, k_Md_finds_4, k_Md_finds_5, k_Md_finds_7, k_Md_finds_8, x_aload, x_getf, w_goto, w_fall, w_i2l, w_iconst, w_if, w_icmp, x_iload, w_ladd, w_lcmp, gf_48_33, gf_48_34, ia_72, ia_73, w_nret r_Md_finds, q_eq, q_ne, q_lt, q_ge, q_gt, q_le, g_I, g_L, g_R, g_V, t_0, t_I, t_R, t_U, t_L, t_s, List.getElem?_cons_zero, List.getElem?_cons_succ, Nat.reduceAdd, zif10, zif01b, zib, if_pos, if_neg, ↓reduceIte, not_true_eq_false, not_false_eq_true, Bool.true_eq_false, Bool.false_eq_true, Classical.not_not, eq_self, and_self, and_true, true_and, Int.reduceEq, Int.reduceLE, Int.reduceLT, Int.reduceNeg, Option.toList, List.cons_append, List.nil_append, zup_s, zup_n, zst_s, zup_zs, zup_zn, decide_true, decide_false, h1, h2, c1, c1', c2, c3, c4, e1, zlc_le]
        · simp (disch := first | omega | exact Nat.le_of_ble_eq_true rfl | assumption | (simp only [Int.natCast_add, Int.natCast_mul, Int.cast_ofNat_Int]; omega) | decide) only [k_Md_finds_2, k_Md_finds_4, k_Md_finds_5, k_Md_finds_6, k_Md_finds_8, x_aload, x_getf, w_goto, w_fall, w_i2l, w_iconst, w_if, w_icmp, x_iload, w_ladd, w_lcmp, gf_48_33, gf_48_34, ia_72, ia_73, w_nret r_Md_finds, q_eq, q_ne, q_lt, q_ge, q_gt, q_le, g_I, g_L, g_R, g_V, t_0, t_I, t_R, t_U, t_L, t_s, List.getElem?_cons_zero, List.getElem?_cons_succ, Nat.reduceAdd, zif10, zif01b, zib, if_pos, if_neg, ↓reduceIte, not_true_eq_false, not_false_eq_true, Bool.true_eq_false, Bool.false_eq_true, Classical.not_not, eq_self, and_self, and_true, true_and, Int.reduceEq, Int.reduceLE, Int.reduceLT, Int.reduceNeg, Option.toList, List.cons_append, List.nil_append, zup_s, zup_n, zst_s, zup_zs, zup_zn, decide_true, decide_false, h1, h2, c1, c1', c2, c3, c4, e1, zlc_le]
      · simp (disch := first | omega | exact Nat.le_of_ble_eq_true rfl | assumption | (simp only [Int.natCast_add, Int.natCast_mul, Int.cast_ofNat_Int]; omega) | decide) only [k_Md_finds_2, k_Md_finds_4, k_Md_finds_6, k_Md_finds_8, x_aload, x_getf, w_goto, w_fall, w_i2l, w_iconst, w_if, w_icmp, x_iload, w_ladd, w_lcmp, gf_48_33, gf_48_34, ia_72, ia_73, w_nret r_Md_finds, q_eq, q_ne, q_lt, q_ge, q_gt, q_le, g_I, g_L, g_R, g_V, t_0, t_I, t_R, t_U, t_L, t_s, List.getElem?_cons_zero, List.getElem?_cons_succ, Nat.reduceAdd, zif10, zif01b, zib, if_pos, if_neg, ↓reduceIte, not_true_eq_false, not_false_eq_true, Bool.true_eq_false, Bool.false_eq_true, Classical.not_not, eq_self, and_self, and_true, true_and, Int.reduceEq, Int.reduceLE, Int.reduceLT, Int.reduceNeg, Option.toList, List.cons_append, List.nil_append, zup_s, zup_n, zst_s, zup_zs, zup_zn, decide_true, decide_false, h1, h2, c1, c1', c2, c3, false_and]
    · simp (disch := first | omega | exact Nat.le_of_ble_eq_true rfl | assumption | (simp only [Int.natCast_add, Int.natCast_mul, Int.cast_ofNat_Int]; omega) | decide) only [k_Md_finds_2, k_Md_finds_3, x_aload, x_getf, w_goto, w_fall, w_i2l, w_iconst, w_if, w_icmp, x_iload, w_ladd, w_lcmp, gf_48_33, gf_48_34, ia_72, ia_73, w_nret r_Md_finds, q_eq, q_ne, q_lt, q_ge, q_gt, q_le, g_I, g_L, g_R, g_V, t_0, t_I, t_R, t_U, t_L, t_s, List.getElem?_cons_zero, List.getElem?_cons_succ, Nat.reduceAdd, zif10, zif01b, zib, if_pos, if_neg, ↓reduceIte, not_true_eq_false, not_false_eq_true, Bool.true_eq_false, Bool.false_eq_true, Classical.not_not, eq_self, and_self, and_true, true_and, Int.reduceEq, Int.reduceLE, Int.reduceLT, Int.reduceNeg, Option.toList, List.cons_append, List.nil_append, zup_s, zup_n, zst_s, zup_zs, zup_zn, decide_true, decide_false, h1, c1, c1', c2]
theorem c_Md_finds {d mi o b9 : Nat} {es : List zEnt} {L st : List zMV} {Q : Option zMV → (Nat → Int → Int) → Prop} {k : Nat} {l i c : Int} (hSh : zShR ln sz it M) (hk : k < 4) (hs : sz k ≤ 81) (hl : -1 ≤ ln k) (hi : i < 2147483648) (hc2 : -2147483648 ≤ c ∧ c < 2147483648) (hd : 0 + 1 ≤ d) (hc : zcats st ≤ 8) : zW (zSH Ln) d mi ((.invokevirtual o, 217, b9) :: es) L (zI c :: zI i :: zI l :: zI (k : Int) :: zR 48 :: st) M Q = zW (zSH Ln) d mi es L (zI (zWrg ln sz k l i c) :: st) (M) Q :=
  c_virt (ps := [zI (k : Int), zI l, zI i, zI c]) (by omega) rfl rfl (by omega) (by exact sh_48 Ln) hc (Nat.le_of_ble_eq_true rfl) (F_Md_finds hSh hk hs hl hi hc2 (by omega))
end RE
