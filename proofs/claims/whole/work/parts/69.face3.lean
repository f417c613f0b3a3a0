/-! the class's face: goals -/
def zCtA (S P : Nat) (mv tg ch : Nat → Nat → Nat) (gl : Nat → Nat → Bool) (x : Int) : Int := if 0 ≤ x ∧ x < S then zset P (zCon S P mv tg ch gl x.toNat) else -1
def zSbA (S P : Nat) (mv tg ch : Nat → Nat → Nat) (gl : Nat → Nat → Bool) (x : Int) : Int := if 0 ≤ x ∧ x < S then (if zStb S P mv tg ch gl x.toNat = true then 1 else 0) else -1
def zc48 (A B : Int → Int) (x : Int) : Int := if 0 ≤ x ∧ x < 48 then A x else B x
theorem zcpy48 (M : Nat → Int → Int) : zcpy M 43 0 5 0 48 = zst M 5 (zc48 (M 43) (M 5)) := by
  funext k x
  unfold zcpy zst zc48
  by_cases h : k = 5
  · subst h
    by_cases h2 : 0 ≤ x ∧ x < 48
    · rw [if_pos ⟨rfl, h2.1, by omega⟩, if_pos rfl, if_pos h2]
      congr 1; omega
    · rw [if_neg (fun z => h2 ⟨z.2.1, by omega⟩), if_pos rfl, if_neg h2]
  · rw [if_neg (fun z => h z.1), if_neg h]
section FC
variable {Ln S P n : Nat} {mv tg hp ch : Nat → Nat → Nat} {lt : Nat → Nat} {pr : Nat → Nat → Nat → Nat} {gl : Nat → Nat → Bool} {M : Nat → Int → Int} {lo : Int}
theorem zcopy5 {d mi a b : Nat} {es : List zEnt} {L st : List zMV} {Q : Option zMV → (Nat → Int → Int) → Prop} (hc : zcats st ≤ 8) : zW (zSH Ln) d mi ((.swap, a, b) :: es) L (zI 48 :: zI 0 :: zR 5 :: zI 0 :: zR 43 :: st) M Q = zW (zSH Ln) d mi es L st (zst M 5 (zc48 (M 43) (M 5))) Q := by
  rw [w_copy (sh_43 Ln) (sh_5 Ln) ⟨by omega, by omega, by omega, by omega, by omega, by omega, by omega, hc⟩, zcpy48]
theorem F_FN_content {d : Nat} {x : Int} (hN : zNet S P mv tg) (hC : zNetC S P mv tg M) (hG : zGlC S P gl M) (hK : zPkC 5 ch M) (hch : ∀ s p, ch s p < mv s p) (hd : 4 ≤ d) : zF (zSH Ln) d i_FN_content [zR 2, zI x] M fun r M' => r = some (zI (zCtA S P mv tg ch gl x)) ∧ M' = M := by
  rw [zF_en k_FN_content_0 (L := [zR 2, zI x]) rfl]
  have hS := hN.2.1
  generalize hans : zCtA S P mv tg ch gl x = ans
  unfold zCtA at hans
  by_cases c1 : 0 ≤ x ∧ x < S
  · rw [if_pos c1] at hans
    obtain ⟨s, rfl⟩ : ∃ s : Nat, x = (s : Int) := ⟨x.toNat, by omega⟩
    rw [Int.toNat_natCast] at hans
    subst hans
    simp (disch := first | omega | exact Nat.le_of_ble_eq_true rfl | assumption | (simp only [Int.natCast_add, Int.natCast_mul, Int.cast_ofNat_Int]; omega) | decide) only [k_FN_content_2, x_aload, x_getf, w_fall, w_iconst, w_if, x_iload, gf_3_4, gf_2_0, gf_2_7, w_nret r_FN_content, q_eq, q_ne, q_lt, q_ge, q_gt, q_le, g_I, g_L, g_R, g_V, t_0, t_I, t_R, t_U, t_L, t_s, List.getElem?_cons_zero, List.getElem?_cons_succ, Nat.reduceAdd, zif10, zif01b, zib, if_pos, if_neg, ↓reduceIte, not_true_eq_false, not_false_eq_true, Bool.true_eq_false, Bool.false_eq_true, Classical.not_not, eq_self, and_self, and_true, true_and, Int.reduceEq, Int.reduceLE, Int.reduceLT, Int.reduceNeg, Option.toList, List.cons_append, List.nil_append, zup_s, zup_n, zst_s, zup_zs, zup_zn, decide_true, decide_false, c_Ne_hasState hC, c1, c_Go_passed5 hN hC hK hch (show s < S by omega), c_Go_meeting hN hC hG]
    rfl
  · rw [if_neg c1] at hans
    subst hans
    simp (disch := first | omega | exact Nat.le_of_ble_eq_true rfl | assumption | (simp only [Int.natCast_add, Int.natCast_mul, Int.cast_ofNat_Int]; omega) | decide) only [k_FN_content_1, x_aload, x_getf, w_fall, w_iconst, w_if, x_iload, gf_3_4, gf_2_0, gf_2_7, w_nret r_FN_content, q_eq, q_ne, q_lt, q_ge, q_gt, q_le, g_I, g_L, g_R, g_V, t_0, t_I, t_R, t_U, t_L, t_s, List.getElem?_cons_zero, List.getElem?_cons_succ, Nat.reduceAdd, zif10, zif01b, zib, if_pos, if_neg, ↓reduceIte, not_true_eq_false, not_false_eq_true, Bool.true_eq_false, Bool.false_eq_true, Classical.not_not, eq_self, and_self, and_true, true_and, Int.reduceEq, Int.reduceLE, Int.reduceLT, Int.reduceNeg, Option.toList, List.cons_append, List.nil_append, zup_s, zup_n, zst_s, zup_zs, zup_zn, decide_true, decide_false, c_Ne_hasState hC, c1]
theorem c_FN_content {d mi o b9 : Nat} {es : List zEnt} {L st : List zMV} {Q : Option zMV → (Nat → Int → Int) → Prop} {x : Int} (hN : zNet S P mv tg) (hC : zNetC S P mv tg M) (hG : zGlC S P gl M) (hK : zPkC 5 ch M) (hch : ∀ s p, ch s p < mv s p) (hd : 4 + 1 ≤ d) (hc : zcats st ≤ 8) : zW (zSH Ln) d mi ((.invokevirtual o, 150, b9) :: es) L (zI x :: zR 2 :: st) M Q = zW (zSH Ln) d mi es L (zI (zCtA S P mv tg ch gl x) :: st) (M) Q :=
  c_virt (ps := [zI x]) (by omega) rfl rfl (by omega) (by exact sh_2 Ln) hc (Nat.le_of_ble_eq_true rfl) (F_FN_content hN hC hG hK hch (by omega))
theorem F_FN_stable {d : Nat} {x : Int} (hN : zNet S P mv tg) (hC : zNetC S P mv tg M) (hG : zGlC S P gl M) (hK : zPkC 5 ch M) (hch : ∀ s p, ch s p < mv s p) (hd : 5 ≤ d) : zF (zSH Ln) d i_FN_stable [zR 2, zI x] M fun r M' => r = some (zI (zSbA S P mv tg ch gl x)) ∧ M' = M := by
  rw [zF_en k_FN_stable_0 (L := [zR 2, zI x]) rfl]
  have hS := hN.2.1
  generalize hans : zSbA S P mv tg ch gl x = ans
  unfold zSbA at hans
  by_cases c1 : 0 ≤ x ∧ x < S
  · rw [if_pos c1] at hans
    obtain ⟨s, rfl⟩ : ∃ s : Nat, x = (s : Int) := ⟨x.toNat, by omega⟩
    rw [Int.toNat_natCast] at hans
    by_cases c2 : zStb S P mv tg ch gl s = true
    · rw [if_pos c2] at hans
      subst hans
      simp (disch := first | omega | exact Nat.le_of_ble_eq_true rfl | assumption | (simp only [Int.natCast_add, Int.natCast_mul, Int.cast_ofNat_Int]; omega) | decide) only [k_FN_stable_2, k_FN_stable_3, k_FN_stable_5, x_aload, x_getf, w_goto, w_fall, w_iconst, w_if, x_iload, gf_3_4, gf_2_0, gf_2_7, w_nret r_FN_stable, q_eq, q_ne, q_lt, q_ge, q_gt, q_le, g_I, g_L, g_R, g_V, t_0, t_I, t_R, t_U, t_L, t_s, List.getElem?_cons_zero, List.getElem?_cons_succ, Nat.reduceAdd, zif10, zif01b, zib, if_pos, if_neg, ↓reduceIte, not_true_eq_false, not_false_eq_true, Bool.true_eq_false, Bool.false_eq_true, Classical.not_not, eq_self, and_self, and_true, true_and, Int.reduceEq, Int.reduceLE, Int.reduceLT, Int.reduceNeg, Option.toList, List.cons_append, List.nil_append, zup_s, zup_n, zst_s, zup_zs, zup_zn, decide_true, decide_false, c_Ne_hasState hC, c1, c_Go_isStable5 hN hC hG hK hch (show s < S by omega), c2]
    · rw [if_neg c2] at hans
      subst hans
      simp (disch := first | omega | exact Nat.le_of_ble_eq_true rfl | assumption | (simp only [Int.natCast_add, Int.natCast_mul, Int.cast_ofNat_Int]; omega) | decide) only [k_FN_stable_2, k_FN_stable_4, k_FN_stable_5, x_aload, x_getf, w_goto, w_fall, w_iconst, w_if, x_iload, gf_3_4, gf_2_0, gf_2_7, w_nret r_FN_stable, q_eq, q_ne, q_lt, q_ge, q_gt, q_le, g_I, g_L, g_R, g_V, t_0, t_I, t_R, t_U, t_L, t_s, List.getElem?_cons_zero, List.getElem?_cons_succ, Nat.reduceAdd, zif10, zif01b, zib, if_pos, if_neg, ↓reduceIte, not_true_eq_false, not_false_eq_true, Bool.true_eq_false, Bool.false_eq_true, Classical.not_not, eq_self, and_self, and_true, true_and, Int.reduceEq, Int.reduceLE, Int.reduceLT, Int.reduceNeg, Option.toList, List.cons_append, List.nil_append, zup_s, zup_n, zst_s, zup_zs, zup_zn, decide_true, decide_false, c_Ne_hasState hC, c1, c_Go_isStable5 hN hC hG hK hch (show s < S by omega), c2]
  · rw [if_neg c1] at hans
    subst hans
    simp (disch := first | omega | exact Nat.le_of_ble_eq_true rfl | assumption | (simp only [Int.natCast_add, Int.natCast_mul, Int.cast_ofNat_Int]; omega) | decide) only [k_FN_stable_1, x_aload, x_getf, w_goto, w_fall, w_iconst, w_if, x_iload, gf_3_4, gf_2_0, gf_2_7, w_nret r_FN_stable, q_eq, q_ne, q_lt, q_ge, q_gt, q_le, g_I, g_L, g_R, g_V, t_0, t_I, t_R, t_U, t_L, t_s, List.getElem?_cons_zero, List.getElem?_cons_succ, Nat.reduceAdd, zif10, zif01b, zib, if_pos, if_neg, ↓reduceIte, not_true_eq_false, not_false_eq_true, Bool.true_eq_false, Bool.false_eq_true, Classical.not_not, eq_self, and_self, and_true, true_and, Int.reduceEq, Int.reduceLE, Int.reduceLT, Int.reduceNeg, Option.toList, List.cons_append, List.nil_append, zup_s, zup_n, zst_s, zup_zs, zup_zn, decide_true, decide_false, c_Ne_hasState hC, c1]
theorem c_FN_stable {d mi o b9 : Nat} {es : List zEnt} {L st : List zMV} {Q : Option zMV → (Nat → Int → Int) → Prop} {x : Int} (hN : zNet S P mv tg) (hC : zNetC S P mv tg M) (hG : zGlC S P gl M) (hK : zPkC 5 ch M) (hch : ∀ s p, ch s p < mv s p) (hd : 5 + 1 ≤ d) (hc : zcats st ≤ 8) : zW (zSH Ln) d mi ((.invokevirtual o, 151, b9) :: es) L (zI x :: zR 2 :: st) M Q = zW (zSH Ln) d mi es L (zI (zSbA S P mv tg ch gl x) :: st) (M) Q :=
  c_virt (ps := [zI x]) (by omega) rfl rfl (by omega) (by exact sh_2 Ln) hc (Nat.le_of_ble_eq_true rfl) (F_FN_stable hN hC hG hK hch (by omega))
theorem F_FN_settle {d : Nat} {x : Int} (hN : zNet S P mv tg) (hC : zNetC S P mv tg M) (hG : zGlC S P gl M) (hK : zPkC 5 ch M) (hd : 7 ≤ d) : zF (zSH Ln) d i_FN_settle [zR 2, zI x] M fun r M' => r = some (zI (zSeA S P mv tg gl x)) ∧ zKp [5, 43] M M' ∧ (zSeF S P mv tg gl x → zPkC 5 (zPk S P mv (zStf S P mv tg gl x.toNat)) M') ∧ (¬ zSeF S P mv tg gl x → zPkC 5 ch M') := by
  rw [zF_en k_FN_settle_0 (L := [zR 2, zI x]) rfl]
  have hS := hN.2.1
  have hP := hN.2.2.2.1
  have hm := hN.2.2.2.2.1
  generalize hans : zSeA S P mv tg gl x = ans
  unfold zSeA at hans
  unfold zSeF
  by_cases c1 : 0 ≤ x ∧ x < S
  rotate_left
  · have ha : ans = -1 := by rw [← hans, if_neg c1]
    simp (disch := first | omega | exact Nat.le_of_ble_eq_true rfl | assumption | (simp only [Int.natCast_add, Int.natCast_mul, Int.cast_ofNat_Int]; omega) | decide) only [k_FN_settle_1, x_aload, x_getf, w_fall, w_iconst, w_if, w_icmp, x_iload, gf_41_2, gf_3_4, gf_2_0, gf_2_7, w_nret r_FN_settle, q_eq, q_ne, q_lt, q_ge, q_gt, q_le, g_I, g_L, g_R, g_V, t_0, t_I, t_R, t_U, t_L, t_s, List.getElem?_cons_zero, List.getElem?_cons_succ, Nat.reduceAdd, zif10, zif01b, zib, if_pos, if_neg, ↓reduceIte, not_true_eq_false, not_false_eq_true, Bool.true_eq_false, Bool.false_eq_true, Classical.not_not, eq_self, and_self, and_true, true_and, Int.reduceEq, Int.reduceLE, Int.reduceLT, Int.reduceNeg, Option.toList, List.cons_append, List.nil_append, zup_s, zup_n, zst_s, zup_zs, zup_zn, decide_true, decide_false, c_Ne_hasState hC, c1, ha, false_and]
    exact ⟨zKp_rf _ _, fun h => h.elim, fun _ => hK⟩
  rw [if_pos c1] at hans
  obtain ⟨s, rfl⟩ : ∃ s : Nat, x = (s : Int) := ⟨x.toNat, by omega⟩
  rw [Int.toNat_natCast] at hans ⊢
  by_cases c2 : zplans S P mv S ≤ 20000
  rotate_left
  · have ha : ans = -5 := by rw [← hans, if_neg c2]
    have c2' : ¬ (zplans S P mv S : Int) ≤ 20000 := by omega
    simp (disch := first | omega | exact Nat.le_of_ble_eq_true rfl | assumption | (simp only [Int.natCast_add, Int.natCast_mul, Int.cast_ofNat_Int]; omega) | decide) only [k_FN_settle_2, k_FN_settle_3, x_aload, x_getf, w_fall, w_iconst, w_if, w_icmp, x_iload, gf_41_2, gf_3_4, gf_2_0, gf_2_7, w_nret r_FN_settle, q_eq, q_ne, q_lt, q_ge, q_gt, q_le, g_I, g_L, g_R, g_V, t_0, t_I, t_R, t_U, t_L, t_s, List.getElem?_cons_zero, List.getElem?_cons_succ, Nat.reduceAdd, zif10, zif01b, zib, if_pos, if_neg, ↓reduceIte, not_true_eq_false, not_false_eq_true, Bool.true_eq_false, Bool.false_eq_true, Classical.not_not, eq_self, and_self, and_true, true_and, Int.reduceEq, Int.reduceLE, Int.reduceLT, Int.reduceNeg, Option.toList, List.cons_append, List.nil_append, zup_s, zup_n, zst_s, zup_zs, zup_zn, decide_true, decide_false, c_Ne_hasState hC, c1, c_Ne_allPlans hN hC, ha, c2, c2', false_and, and_false]
    exact ⟨zKp_rf _ _, fun h => h.elim, fun _ => hK⟩
  rw [if_pos c2] at hans
  have c2' : (zplans S P mv S : Int) ≤ 20000 := by omega
  have hpt := zplans_small hm c2
  simp (disch := first | omega | exact Nat.le_of_ble_eq_true rfl | assumption | (simp only [Int.natCast_add, Int.natCast_mul, Int.cast_ofNat_Int]; omega) | decide) only [k_FN_settle_2, k_FN_settle_4, x_aload, x_getf, w_fall, w_iconst, w_if, w_icmp, x_iload, gf_41_2, gf_3_4, gf_2_0, gf_2_7, w_nret r_FN_settle, q_eq, q_ne, q_lt, q_ge, q_gt, q_le, g_I, g_L, g_R, g_V, t_0, t_I, t_R, t_U, t_L, t_s, List.getElem?_cons_zero, List.getElem?_cons_succ, Nat.reduceAdd, zif10, zif01b, zib, if_pos, if_neg, ↓reduceIte, not_true_eq_false, not_false_eq_true, Bool.true_eq_false, Bool.false_eq_true, Classical.not_not, eq_self, and_self, and_true, true_and, Int.reduceEq, Int.reduceLE, Int.reduceLT, Int.reduceNeg, Option.toList, List.cons_append, List.nil_append, zup_s, zup_n, zst_s, zup_zs, zup_zn, decide_true, decide_false, c_Ne_hasState hC, c1, c_Ne_allPlans hN hC, c2, c2']
  refine c_Go_search hN hC hG (show s < S by omega) (by omega) (by omega) (Nat.le_of_ble_eq_true rfl) ?_
  rintro _ _ ⟨rfl, F, rfl, hF⟩
  by_cases c3 : zStf S P mv tg gl s < zPt S P mv
  · rw [if_pos c3] at hans
    have hF := hF c3
    have hch : ∀ t p, zPk S P mv (zStf S P mv tg gl s) t p < mv t p := fun t p => zPk_lt hm _ t p
    have hK2 : zPkC 5 (zPk S P mv (zStf S P mv tg gl s)) (zst (zst M 43 F) 5 (zc48 F (M 5))) := fun t p ht hp => by
      show zc48 F (M 5) _ = _
      unfold zc48
      rw [if_pos (by omega)]
      exact hF t p ht hp
    have hC2 : zNetC S P mv tg (zst (zst M 43 F) 5 (zc48 F (M 5))) := hC
    have hG2 : zGlC S P gl (zst (zst M 43 F) 5 (zc48 F (M 5))) := hG
    simp (disch := first | omega | exact Nat.le_of_ble_eq_true rfl | assumption | (simp only [Int.natCast_add, Int.natCast_mul, Int.cast_ofNat_Int]; omega) | decide) only [k_FN_settle_6, x_aload, x_getf, w_fall, w_iconst, w_if, w_icmp, x_iload, gf_41_2, gf_3_4, gf_2_0, gf_2_7, w_nret r_FN_settle, q_eq, q_ne, q_lt, q_ge, q_gt, q_le, g_I, g_L, g_R, g_V, t_0, t_I, t_R, t_U, t_L, t_s, List.getElem?_cons_zero, List.getElem?_cons_succ, Nat.reduceAdd, zif10, zif01b, zib, if_pos, if_neg, ↓reduceIte, not_true_eq_false, not_false_eq_true, Bool.true_eq_false, Bool.false_eq_true, Classical.not_not, eq_self, and_self, and_true, true_and, Int.reduceEq, Int.reduceLE, Int.reduceLT, Int.reduceNeg, Option.toList, List.cons_append, List.nil_append, zup_s, zup_n, zst_s, zup_zs, zup_zn, decide_true, decide_false, c3, zcopy5, zst_s, zst_n, c_Go_passed5 hN hC2 hK2 hch (show s < S by omega), c_Go_meeting hN hC2 hG2]
    refine ⟨?_, zKp_st (by decide) (zKp_st (by decide) (zKp_rf _ _)), fun _ => hK2, fun h => by simp_all⟩
    rw [← hans]
    rfl
  · rw [if_neg c3] at hans
    simp (disch := first | omega | exact Nat.le_of_ble_eq_true rfl | assumption | (simp only [Int.natCast_add, Int.natCast_mul, Int.cast_ofNat_Int]; omega) | decide) only [k_FN_settle_5, x_aload, x_getf, w_fall, w_iconst, w_if, w_icmp, x_iload, gf_41_2, gf_3_4, gf_2_0, gf_2_7, w_nret r_FN_settle, q_eq, q_ne, q_lt, q_ge, q_gt, q_le, g_I, g_L, g_R, g_V, t_0, t_I, t_R, t_U, t_L, t_s, List.getElem?_cons_zero, List.getElem?_cons_succ, Nat.reduceAdd, zif10, zif01b, zib, if_pos, if_neg, ↓reduceIte, not_true_eq_false, not_false_eq_true, Bool.true_eq_false, Bool.false_eq_true, Classical.not_not, eq_self, and_self, and_true, true_and, Int.reduceEq, Int.reduceLE, Int.reduceLT, Int.reduceNeg, Option.toList, List.cons_append, List.nil_append, zup_s, zup_n, zst_s, zup_zs, zup_zn, decide_true, decide_false, c3, hans]
    exact ⟨zKp_st (by decide) (zKp_rf _ _), fun h => by simp_all, fun _ => hK⟩
theorem c_FN_settle {d mi o b9 : Nat} {es : List zEnt} {L st : List zMV} {Q : Option zMV → (Nat → Int → Int) → Prop} {x : Int} (hN : zNet S P mv tg) (hC : zNetC S P mv tg M) (hG : zGlC S P gl M) (hK : zPkC 5 ch M) (hd : 7 + 1 ≤ d) (hc : zcats st ≤ 8) (hpost : ∀ r M', (r = some (zI (zSeA S P mv tg gl x)) ∧ zKp [5, 43] M M' ∧ (zSeF S P mv tg gl x → zPkC 5 (zPk S P mv (zStf S P mv tg gl x.toNat)) M') ∧ (¬ zSeF S P mv tg gl x → zPkC 5 ch M')) → zW (zSH Ln) d mi es L (r.toList ++ st) M' Q) : zW (zSH Ln) d mi ((.invokevirtual o, 152, b9) :: es) L (zI x :: zR 2 :: st) M Q :=
  w_callv (ps := [zI x]) (by omega) rfl rfl (by omega) (by exact sh_2 Ln) hc (Nat.le_of_ble_eq_true rfl) (F_FN_settle hN hC hG hK (by omega)) hpost
end FC
/-! the reference's face: goals -/
section RE
variable {Ln S P : Nat} {mv tg ch : Nat → Nat → Nat} {gl : Nat → Nat → Bool} {M : Nat → Int → Int}
theorem F_Md_content {d : Nat} {x : Int} (hN : zNet S P mv tg) (hR : zNetR S P mv tg M) (hG : zGlR S P gl M) (hK : zPkR ch M) (hch : ∀ s p, ch s p < mv s p) (hd : 3 ≤ d) : zF (zSH Ln) d i_Md_content [zR 48, zI x] M fun r M' => r = some (zI (zCtA S P mv tg ch gl x)) ∧ M' = M := by
  rw [zF_en k_Md_content_0 (L := [zR 48, zI x]) rfl]
  generalize hans : zCtA S P mv tg ch gl x = ans
  unfold zCtA at hans
  by_cases c1 : 0 ≤ x ∧ x < S
  · rw [if_pos c1] at hans
    obtain ⟨s, rfl⟩ : ∃ s : Nat, x = (s : Int) := ⟨x.toNat, by omega⟩
    rw [Int.toNat_natCast] at hans
    subst hans
    simp (disch := first | omega | exact Nat.le_of_ble_eq_true rfl | assumption | (simp only [Int.natCast_add, Int.natCast_mul, Int.cast_ofNat_Int]; omega) | decide) only [k_Md_content_1, k_Md_content_3, x_aload, w_goto, w_fall, w_iconst, w_if, x_iload, w_nret r_Md_content, q_eq, q_ne, q_lt, q_ge, q_gt, q_le, g_I, g_L, g_R, g_V, t_0, t_I, t_R, t_U, t_L, t_s, List.getElem?_cons_zero, List.getElem?_cons_succ, Nat.reduceAdd, zif10, zif01b, zib, if_pos, if_neg, ↓reduceIte, not_true_eq_false, not_false_eq_true, Bool.true_eq_false, Bool.false_eq_true, Classical.not_not, eq_self, and_self, and_true, true_and, Int.reduceEq, Int.reduceLE, Int.reduceLT, Int.reduceNeg, Option.toList, List.cons_append, List.nil_append, zup_s, zup_n, zst_s, zup_zs, zup_zn, decide_true, decide_false, c_Md_isState hN hR, c1, c_Md_contentOf hN hR hG hK hch (show s < S by omega)]
  · rw [if_neg c1] at hans
    subst hans
    simp (disch := first | omega | exact Nat.le_of_ble_eq_true rfl | assumption | (simp only [Int.natCast_add, Int.natCast_mul, Int.cast_ofNat_Int]; omega) | decide) only [k_Md_content_2, k_Md_content_3, x_aload, w_goto, w_fall, w_iconst, w_if, x_iload, w_nret r_Md_content, q_eq, q_ne, q_lt, q_ge, q_gt, q_le, g_I, g_L, g_R, g_V, t_0, t_I, t_R, t_U, t_L, t_s, List.getElem?_cons_zero, List.getElem?_cons_succ, Nat.reduceAdd, zif10, zif01b, zib, if_pos, if_neg, ↓reduceIte, not_true_eq_false, not_false_eq_true, Bool.true_eq_false, Bool.false_eq_true, Classical.not_not, eq_self, and_self, and_true, true_and, Int.reduceEq, Int.reduceLE, Int.reduceLT, Int.reduceNeg, Option.toList, List.cons_append, List.nil_append, zup_s, zup_n, zst_s, zup_zs, zup_zn, decide_true, decide_false, c_Md_isState hN hR, c1]
theorem c_Md_content {d mi o b9 : Nat} {es : List zEnt} {L st : List zMV} {Q : Option zMV → (Nat → Int → Int) → Prop} {x : Int} (hN : zNet S P mv tg) (hR : zNetR S P mv tg M) (hG : zGlR S P gl M) (hK : zPkR ch M) (hch : ∀ s p, ch s p < mv s p) (hd : 3 + 1 ≤ d) (hc : zcats st ≤ 8) : zW (zSH Ln) d mi ((.invokevirtual o, 247, b9) :: es) L (zI x :: zR 48 :: st) M Q = zW (zSH Ln) d mi es L (zI (zCtA S P mv tg ch gl x) :: st) (M) Q :=
  c_virt (ps := [zI x]) (by omega) rfl rfl (by omega) (by exact sh_48 Ln) hc (Nat.le_of_ble_eq_true rfl) (F_Md_content hN hR hG hK hch (by omega))
theorem F_Md_stable {d : Nat} {x : Int} (hN : zNet S P mv tg) (hR : zNetR S P mv tg M) (hG : zGlR S P gl M) (hK : zPkR ch M) (hch : ∀ s p, ch s p < mv s p) (hd : 4 ≤ d) : zF (zSH Ln) d i_Md_stable [zR 48, zI x] M fun r M' => r = some (zI (zSbA S P mv tg ch gl x)) ∧ M' = M := by
  rw [zF_en k_Md_stable_0 (L := [zR 48, zI x]) rfl]
  generalize hans : zSbA S P mv tg ch gl x = ans
  unfold zSbA at hans
  by_cases c1 : 0 ≤ x ∧ x < S
  · rw [if_pos c1] at hans
    obtain ⟨s, rfl⟩ : ∃ s : Nat, x = (s : Int) := ⟨x.toNat, by omega⟩
    rw [Int.toNat_natCast] at hans
    by_cases c2 : zStb S P mv tg ch gl s = true
    · rw [if_pos c2] at hans
      subst hans
      simp (disch := first | omega | exact Nat.le_of_ble_eq_true rfl | assumption | (simp only [Int.natCast_add, Int.natCast_mul, Int.cast_ofNat_Int]; omega) | decide) only [k_Md_stable_1, k_Md_stable_2, k_Md_stable_5, x_aload, w_goto, w_fall, w_iconst, w_if, x_iload, w_nret r_Md_stable, q_eq, q_ne, q_lt, q_ge, q_gt, q_le, g_I, g_L, g_R, g_V, t_0, t_I, t_R, t_U, t_L, t_s, List.getElem?_cons_zero, List.getElem?_cons_succ, Nat.reduceAdd, zif10, zif01b, zib, if_pos, if_neg, ↓reduceIte, not_true_eq_false, not_false_eq_true, Bool.true_eq_false, Bool.false_eq_true, Classical.not_not, eq_self, and_self, and_true, true_and, Int.reduceEq, Int.reduceLE, Int.reduceLT, Int.reduceNeg, Option.toList, List.cons_append, List.nil_append, zup_s, zup_n, zst_s, zup_zs, zup_zn, decide_true, decide_false, c_Md_isState hN hR, c1, c_Md_isStable hN hR hG hK hch (show s < S by omega), c2]
    · rw [if_neg c2] at hans
      subst hans
      simp (disch := first | omega | exact Nat.le_of_ble_eq_true rfl | assumption | (simp only [Int.natCast_add, Int.natCast_mul, Int.cast_ofNat_Int]; omega) | decide) only [k_Md_stable_1, k_Md_stable_3, k_Md_stable_5, x_aload, w_goto, w_fall, w_iconst, w_if, x_iload, w_nret r_Md_stable, q_eq, q_ne, q_lt, q_ge, q_gt, q_le, g_I, g_L, g_R, g_V, t_0, t_I, t_R, t_U, t_L, t_s, List.getElem?_cons_zero, List.getElem?_cons_succ, Nat.reduceAdd, zif10, zif01b, zib, if_pos, if_neg, ↓reduceIte, not_true_eq_false, not_false_eq_true, Bool.true_eq_false, Bool.false_eq_true, Classical.not_not, eq_self, and_self, and_true, true_and, Int.reduceEq, Int.reduceLE, Int.reduceLT, Int.reduceNeg, Option.toList, List.cons_append, List.nil_append, zup_s, zup_n, zst_s, zup_zs, zup_zn, decide_true, decide_false, c_Md_isState hN hR, c1, c_Md_isStable hN hR hG hK hch (show s < S by omega), c2]
  · rw [if_neg c1] at hans
    subst hans
    simp (disch := first | omega | exact Nat.le_of_ble_eq_true rfl | assumption | (simp only [Int.natCast_add, Int.natCast_mul, Int.cast_ofNat_Int]; omega) | decide) only [k_Md_stable_4, k_Md_stable_5, x_aload, w_goto, w_fall, w_iconst, w_if, x_iload, w_nret r_Md_stable, q_eq, q_ne, q_lt, q_ge, q_gt, q_le, g_I, g_L, g_R, g_V, t_0, t_I, t_R, t_U, t_L, t_s, List.getElem?_cons_zero, List.getElem?_cons_succ, Nat.reduceAdd, zif10, zif01b, zib, if_pos, if_neg, ↓reduceIte, not_true_eq_false, not_false_eq_true, Bool.true_eq_false, Bool.false_eq_true, Classical.not_not, eq_self, and_self, and_true, true_and, Int.reduceEq, Int.reduceLE, Int.reduceLT, Int.reduceNeg, Option.toList, List.cons_append, List.nil_append, zup_s, zup_n, zst_s, zup_zs, zup_zn, decide_true, decide_false, c_Md_isState hN hR, c1]
theorem c_Md_stable {d mi o b9 : Nat} {es : List zEnt} {L st : List zMV} {Q : Option zMV → (Nat → Int → Int) → Prop} {x : Int} (hN : zNet S P mv tg) (hR : zNetR S P mv tg M) (hG : zGlR S P gl M) (hK : zPkR ch M) (hch : ∀ s p, ch s p < mv s p) (hd : 4 + 1 ≤ d) (hc : zcats st ≤ 8) : zW (zSH Ln) d mi ((.invokevirtual o, 250, b9) :: es) L (zI x :: zR 48 :: st) M Q = zW (zSH Ln) d mi es L (zI (zSbA S P mv tg ch gl x) :: st) (M) Q :=
  c_virt (ps := [zI x]) (by omega) rfl rfl (by omega) (by exact sh_48 Ln) hc (Nat.le_of_ble_eq_true rfl) (F_Md_stable hN hR hG hK hch (by omega))
end RE
