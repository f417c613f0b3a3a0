/-! the reference: what is chosen, goals -/
def zGlR (S P : Nat) (gl : Nat → Nat → Bool) (M : Nat → Int → Int) : Prop := ∀ p : Nat, p < P → M 55 (p : Int) = zset S (gl p)
def zPkR (ch : Nat → Nat → Nat) (M : Nat → Int → Int) : Prop := ∀ s p : Nat, s < 12 → p < 4 → M 54 (4 * (s : Int) + p) = ch s p
section RE
variable {Ln S P : Nat} {mv tg ch : Nat → Nat → Nat} {gl : Nat → Nat → Bool} {M : Nat → Int → Int}
theorem F_Md_leadsWith {d : Nat} {s : Nat} {y : Int} {a : Nat} (hN : zNet S P mv tg) (hR : zNetR S P mv tg M) (hK : zPkR ch M) (hch : ∀ s p, ch s p < mv s p) (hs : s < S) (hy : ∀ p : Nat, (p : Int) = y → a < mv s p) (hd : 0 ≤ d) : zF (zSH Ln) d i_Md_leadsWith [zR 48, zI (s : Int), zI y, zI (a : Int)] M fun r M' => r = some (zI (tg s (znum (mv s) (fun p : Nat => if (p : Int) = y then a else ch s p) P) : Int)) ∧ M' = M := by
  rw [zF_en k_Md_leadsWith_0 (L := [zR 48, zI (s : Int), zI y, zI (a : Int), zU, zU]) rfl]
  have hS := hN.2.1
  have hP4 := hN.2.2.2.1
  have hm := hN.2.2.2.2.1 s
  have hdg : ∀ p : Nat, (if (p : Int) = y then a else ch s p) < mv s p := by
    intro p
    split
    · next h => exact hy p h
    · exact hch s p
  have h81 := zcnt_81 hm zall1 hP4
  simp (disch := first | omega | exact Nat.le_of_ble_eq_true rfl | assumption | (simp only [Int.natCast_add, Int.natCast_mul, Int.cast_ofNat_Int]; omega) | decide) only [x_aload, x_getf, w_goto, w_fall, w_iadd, w_iconst, w_icmp, x_iinc, x_iload, w_imul, x_istore, zadd_eq, zmul_eq, gf_48_1, gf_48_2, gf_48_3, gf_48_7, ia_49, ia_50, ia_54, w_nret r_Md_leadsWith, q_eq, q_ne, q_lt, q_ge, q_gt, q_le, g_I, g_L, g_R, g_V, t_0, t_I, t_R, t_U, t_L, t_s, List.getElem?_cons_zero, List.getElem?_cons_succ, Nat.reduceAdd, zif10, zif01b, zib, if_pos, if_neg, ↓reduceIte, not_true_eq_false, not_false_eq_true, Bool.true_eq_false, Bool.false_eq_true, Classical.not_not, eq_self, and_self, and_true, true_and, Int.reduceEq, Int.reduceLE, Int.reduceLT, Int.reduceNeg, Option.toList, List.cons_append, List.nil_append, zup_s, zup_n, zst_s, zup_zs, zup_zn, decide_true, decide_false]
  refine zfor (a := 0) (N := P) (b := 1) (fun p L0 M0 => L0 = [zR 48, zI s, zI y, zI (a : Int), zI (znum (mv s) (fun p : Nat => if (p : Int) = y then a else ch s p) p : Int), zI (p : Int)] ∧ M0 = M) ?_ ?_ ?_ ?_
  · exact Nat.zero_le _
  · exact ⟨rfl, rfl⟩
  · rintro p _ M _ hp ⟨rfl, rfl⟩ ih
    have hl := znum_lt hm hdg p
    have h81p := zcnt_81 hm zall1 (show p ≤ 4 by omega)
    have hmp := hm p
    have hd2 := hdg p
    have hmul : znum (mv s) (fun p : Nat => if (p : Int) = y then a else ch s p) p * mv s p ≤ 81 * 3 := Nat.mul_le_mul (by omega) hmp.2
    have hms := hR.2.2.1 s p (by omega) (by omega)
    have hcs := hK s p (by omega) (by omega)
    have hnu : znum (mv s) (fun p : Nat => if (p : Int) = y then a else ch s p) (p + 1) = znum (mv s) (fun p : Nat => if (p : Int) = y then a else ch s p) p * mv s p + (if (p : Int) = y then a else ch s p) := rfl
    generalize hz : znum (mv s) (fun p : Nat => if (p : Int) = y then a else ch s p) p = zz at *
    have ez : zmul (zz : Int) (mv s p : Int) = ((zz * mv s p : Nat) : Int) := zmul_nat (by omega)
    generalize hzm : zz * mv s p = zm at *
    rw [k_Md_leadsWith_1]
    by_cases hpy : (p : Int) = y
    · rw [if_pos hpy] at hd2 hnu
      subst hpy
      simp (disch := first | omega | exact Nat.le_of_ble_eq_true rfl | assumption | (simp only [Int.natCast_add, Int.natCast_mul, Int.cast_ofNat_Int]; omega) | decide) only [k_Md_leadsWith_2, k_Md_leadsWith_3, k_Md_leadsWith_5, x_aload, x_getf, w_goto, w_fall, w_iadd, w_iconst, w_icmp, x_iinc, x_iload, w_imul, x_istore, zadd_eq, zmul_eq, gf_48_1, gf_48_2, gf_48_3, gf_48_7, ia_49, ia_50, ia_54, w_nret r_Md_leadsWith, q_eq, q_ne, q_lt, q_ge, q_gt, q_le, g_I, g_L, g_R, g_V, t_0, t_I, t_R, t_U, t_L, t_s, List.getElem?_cons_zero, List.getElem?_cons_succ, Nat.reduceAdd, zif10, zif01b, zib, if_pos, if_neg, ↓reduceIte, not_true_eq_false, not_false_eq_true, Bool.true_eq_false, Bool.false_eq_true, Classical.not_not, eq_self, and_self, and_true, true_and, Int.reduceEq, Int.reduceLE, Int.reduceLT, Int.reduceNeg, Option.toList, List.cons_append, List.nil_append, zup_s, zup_n, zst_s, zup_zs, zup_zn, decide_true, decide_false, hR.2.1, hms, hcs, ez]
      refine ih _ _ ⟨?_, rfl⟩
      rw [hnu, ← hzm]; simp
    · rw [if_neg hpy] at hd2 hnu
      simp (disch := first | omega | exact Nat.le_of_ble_eq_true rfl | assumption | (simp only [Int.natCast_add, Int.natCast_mul, Int.cast_ofNat_Int]; omega) | decide) only [k_Md_leadsWith_2, k_Md_leadsWith_4, k_Md_leadsWith_5, x_aload, x_getf, w_goto, w_fall, w_iadd, w_iconst, w_icmp, x_iinc, x_iload, w_imul, x_istore, zadd_eq, zmul_eq, gf_48_1, gf_48_2, gf_48_3, gf_48_7, ia_49, ia_50, ia_54, w_nret r_Md_leadsWith, q_eq, q_ne, q_lt, q_ge, q_gt, q_le, g_I, g_L, g_R, g_V, t_0, t_I, t_R, t_U, t_L, t_s, List.getElem?_cons_zero, List.getElem?_cons_succ, Nat.reduceAdd, zif10, zif01b, zib, if_pos, if_neg, ↓reduceIte, not_true_eq_false, not_false_eq_true, Bool.true_eq_false, Bool.false_eq_true, Classical.not_not, eq_self, and_self, and_true, true_and, Int.reduceEq, Int.reduceLE, Int.reduceLT, Int.reduceNeg, Option.toList, List.cons_append, List.nil_append, zup_s, zup_n, zst_s, zup_zs, zup_zn, decide_true, decide_false, hR.2.1, hms, hcs, ez, hpy]
      refine ih _ _ ⟨?_, rfl⟩
      rw [hnu, ← hzm]; simp
  · rintro _ M ⟨rfl, rfl⟩
    have hl := znum_lt hm hdg P
    have htg := hR.2.2.2 s (znum (mv s) (fun p : Nat => if (p : Int) = y then a else ch s p) P) (by omega) (by omega)
    rw [k_Md_leadsWith_1]
    simp (disch := first | omega | exact Nat.le_of_ble_eq_true rfl | assumption | (simp only [Int.natCast_add, Int.natCast_mul, Int.cast_ofNat_Int]; omega) | decide) only [k_Md_leadsWith_6, x_aload, x_getf, w_goto, w_fall, w_iadd, w_iconst, w_icmp, x_iinc, x_iload, w_imul, x_istore, zadd_eq, zmul_eq, gf_48_1, gf_48_2, gf_48_3, gf_48_7, ia_49, ia_50, ia_54, w_nret r_Md_leadsWith, q_eq, q_ne, q_lt, q_ge, q_gt, q_le, g_I, g_L, g_R, g_V, t_0, t_I, t_R, t_U, t_L, t_s, List.getElem?_cons_zero, List.getElem?_cons_succ, Nat.reduceAdd, zif10, zif01b, zib, if_pos, if_neg, ↓reduceIte, not_true_eq_false, not_false_eq_true, Bool.true_eq_false, Bool.false_eq_true, Classical.not_not, eq_self, and_self, and_true, true_and, Int.reduceEq, Int.reduceLE, Int.reduceLT, Int.reduceNeg, Option.toList, List.cons_append, List.nil_append, zup_s, zup_n, zst_s, zup_zs, zup_zn, decide_true, decide_false, hR.2.1, htg]
theorem c_Md_leadsWith {d mi o b9 : Nat} {es : List zEnt} {L st : List zMV} {Q : Option zMV → (Nat → Int → Int) → Prop} {s : Nat} {y : Int} {a : Nat} (hN : zNet S P mv tg) (hR : zNetR S P mv tg M) (hK : zPkR ch M) (hch : ∀ s p, ch s p < mv s p) (hs : s < S) (hy : ∀ p : Nat, (p : Int) = y → a < mv s p) (hd : 0 + 1 ≤ d) (hc : zcats st ≤ 8) : zW (zSH Ln) d mi ((.invokevirtual o, 235, b9) :: es) L (zI (a : Int) :: zI y :: zI (s : Int) :: zR 48 :: st) M Q = zW (zSH Ln) d mi es L (zI (tg s (znum (mv s) (fun p : Nat => if (p : Int) = y then a else ch s p) P) : Int) :: st) (M) Q :=
  c_virt (ps := [zI (s : Int), zI y, zI (a : Int)]) (by omega) rfl rfl (by omega) (by exact sh_48 Ln) hc (Nat.le_of_ble_eq_true rfl) (F_Md_leadsWith hN hR hK hch hs hy (by omega))
theorem F_Md_way {d : Nat} {s : Nat} (hN : zNet S P mv tg) (hR : zNetR S P mv tg M) (hK : zPkR ch M) (hch : ∀ s p, ch s p < mv s p) (hs : s < S) (hd : 1 ≤ d) : zF (zSH Ln) d i_Md_way [zR 48, zI (s : Int)] M fun r M' => r = some (zI (zset S (zWy (zNy mv tg P ch) s))) ∧ M' = M := by
  rw [zF_en k_Md_way_0 (L := [zR 48, zI (s : Int), zU, zU]) rfl]
  have hS := hN.2.1
  have hy : ∀ s, ∀ p : Nat, (p : Int) = -1 → 0 < mv s p := fun s p h => by omega
  simp (disch := first | omega | exact Nat.le_of_ble_eq_true rfl | assumption | (simp only [Int.natCast_add, Int.natCast_mul, Int.cast_ofNat_Int]; omega) | decide) only [x_aload, w_goto, w_fall, w_iand, w_iconst, w_if, x_iload, w_ior, w_ishl, w_ishr, x_istore, w_nret r_Md_way, q_eq, q_ne, q_lt, q_ge, q_gt, q_le, g_I, g_L, g_R, g_V, t_0, t_I, t_R, t_U, t_L, t_s, List.getElem?_cons_zero, List.getElem?_cons_succ, Nat.reduceAdd, zif10, zif01b, zib, if_pos, if_neg, ↓reduceIte, not_true_eq_false, not_false_eq_true, Bool.true_eq_false, Bool.false_eq_true, Classical.not_not, eq_self, and_self, and_true, true_and, Int.reduceEq, Int.reduceLE, Int.reduceLT, Int.reduceNeg, Option.toList, List.cons_append, List.nil_append, zup_s, zup_n, zst_s, zup_zs, zup_zn, decide_true, decide_false]
  refine zfor (a := 0) (N := 13) (b := 1) (fun p L0 M0 => ∃ (met : Nat → Bool) (t : Nat), L0 = [zR 48, zI s, zI (zset S met), zI (t : Int)] ∧ M0 = M ∧ t < S ∧ p ≤ zcard S met ∧ zwy (zNy mv tg P ch) (13 - p) met t = zWy (zNy mv tg P ch) s) ?_ ?_ ?_ ?_
  · exact Nat.zero_le _
  · refine ⟨fun _ => false, s, by rw [zset_none], rfl, hs, Nat.zero_le _, ?_⟩
    exact zwy_st (f := zNy mv tg P ch) (fun t ht => zNy_lt hN hch ht) 12 _ s hs (by omega)
  · rintro p _ M _ hp ⟨met, t, rfl, rfl, ht, hc, he⟩ ih
    rw [show 13 - p = (13 - (p + 1)) + 1 by omega, zwy] at he
    rw [k_Md_way_1]
    cases hm : met t
    · rw [if_neg (by rw [hm]; decide)] at he
      have hup := zcard_up ht (by rw [hm]; decide : ¬ met t = true)
      simp (disch := first | omega | exact Nat.le_of_ble_eq_true rfl | assumption | (simp only [Int.natCast_add, Int.natCast_mul, Int.cast_ofNat_Int]; omega) | decide) only [k_Md_way_2, x_aload, w_goto, w_fall, w_iand, w_iconst, w_if, x_iload, w_ior, w_ishl, w_ishr, x_istore, w_nret r_Md_way, q_eq, q_ne, q_lt, q_ge, q_gt, q_le, g_I, g_L, g_R, g_V, t_0, t_I, t_R, t_U, t_L, t_s, List.getElem?_cons_zero, List.getElem?_cons_succ, Nat.reduceAdd, zif10, zif01b, zib, if_pos, if_neg, ↓reduceIte, not_true_eq_false, not_false_eq_true, Bool.true_eq_false, Bool.false_eq_true, Classical.not_not, eq_self, and_self, and_true, true_and, Int.reduceEq, Int.reduceLE, Int.reduceLT, Int.reduceNeg, Option.toList, List.cons_append, List.nil_append, zup_s, zup_n, zst_s, zup_zs, zup_zn, decide_true, decide_false, zset_has, hm, show (0 : Int) = ((0 : Nat) : Int) from rfl, c_Md_leadsWith hN hR hK hch ht (hy t), znx_no, zset_up]
      exact ih _ _ ⟨_, _, rfl, rfl, zNy_lt hN hch ht, by omega, he⟩
    · rw [if_pos hm] at he
      subst he
      simp (disch := first | omega | exact Nat.le_of_ble_eq_true rfl | assumption | (simp only [Int.natCast_add, Int.natCast_mul, Int.cast_ofNat_Int]; omega) | decide) only [k_Md_way_3, x_aload, w_goto, w_fall, w_iand, w_iconst, w_if, x_iload, w_ior, w_ishl, w_ishr, x_istore, w_nret r_Md_way, q_eq, q_ne, q_lt, q_ge, q_gt, q_le, g_I, g_L, g_R, g_V, t_0, t_I, t_R, t_U, t_L, t_s, List.getElem?_cons_zero, List.getElem?_cons_succ, Nat.reduceAdd, zif10, zif01b, zib, if_pos, if_neg, ↓reduceIte, not_true_eq_false, not_false_eq_true, Bool.true_eq_false, Bool.false_eq_true, Classical.not_not, eq_self, and_self, and_true, true_and, Int.reduceEq, Int.reduceLE, Int.reduceLT, Int.reduceNeg, Option.toList, List.cons_append, List.nil_append, zup_s, zup_n, zst_s, zup_zs, zup_zn, decide_true, decide_false, zset_has, hm]
  · rintro _ M ⟨met, t, rfl, rfl, ht, hc, he⟩
    have := zcard_le S met
    omega
theorem c_Md_way {d mi o b9 : Nat} {es : List zEnt} {L st : List zMV} {Q : Option zMV → (Nat → Int → Int) → Prop} {s : Nat} (hN : zNet S P mv tg) (hR : zNetR S P mv tg M) (hK : zPkR ch M) (hch : ∀ s p, ch s p < mv s p) (hs : s < S) (hd : 1 + 1 ≤ d) (hc : zcats st ≤ 8) : zW (zSH Ln) d mi ((.invokevirtual o, 245, b9) :: es) L (zI (s : Int) :: zR 48 :: st) M Q = zW (zSH Ln) d mi es L (zI (zset S (zWy (zNy mv tg P ch) s)) :: st) (M) Q :=
  c_virt (ps := [zI (s : Int)]) (by omega) rfl rfl (by omega) (by exact sh_48 Ln) hc (Nat.le_of_ble_eq_true rfl) (F_Md_way hN hR hK hch hs (by omega))
theorem F_Md_contentOf {d : Nat} {s : Nat} (hN : zNet S P mv tg) (hR : zNetR S P mv tg M) (hG : zGlR S P gl M) (hK : zPkR ch M) (hch : ∀ s p, ch s p < mv s p) (hs : s < S) (hd : 2 ≤ d) : zF (zSH Ln) d i_Md_contentOf [zR 48, zI (s : Int)] M fun r M' => r = some (zI (zset P (zCon S P mv tg ch gl s))) ∧ M' = M := by
  rw [zF_en k_Md_contentOf_0 (L := [zR 48, zI (s : Int), zU, zU, zU]) rfl]
  have hS := hN.2.1
  have hP := hN.2.2.2.1
  simp (disch := first | omega | exact Nat.le_of_ble_eq_true rfl | assumption | (simp only [Int.natCast_add, Int.natCast_mul, Int.cast_ofNat_Int]; omega) | decide) only [x_aload, x_getf, w_goto, w_fall, w_iand, w_iconst, w_if, w_icmp, x_iinc, x_iload, w_ior, w_ishl, x_istore, zadd_eq, gf_48_1, gf_48_8, ia_55, w_nret r_Md_contentOf, q_eq, q_ne, q_lt, q_ge, q_gt, q_le, g_I, g_L, g_R, g_V, t_0, t_I, t_R, t_U, t_L, t_s, List.getElem?_cons_zero, List.getElem?_cons_succ, Nat.reduceAdd, zif10, zif01b, zib, if_pos, if_neg, ↓reduceIte, not_true_eq_false, not_false_eq_true, Bool.true_eq_false, Bool.false_eq_true, Classical.not_not, eq_self, and_self, and_true, true_and, Int.reduceEq, Int.reduceLE, Int.reduceLT, Int.reduceNeg, Option.toList, List.cons_append, List.nil_append, zup_s, zup_n, zst_s, zup_zs, zup_zn, decide_true, decide_false, c_Md_way hN hR hK hch hs]
  refine zfor (a := 0) (N := P) (b := 1) (fun p L0 M0 => L0 = [zR 48, zI s, zI (zset S (zWy (zNy mv tg P ch) s)), zI (zset P fun q => decide (q < p) && zCon S P mv tg ch gl s q), zI (p : Int)] ∧ M0 = M) ?_ ?_ ?_ ?_
  · exact Nat.zero_le _
  · exact ⟨by simp [zset_none], rfl⟩
  · rintro p _ M _ hp ⟨rfl, rfl⟩ ih
    have hz : zan S (fun t => zWy (zNy mv tg P ch) s t && gl p t) = zCon S P mv tg ch gl s p := zan_congr fun t _ => Bool.and_comm _ _
    have nx : ∀ b : Bool, b = zCon S P mv tg ch gl s p → (zset P fun q => decide (q < p + 1) && zCon S P mv tg ch gl s q) = zset P fun q => (decide (q < p) && zCon S P mv tg ch gl s q) || (b && decide (q = p)) := by
      intro b hb
      refine zset_cong fun i hi => ?_
      by_cases e : i = p
      · subst e; simp [hb]
      · simp [e, show (i < p + 1) ↔ (i < p) by omega]
    have hg := hG p hp
    rw [k_Md_contentOf_1]
    cases hb : zCon S P mv tg ch gl s p
    · simp (disch := first | omega | exact Nat.le_of_ble_eq_true rfl | assumption | (simp only [Int.natCast_add, Int.natCast_mul, Int.cast_ofNat_Int]; omega) | decide) only [k_Md_contentOf_2, k_Md_contentOf_4, k_Md_contentOf_5, x_aload, x_getf, w_goto, w_fall, w_iand, w_iconst, w_if, w_icmp, x_iinc, x_iload, w_ior, w_ishl, x_istore, zadd_eq, gf_48_1, gf_48_8, ia_55, w_nret r_Md_contentOf, q_eq, q_ne, q_lt, q_ge, q_gt, q_le, g_I, g_L, g_R, g_V, t_0, t_I, t_R, t_U, t_L, t_s, List.getElem?_cons_zero, List.getElem?_cons_succ, Nat.reduceAdd, zif10, zif01b, zib, if_pos, if_neg, ↓reduceIte, not_true_eq_false, not_false_eq_true, Bool.true_eq_false, Bool.false_eq_true, Classical.not_not, eq_self, and_self, and_true, true_and, Int.reduceEq, Int.reduceLE, Int.reduceLT, Int.reduceNeg, Option.toList, List.cons_append, List.nil_append, zup_s, zup_n, zst_s, zup_zs, zup_zn, decide_true, decide_false, hR.2.1, hg, zset_and, zset_n0, hz, hb, zor_z]
      refine ih _ _ ⟨?_, rfl⟩
      rw [nx false hb.symm]
      simp
    · simp (disch := first | omega | exact Nat.le_of_ble_eq_true rfl | assumption | (simp only [Int.natCast_add, Int.natCast_mul, Int.cast_ofNat_Int]; omega) | decide) only [k_Md_contentOf_2, k_Md_contentOf_3, k_Md_contentOf_5, x_aload, x_getf, w_goto, w_fall, w_iand, w_iconst, w_if, w_icmp, x_iinc, x_iload, w_ior, w_ishl, x_istore, zadd_eq, gf_48_1, gf_48_8, ia_55, w_nret r_Md_contentOf, q_eq, q_ne, q_lt, q_ge, q_gt, q_le, g_I, g_L, g_R, g_V, t_0, t_I, t_R, t_U, t_L, t_s, List.getElem?_cons_zero, List.getElem?_cons_succ, Nat.reduceAdd, zif10, zif01b, zib, if_pos, if_neg, ↓reduceIte, not_true_eq_false, not_false_eq_true, Bool.true_eq_false, Bool.false_eq_true, Classical.not_not, eq_self, and_self, and_true, true_and, Int.reduceEq, Int.reduceLE, Int.reduceLT, Int.reduceNeg, Option.toList, List.cons_append, List.nil_append, zup_s, zup_n, zst_s, zup_zs, zup_zn, decide_true, decide_false, hR.2.1, hg, zset_and, zset_n0, hz, hb, zset_up]
      refine ih _ _ ⟨?_, rfl⟩
      rw [nx true hb.symm]
      simp
  · rintro _ M ⟨rfl, rfl⟩
    rw [k_Md_contentOf_1]
    simp (disch := first | omega | exact Nat.le_of_ble_eq_true rfl | assumption | (simp only [Int.natCast_add, Int.natCast_mul, Int.cast_ofNat_Int]; omega) | decide) only [k_Md_contentOf_6, x_aload, x_getf, w_goto, w_fall, w_iand, w_iconst, w_if, w_icmp, x_iinc, x_iload, w_ior, w_ishl, x_istore, zadd_eq, gf_48_1, gf_48_8, ia_55, w_nret r_Md_contentOf, q_eq, q_ne, q_lt, q_ge, q_gt, q_le, g_I, g_L, g_R, g_V, t_0, t_I, t_R, t_U, t_L, t_s, List.getElem?_cons_zero, List.getElem?_cons_succ, Nat.reduceAdd, zif10, zif01b, zib, if_pos, if_neg, ↓reduceIte, not_true_eq_false, not_false_eq_true, Bool.true_eq_false, Bool.false_eq_true, Classical.not_not, eq_self, and_self, and_true, true_and, Int.reduceEq, Int.reduceLE, Int.reduceLT, Int.reduceNeg, Option.toList, List.cons_append, List.nil_append, zup_s, zup_n, zst_s, zup_zs, zup_zn, decide_true, decide_false, hR.2.1]
    congr 2
    exact zset_cong fun i hi => by simp [hi]
theorem c_Md_contentOf {d mi o b9 : Nat} {es : List zEnt} {L st : List zMV} {Q : Option zMV → (Nat → Int → Int) → Prop} {s : Nat} (hN : zNet S P mv tg) (hR : zNetR S P mv tg M) (hG : zGlR S P gl M) (hK : zPkR ch M) (hch : ∀ s p, ch s p < mv s p) (hs : s < S) (hd : 2 + 1 ≤ d) (hc : zcats st ≤ 8) : zW (zSH Ln) d mi ((.invokevirtual o, 246, b9) :: es) L (zI (s : Int) :: zR 48 :: st) M Q = zW (zSH Ln) d mi es L (zI (zset P (zCon S P mv tg ch gl s)) :: st) (M) Q :=
  c_virt (ps := [zI (s : Int)]) (by omega) rfl rfl (by omega) (by exact sh_48 Ln) hc (Nat.le_of_ble_eq_true rfl) (F_Md_contentOf hN hR hG hK hch hs (by omega))
theorem F_Md_alone {d : Nat} {s p : Nat} (hN : zNet S P mv tg) (hR : zNetR S P mv tg M) (hK : zPkR ch M) (hch : ∀ s p, ch s p < mv s p) (hs : s < S) (hp : p < P) (hd : 1 ≤ d) : zF (zSH Ln) d i_Md_alone [zR 48, zI (s : Int), zI (p : Int)] M fun r M' => r = some (zI (zset S (zRc S (zEm mv tg P ch p) (fun x => decide (x = s)) 12))) ∧ M' = M := by
  rw [zF_en k_Md_alone_0 (L := [zR 48, zI (s : Int), zI (p : Int), zU, zU, zU, zU]) rfl]
  have hS := hN.2.1
  have hP := hN.2.2.2.1
  have hy : ∀ s k, k < mv s p → ∀ q : Nat, (q : Int) = (p : Int) → k < mv s q := fun s k hk q h => by
    have : q = p := by omega
    subst this; exact hk
  have hmo : ∀ x k, tg x (znum (mv x) (fun q : Nat => if (q : Int) = (p : Int) then k else ch x q) P) = zMo mv tg P ch p x k := fun _ _ => rfl
  generalize hX : zRc S (zEm mv tg P ch p) (fun x => decide (x = s)) = X
  have hX0 : X 0 = fun x => decide (x = s) := by rw [← hX]; rfl
  have hXs : ∀ i t, X (i + 1) t = (X i t || zan S fun u => X i u && zEm mv tg P ch p u t) := fun i t => by rw [← hX]; rfl
  have hst : ∀ i j, (zeqS S (X (i + 1)) (X i) ∨ S ≤ i) → i ≤ j → zeqS S (X j) (X i) := fun i j h h2 => by rw [← hX] at h ⊢; exact zRc_stay i j h h2
  have hone : zset S (X 0) = zshl 1 (s : Int) := by rw [hX0, zset_one (by omega) hs]
  simp (disch := first | omega | exact Nat.le_of_ble_eq_true rfl | assumption | (simp only [Int.natCast_add, Int.natCast_mul, Int.cast_ofNat_Int]; omega) | decide) only [x_aload, x_getf, w_goto, w_fall, w_iadd, w_iand, w_iconst, w_icmp, x_iinc, x_iload, w_imul, w_ior, w_ishl, w_ishr, x_istore, zadd_eq, zmul_eq, gf_48_0, gf_48_2, ia_49, w_nret r_Md_alone, q_eq, q_ne, q_lt, q_ge, q_gt, q_le, g_I, g_L, g_R, g_V, t_0, t_I, t_R, t_U, t_L, t_s, List.getElem?_cons_zero, List.getElem?_cons_succ, Nat.reduceAdd, zif10, zif01b, zib, if_pos, if_neg, ↓reduceIte, not_true_eq_false, not_false_eq_true, Bool.true_eq_false, Bool.false_eq_true, Classical.not_not, eq_self, and_self, and_true, true_and, Int.reduceEq, Int.reduceLE, Int.reduceLT, Int.reduceNeg, Option.toList, List.cons_append, List.nil_append, zup_s, zup_n, zst_s, zup_zs, zup_zn, decide_true, decide_false]
  rw [← hone]
  refine zfor (a := 0) (N := 14) (b := 1) (fun i L0 M0 => ∃ (w : Int) (v5 : zMV) (v6 : zMV), L0 = [zR 48, zI s, zI p, zI (zset S (X i)), zI w, v5, v6] ∧ M0 = M ∧ (¬ zset S (X i) = w) ∧ ∀ j, j < i → ¬ zeqS S (X (j + 1)) (X j)) ?_ ?_ ?_ ?_
  · exact Nat.zero_le _
  · refine ⟨0, zU, zU, rfl, rfl, fun h => ?_, fun j hj => by omega⟩
    have := (zset_eq0 (by omega)).mp h s hs
    rw [hX0] at this
    simp at this
  · rintro i _ M _ hi ⟨w, v5, v6, rfl, rfl, hw, hne⟩ ih
    have hi12 : i ≤ 12 := by
      rcases Nat.lt_or_ge 12 i with h | h
      · exact absurd (hst 12 13 (Or.inr hS) (by omega)) (hne 12 h)
      · exact h
    rw [k_Md_alone_1]
    simp (disch := first | omega | exact Nat.le_of_ble_eq_true rfl | assumption | (simp only [Int.natCast_add, Int.natCast_mul, Int.cast_ofNat_Int]; omega) | decide) only [k_Md_alone_2, x_aload, x_getf, w_goto, w_fall, w_iadd, w_iand, w_iconst, w_icmp, x_iinc, x_iload, w_imul, w_ior, w_ishl, w_ishr, x_istore, zadd_eq, zmul_eq, gf_48_0, gf_48_2, ia_49, w_nret r_Md_alone, q_eq, q_ne, q_lt, q_ge, q_gt, q_le, g_I, g_L, g_R, g_V, t_0, t_I, t_R, t_U, t_L, t_s, List.getElem?_cons_zero, List.getElem?_cons_succ, Nat.reduceAdd, zif10, zif01b, zib, if_pos, if_neg, ↓reduceIte, not_true_eq_false, not_false_eq_true, Bool.true_eq_false, Bool.false_eq_true, Classical.not_not, eq_self, and_self, and_true, true_and, Int.reduceEq, Int.reduceLE, Int.reduceLT, Int.reduceNeg, Option.toList, List.cons_append, List.nil_append, zup_s, zup_n, zst_s, zup_zs, zup_zn, decide_true, decide_false, hw]
    refine zfor (a := 0) (N := S) (b := 3) (fun t L0 M0 => ∃ (Y : Nat → Bool) (v6 : zMV), L0 = [zR 48, zI s, zI p, zI (zset S Y), zI (zset S (X i)), zI (t : Int), v6] ∧ M0 = M ∧ zeqS S Y (fun y => X i y || zan t fun u => X i u && zEm mv tg P ch p u y)) ?_ ?_ ?_ ?_
    · exact Nat.zero_le _
    · exact ⟨X i, v6, rfl, rfl, fun y _ => by simp [zan]⟩
    · rintro t _ M _ ht ⟨Y, v6, rfl, rfl, hY⟩ ih2
      have hms := hR.2.2.1 t p (by omega) (by omega)
      have hmv := hN.2.2.2.2.1 t p
      have skip : ∀ v6 : zMV, X i t = false → zW (zSH Ln) d i_Md_alone (zblk i_Md_alone 8) [zR 48, zI s, zI p, zI (zset S Y), zI (zset S (X i)), zI (t : Int), v6] [] M fun r M' => r = some (zI (zset S (X 12))) ∧ M' = M := by
        intro v6 h
        rw [k_Md_alone_8]
        simp (disch := first | omega | exact Nat.le_of_ble_eq_true rfl | assumption | (simp only [Int.natCast_add, Int.natCast_mul, Int.cast_ofNat_Int]; omega) | decide) only [x_aload, x_getf, w_goto, w_fall, w_iadd, w_iand, w_iconst, w_icmp, x_iinc, x_iload, w_imul, w_ior, w_ishl, w_ishr, x_istore, zadd_eq, zmul_eq, gf_48_0, gf_48_2, ia_49, w_nret r_Md_alone, q_eq, q_ne, q_lt, q_ge, q_gt, q_le, g_I, g_L, g_R, g_V, t_0, t_I, t_R, t_U, t_L, t_s, List.getElem?_cons_zero, List.getElem?_cons_succ, Nat.reduceAdd, zif10, zif01b, zib, if_pos, if_neg, ↓reduceIte, not_true_eq_false, not_false_eq_true, Bool.true_eq_false, Bool.false_eq_true, Classical.not_not, eq_self, and_self, and_true, true_and, Int.reduceEq, Int.reduceLE, Int.reduceLT, Int.reduceNeg, Option.toList, List.cons_append, List.nil_append, zup_s, zup_n, zst_s, zup_zs, zup_zn, decide_true, decide_false]
        refine ih2 _ _ ⟨Y, _, rfl, rfl, fun y hy => ?_⟩
        rw [hY y hy]
        simp [zan, h]
      rw [k_Md_alone_3]
      simp (disch := first | omega | exact Nat.le_of_ble_eq_true rfl | assumption | (simp only [Int.natCast_add, Int.natCast_mul, Int.cast_ofNat_Int]; omega) | decide) only [k_Md_alone_4, x_aload, x_getf, w_goto, w_fall, w_iadd, w_iand, w_iconst, w_icmp, x_iinc, x_iload, w_imul, w_ior, w_ishl, w_ishr, x_istore, zadd_eq, zmul_eq, gf_48_0, gf_48_2, ia_49, w_nret r_Md_alone, q_eq, q_ne, q_lt, q_ge, q_gt, q_le, g_I, g_L, g_R, g_V, t_0, t_I, t_R, t_U, t_L, t_s, List.getElem?_cons_zero, List.getElem?_cons_succ, Nat.reduceAdd, zif10, zif01b, zib, if_pos, if_neg, ↓reduceIte, not_true_eq_false, not_false_eq_true, Bool.true_eq_false, Bool.false_eq_true, Classical.not_not, eq_self, and_self, and_true, true_and, Int.reduceEq, Int.reduceLE, Int.reduceLT, Int.reduceNeg, Option.toList, List.cons_append, List.nil_append, zup_s, zup_n, zst_s, zup_zs, zup_zn, decide_true, decide_false, hR.1]
      cases hx : X i t
      · rw [k_Md_alone_5]
        by_cases h0 : 0 < mv t p
        · simp (disch := first | omega | exact Nat.le_of_ble_eq_true rfl | assumption | (simp only [Int.natCast_add, Int.natCast_mul, Int.cast_ofNat_Int]; omega) | decide) only [k_Md_alone_6, x_aload, x_getf, w_goto, w_fall, w_iadd, w_iand, w_iconst, w_icmp, x_iinc, x_iload, w_imul, w_ior, w_ishl, w_ishr, x_istore, zadd_eq, zmul_eq, gf_48_0, gf_48_2, ia_49, w_nret r_Md_alone, q_eq, q_ne, q_lt, q_ge, q_gt, q_le, g_I, g_L, g_R, g_V, t_0, t_I, t_R, t_U, t_L, t_s, List.getElem?_cons_zero, List.getElem?_cons_succ, Nat.reduceAdd, zif10, zif01b, zib, if_pos, if_neg, ↓reduceIte, not_true_eq_false, not_false_eq_true, Bool.true_eq_false, Bool.false_eq_true, Classical.not_not, eq_self, and_self, and_true, true_and, Int.reduceEq, Int.reduceLE, Int.reduceLT, Int.reduceNeg, Option.toList, List.cons_append, List.nil_append, zup_s, zup_n, zst_s, zup_zs, zup_zn, decide_true, decide_false, hms, zset_has, hx]
          exact skip _ hx
        · omega
      · refine zfor (a := 0) (N := (mv t p)) (b := 5) (fun k L0 M0 => ∃ (Z : Nat → Bool), L0 = [zR 48, zI s, zI p, zI (zset S Z), zI (zset S (X i)), zI (t : Int), zI (k : Int)] ∧ M0 = M ∧ zeqS S Z (fun y => Y y || zan k fun a => decide (zMo mv tg P ch p t a = y))) ?_ ?_ ?_ ?_
        · exact Nat.zero_le _
        · exact ⟨Y, rfl, rfl, fun y _ => by simp [zan]⟩
        · rintro k _ M _ hk ⟨Z, rfl, rfl, hZ⟩ ih3
          have hyS : zMo mv tg P ch p t k < S := zMo_lt hN hch ht hk
          have hnext := hy t k hk
          rw [k_Md_alone_5]
          simp (disch := first | omega | exact Nat.le_of_ble_eq_true rfl | assumption | (simp only [Int.natCast_add, Int.natCast_mul, Int.cast_ofNat_Int]; omega) | decide) only [k_Md_alone_6, k_Md_alone_7, x_aload, x_getf, w_goto, w_fall, w_iadd, w_iand, w_iconst, w_icmp, x_iinc, x_iload, w_imul, w_ior, w_ishl, w_ishr, x_istore, zadd_eq, zmul_eq, gf_48_0, gf_48_2, ia_49, w_nret r_Md_alone, q_eq, q_ne, q_lt, q_ge, q_gt, q_le, g_I, g_L, g_R, g_V, t_0, t_I, t_R, t_U, t_L, t_s, List.getElem?_cons_zero, List.getElem?_cons_succ, Nat.reduceAdd, zif10, zif01b, zib, if_pos, if_neg, ↓reduceIte, not_true_eq_false, not_false_eq_true, Bool.true_eq_false, Bool.false_eq_true, Classical.not_not, eq_self, and_self, and_true, true_and, Int.reduceEq, Int.reduceLE, Int.reduceLT, Int.reduceNeg, Option.toList, List.cons_append, List.nil_append, zup_s, zup_n, zst_s, zup_zs, zup_zn, decide_true, decide_false, hms, zset_has, hx, c_Md_leadsWith hN hR hK hch ht hnext, hmo, zset_up]
          refine ih3 _ _ ⟨_, rfl, rfl, fun y hy => ?_⟩
          dsimp only
          rw [hZ y hy]
          simp only [zan, Bool.or_assoc]
          congr 2
          exact decide_eq_decide.mpr eq_comm
        · rintro _ M ⟨Z, rfl, rfl, hZ⟩
          rw [k_Md_alone_5]
          simp (disch := first | omega | exact Nat.le_of_ble_eq_true rfl | assumption | (simp only [Int.natCast_add, Int.natCast_mul, Int.cast_ofNat_Int]; omega) | decide) only [k_Md_alone_8, x_aload, x_getf, w_goto, w_fall, w_iadd, w_iand, w_iconst, w_icmp, x_iinc, x_iload, w_imul, w_ior, w_ishl, w_ishr, x_istore, zadd_eq, zmul_eq, gf_48_0, gf_48_2, ia_49, w_nret r_Md_alone, q_eq, q_ne, q_lt, q_ge, q_gt, q_le, g_I, g_L, g_R, g_V, t_0, t_I, t_R, t_U, t_L, t_s, List.getElem?_cons_zero, List.getElem?_cons_succ, Nat.reduceAdd, zif10, zif01b, zib, if_pos, if_neg, ↓reduceIte, not_true_eq_false, not_false_eq_true, Bool.true_eq_false, Bool.false_eq_true, Classical.not_not, eq_self, and_self, and_true, true_and, Int.reduceEq, Int.reduceLE, Int.reduceLT, Int.reduceNeg, Option.toList, List.cons_append, List.nil_append, zup_s, zup_n, zst_s, zup_zs, zup_zn, decide_true, decide_false, hms]
          refine ih2 _ _ ⟨Z, _, rfl, rfl, fun y hy => ?_⟩
          rw [hZ y hy]
          dsimp only
          rw [hY y hy]
          simp only [zan, hx, Bool.true_and, Bool.or_assoc]
          rfl
    · rintro _ M ⟨Y, v6, rfl, rfl, hY⟩
      have e1 : zset S Y = zset S (X (i + 1)) := zset_cong fun y hy => by rw [hY y hy, hXs]
      rw [k_Md_alone_3]
      simp (disch := first | omega | exact Nat.le_of_ble_eq_true rfl | assumption | (simp only [Int.natCast_add, Int.natCast_mul, Int.cast_ofNat_Int]; omega) | decide) only [k_Md_alone_9, x_aload, x_getf, w_goto, w_fall, w_iadd, w_iand, w_iconst, w_icmp, x_iinc, x_iload, w_imul, w_ior, w_ishl, w_ishr, x_istore, zadd_eq, zmul_eq, gf_48_0, gf_48_2, ia_49, w_nret r_Md_alone, q_eq, q_ne, q_lt, q_ge, q_gt, q_le, g_I, g_L, g_R, g_V, t_0, t_I, t_R, t_U, t_L, t_s, List.getElem?_cons_zero, List.getElem?_cons_succ, Nat.reduceAdd, zif10, zif01b, zib, if_pos, if_neg, ↓reduceIte, not_true_eq_false, not_false_eq_true, Bool.true_eq_false, Bool.false_eq_true, Classical.not_not, eq_self, and_self, and_true, true_and, Int.reduceEq, Int.reduceLE, Int.reduceLT, Int.reduceNeg, Option.toList, List.cons_append, List.nil_append, zup_s, zup_n, zst_s, zup_zs, zup_zn, decide_true, decide_false, hR.1, e1]
      by_cases he : zeqS S (X (i + 1)) (X i)
      · have e2 := zset_cong he
        have e3 := hst i 12 (Or.inl he) hi12
        rw [k_Md_alone_1]
        simp (disch := first | omega | exact Nat.le_of_ble_eq_true rfl | assumption | (simp only [Int.natCast_add, Int.natCast_mul, Int.cast_ofNat_Int]; omega) | decide) only [k_Md_alone_10, x_aload, x_getf, w_goto, w_fall, w_iadd, w_iand, w_iconst, w_icmp, x_iinc, x_iload, w_imul, w_ior, w_ishl, w_ishr, x_istore, zadd_eq, zmul_eq, gf_48_0, gf_48_2, ia_49, w_nret r_Md_alone, q_eq, q_ne, q_lt, q_ge, q_gt, q_le, g_I, g_L, g_R, g_V, t_0, t_I, t_R, t_U, t_L, t_s, List.getElem?_cons_zero, List.getElem?_cons_succ, Nat.reduceAdd, zif10, zif01b, zib, if_pos, if_neg, ↓reduceIte, not_true_eq_false, not_false_eq_true, Bool.true_eq_false, Bool.false_eq_true, Classical.not_not, eq_self, and_self, and_true, true_and, Int.reduceEq, Int.reduceLE, Int.reduceLT, Int.reduceNeg, Option.toList, List.cons_append, List.nil_append, zup_s, zup_n, zst_s, zup_zs, zup_zn, decide_true, decide_false, e2]
        rw [zset_cong e3]
      · exact ih _ _ ⟨_, _, _, rfl, rfl, fun z => he ((zset_iff (by omega)).mp z), fun j hj => by
          by_cases e : j = i
          · subst e; exact he
          · exact hne j (by omega)⟩
  · rintro _ M ⟨w, v5, v6, rfl, rfl, hw, hne⟩
    exact absurd (hst 12 13 (Or.inr hS) (by omega)) (hne 12 (by omega))
theorem c_Md_alone {d mi o b9 : Nat} {es : List zEnt} {L st : List zMV} {Q : Option zMV → (Nat → Int → Int) → Prop} {s p : Nat} (hN : zNet S P mv tg) (hR : zNetR S P mv tg M) (hK : zPkR ch M) (hch : ∀ s p, ch s p < mv s p) (hs : s < S) (hp : p < P) (hd : 1 + 1 ≤ d) (hc : zcats st ≤ 8) : zW (zSH Ln) d mi ((.invokevirtual o, 248, b9) :: es) L (zI (p : Int) :: zI (s : Int) :: zR 48 :: st) M Q = zW (zSH Ln) d mi es L (zI (zset S (zRc S (zEm mv tg P ch p) (fun x => decide (x = s)) 12)) :: st) (M) Q :=
  c_virt (ps := [zI (s : Int), zI (p : Int)]) (by omega) rfl rfl (by omega) (by exact sh_48 Ln) hc (Nat.le_of_ble_eq_true rfl) (F_Md_alone hN hR hK hch hs hp (by omega))
theorem F_Md_isStable {d : Nat} {s : Nat} (hN : zNet S P mv tg) (hR : zNetR S P mv tg M) (hG : zGlR S P gl M) (hK : zPkR ch M) (hch : ∀ s p, ch s p < mv s p) (hs : s < S) (hd : 3 ≤ d) : zF (zSH Ln) d i_Md_isStable [zR 48, zI (s : Int)] M fun r M' => r = some (zI (if zStb S P mv tg ch gl s = true then 1 else 0)) ∧ M' = M := by
  rw [zF_en k_Md_isStable_0 (L := [zR 48, zI (s : Int), zU, zU]) rfl]
  have hS := hN.2.1
  have hP := hN.2.2.2.1
  simp (disch := first | omega | exact Nat.le_of_ble_eq_true rfl | assumption | (simp only [Int.natCast_add, Int.natCast_mul, Int.cast_ofNat_Int]; omega) | decide) only [x_aload, x_getf, w_goto, w_fall, w_iand, w_iconst, w_if, w_icmp, x_iinc, x_iload, w_ishr, x_istore, zadd_eq, gf_48_1, gf_48_8, ia_55, w_bret r_Md_isStable, q_eq, q_ne, q_lt, q_ge, q_gt, q_le, g_I, g_L, g_R, g_V, t_0, t_I, t_R, t_U, t_L, t_s, List.getElem?_cons_zero, List.getElem?_cons_succ, Nat.reduceAdd, zif10, zif01b, zib, if_pos, if_neg, ↓reduceIte, not_true_eq_false, not_false_eq_true, Bool.true_eq_false, Bool.false_eq_true, Classical.not_not, eq_self, and_self, and_true, true_and, Int.reduceEq, Int.reduceLE, Int.reduceLT, Int.reduceNeg, Option.toList, List.cons_append, List.nil_append, zup_s, zup_n, zst_s, zup_zs, zup_zn, decide_true, decide_false, c_Md_contentOf hN hR hG hK hch hs]
  refine zfor (a := 0) (N := P) (b := 1) (fun p L0 M0 => L0 = [zR 48, zI s, zI (zset P (zCon S P mv tg ch gl s)), zI (p : Int)] ∧ M0 = M ∧ ∀ q, q < p → (zCon S P mv tg ch gl s q || !zCld S P mv tg ch gl s q) = true) ?_ ?_ ?_ ?_
  · exact Nat.zero_le _
  · exact ⟨rfl, rfl, fun q hq => by omega⟩
  · rintro p _ M _ hp ⟨rfl, rfl, h1⟩ ih
    have hg := hG p hp
    have nxt : (zCon S P mv tg ch gl s p || !zCld S P mv tg ch gl s p) = true → ∀ q, q < p + 1 → (zCon S P mv tg ch gl s q || !zCld S P mv tg ch gl s q) = true := fun h q hq => by
      by_cases e : q = p
      · subst e; exact h
      · exact h1 q (by omega)
    have hzc : zan S (fun t => zRc S (zEm mv tg P ch p) (fun x => decide (x = s)) 12 t && gl p t) = zCld S P mv tg ch gl s p := rfl
    rw [k_Md_isStable_1]
    cases hc : zCon S P mv tg ch gl s p
    · cases hz : zCld S P mv tg ch gl s p
      · simp (disch := first | omega | exact Nat.le_of_ble_eq_true rfl | assumption | (simp only [Int.natCast_add, Int.natCast_mul, Int.cast_ofNat_Int]; omega) | decide) only [k_Md_isStable_2, k_Md_isStable_3, k_Md_isStable_5, x_aload, x_getf, w_goto, w_fall, w_iand, w_iconst, w_if, w_icmp, x_iinc, x_iload, w_ishr, x_istore, zadd_eq, gf_48_1, gf_48_8, ia_55, w_bret r_Md_isStable, q_eq, q_ne, q_lt, q_ge, q_gt, q_le, g_I, g_L, g_R, g_V, t_0, t_I, t_R, t_U, t_L, t_s, List.getElem?_cons_zero, List.getElem?_cons_succ, Nat.reduceAdd, zif10, zif01b, zib, if_pos, if_neg, ↓reduceIte, not_true_eq_false, not_false_eq_true, Bool.true_eq_false, Bool.false_eq_true, Classical.not_not, eq_self, and_self, and_true, true_and, Int.reduceEq, Int.reduceLE, Int.reduceLT, Int.reduceNeg, Option.toList, List.cons_append, List.nil_append, zup_s, zup_n, zst_s, zup_zs, zup_zn, decide_true, decide_false, hR.2.1, zset_has, hc, c_Md_alone hN hR hK hch hs hp, hg, zset_and, zset_n0, hzc, hz]
        exact ih _ _ ⟨rfl, rfl, nxt (by rw [hc, hz]; rfl)⟩
      · have hst : ¬ zStb S P mv tg ch gl s = true := fun h => by
          have := (zfa_iff _ _).mp h p hp
          rw [hc, hz] at this
          cases this
        simp (disch := first | omega | exact Nat.le_of_ble_eq_true rfl | assumption | (simp only [Int.natCast_add, Int.natCast_mul, Int.cast_ofNat_Int]; omega) | decide) only [k_Md_isStable_2, k_Md_isStable_3, k_Md_isStable_4, x_aload, x_getf, w_goto, w_fall, w_iand, w_iconst, w_if, w_icmp, x_iinc, x_iload, w_ishr, x_istore, zadd_eq, gf_48_1, gf_48_8, ia_55, w_bret r_Md_isStable, q_eq, q_ne, q_lt, q_ge, q_gt, q_le, g_I, g_L, g_R, g_V, t_0, t_I, t_R, t_U, t_L, t_s, List.getElem?_cons_zero, List.getElem?_cons_succ, Nat.reduceAdd, zif10, zif01b, zib, if_pos, if_neg, ↓reduceIte, not_true_eq_false, not_false_eq_true, Bool.true_eq_false, Bool.false_eq_true, Classical.not_not, eq_self, and_self, and_true, true_and, Int.reduceEq, Int.reduceLE, Int.reduceLT, Int.reduceNeg, Option.toList, List.cons_append, List.nil_append, zup_s, zup_n, zst_s, zup_zs, zup_zn, decide_true, decide_false, hR.2.1, zset_has, hc, c_Md_alone hN hR hK hch hs hp, hg, zset_and, zset_n0, hzc, hz, hst]
    · simp (disch := first | omega | exact Nat.le_of_ble_eq_true rfl | assumption | (simp only [Int.natCast_add, Int.natCast_mul, Int.cast_ofNat_Int]; omega) | decide) only [k_Md_isStable_2, k_Md_isStable_5, x_aload, x_getf, w_goto, w_fall, w_iand, w_iconst, w_if, w_icmp, x_iinc, x_iload, w_ishr, x_istore, zadd_eq, gf_48_1, gf_48_8, ia_55, w_bret r_Md_isStable, q_eq, q_ne, q_lt, q_ge, q_gt, q_le, g_I, g_L, g_R, g_V, t_0, t_I, t_R, t_U, t_L, t_s, List.getElem?_cons_zero, List.getElem?_cons_succ, Nat.reduceAdd, zif10, zif01b, zib, if_pos, if_neg, ↓reduceIte, not_true_eq_false, not_false_eq_true, Bool.true_eq_false, Bool.false_eq_true, Classical.not_not, eq_self, and_self, and_true, true_and, Int.reduceEq, Int.reduceLE, Int.reduceLT, Int.reduceNeg, Option.toList, List.cons_append, List.nil_append, zup_s, zup_n, zst_s, zup_zs, zup_zn, decide_true, decide_false, hR.2.1, zset_has, hc]
      exact ih _ _ ⟨rfl, rfl, nxt (by rw [hc]; rfl)⟩
  · rintro _ M ⟨rfl, rfl, h1⟩
    have hst : zStb S P mv tg ch gl s = true := (zfa_iff _ _).mpr h1
    rw [k_Md_isStable_1]
    simp (disch := first | omega | exact Nat.le_of_ble_eq_true rfl | assumption | (simp only [Int.natCast_add, Int.natCast_mul, Int.cast_ofNat_Int]; omega) | decide) only [k_Md_isStable_6, x_aload, x_getf, w_goto, w_fall, w_iand, w_iconst, w_if, w_icmp, x_iinc, x_iload, w_ishr, x_istore, zadd_eq, gf_48_1, gf_48_8, ia_55, w_bret r_Md_isStable, q_eq, q_ne, q_lt, q_ge, q_gt, q_le, g_I, g_L, g_R, g_V, t_0, t_I, t_R, t_U, t_L, t_s, List.getElem?_cons_zero, List.getElem?_cons_succ, Nat.reduceAdd, zif10, zif01b, zib, if_pos, if_neg, ↓reduceIte, not_true_eq_false, not_false_eq_true, Bool.true_eq_false, Bool.false_eq_true, Classical.not_not, eq_self, and_self, and_true, true_and, Int.reduceEq, Int.reduceLE, Int.reduceLT, Int.reduceNeg, Option.toList, List.cons_append, List.nil_append, zup_s, zup_n, zst_s, zup_zs, zup_zn, decide_true, decide_false, hR.2.1, hst]
theorem c_Md_isStable {d mi o b9 : Nat} {es : List zEnt} {L st : List zMV} {Q : Option zMV → (Nat → Int → Int) → Prop} {s : Nat} (hN : zNet S P mv tg) (hR : zNetR S P mv tg M) (hG : zGlR S P gl M) (hK : zPkR ch M) (hch : ∀ s p, ch s p < mv s p) (hs : s < S) (hd : 3 + 1 ≤ d) (hc : zcats st ≤ 8) : zW (zSH Ln) d mi ((.invokevirtual o, 249, b9) :: es) L (zI (s : Int) :: zR 48 :: st) M Q = zW (zSH Ln) d mi es L (zI (if zStb S P mv tg ch gl s = true then 1 else 0) :: st) (M) Q :=
  c_virt (ps := [zI (s : Int)]) (by omega) rfl rfl (by omega) (by exact sh_48 Ln) hc (Nat.le_of_ble_eq_true rfl) (F_Md_isStable hN hR hG hK hch hs (by omega))
end RE
