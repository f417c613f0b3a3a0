/-! the reference: what is chosen, goals -/
def zGlR (S P : Nat) (gl : Nat → Nat → Bool) (M : Nat → Int → Int) : Prop := ∀ p : Nat, p < P → M 55 (p : Int) = zset S (gl p)
def zPkR (ch : Nat → Nat → Nat) (M : Nat → Int → Int) : Prop := ∀ s p : Nat, s < 12 → p < 4 → M 54 (4 * (s : Int) + p) = ch s p
section RE
variable {Ln S P : Nat} {mv tg ch : Nat → Nat → Nat} {gl : Nat → Nat → Bool} {M : Nat → Int → Int}
theorem F_Md_leadsWith {d : Nat} {s : Nat} {y : Int} {a : Nat} (hN : zNet S P mv tg) (hR : zNetR S P mv tg M) (hK : zPkR ch M) (hch : ∀ s p, ch s p < mv s p) (hs : s < S) (hy : ∀ p : Nat, (p : Int) = y → a < mv s p) (hd : 0 ≤ d) : zF (zSH Ln) d i_Md_leadsWith [zR 48, zI (s : Int), zI y, zI (a : Int)] M fun r M' => r = some (zI (tg s (znum (mv s) (fun p : Nat => if (p : Int) = y then a else ch s p) P) : Int)) ∧ M' = M := by
  rw [zF_en k_Md_leadsWith_0 (L := [zR 48, zI (s : Int), zI y, zI (a : Int), zU, zU]) rfl]
  have hS := hN.2.1
  have hP4 := hN.2.2.2.1
  have hm := hN.2.2.2.2.1 s
  have hdg : ∀ p : Nat, (if (p : Int) = y then a else ch s p) < mv s p := by
    intro p
    split
    · next h => exact hy p h
    · exact hch s p
  have h81 := zcnt_81 hm zall1 hP4
  simp (disch := first | omega | exact Nat.le_of_ble_eq_true rfl | assumption | (simp only [Int.natCast_add, Int.natCast_mul, Int.cast_ofNat_Int]; omega) | decide) only [x_aload, x_getf, w_goto, w_fall, w_iadd, w_iconst, w_icmp, x_iinc, x_iload, w_imul, x_istore, zadd_eq, zmul_eq, gf_48_1, gf_48_2, gf_48_3, gf_48_7, ia_49, ia_50, ia_54, w_nret r_Md_leadsWith, q_eq, q_ne, q_lt, q_ge, q_gt, q_le, g_I, g_L, g_R, g_V, t_0, t_I, t_R, t_U, t_L, t_s, List.getElem?_cons_zero, List.getElem?_cons_succ, Nat.reduceAdd, zif10, zif01b, zib, if_pos, if_neg, ↓reduceIte, not_true_eq_false, not_false_eq_true, Bool.true_eq_false, Bool.false_eq_true, Classical.not_not, eq_self, and_self, and_true, true_and, Int.reduceEq, Int.reduceLE, Int.reduceLT, Int.reduceNeg, Option.toList, List.cons_append, List.nil_append, zup_s, zup_n, zst_s, zup_zs, zup_zn, decide_true, decide_false]
  refine zfor (a := 0) (N := P) (b := 1) (fun p L0 M0 => L0 = [zR 48, zI s, zI y, zI (a : Int), zI (znum (mv s) (fun p : Nat => if (p : Int) = y then a else ch s p) p : Int), zI (p : Int)] ∧ M0 = M) ?_ ?_ ?_ ?_
  · exact Nat.zero_le _
  · exact ⟨rfl, rfl⟩
  · rintro p _ M _ hp ⟨rfl, rfl⟩ ih
    have hl := znum_lt hm hdg p
    have h81p := zcnt_81 hm zall1 (show p ≤ 4 by omega)
    have hmp := hm p
    have hd2 := hdg p
    have hmul : znum (mv s) (fun p : Nat => if (p : Int) = y then a else ch s p) p * mv s p ≤ 81 * 3 := Nat.mul_le_mul (by omega) hmp.2
    have hms := hR.2.2.1 s p (by omega) (by omega)
    have hcs := hK s p (by omega) (by omega)
    have hnu : znum (mv s) (fun p : Nat => if (p : Int) = y then a else ch s p) (p + 1) = znum (mv s) (fun p : Nat => if (p : Int) = y then a else ch s p) p * mv s p + (if (p : Int) = y then a else ch s p) := rfl
    generalize hz : znum (mv s) (fun p : Nat => if (p : Int) = y then a else ch s p) p = zz at *
    have ez : zmul (zz : Int) (mv s p : Int) = ((zz * mv s p : Nat) : Int) := zmul_nat (by omega)
    generalize hzm : zz * mv s p = zm at *
    rw [k_Md_leadsWith_1]
    by_cases hpy : (p : Int) = y
    · rw [if_pos hpy] at hd2 hnu
      simp (disch := first | omega | exact Nat.le_of_ble_eq_true rfl) only [k_Md_leadsWith_2, k_Md_leadsWith_3, k_Md_leadsWith_5, x_aload, x_getf, w_goto, w_fall, w_iconst, w_icmp, x_iinc, x_iload, w_imul, w_iadd, x_istore, gf_48_1, gf_48_2, gf_48_7, ia_49, ia_54, hR.2.1, hms, hcs, ez, q_ge, q_ne, hpy, if_neg, not_true_eq_false, if_false, zadd_eq, show zmul 4 (s : Int) = 4 * (s : Int) from zmul_eq (by omega) (by omega), g_I, g_R, g_V, t_0, t_I, t_R, t_U, t_L, t_s, List.getElem?_cons_zero, List.getElem?_cons_succ, Nat.reduceAdd]
      refine ih _ _ ⟨?_, rfl⟩
      rw [hnu, ← hpy]; rfl
    · rw [if_neg hpy] at hd2 hnu
      simp (disch := first | omega | exact Nat.le_of_ble_eq_true rfl | assumption | (simp only [Int.natCast_add, Int.natCast_mul, Int.cast_ofNat_Int]; omega) | decide) only [k_Md_leadsWith_2, k_Md_leadsWith_4, k_Md_leadsWith_5, x_aload, x_getf, w_goto, w_fall, w_iadd, w_iconst, w_icmp, x_iinc, x_iload, w_imul, x_istore, zadd_eq, zmul_eq, gf_48_1, gf_48_2, gf_48_3, gf_48_7, ia_49, ia_50, ia_54, w_nret r_Md_leadsWith, q_eq, q_ne, q_lt, q_ge, q_gt, q_le, g_I, g_L, g_R, g_V, t_0, t_I, t_R, t_U, t_L, t_s, List.getElem?_cons_zero, List.getElem?_cons_succ, Nat.reduceAdd, zif10, zif01b, zib, if_pos, if_neg, ↓reduceIte, not_true_eq_false, not_false_eq_true, Bool.true_eq_false, Bool.false_eq_true, Classical.not_not, eq_self, and_self, and_true, true_and, Int.reduceEq, Int.reduceLE, Int.reduceLT, Int.reduceNeg, Option.toList, List.cons_append, List.nil_append, zup_s, zup_n, zst_s, zup_zs, zup_zn, decide_true, decide_false, hR.2.1, hms, hcs, ez, hpy]
      refine ih _ _ ⟨?_, rfl⟩
      rw [hnu]; rfl
  · rintro _ M ⟨rfl, rfl⟩
    have hl := znum_lt hm hdg P
    have htg := hR.2.2.2 s (znum (mv s) (fun p : Nat => if (p : Int) = y then a else ch s p) P) (by omega) (by omega)
    rw [k_Md_leadsWith_1]
    simp (disch := first | omega | exact Nat.le_of_ble_eq_true rfl | assumption | (simp only [Int.natCast_add, Int.natCast_mul, Int.cast_ofNat_Int]; omega) | decide) only [k_Md_leadsWith_6, x_aload, x_getf, w_goto, w_fall, w_iadd, w_iconst, w_icmp, x_iinc, x_iload, w_imul, x_istore, zadd_eq, zmul_eq, gf_48_1, gf_48_2, gf_48_3, gf_48_7, ia_49, ia_50, ia_54, w_nret r_Md_leadsWith, q_eq, q_ne, q_lt, q_ge, q_gt, q_le, g_I, g_L, g_R, g_V, t_0, t_I, t_R, t_U, t_L, t_s, List.getElem?_cons_zero, List.getElem?_cons_succ, Nat.reduceAdd, zif10, zif01b, zib, if_pos, if_neg, ↓reduceIte, not_true_eq_false, not_false_eq_true, Bool.true_eq_false, Bool.false_eq_true, Classical.not_not, eq_self, and_self, and_true, true_and, Int.reduceEq, Int.reduceLE, Int.reduceLT, Int.reduceNeg, Option.toList, List.cons_append, List.nil_append, zup_s, zup_n, zst_s, zup_zs, zup_zn, decide_true, decide_false, hR.2.1, htg]
theorem c_Md_leadsWith {d mi o b9 : Nat} {es : List zEnt} {L st : List zMV} {Q : Option zMV → (Nat → Int → Int) → Prop} {s : Nat} {y : Int} {a : Nat} (hN : zNet S P mv tg) (hR : zNetR S P mv tg M) (hK : zPkR ch M) (hch : ∀ s p, ch s p < mv s p) (hs : s < S) (hy : ∀ p : Nat, (p : Int) = y → a < mv s p) (hd : 0 + 1 ≤ d) (hc : zcats st ≤ 8) : zW (zSH Ln) d mi ((.invokevirtual o, 235, b9) :: es) L (zI (a : Int) :: zI y :: zI (s : Int) :: zR 48 :: st) M Q = zW (zSH Ln) d mi es L (zI (tg s (znum (mv s) (fun p : Nat => if (p : Int) = y then a else ch s p) P) : Int) :: st) (M) Q :=
  c_virt (ps := [zI (s : Int), zI y, zI (a : Int)]) (by omega) rfl rfl (by omega) (by exact sh_48 Ln) hc (Nat.le_of_ble_eq_true rfl) (F_Md_leadsWith hN hR hK hch hs hy (by omega))
theorem F_Md_way {d : Nat} {s : Nat} (hN : zNet S P mv tg) (hR : zNetR S P mv tg M) (hK : zPkR ch M) (hch : ∀ s p, ch s p < mv s p) (hs : s < S) (hd : 1 ≤ d) : zF (zSH Ln) d i_Md_way [zR 48, zI (s : Int)] M fun r M' => r = some (zI (zset S (zWy (zNy mv tg P ch) s))) ∧ M' = M := by
  rw [zF_en k_Md_way_0 (L := [zR 48, zI (s : Int), zU, zU]) rfl]
  have hS := hN.2.1
  have hy : ∀ s, ∀ p : Nat, (p : Int) = -1 → 0 < mv s p := fun s p h => by omega
  simp (disch := first | omega | exact Nat.le_of_ble_eq_true rfl | assumption | (simp only [Int.natCast_add, Int.natCast_mul, Int.cast_ofNat_Int]; omega) | decide) only [x_aload, w_goto, w_fall, w_iand, w_iconst, w_if, x_iload, w_ior, w_ishl, w_ishr, x_istore, w_nret r_Md_way, q_eq, q_ne, q_lt, q_ge, q_gt, q_le, g_I, g_L, g_R, g_V, t_0, t_I, t_R, t_U, t_L, t_s, List.getElem?_cons_zero, List.getElem?_cons_succ, Nat.reduceAdd, zif10, zif01b, zib, if_pos, if_neg, ↓reduceIte, not_true_eq_false, not_false_eq_true, Bool.true_eq_false, Bool.false_eq_true, Classical.not_not, eq_self, and_self, and_true, true_and, Int.reduceEq, Int.reduceLE, Int.reduceLT, Int.reduceNeg, Option.toList, List.cons_append, List.nil_append, zup_s, zup_n, zst_s, zup_zs, zup_zn, decide_true, decide_false]
  refine zfor (a := 0) (N := 13) (b := 1) (fun p L0 M0 => ∃ (met : Nat → Bool) (t : Nat), L0 = [zR 48, zI s, zI (zset S met), zI (t : Int)] ∧ M0 = M ∧ t < S ∧ p ≤ zcard S met ∧ zwy (zNy mv tg P ch) (13 - p) met t = zWy (zNy mv tg P ch) s) ?_ ?_ ?_ ?_
  · exact Nat.zero_le _
  · refine ⟨fun _ => false, s, by rw [zset_none]; rfl, rfl, hs, Nat.zero_le _, ?_⟩
    exact zwy_st (f := zNy mv tg P ch) (fun t ht => zNy_lt hN hch ht) 12 _ s hs (by omega)
  · rintro p _ M _ hp ⟨met, t, rfl, rfl, ht, hc, he⟩ ih
    rw [show 13 - p = (13 - (p + 1)) + 1 by omega, zwy] at he
    rw [k_Md_way_1]
    cases hm : met t
    · rw [if_neg (by rw [hm]; decide)] at he
      have hup := zcard_up ht (by rw [hm]; decide : ¬ met t = true)
      simp (disch := first | omega | exact Nat.le_of_ble_eq_true rfl | assumption | (simp only [Int.natCast_add, Int.natCast_mul, Int.cast_ofNat_Int]; omega) | decide) only [k_Md_way_2, x_aload, w_goto, w_fall, w_iand, w_iconst, w_if, x_iload, w_ior, w_ishl, w_ishr, x_istore, w_nret r_Md_way, q_eq, q_ne, q_lt, q_ge, q_gt, q_le, g_I, g_L, g_R, g_V, t_0, t_I, t_R, t_U, t_L, t_s, List.getElem?_cons_zero, List.getElem?_cons_succ, Nat.reduceAdd, zif10, zif01b, zib, if_pos, if_neg, ↓reduceIte, not_true_eq_false, not_false_eq_true, Bool.true_eq_false, Bool.false_eq_true, Classical.not_not, eq_self, and_self, and_true, true_and, Int.reduceEq, Int.reduceLE, Int.reduceLT, Int.reduceNeg, Option.toList, List.cons_append, List.nil_append, zup_s, zup_n, zst_s, zup_zs, zup_zn, decide_true, decide_false, zset_has, hm, show (0 : Int) = ((0 : Nat) : Int) from rfl, c_Md_leadsWith hN hR hK hch ht (hy t), znx_no, zset_up]
      exact ih _ _ ⟨_, _, rfl, rfl, zNy_lt hN hch ht, by omega, he⟩
    · rw [if_pos hm] at he
      subst he
      simp (disch := first | omega | exact Nat.le_of_ble_eq_true rfl | assumption | (simp only [Int.natCast_add, Int.natCast_mul, Int.cast_ofNat_Int]; omega) | decide) only [k_Md_way_3, x_aload, w_goto, w_fall, w_iand, w_iconst, w_if, x_iload, w_ior, w_ishl, w_ishr, x_istore, w_nret r_Md_way, q_eq, q_ne, q_lt, q_ge, q_gt, q_le, g_I, g_L, g_R, g_V, t_0, t_I, t_R, t_U, t_L, t_s, List.getElem?_cons_zero, List.getElem?_cons_succ, Nat.reduceAdd, zif10, zif01b, zib, if_pos, if_neg, ↓reduceIte, not_true_eq_false, not_false_eq_true, Bool.true_eq_false, Bool.false_eq_true, Classical.not_not, eq_self, and_self, and_true, true_and, Int.reduceEq, Int.reduceLE, Int.reduceLT, Int.reduceNeg, Option.toList, List.cons_append, List.nil_append, zup_s, zup_n, zst_s, zup_zs, zup_zn, decide_true, decide_false, zset_has, hm]
  · rintro _ M ⟨met, t, rfl, rfl, ht, hc, he⟩
    have := zcard_le S met
    omega
theorem c_Md_way {d mi o b9 : Nat} {es : List zEnt} {L st : List zMV} {Q : Option zMV → (Nat → Int → Int) → Prop} {s : Nat} (hN : zNet S P mv tg) (hR : zNetR S P mv tg M) (hK : zPkR ch M) (hch : ∀ s p, ch s p < mv s p) (hs : s < S) (hd : 1 + 1 ≤ d) (hc : zcats st ≤ 8) : zW (zSH Ln) d mi ((.invokevirtual o, 245, b9) :: es) L (zI (s : Int) :: zR 48 :: st) M Q = zW (zSH Ln) d mi es L (zI (zset S (zWy (zNy mv tg P ch) s)) :: st) (M) Q :=
  c_virt (ps := [zI (s : Int)]) (by omega) rfl rfl (by omega) (by exact sh_48 Ln) hc (Nat.le_of_ble_eq_true rfl) (F_Md_way hN hR hK hch hs (by omega))
end RE
