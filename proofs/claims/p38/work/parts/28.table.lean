/-! what the class writes into the net; the table -/
/-- some, below n -/
def zan : Nat → (Nat → Bool) → Bool
  | 0, _ => false
  | n + 1, f => zan n f || f n
theorem zan_iff : ∀ (n : Nat) (f : Nat → Bool), zan n f = true ↔ ∃ i, i < n ∧ f i = true
  | 0, f => by simp [zan]
  | n + 1, f => by
    unfold zan
    rw [Bool.or_eq_true, zan_iff n f]
    constructor
    · rintro (⟨i, h1, h2⟩ | h)
      · exact ⟨i, by omega, h2⟩
      · exact ⟨n, by omega, h⟩
    · rintro ⟨i, h1, h2⟩
      by_cases e : i = n
      · subst e; exact Or.inr h2
      · exact Or.inl ⟨i, by omega, h2⟩
def zrng (F : Int → Int) (lo n : Nat) (v : Int) : Int → Int := fun x => if (lo : Int) ≤ x ∧ x < (lo : Int) + n then v else F x
theorem zrng_0 (F : Int → Int) (lo : Nat) (v : Int) : zrng F lo 0 v = F := by funext x; simp only [zrng]; rw [if_neg (by omega)]
theorem zrng_up (F : Int → Int) (lo n : Nat) (v : Int) : zf (zrng F lo n v) ((lo : Int) + n) v = zrng F lo (n + 1) v := by
  funext x
  simp only [zf, zrng]
  by_cases h : x = (lo : Int) + n
  · rw [if_pos h, if_pos (by omega)]
  · rw [if_neg h]
    by_cases h2 : (lo : Int) ≤ x ∧ x < (lo : Int) + n
    · rw [if_pos h2, if_pos (by omega)]
    · rw [if_neg h2, if_neg (by omega)]
theorem zrng_up2 {F : Int → Int} {lo n : Nat} {v i : Int} (h : i = (lo : Int) + n) : zf (zrng F lo n v) i v = zrng F lo (n + 1) v := by rw [h, zrng_up]
theorem zrng_in {F : Int → Int} {lo n : Nat} {v x : Int} (h : (lo : Int) ≤ x ∧ x < (lo : Int) + n) : zrng F lo n v x = v := by simp only [zrng]; rw [if_pos h]
theorem zrng_out {F : Int → Int} {lo n : Nat} {v x : Int} (h : x < (lo : Int) ∨ (lo : Int) + n ≤ x) : zrng F lo n v x = F x := by simp only [zrng]; rw [if_neg (by omega)]
section FI
variable {Ln : Nat} {M : Nat → Int → Int}
theorem F_JA_fill {d : Nat} {k n : Nat} {rs : List (Option Nat)} {v : Int} (hk : (zSH Ln)[k]? = some (0, n, rs)) (h2 : 2 ≤ k) (hn : n < 2000000000) (hd : 0 ≤ d) : zF (zSH Ln) d i_JA_fill [zR k, zI v] M fun r M' => r = none ∧ M' = zst M k (zrng (M k) 0 n v) := by
  rw [zF_en k_JA_fill_0 (L := [zR k, zI v, zU, zU]) rfl]
  simp (disch := first | omega | exact Nat.le_of_ble_eq_true rfl | assumption | (simp only [Int.natCast_add, Int.natCast_mul, Int.cast_ofNat_Int]; omega) | decide) only [x_aload, w_goto, w_fall, w_iconst, w_icmp, x_iinc, x_iload, x_istore, zadd_eq, w_vret r_JA_fill, q_eq, q_ne, q_lt, q_ge, q_gt, q_le, g_I, g_L, g_R, g_V, t_0, t_I, t_R, t_U, t_L, t_s, List.getElem?_cons_zero, List.getElem?_cons_succ, Nat.reduceAdd, zif10, zif01b, zib, if_pos, if_neg, reduceIte, not_true_eq_false, not_false_eq_true, Bool.true_eq_false, Bool.false_eq_true, Classical.not_not, eq_self, and_self, and_true, true_and, Int.reduceEq, Int.reduceLE, Int.reduceLT, Int.reduceNeg, Option.toList, List.cons_append, List.nil_append, zup_s, zup_n, zst_s, zup_zs, zup_zn, decide_true, decide_false, w_alen hk]
  refine zfor (a := 0) (N := n) (b := 1) (fun p L0 M0 => L0 = [zR k, zI v, zI (p : Int), zI (n : Int)] ∧ M0 = zst M k (zrng (M k) 0 p v)) ?_ ?_ ?_ ?_
  · exact Nat.zero_le _
  · exact ⟨rfl, by rw [zrng_0, zst_id]⟩
  · rintro p _ _ _ hp ⟨rfl, rfl⟩ ih
    rw [k_JA_fill_1]
    simp (disch := first | omega | exact Nat.le_of_ble_eq_true rfl | assumption | (simp only [Int.natCast_add, Int.natCast_mul, Int.cast_ofNat_Int]; omega) | decide) only [k_JA_fill_2, x_aload, w_goto, w_fall, w_iconst, w_icmp, x_iinc, x_iload, x_istore, zadd_eq, w_vret r_JA_fill, q_eq, q_ne, q_lt, q_ge, q_gt, q_le, g_I, g_L, g_R, g_V, t_0, t_I, t_R, t_U, t_L, t_s, List.getElem?_cons_zero, List.getElem?_cons_succ, Nat.reduceAdd, zif10, zif01b, zib, if_pos, if_neg, reduceIte, not_true_eq_false, not_false_eq_true, Bool.true_eq_false, Bool.false_eq_true, Classical.not_not, eq_self, and_self, and_true, true_and, Int.reduceEq, Int.reduceLE, Int.reduceLT, Int.reduceNeg, Option.toList, List.cons_append, List.nil_append, zup_s, zup_n, zst_s, zup_zs, zup_zn, decide_true, decide_false, w_iast hk h2 (show 0 ≤ (p : Int) by omega) (show (p : Int) < n by omega)]
    refine ih _ _ ⟨rfl, ?_⟩
    rw [zrng_up2 (by omega)]
  · rintro _ _ ⟨rfl, rfl⟩
    rw [k_JA_fill_1]
    simp (disch := first | omega | exact Nat.le_of_ble_eq_true rfl | assumption | (simp only [Int.natCast_add, Int.natCast_mul, Int.cast_ofNat_Int]; omega) | decide) only [k_JA_fill_3, x_aload, w_goto, w_fall, w_iconst, w_icmp, x_iinc, x_iload, x_istore, zadd_eq, w_vret r_JA_fill, q_eq, q_ne, q_lt, q_ge, q_gt, q_le, g_I, g_L, g_R, g_V, t_0, t_I, t_R, t_U, t_L, t_s, List.getElem?_cons_zero, List.getElem?_cons_succ, Nat.reduceAdd, zif10, zif01b, zib, if_pos, if_neg, reduceIte, not_true_eq_false, not_false_eq_true, Bool.true_eq_false, Bool.false_eq_true, Classical.not_not, eq_self, and_self, and_true, true_and, Int.reduceEq, Int.reduceLE, Int.reduceLT, Int.reduceNeg, Option.toList, List.cons_append, List.nil_append, zup_s, zup_n, zst_s, zup_zs, zup_zn, decide_true, decide_false]
theorem c_JA_fill {d mi o b9 : Nat} {es : List zEnt} {L st : List zMV} {Q : Option zMV → (Nat → Int → Int) → Prop} {k n : Nat} {rs : List (Option Nat)} {v : Int} (hk : (zSH Ln)[k]? = some (0, n, rs)) (h2 : 2 ≤ k) (hn : n < 2000000000) (hd : 0 + 1 ≤ d) (hc : zcats st ≤ 8) (hpost : ∀ r M', r = none ∧ M' = zst M k (zrng (M k) 0 n v) → zW (zSH Ln) d mi es L (r.toList ++ st) M' Q) : zW (zSH Ln) d mi ((.invokestatic o, 111, b9) :: es) L (zI v :: zR k :: st) M Q :=
  w_calls (vs := [zR k, zI v]) (by omega) rfl rfl hc (Nat.le_of_ble_eq_true rfl) (F_JA_fill hk h2 hn (by omega)) hpost
theorem F_Ne_leadBack {d : Nat} {s : Nat} (hs : s < 12) (hd : 1 ≤ d) : zF (zSH Ln) d i_Ne_leadBack [zR 3, zI (s : Int)] M fun r M' => r = none ∧ M' = zst (zst (zst M 7 (zrng (M 7) (s * 81) 81 s)) 5 (zrng (M 5) (s * 4) 4 0)) 6 (zrng (M 6) (s * 12) 12 0) := by
  rw [zF_en k_Ne_leadBack_0 (L := [zR 3, zI (s : Int), zU]) rfl]
  simp (disch := first | omega | exact Nat.le_of_ble_eq_true rfl | assumption | (simp only [Int.natCast_add, Int.natCast_mul, Int.cast_ofNat_Int]; omega) | decide) only [x_aload, x_getf, w_goto, w_fall, w_iadd, w_iconst, w_icmp, x_iinc, x_iload, w_imul, x_istore, zadd_eq, zmul_eq, gf_3_4, gf_3_5, gf_3_6, pu_5, pu_6, pu_7, w_vret r_Ne_leadBack, q_eq, q_ne, q_lt, q_ge, q_gt, q_le, g_I, g_L, g_R, g_V, t_0, t_I, t_R, t_U, t_L, t_s, List.getElem?_cons_zero, List.getElem?_cons_succ, Nat.reduceAdd, zif10, zif01b, zib, if_pos, if_neg, reduceIte, not_true_eq_false, not_false_eq_true, Bool.true_eq_false, Bool.false_eq_true, Classical.not_not, eq_self, and_self, and_true, true_and, Int.reduceEq, Int.reduceLE, Int.reduceLT, Int.reduceNeg, Option.toList, List.cons_append, List.nil_append, zup_s, zup_n, zst_s, zup_zs, zup_zn, decide_true, decide_false]
  refine zfor (a := 0) (N := 81) (b := 1) (fun p L0 M0 => L0 = [zR 3, zI s, zI (p : Int)] ∧ M0 = zst M 7 (zrng (M 7) (s * 81) p s)) ?_ ?_ ?_ ?_
  · exact Nat.zero_le _
  · exact ⟨rfl, by rw [zrng_0, zst_id]⟩
  · rintro p _ _ _ hp ⟨rfl, rfl⟩ ih
    rw [k_Ne_leadBack_1]
    simp (disch := first | omega | exact Nat.le_of_ble_eq_true rfl | assumption | (simp only [Int.natCast_add, Int.natCast_mul, Int.cast_ofNat_Int]; omega) | decide) only [k_Ne_leadBack_2, x_aload, x_getf, w_goto, w_fall, w_iadd, w_iconst, w_icmp, x_iinc, x_iload, w_imul, x_istore, zadd_eq, zmul_eq, gf_3_4, gf_3_5, gf_3_6, pu_5, pu_6, pu_7, w_vret r_Ne_leadBack, q_eq, q_ne, q_lt, q_ge, q_gt, q_le, g_I, g_L, g_R, g_V, t_0, t_I, t_R, t_U, t_L, t_s, List.getElem?_cons_zero, List.getElem?_cons_succ, Nat.reduceAdd, zif10, zif01b, zib, if_pos, if_neg, reduceIte, not_true_eq_false, not_false_eq_true, Bool.true_eq_false, Bool.false_eq_true, Classical.not_not, eq_self, and_self, and_true, true_and, Int.reduceEq, Int.reduceLE, Int.reduceLT, Int.reduceNeg, Option.toList, List.cons_append, List.nil_append, zup_s, zup_n, zst_s, zup_zs, zup_zn, decide_true, decide_false]
    refine ih _ _ ⟨rfl, ?_⟩
    rw [zrng_up2 (by omega)]
  · rintro _ _ ⟨rfl, rfl⟩
    rw [k_Ne_leadBack_1]
    simp (disch := first | omega | exact Nat.le_of_ble_eq_true rfl | assumption | (simp only [Int.natCast_add, Int.natCast_mul, Int.cast_ofNat_Int]; omega) | decide) only [k_Ne_leadBack_3, x_aload, x_getf, w_goto, w_fall, w_iadd, w_iconst, w_icmp, x_iinc, x_iload, w_imul, x_istore, zadd_eq, zmul_eq, gf_3_4, gf_3_5, gf_3_6, pu_5, pu_6, pu_7, w_vret r_Ne_leadBack, q_eq, q_ne, q_lt, q_ge, q_gt, q_le, g_I, g_L, g_R, g_V, t_0, t_I, t_R, t_U, t_L, t_s, List.getElem?_cons_zero, List.getElem?_cons_succ, Nat.reduceAdd, zif10, zif01b, zib, if_pos, if_neg, reduceIte, not_true_eq_false, not_false_eq_true, Bool.true_eq_false, Bool.false_eq_true, Classical.not_not, eq_self, and_self, and_true, true_and, Int.reduceEq, Int.reduceLE, Int.reduceLT, Int.reduceNeg, Option.toList, List.cons_append, List.nil_append, zup_s, zup_n, zst_s, zup_zs, zup_zn, decide_true, decide_false]
    refine zfor (a := 0) (N := 4) (b := 4) (fun p L0 M0 => L0 = [zR 3, zI s, zI (p : Int)] ∧ M0 = zst (zst M 7 (zrng (M 7) (s * 81) 81 s)) 5 (zrng (M 5) (s * 4) p 0)) ?_ ?_ ?_ ?_
    · exact Nat.zero_le _
    · refine ⟨rfl, ?_⟩
      rw [zrng_0]
      exact (zst_id _ 5).symm
    · rintro p _ _ _ hp ⟨rfl, rfl⟩ ih
      rw [k_Ne_leadBack_4]
      simp (disch := first | omega | exact Nat.le_of_ble_eq_true rfl | assumption | (simp only [Int.natCast_add, Int.natCast_mul, Int.cast_ofNat_Int]; omega) | decide) only [k_Ne_leadBack_5, x_aload, x_getf, w_goto, w_fall, w_iadd, w_iconst, w_icmp, x_iinc, x_iload, w_imul, x_istore, zadd_eq, zmul_eq, gf_3_4, gf_3_5, gf_3_6, pu_5, pu_6, pu_7, w_vret r_Ne_leadBack, q_eq, q_ne, q_lt, q_ge, q_gt, q_le, g_I, g_L, g_R, g_V, t_0, t_I, t_R, t_U, t_L, t_s, List.getElem?_cons_zero, List.getElem?_cons_succ, Nat.reduceAdd, zif10, zif01b, zib, if_pos, if_neg, reduceIte, not_true_eq_false, not_false_eq_true, Bool.true_eq_false, Bool.false_eq_true, Classical.not_not, eq_self, and_self, and_true, true_and, Int.reduceEq, Int.reduceLE, Int.reduceLT, Int.reduceNeg, Option.toList, List.cons_append, List.nil_append, zup_s, zup_n, zst_s, zup_zs, zup_zn, decide_true, decide_false]
      refine ih _ _ ⟨rfl, ?_⟩
      rw [zrng_up2 (by omega)]
    · rintro _ _ ⟨rfl, rfl⟩
      rw [k_Ne_leadBack_4]
      simp (disch := first | omega | exact Nat.le_of_ble_eq_true rfl | assumption | (simp only [Int.natCast_add, Int.natCast_mul, Int.cast_ofNat_Int]; omega) | decide) only [k_Ne_leadBack_6, x_aload, x_getf, w_goto, w_fall, w_iadd, w_iconst, w_icmp, x_iinc, x_iload, w_imul, x_istore, zadd_eq, zmul_eq, gf_3_4, gf_3_5, gf_3_6, pu_5, pu_6, pu_7, w_vret r_Ne_leadBack, q_eq, q_ne, q_lt, q_ge, q_gt, q_le, g_I, g_L, g_R, g_V, t_0, t_I, t_R, t_U, t_L, t_s, List.getElem?_cons_zero, List.getElem?_cons_succ, Nat.reduceAdd, zif10, zif01b, zib, if_pos, if_neg, reduceIte, not_true_eq_false, not_false_eq_true, Bool.true_eq_false, Bool.false_eq_true, Classical.not_not, eq_self, and_self, and_true, true_and, Int.reduceEq, Int.reduceLE, Int.reduceLT, Int.reduceNeg, Option.toList, List.cons_append, List.nil_append, zup_s, zup_n, zst_s, zup_zs, zup_zn, decide_true, decide_false]
      refine zfor (a := 0) (N := 12) (b := 7) (fun p L0 M0 => L0 = [zR 3, zI s, zI (p : Int)] ∧ M0 = zst (zst (zst M 7 (zrng (M 7) (s * 81) 81 s)) 5 (zrng (M 5) (s * 4) 4 0)) 6 (zrng (M 6) (s * 12) p 0)) ?_ ?_ ?_ ?_
      · exact Nat.zero_le _
      · refine ⟨rfl, ?_⟩
        rw [zrng_0]
        exact (zst_id _ 6).symm
      · rintro p _ _ _ hp ⟨rfl, rfl⟩ ih
        rw [k_Ne_leadBack_7]
        simp (disch := first | omega | exact Nat.le_of_ble_eq_true rfl | assumption | (simp only [Int.natCast_add, Int.natCast_mul, Int.cast_ofNat_Int]; omega) | decide) only [k_Ne_leadBack_8, x_aload, x_getf, w_goto, w_fall, w_iadd, w_iconst, w_icmp, x_iinc, x_iload, w_imul, x_istore, zadd_eq, zmul_eq, gf_3_4, gf_3_5, gf_3_6, pu_5, pu_6, pu_7, w_vret r_Ne_leadBack, q_eq, q_ne, q_lt, q_ge, q_gt, q_le, g_I, g_L, g_R, g_V, t_0, t_I, t_R, t_U, t_L, t_s, List.getElem?_cons_zero, List.getElem?_cons_succ, Nat.reduceAdd, zif10, zif01b, zib, if_pos, if_neg, reduceIte, not_true_eq_false, not_false_eq_true, Bool.true_eq_false, Bool.false_eq_true, Classical.not_not, eq_self, and_self, and_true, true_and, Int.reduceEq, Int.reduceLE, Int.reduceLT, Int.reduceNeg, Option.toList, List.cons_append, List.nil_append, zup_s, zup_n, zst_s, zup_zs, zup_zn, decide_true, decide_false]
        refine ih _ _ ⟨rfl, ?_⟩
        rw [zrng_up2 (by omega)]
      · rintro _ _ ⟨rfl, rfl⟩
        rw [k_Ne_leadBack_7]
        simp (disch := first | omega | exact Nat.le_of_ble_eq_true rfl | assumption | (simp only [Int.natCast_add, Int.natCast_mul, Int.cast_ofNat_Int]; omega) | decide) only [k_Ne_leadBack_9, x_aload, x_getf, w_goto, w_fall, w_iadd, w_iconst, w_icmp, x_iinc, x_iload, w_imul, x_istore, zadd_eq, zmul_eq, gf_3_4, gf_3_5, gf_3_6, pu_5, pu_6, pu_7, w_vret r_Ne_leadBack, q_eq, q_ne, q_lt, q_ge, q_gt, q_le, g_I, g_L, g_R, g_V, t_0, t_I, t_R, t_U, t_L, t_s, List.getElem?_cons_zero, List.getElem?_cons_succ, Nat.reduceAdd, zif10, zif01b, zib, if_pos, if_neg, reduceIte, not_true_eq_false, not_false_eq_true, Bool.true_eq_false, Bool.false_eq_true, Classical.not_not, eq_self, and_self, and_true, true_and, Int.reduceEq, Int.reduceLE, Int.reduceLT, Int.reduceNeg, Option.toList, List.cons_append, List.nil_append, zup_s, zup_n, zst_s, zup_zs, zup_zn, decide_true, decide_false]
theorem c_Ne_leadBack {d mi o b9 : Nat} {es : List zEnt} {L st : List zMV} {Q : Option zMV → (Nat → Int → Int) → Prop} {s : Nat} (hs : s < 12) (hd : 1 + 1 ≤ d) (hc : zcats st ≤ 8) : zW (zSH Ln) d mi ((.invokevirtual o, 29, b9) :: es) L (zI (s : Int) :: zR 3 :: st) M Q = zW (zSH Ln) d mi es L (st) (zst (zst (zst M 7 (zrng (M 7) (s * 81) 81 s)) 5 (zrng (M 5) (s * 4) 4 0)) 6 (zrng (M 6) (s * 12) 12 0)) Q :=
  c_virt (ps := [zI (s : Int)]) (by omega) rfl rfl (by omega) (by exact sh_3 Ln) hc (Nat.le_of_ble_eq_true rfl) (F_Ne_leadBack hs (by omega))
end FI
