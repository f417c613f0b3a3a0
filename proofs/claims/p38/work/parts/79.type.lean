/-! the tape: bytes come behind it -/
/-- byte i of w -/
def zby (w : Int) (i : Nat) : Nat := (Int64.ofInt (zlshr w (8 * (i : Int)))).toBitVec.toNat % 256
theorem zand255 (x : Int) : zand (zl2i x) 255 = (((Int64.ofInt x).toBitVec.toNat % 256 : Nat) : Int) := by
  unfold zand zl2i
  rw [Int32.ofInt_toInt]
  have h : ((Int64.ofInt x).toInt32 &&& Int32.ofInt 255).toBitVec.toNat = (Int64.ofInt x).toBitVec.toNat % 256 := by
    rw [Int32.toBitVec_and, BitVec.toNat_and]
    have e1 : (Int64.ofInt x).toInt32.toBitVec.toNat = (Int64.ofInt x).toBitVec.toNat % 2 ^ 32 := by
      rw [Int64.toBitVec_toInt32, BitVec.signExtend_eq_setWidth_of_le _ (by decide), BitVec.toNat_setWidth]
    have e2 : (Int32.ofInt 255).toBitVec.toNat = 2 ^ 8 - 1 := by decide
    rw [e1, e2, Nat.and_two_pow_sub_one_eq_mod]
    omega
  show ((Int64.ofInt x).toInt32 &&& Int32.ofInt 255).toBitVec.toInt = _
  rw [BitVec.toInt_eq_toNat_of_lt (by rw [h]; omega), h]
def zbyOk (w : Int) (n : Nat) : Bool := zfa n fun k => decide (32 ≤ zby w k ∧ zby w k ≤ 126)
abbrev zTyG (q : Nat) (w n : Int) : Prop := (1 ≤ n ∧ n ≤ 8) ∧ zbyOk w n.toNat = true ∧ (q : Int) + n ≤ 100
def zTyA (q : Nat) (w n : Int) : Int := if 1 ≤ n ∧ n ≤ 8 then (if zbyOk w n.toNat = true then (if (q : Int) + n ≤ 100 then (q : Int) + n else -3) else -1) else -1
/-- the tape with n bytes more -/
def zTb (q : Nat) (tb : Nat → Nat) (w : Int) (n : Nat) (j : Nat) : Nat := if j < q then tb j else zby w (n - 1 - (j - q))
def zTpC (q : Nat) (tb : Nat → Nat) (M : Nat → Int → Int) : Prop := M 22 2 = q ∧ ∀ j : Nat, j < q → M 23 (j : Int) = tb j
def zTpR (q : Nat) (tb : Nat → Nat) (M : Nat → Int → Int) : Prop := M 48 24 = q ∧ ∀ j : Nat, j < q → M 66 (j : Int) = tb j
section TY
variable {Ln q : Nat} {tb : Nat → Nat} {M : Nat → Int → Int}
theorem F_Tp_byteOf {d : Nat} {w : Int} {i : Nat} (hi : i < 100) (hd : 0 ≤ d) : zF (zSH Ln) d i_Tp_byteOf [zL w, zI (i : Int)] M fun r M' => r = some (zI (zby w i : Int)) ∧ M' = M := by
  rw [zF_en k_Tp_byteOf_0 (L := [zL w, zU, zI (i : Int)]) rfl]
  have e : zmul 8 (i : Int) = 8 * (i : Int) := zmul_eq (by omega) (by omega)
  simp (disch := first | omega | exact Nat.le_of_ble_eq_true rfl | assumption | (simp only [Int.natCast_add, Int.natCast_mul, Int.cast_ofNat_Int]; omega) | decide) only [w_iand, w_iconst, x_iload, w_imul, w_l2i, x_lload, w_lshr, zmul_eq, w_nret r_Tp_byteOf, q_eq, q_ne, q_lt, q_ge, q_gt, q_le, g_I, g_L, g_R, g_V, t_0, t_I, t_R, t_U, t_L, t_s, List.getElem?_cons_zero, List.getElem?_cons_succ, Nat.reduceAdd, zif10, zif01b, zib, if_pos, if_neg, ↓reduceIte, not_true_eq_false, not_false_eq_true, Bool.true_eq_false, Bool.false_eq_true, Classical.not_not, eq_self, and_self, and_true, true_and, Int.reduceEq, Int.reduceLE, Int.reduceLT, Int.reduceNeg, Option.toList, List.cons_append, List.nil_append, zup_s, zup_n, zst_s, zup_zs, zup_zn, decide_true, decide_false, e, zand255]
  rfl
theorem c_Tp_byteOf {d mi o b9 : Nat} {es : List zEnt} {L st : List zMV} {Q : Option zMV → (Nat → Int → Int) → Prop} {w : Int} {i : Nat} (hi : i < 100) (hd : 0 + 1 ≤ d) (hc : zcats st ≤ 8) : zW (zSH Ln) d mi ((.invokestatic o, 75, b9) :: es) L (zI (i : Int) :: zL w :: st) M Q = zW (zSH Ln) d mi es L (zI (zby w i : Int) :: st) (M) Q :=
  c_stat (vs := [zL w, zI (i : Int)]) (by omega) rfl rfl hc (Nat.le_of_ble_eq_true rfl) (F_Tp_byteOf hi (by omega))
theorem F_Tp_add {d : Nat} {w : Int} {n : Nat} (hT : zTpC q tb M) (hq : q ≤ 100) (hn : 1 ≤ n ∧ n ≤ 8) (hd : 1 ≤ d) : zF (zSH Ln) d i_Tp_add [zR 22, zL w, zI (n : Int)] M fun r M' => r = some (zI (zTyA q w n)) ∧ (zTyG q w n → zKp [22, 23] M M' ∧ (∀ i : Int, i ≠ 2 → M' 22 i = M 22 i) ∧ zTpC (q + n) (zTb q tb w n) M') ∧ (¬ zTyG q w n → M' = M) := by
  rw [zF_en k_Tp_add_0 (L := [zR 22, zL w, zU, zI (n : Int), zU, zU]) rfl]
  have h22 := hT.1
  generalize hans : zTyA q w n = ans
  unfold zTyA at hans
  generalize hgd : zTyG q w n = gd
  unfold zTyG at hgd
  have hn1 : (1 : Int) ≤ (n : Int) ∧ (n : Int) ≤ 8 := by omega
  rw [if_pos hn1, Int.toNat_natCast] at hans
  rw [Int.toNat_natCast] at hgd
  have hok : zbyOk w n = true ↔ ∀ k, k < n → 32 ≤ zby w k ∧ zby w k ≤ 126 := by
    unfold zbyOk; rw [zfa_iff]
    exact ⟨fun h k hk => by simpa using h k hk, fun h k hk => by simpa using h k hk⟩
  simp (disch := first | omega | exact Nat.le_of_ble_eq_true rfl | assumption | (simp only [Int.natCast_add, Int.natCast_mul, Int.cast_ofNat_Int]; omega) | decide) only [x_aload, w_dupI, w_dupR, x_getf, w_goto, w_fall, w_iadd, w_iconst, w_if, w_icmp, x_iinc, x_iload, x_istore, w_isub, x_lload, zadd_eq, zsub_eq, gf_22_0, gf_22_2, xp_22_2, pu_23, w_nret r_Tp_add, q_eq, q_ne, q_lt, q_ge, q_gt, q_le, g_I, g_L, g_R, g_V, t_0, t_I, t_R, t_U, t_L, t_s, List.getElem?_cons_zero, List.getElem?_cons_succ, Nat.reduceAdd, zif10, zif01b, zib, if_pos, if_neg, ↓reduceIte, not_true_eq_false, not_false_eq_true, Bool.true_eq_false, Bool.false_eq_true, Classical.not_not, eq_self, and_self, and_true, true_and, Int.reduceEq, Int.reduceLE, Int.reduceLT, Int.reduceNeg, Option.toList, List.cons_append, List.nil_append, zup_s, zup_n, zst_s, zup_zs, zup_zn, decide_true, decide_false]
  refine zfor (a := 0) (N := n) (b := 1) (fun t L0 M0 => ∃ v5, L0 = [zR 22, zL w, zU, zI (n : Int), zI (t : Int), v5] ∧ M0 = M ∧ (∀ k, k < t → 32 ≤ zby w k ∧ zby w k ≤ 126)) ?_ ?_ ?_ ?_
  · exact Nat.zero_le _
  · exact ⟨zU, rfl, rfl, fun k hk => by omega⟩
  · rintro t _ _ _ ht ⟨v5, rfl, rfl, hk⟩ ih
    have fin : ¬ (32 ≤ zby w t ∧ zby w t ≤ 126) → ans = -1 ∧ ¬ gd := fun h => by
      have e : ¬ zbyOk w n = true := fun z => h (hok.mp z t ht)
      rw [if_neg e] at hans
      exact ⟨hans.symm, fun z => by rw [← hgd] at z; exact e z.2.1⟩
    rw [k_Tp_add_1]
    by_cases c1 : 32 ≤ zby w t
    · by_cases c2 : zby w t ≤ 126
      · simp (disch := first | omega | exact Nat.le_of_ble_eq_true rfl | assumption | (simp only [Int.natCast_add, Int.natCast_mul, Int.cast_ofNat_Int]; omega) | decide) only [k_Tp_add_2, k_Tp_add_3, k_Tp_add_5, x_aload, w_dupI, w_dupR, x_getf, w_goto, w_fall, w_iadd, w_iconst, w_if, w_icmp, x_iinc, x_iload, x_istore, w_isub, x_lload, zadd_eq, zsub_eq, gf_22_0, gf_22_2, xp_22_2, pu_23, w_nret r_Tp_add, q_eq, q_ne, q_lt, q_ge, q_gt, q_le, g_I, g_L, g_R, g_V, t_0, t_I, t_R, t_U, t_L, t_s, List.getElem?_cons_zero, List.getElem?_cons_succ, Nat.reduceAdd, zif10, zif01b, zib, if_pos, if_neg, ↓reduceIte, not_true_eq_false, not_false_eq_true, Bool.true_eq_false, Bool.false_eq_true, Classical.not_not, eq_self, and_self, and_true, true_and, Int.reduceEq, Int.reduceLE, Int.reduceLT, Int.reduceNeg, Option.toList, List.cons_append, List.nil_append, zup_s, zup_n, zst_s, zup_zs, zup_zn, decide_true, decide_false, c_Tp_byteOf]
        refine ih _ _ ⟨_, rfl, rfl, fun k h => ?_⟩
        by_cases e : k = t
        · subst e; exact ⟨c1, c2⟩
        · exact hk k (by omega)
      · obtain ⟨ha, hng⟩ := fin (fun z => c2 z.2)
        simp (disch := first | omega | exact Nat.le_of_ble_eq_true rfl | assumption | (simp only [Int.natCast_add, Int.natCast_mul, Int.cast_ofNat_Int]; omega) | decide) only [k_Tp_add_2, k_Tp_add_3, k_Tp_add_4, x_aload, w_dupI, w_dupR, x_getf, w_goto, w_fall, w_iadd, w_iconst, w_if, w_icmp, x_iinc, x_iload, x_istore, w_isub, x_lload, zadd_eq, zsub_eq, gf_22_0, gf_22_2, xp_22_2, pu_23, w_nret r_Tp_add, q_eq, q_ne, q_lt, q_ge, q_gt, q_le, g_I, g_L, g_R, g_V, t_0, t_I, t_R, t_U, t_L, t_s, List.getElem?_cons_zero, List.getElem?_cons_succ, Nat.reduceAdd, zif10, zif01b, zib, if_pos, if_neg, ↓reduceIte, not_true_eq_false, not_false_eq_true, Bool.true_eq_false, Bool.false_eq_true, Classical.not_not, eq_self, and_self, and_true, true_and, Int.reduceEq, Int.reduceLE, Int.reduceLT, Int.reduceNeg, Option.toList, List.cons_append, List.nil_append, zup_s, zup_n, zst_s, zup_zs, zup_zn, decide_true, decide_false, c_Tp_byteOf, ha]
        exact ⟨fun h => absurd h hng, fun _ => trivial⟩
    · obtain ⟨ha, hng⟩ := fin (fun z => c1 z.1)
      simp (disch := first | omega | exact Nat.le_of_ble_eq_true rfl | assumption | (simp only [Int.natCast_add, Int.natCast_mul, Int.cast_ofNat_Int]; omega) | decide) only [k_Tp_add_2, k_Tp_add_4, x_aload, w_dupI, w_dupR, x_getf, w_goto, w_fall, w_iadd, w_iconst, w_if, w_icmp, x_iinc, x_iload, x_istore, w_isub, x_lload, zadd_eq, zsub_eq, gf_22_0, gf_22_2, xp_22_2, pu_23, w_nret r_Tp_add, q_eq, q_ne, q_lt, q_ge, q_gt, q_le, g_I, g_L, g_R, g_V, t_0, t_I, t_R, t_U, t_L, t_s, List.getElem?_cons_zero, List.getElem?_cons_succ, Nat.reduceAdd, zif10, zif01b, zib, if_pos, if_neg, ↓reduceIte, not_true_eq_false, not_false_eq_true, Bool.true_eq_false, Bool.false_eq_true, Classical.not_not, eq_self, and_self, and_true, true_and, Int.reduceEq, Int.reduceLE, Int.reduceLT, Int.reduceNeg, Option.toList, List.cons_append, List.nil_append, zup_s, zup_n, zst_s, zup_zs, zup_zn, decide_true, decide_false, c_Tp_byteOf, ha]
      exact ⟨fun h => absurd h hng, fun _ => trivial⟩
  · rintro _ M ⟨v5, rfl, rfl, hk⟩
    rw [if_pos (hok.mpr hk)] at hans
    rw [k_Tp_add_1]
    by_cases c3 : (q : Int) + n ≤ 100
    rotate_left
    · rw [if_neg c3] at hans
      have hng : ¬ gd := fun z => by rw [← hgd] at z; exact c3 z.2.2
      simp (disch := first | omega | exact Nat.le_of_ble_eq_true rfl | assumption | (simp only [Int.natCast_add, Int.natCast_mul, Int.cast_ofNat_Int]; omega) | decide) only [k_Tp_add_6, k_Tp_add_7, x_aload, w_dupI, w_dupR, x_getf, w_goto, w_fall, w_iadd, w_iconst, w_if, w_icmp, x_iinc, x_iload, x_istore, w_isub, x_lload, zadd_eq, zsub_eq, gf_22_0, gf_22_2, xp_22_2, pu_23, w_nret r_Tp_add, q_eq, q_ne, q_lt, q_ge, q_gt, q_le, g_I, g_L, g_R, g_V, t_0, t_I, t_R, t_U, t_L, t_s, List.getElem?_cons_zero, List.getElem?_cons_succ, Nat.reduceAdd, zif10, zif01b, zib, if_pos, if_neg, ↓reduceIte, not_true_eq_false, not_false_eq_true, Bool.true_eq_false, Bool.false_eq_true, Classical.not_not, eq_self, and_self, and_true, true_and, Int.reduceEq, Int.reduceLE, Int.reduceLT, Int.reduceNeg, Option.toList, List.cons_append, List.nil_append, zup_s, zup_n, zst_s, zup_zs, zup_zn, decide_true, decide_false, h22, hans]
      exact ⟨fun h => absurd h hng, fun _ => trivial⟩
    rw [if_pos c3] at hans
    have hg : gd := by rw [← hgd]; exact ⟨hn1, hok.mpr hk, c3⟩
    simp (disch := first | omega | exact Nat.le_of_ble_eq_true rfl | assumption | (simp only [Int.natCast_add, Int.natCast_mul, Int.cast_ofNat_Int]; omega) | decide) only [k_Tp_add_6, k_Tp_add_8, x_aload, w_dupI, w_dupR, x_getf, w_goto, w_fall, w_iadd, w_iconst, w_if, w_icmp, x_iinc, x_iload, x_istore, w_isub, x_lload, zadd_eq, zsub_eq, gf_22_0, gf_22_2, xp_22_2, pu_23, w_nret r_Tp_add, q_eq, q_ne, q_lt, q_ge, q_gt, q_le, g_I, g_L, g_R, g_V, t_0, t_I, t_R, t_U, t_L, t_s, List.getElem?_cons_zero, List.getElem?_cons_succ, Nat.reduceAdd, zif10, zif01b, zib, if_pos, if_neg, ↓reduceIte, not_true_eq_false, not_false_eq_true, Bool.true_eq_false, Bool.false_eq_true, Classical.not_not, eq_self, and_self, and_true, true_and, Int.reduceEq, Int.reduceLE, Int.reduceLT, Int.reduceNeg, Option.toList, List.cons_append, List.nil_append, zup_s, zup_n, zst_s, zup_zs, zup_zn, decide_true, decide_false, h22]
    refine zford (N := n) (b := 9) (fun p L0 M0 => ∃ M2 u5, L0 = [zR 22, zL w, zU, zI (n : Int), zI ((p : Int) - 1), u5] ∧ M0 = M2 ∧ (zKp [22, 23] M M2 ∧ (∀ i : Int, i ≠ 2 → M2 22 i = M 22 i) ∧ M2 22 2 = (q : Int) + ((n : Int) - p) ∧ (∀ j : Nat, j < q → M2 23 (j : Int) = tb j) ∧ ∀ j : Nat, p ≤ j → j < n → M2 23 ((q : Int) + ((n : Int) - 1 - j)) = zby w j)) ?_ ?_ ?_
    · exact ⟨M, v5, rfl, rfl, zKp_rf _ _, fun _ _ => rfl, by rw [h22]; omega, hT.2, fun j a b => by omega⟩
    · rintro p _ M2 hp ⟨_, u5, rfl, rfl, b1, b2, b3, b4, b5⟩ ih
      rw [k_Tp_add_9]
      simp (disch := first | omega | exact Nat.le_of_ble_eq_true rfl | assumption | (simp only [Int.natCast_add, Int.natCast_mul, Int.cast_ofNat_Int]; omega) | decide) only [k_Tp_add_10, x_aload, w_dupI, w_dupR, x_getf, w_goto, w_fall, w_iadd, w_iconst, w_if, w_icmp, x_iinc, x_iload, x_istore, w_isub, x_lload, zadd_eq, zsub_eq, gf_22_0, gf_22_2, xp_22_2, pu_23, w_nret r_Tp_add, q_eq, q_ne, q_lt, q_ge, q_gt, q_le, g_I, g_L, g_R, g_V, t_0, t_I, t_R, t_U, t_L, t_s, List.getElem?_cons_zero, List.getElem?_cons_succ, Nat.reduceAdd, zif10, zif01b, zib, if_pos, if_neg, ↓reduceIte, not_true_eq_false, not_false_eq_true, Bool.true_eq_false, Bool.false_eq_true, Classical.not_not, eq_self, and_self, and_true, true_and, Int.reduceEq, Int.reduceLE, Int.reduceLT, Int.reduceNeg, Option.toList, List.cons_append, List.nil_append, zup_s, zup_n, zst_s, zup_zs, zup_zn, decide_true, decide_false, b3, c_Tp_byteOf, show ((p + 1 : Nat) : Int) - 1 = (p : Int) by omega]
      refine ih _ _ ⟨_, _, rfl, rfl, zKp_up (by decide) (zKp_up (by decide) b1), fun i hi => ?_, ?_, fun j hj => ?_, fun j h1 h2 => ?_⟩
      · rw [zup_d hi, zup_n (by decide)]; exact b2 i hi
      · rw [zup_s]; omega
      · rw [zup_n (by decide), zup_d (by omega)]; exact b4 j hj
      · rw [zup_n (by decide)]
        by_cases e : j = p
        · subst e
          rw [show (q : Int) + ((n : Int) - 1 - (j : Int)) = (q : Int) + ((n : Int) - ((j + 1 : Nat) : Int)) by omega, zup_s]
        · rw [zup_d (by omega)]; exact b5 j (by omega) h2
    · rintro _ M2 ⟨_, u5, rfl, rfl, b1, b2, b3, b4, b5⟩
      have e3 : M2 22 2 = ans := by rw [b3, ← hans]; omega
      rw [k_Tp_add_9]
      simp (disch := first | omega | exact Nat.le_of_ble_eq_true rfl | assumption | (simp only [Int.natCast_add, Int.natCast_mul, Int.cast_ofNat_Int]; omega) | decide) only [k_Tp_add_11, x_aload, w_dupI, w_dupR, x_getf, w_goto, w_fall, w_iadd, w_iconst, w_if, w_icmp, x_iinc, x_iload, x_istore, w_isub, x_lload, zadd_eq, zsub_eq, gf_22_0, gf_22_2, xp_22_2, pu_23, w_nret r_Tp_add, q_eq, q_ne, q_lt, q_ge, q_gt, q_le, g_I, g_L, g_R, g_V, t_0, t_I, t_R, t_U, t_L, t_s, List.getElem?_cons_zero, List.getElem?_cons_succ, Nat.reduceAdd, zif10, zif01b, zib, if_pos, if_neg, ↓reduceIte, not_true_eq_false, not_false_eq_true, Bool.true_eq_false, Bool.false_eq_true, Classical.not_not, eq_self, and_self, and_true, true_and, Int.reduceEq, Int.reduceLE, Int.reduceLT, Int.reduceNeg, Option.toList, List.cons_append, List.nil_append, zup_s, zup_n, zst_s, zup_zs, zup_zn, decide_true, decide_false, e3, show ((0 : Nat) : Int) - 1 = -1 by omega]
      refine ⟨fun _ => ⟨b1, b2, by rw [e3, ← hans]; omega, fun j hj => ?_⟩, fun h => absurd hg h⟩
      unfold zTb
      by_cases e : j < q
      · rw [if_pos e]; exact b4 j e
      · rw [if_neg e]
        have := b5 (n - 1 - (j - q)) (by omega) (by omega)
        rw [← this]
        congr 1; omega
theorem c_Tp_add {d mi o b9 : Nat} {es : List zEnt} {L st : List zMV} {Q : Option zMV → (Nat → Int → Int) → Prop} {w : Int} {n : Nat} (hT : zTpC q tb M) (hq : q ≤ 100) (hn : 1 ≤ n ∧ n ≤ 8) (hd : 1 + 1 ≤ d) (hc : zcats st ≤ 8) (hpost : ∀ r M', (r = some (zI (zTyA q w n)) ∧ (zTyG q w n → zKp [22, 23] M M' ∧ (∀ i : Int, i ≠ 2 → M' 22 i = M 22 i) ∧ zTpC (q + n) (zTb q tb w n) M') ∧ (¬ zTyG q w n → M' = M)) → zW (zSH Ln) d mi es L (r.toList ++ st) M' Q) : zW (zSH Ln) d mi ((.invokevirtual o, 74, b9) :: es) L (zI (n : Int) :: zL w :: zR 22 :: st) M Q :=
  w_callv (ps := [zL w, zI (n : Int)]) (by omega) rfl rfl (by omega) (by exact sh_22 Ln) hc (Nat.le_of_ble_eq_true rfl) (F_Tp_add hT hq hn (by omega)) hpost
theorem F_FN_type {d : Nat} {w n : Int} (hT : zTpC q tb M) (hq : q ≤ 100) (hd : 2 ≤ d) : zF (zSH Ln) d i_FN_type [zR 2, zL w, zI n] M fun r M' => r = some (zI (zTyA q w n)) ∧ (zTyG q w n → zKp [22, 23] M M' ∧ (∀ i : Int, i ≠ 2 → M' 22 i = M 22 i) ∧ zTpC (q + n.toNat) (zTb q tb w n.toNat) M') ∧ (¬ zTyG q w n → M' = M) := by
  rw [zF_en k_FN_type_0 (L := [zR 2, zL w, zU, zI n]) rfl]
  by_cases c1 : 1 ≤ n
  rotate_left
  · have hng : ¬ zTyG q w n := fun z => c1 z.1.1
    have ha : zTyA q w n = -1 := by unfold zTyA; rw [if_neg (fun z => c1 z.1)]
    simp (disch := first | omega | exact Nat.le_of_ble_eq_true rfl | assumption | (simp only [Int.natCast_add, Int.natCast_mul, Int.cast_ofNat_Int]; omega) | decide) only [k_FN_type_2, x_aload, x_getf, w_fall, w_iconst, w_icmp, x_iload, x_lload, gf_2_2, w_nret r_FN_type, q_eq, q_ne, q_lt, q_ge, q_gt, q_le, g_I, g_L, g_R, g_V, t_0, t_I, t_R, t_U, t_L, t_s, List.getElem?_cons_zero, List.getElem?_cons_succ, Nat.reduceAdd, zif10, zif01b, zib, if_pos, if_neg, ↓reduceIte, not_true_eq_false, not_false_eq_true, Bool.true_eq_false, Bool.false_eq_true, Classical.not_not, eq_self, and_self, and_true, true_and, Int.reduceEq, Int.reduceLE, Int.reduceLT, Int.reduceNeg, Option.toList, List.cons_append, List.nil_append, zup_s, zup_n, zst_s, zup_zs, zup_zn, decide_true, decide_false, c1, ha]
    exact ⟨fun h => absurd h hng, fun _ => trivial⟩
  by_cases c2 : n ≤ 8
  rotate_left
  · have hng : ¬ zTyG q w n := fun z => c2 z.1.2
    have ha : zTyA q w n = -1 := by unfold zTyA; rw [if_neg (fun z => c2 z.2)]
    simp (disch := first | omega | exact Nat.le_of_ble_eq_true rfl | assumption | (simp only [Int.natCast_add, Int.natCast_mul, Int.cast_ofNat_Int]; omega) | decide) only [k_FN_type_1, k_FN_type_2, x_aload, x_getf, w_fall, w_iconst, w_icmp, x_iload, x_lload, gf_2_2, w_nret r_FN_type, q_eq, q_ne, q_lt, q_ge, q_gt, q_le, g_I, g_L, g_R, g_V, t_0, t_I, t_R, t_U, t_L, t_s, List.getElem?_cons_zero, List.getElem?_cons_succ, Nat.reduceAdd, zif10, zif01b, zib, if_pos, if_neg, ↓reduceIte, not_true_eq_false, not_false_eq_true, Bool.true_eq_false, Bool.false_eq_true, Classical.not_not, eq_self, and_self, and_true, true_and, Int.reduceEq, Int.reduceLE, Int.reduceLT, Int.reduceNeg, Option.toList, List.cons_append, List.nil_append, zup_s, zup_n, zst_s, zup_zs, zup_zn, decide_true, decide_false, c1, c2, ha]
    exact ⟨fun h => absurd h hng, fun _ => trivial⟩
  obtain ⟨m, rfl⟩ : ∃ m : Nat, n = (m : Int) := ⟨n.toNat, by omega⟩
  simp (disch := first | omega | exact Nat.le_of_ble_eq_true rfl | assumption | (simp only [Int.natCast_add, Int.natCast_mul, Int.cast_ofNat_Int]; omega) | decide) only [k_FN_type_1, k_FN_type_3, x_aload, x_getf, w_fall, w_iconst, w_icmp, x_iload, x_lload, gf_2_2, w_nret r_FN_type, q_eq, q_ne, q_lt, q_ge, q_gt, q_le, g_I, g_L, g_R, g_V, t_0, t_I, t_R, t_U, t_L, t_s, List.getElem?_cons_zero, List.getElem?_cons_succ, Nat.reduceAdd, zif10, zif01b, zib, if_pos, if_neg, ↓reduceIte, not_true_eq_false, not_false_eq_true, Bool.true_eq_false, Bool.false_eq_true, Classical.not_not, eq_self, and_self, and_true, true_and, Int.reduceEq, Int.reduceLE, Int.reduceLT, Int.reduceNeg, Option.toList, List.cons_append, List.nil_append, zup_s, zup_n, zst_s, zup_zs, zup_zn, decide_true, decide_false, c1, c2]
  refine c_Tp_add (n := m) hT hq (by omega) (by omega) (Nat.le_of_ble_eq_true rfl) ?_
  rintro _ M1 ⟨rfl, h2, h3⟩
  simp (disch := first | omega | exact Nat.le_of_ble_eq_true rfl | assumption | (simp only [Int.natCast_add, Int.natCast_mul, Int.cast_ofNat_Int]; omega) | decide) only [x_aload, x_getf, w_fall, w_iconst, w_icmp, x_iload, x_lload, gf_2_2, w_nret r_FN_type, q_eq, q_ne, q_lt, q_ge, q_gt, q_le, g_I, g_L, g_R, g_V, t_0, t_I, t_R, t_U, t_L, t_s, List.getElem?_cons_zero, List.getElem?_cons_succ, Nat.reduceAdd, zif10, zif01b, zib, if_pos, if_neg, ↓reduceIte, not_true_eq_false, not_false_eq_true, Bool.true_eq_false, Bool.false_eq_true, Classical.not_not, eq_self, and_self, and_true, true_and, Int.reduceEq, Int.reduceLE, Int.reduceLT, Int.reduceNeg, Option.toList, List.cons_append, List.nil_append, zup_s, zup_n, zst_s, zup_zs, zup_zn, decide_true, decide_false]
  rw [Int.toNat_natCast]
  exact ⟨h2, h3⟩
end TY
