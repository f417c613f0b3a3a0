/-! chances: long numbers, the class's elimination -/
theorem zlmul_eq {x y : Int} (h1 : -9223372036854775808 ≤ x * y) (h2 : x * y < 9223372036854775808) : zlmul x y = x * y := by
  unfold zlmul
  rw [← Int64.ofInt_mul, ztoL ⟨h1, h2⟩]
theorem zlsub_eq {x y : Int} (h1 : -9223372036854775808 ≤ x - y) (h2 : x - y < 9223372036854775808) : zlsub x y = x - y := by
  unfold zlsub
  rw [← Int64.ofInt_sub, ztoL ⟨h1, h2⟩]
theorem zldiv_t {x y : Int} (hx : zin64 x) (hy : zin64 y) (hq : zin64 (x.tdiv y)) : zldiv x y = x.tdiv y := by
  unfold zldiv
  rw [Int64.toInt_div, ztoL hx, ztoL hy]
  have h1 := hq.1
  have h2 := hq.2
  exact Int.bmod_eq_of_le (by omega) (by omega)
theorem zldiv_ex {q y : Int} (hy0 : y ≠ 0) (hx : zin64 (q * y)) (hy : zin64 y) (hq : zin64 q) : zldiv (q * y) y = q := by
  have e := Int.mul_tdiv_cancel q hy0
  rw [zldiv_t hx hy (by rw [e]; exact hq), e]
theorem zldiv_nat {a d : Nat} (ha : a < 4611686018427387904) (hd : d < 4611686018427387904) : zldiv (a : Int) (d : Int) = ((a / d : Nat) : Int) := by
  have e : (a : Int).tdiv (d : Int) = ((a / d : Nat) : Int) := rfl
  have h := Nat.div_le_self a d
  have h3 : zin64 ((a : Int).tdiv (d : Int)) := by
    rw [e]
    generalize a / d = z at h
    exact ⟨by omega, by omega⟩
  rw [zldiv_t ⟨by omega, by omega⟩ ⟨by omega, by omega⟩ h3, e]
theorem zlrem_nat {a d : Nat} (ha : a < 4611686018427387904) (hd : d < 4611686018427387904) : zlrem (a : Int) (d : Int) = ((a % d : Nat) : Int) := by
  have h1 : Int64.ofInt (a : Int) / Int64.ofInt (d : Int) = Int64.ofInt ((a / d : Nat) : Int) := by
    rw [← Int64.ofInt_toInt (Int64.ofInt (a : Int) / Int64.ofInt (d : Int))]
    exact congrArg Int64.ofInt (zldiv_nat ha hd)
  unfold zlrem
  have h2 := Nat.mod_add_div a d
  have h3 := Nat.mod_le a d
  have h4 : ((a : Int) - ((a / d : Nat) : Int) * (d : Int)) = ((a % d : Nat) : Int) := by
    have : ((a % d + d * (a / d) : Nat) : Int) = (a : Int) := by rw [h2]
    rw [Int.natCast_add, Int.natCast_mul, Int.mul_comm (d : Int)] at this
    omega
  rw [h1, ← Int64.ofInt_mul, ← Int64.ofInt_sub, h4, ztoL ⟨by omega, by omega⟩]
def zB6 (x : Int) : Prop := -1000000 ≤ x ∧ x ≤ 1000000
theorem zB6_mul {x y : Int} (hx : zB6 x) (hy : zB6 y) : -1000000000000 ≤ x * y ∧ x * y ≤ 1000000000000 := by
  obtain ⟨a, b⟩ := hx
  obtain ⟨c, d⟩ := hy
  have h1 := Int.mul_nonneg (show 0 ≤ x + 1000000 by omega) (show 0 ≤ y + 1000000 by omega)
  have h2 := Int.mul_nonneg (show 0 ≤ 1000000 - x by omega) (show 0 ≤ 1000000 - y by omega)
  have h3 := Int.mul_nonneg (show 0 ≤ x + 1000000 by omega) (show 0 ≤ 1000000 - y by omega)
  have h4 := Int.mul_nonneg (show 0 ≤ 1000000 - x by omega) (show 0 ≤ y + 1000000 by omega)
  rw [Int.add_mul, Int.mul_add, Int.mul_add] at h1
  rw [Int.sub_mul, Int.mul_sub, Int.mul_sub] at h2
  rw [Int.add_mul, Int.mul_sub, Int.mul_sub] at h3
  rw [Int.sub_mul, Int.mul_add, Int.mul_add] at h4
  omega
section LO
variable {Ln S P : Nat} {mv tg ch c : Nat → Nat → Nat} {M : Nat → Int → Int} {lo : Int} {X : Nat → Bool}
set_option maxHeartbeats 20000000 in
theorem F_Lo_clearBelow {d : Nat} {i k m : Nat} {b : Int} {W : Nat → Int} (hi : i < 12) (hk : k < 12) (hik : i ≠ k) (hm : m ≤ 12) (hkm : k ≤ m) (hb : 0 < b ∧ b ≤ 1000000) (hW : ∀ j : Nat, k ≤ j → j ≤ m → M 40 ((k : Int) * 13 + k) * M 40 ((i : Int) * 13 + j) - M 40 ((i : Int) * 13 + k) * M 40 ((k : Int) * 13 + j) = W j * b) (hbd : ∀ j : Nat, k ≤ j → j ≤ m → zB6 (M 40 ((i : Int) * 13 + j)) ∧ zB6 (M 40 ((k : Int) * 13 + j)) ∧ zB6 (W j)) (hd : 1 ≤ d) : zF (zSH Ln) d i_Lo_clearBelow [zR 36, zI (i : Int), zI (k : Int), zI (m : Int), zL b] M fun r M' => r = none ∧ ∃ F, M' = zst M 40 F ∧ (∀ j : Nat, k ≤ j → j ≤ m → F ((i : Int) * 13 + j) = W j) ∧ ∀ x : Int, x < (i : Int) * 13 + k ∨ (i : Int) * 13 + m < x → F x = M 40 x := by
  rw [zF_en k_Lo_clearBelow_0 (L := [zR 36, zI (i : Int), zI (k : Int), zI (m : Int), zL b, zU, zU, zU, zU, zU, zU]) rfl]
  simp (disch := first | omega | exact Nat.le_of_ble_eq_true rfl | assumption | (simp only [Int.natCast_add, Int.natCast_mul, Int.cast_ofNat_Int]; omega) | decide) only [x_aload, w_goto, w_fall, w_if, w_icmp, x_iinc, x_iload, x_istore, w_lcmp, w_ldiv, x_lload, w_lmul, x_lstore2, List.length_cons, List.length_nil, List.set_cons_succ, List.set_cons_zero, Nat.reduceLT, Nat.zero_add, w_lsub, w_sipush, zadd_eq, w_vret r_Lo_clearBelow, q_eq, q_ne, q_lt, q_ge, q_gt, q_le, g_I, g_L, g_R, g_V, t_0, t_I, t_R, t_U, t_L, t_s, List.getElem?_cons_zero, List.getElem?_cons_succ, Nat.reduceAdd, zif10, zif01b, zib, if_pos, if_neg, ↓reduceIte, not_true_eq_false, not_false_eq_true, Bool.true_eq_false, Bool.false_eq_true, Classical.not_not, eq_self, and_self, and_true, true_and, Int.reduceEq, Int.reduceLE, Int.reduceLT, Int.reduceNeg, Option.toList, List.cons_append, List.nil_append, zup_s, zup_n, zst_s, zup_zs, zup_zn, decide_true, decide_false, c_Lo_cell]
  refine zfor (a := k) (N := (m+1)) (b := 1) (fun j L0 M0 => ∃ (F : Int → Int) (v9 : zMV) (v10 : zMV), L0 = [zR 36, zI (i : Int), zI (k : Int), zI (m : Int), zL b, zU, zL (M 40 ((i : Int) * 13 + k)), zU, zI (j : Int), v9, v10] ∧ M0 = zst M 40 F ∧ ((∀ t : Nat, k ≤ t → t < j → F ((i : Int) * 13 + t) = W t) ∧ ∀ x : Int, x < (i : Int) * 13 + k ∨ (i : Int) * 13 + j ≤ x → F x = M 40 x)) ?_ ?_ ?_ ?_
  · omega
  · exact ⟨M 40, zU, zU, rfl, (zst_id _ _).symm, fun t a b => by omega, fun x _ => rfl⟩
  · rintro j _ _ hkj hj ⟨F, v9, v10, rfl, rfl, h1, h2⟩ ih
    have hWj := hW j hkj (by omega)
    obtain ⟨b1, b2, b3⟩ := hbd j hkj (by omega)
    have bkk := (hbd k (Nat.le_refl k) hkm)
    have fkk : F ((k : Int) * 13 + k) = M 40 ((k : Int) * 13 + k) := h2 _ (by omega)
    have fij : F ((i : Int) * 13 + j) = M 40 ((i : Int) * 13 + j) := h2 _ (by omega)
    have fkj : F ((k : Int) * 13 + j) = M 40 ((k : Int) * 13 + j) := h2 _ (by omega)
    have p1 := zB6_mul bkk.2.1 b1
    have p2 := zB6_mul bkk.1 b2
    have p3 := zB6_mul b3 (show zB6 b from ⟨by omega, hb.2⟩)
    have hb0 : ¬ b = 0 := by omega
    have hlc : zlcmp b 0 = 1 := by unfold zlcmp; rw [if_neg (by omega), if_neg hb0]
    have hdv : zldiv (W j * b) b = W j := zldiv_ex hb0 ⟨by omega, by omega⟩ ⟨by omega, by omega⟩ ⟨by have := b3.1; omega, by have := b3.2; omega⟩
    have hm1 : zlmul (M 40 ((k : Int) * 13 + k)) (M 40 ((i : Int) * 13 + j)) = M 40 ((k : Int) * 13 + k) * M 40 ((i : Int) * 13 + j) := zlmul_eq (by omega) (by omega)
    have hm2 : zlmul (M 40 ((i : Int) * 13 + k)) (M 40 ((k : Int) * 13 + j)) = M 40 ((i : Int) * 13 + k) * M 40 ((k : Int) * 13 + j) := zlmul_eq (by omega) (by omega)
    have hs : zlsub (M 40 ((k : Int) * 13 + k) * M 40 ((i : Int) * 13 + j)) (M 40 ((i : Int) * 13 + k) * M 40 ((k : Int) * 13 + j)) = W j * b := by rw [zlsub_eq (by omega) (by omega), hWj]
    rw [k_Lo_clearBelow_1]
    simp (disch := first | omega | exact Nat.le_of_ble_eq_true rfl | assumption | (simp only [Int.natCast_add, Int.natCast_mul, Int.cast_ofNat_Int]; omega) | decide) only [k_Lo_clearBelow_2, k_Lo_clearBelow_4, k_Lo_clearBelow_5, x_aload, w_goto, w_fall, w_if, w_icmp, x_iinc, x_iload, x_istore, w_lcmp, w_ldiv, x_lload, w_lmul, x_lstore2, List.length_cons, List.length_nil, List.set_cons_succ, List.set_cons_zero, Nat.reduceLT, Nat.zero_add, w_lsub, w_sipush, zadd_eq, w_vret r_Lo_clearBelow, q_eq, q_ne, q_lt, q_ge, q_gt, q_le, g_I, g_L, g_R, g_V, t_0, t_I, t_R, t_U, t_L, t_s, List.getElem?_cons_zero, List.getElem?_cons_succ, Nat.reduceAdd, zif10, zif01b, zib, if_pos, if_neg, ↓reduceIte, not_true_eq_false, not_false_eq_true, Bool.true_eq_false, Bool.false_eq_true, Classical.not_not, eq_self, and_self, and_true, true_and, Int.reduceEq, Int.reduceLE, Int.reduceLT, Int.reduceNeg, Option.toList, List.cons_append, List.nil_append, zup_s, zup_n, zst_s, zup_zs, zup_zn, decide_true, decide_false, c_Lo_cell, fkk, fij, fkj, hm1, hm2, hs, hlc, hdv, w_ldiv hb0, c_Lo_setCell]
    refine ih _ _ ⟨_, _, _, rfl, rfl, fun t a b => ?_, fun x hx => ?_⟩
    · by_cases e : t = j
      · subst e; rw [zf_s]
      · rw [zf_n (by omega)]; exact h1 t a (by omega)
    · rw [zf_n (by omega)]; exact h2 x (by omega)
  · rintro _ _ ⟨F, v9, v10, rfl, rfl, h1, h2⟩
    rw [k_Lo_clearBelow_1]
    simp (disch := first | omega | exact Nat.le_of_ble_eq_true rfl | assumption | (simp only [Int.natCast_add, Int.natCast_mul, Int.cast_ofNat_Int]; omega) | decide) only [k_Lo_clearBelow_6, x_aload, w_goto, w_fall, w_if, w_icmp, x_iinc, x_iload, x_istore, w_lcmp, w_ldiv, x_lload, w_lmul, x_lstore2, List.length_cons, List.length_nil, List.set_cons_succ, List.set_cons_zero, Nat.reduceLT, Nat.zero_add, w_lsub, w_sipush, zadd_eq, w_vret r_Lo_clearBelow, q_eq, q_ne, q_lt, q_ge, q_gt, q_le, g_I, g_L, g_R, g_V, t_0, t_I, t_R, t_U, t_L, t_s, List.getElem?_cons_zero, List.getElem?_cons_succ, Nat.reduceAdd, zif10, zif01b, zib, if_pos, if_neg, ↓reduceIte, not_true_eq_false, not_false_eq_true, Bool.true_eq_false, Bool.false_eq_true, Classical.not_not, eq_self, and_self, and_true, true_and, Int.reduceEq, Int.reduceLE, Int.reduceLT, Int.reduceNeg, Option.toList, List.cons_append, List.nil_append, zup_s, zup_n, zst_s, zup_zs, zup_zn, decide_true, decide_false]
    exact ⟨F, rfl, fun j a b => h1 j a (by omega), fun x hx => h2 x (by omega)⟩
theorem c_Lo_clearBelow {d mi o b9 : Nat} {es : List zEnt} {L st : List zMV} {Q : Option zMV → (Nat → Int → Int) → Prop} {i k m : Nat} {b : Int} {W : Nat → Int} (hi : i < 12) (hk : k < 12) (hik : i ≠ k) (hm : m ≤ 12) (hkm : k ≤ m) (hb : 0 < b ∧ b ≤ 1000000) (hW : ∀ j : Nat, k ≤ j → j ≤ m → M 40 ((k : Int) * 13 + k) * M 40 ((i : Int) * 13 + j) - M 40 ((i : Int) * 13 + k) * M 40 ((k : Int) * 13 + j) = W j * b) (hbd : ∀ j : Nat, k ≤ j → j ≤ m → zB6 (M 40 ((i : Int) * 13 + j)) ∧ zB6 (M 40 ((k : Int) * 13 + j)) ∧ zB6 (W j)) (hd : 1 + 1 ≤ d) (hc : zcats st ≤ 8) (hpost : ∀ r M', (r = none ∧ ∃ F, M' = zst M 40 F ∧ (∀ j : Nat, k ≤ j → j ≤ m → F ((i : Int) * 13 + j) = W j) ∧ ∀ x : Int, x < (i : Int) * 13 + k ∨ (i : Int) * 13 + m < x → F x = M 40 x) → zW (zSH Ln) d mi es L (r.toList ++ st) M' Q) : zW (zSH Ln) d mi ((.invokevirtual o, 52, b9) :: es) L (zL b :: zI (m : Int) :: zI (k : Int) :: zI (i : Int) :: zR 36 :: st) M Q :=
  w_callv (ps := [zI (i : Int), zI (k : Int), zI (m : Int), zL b]) (by omega) rfl rfl (by omega) (by exact sh_36 Ln) hc (Nat.le_of_ble_eq_true rfl) (F_Lo_clearBelow hi hk hik hm hkm hb hW hbd (by omega)) hpost
set_option maxHeartbeats 20000000 in
theorem F_Lo_solve {d : Nat} {m : Nat} {V : Nat → Nat → Nat → Int} {pv : Nat → Int} (hm : 1 ≤ m ∧ m ≤ 12) (h0 : ∀ i j : Nat, i < m → j ≤ m → M 40 ((i : Int) * 13 + j) = V 0 i j) (hp0 : pv 0 = 1) (hp : ∀ k : Nat, k + 1 < m → pv (k + 1) = V k k k) (hpb : ∀ k : Nat, k < m → 0 < pv k ∧ pv k ≤ 1000000) (hV : ∀ k i j : Nat, k < i → i < m → k ≤ j → j ≤ m → V k k k * V k i j - V k i k * V k k j = V (k + 1) i j * pv k) (hB : ∀ k i j : Nat, k ≤ i → i < m → j ≤ m → zB6 (V k i j)) (hd : 2 ≤ d) : zF (zSH Ln) d i_Lo_solve [zR 36, zI (m : Int)] M fun r M' => r = none ∧ ∃ F, M' = zst M 40 F ∧ ∀ j : Nat, m - 1 ≤ j → j ≤ m → F (((m - 1 : Nat) : Int) * 13 + j) = V (m - 1) (m - 1) j := by
  rw [zF_en k_Lo_solve_0 (L := [zR 36, zI (m : Int), zU, zU, zU, zU]) rfl]
  simp (disch := first | omega | exact Nat.le_of_ble_eq_true rfl | assumption | (simp only [Int.natCast_add, Int.natCast_mul, Int.cast_ofNat_Int]; omega) | decide) only [x_aload, w_goto, w_fall, w_iadd, w_iconst, w_icmp, x_iinc, x_iload, x_istore, x_lload, x_lstore2, List.length_cons, List.length_nil, List.set_cons_succ, List.set_cons_zero, Nat.reduceLT, Nat.zero_add, w_sipush, zadd_eq, w_vret r_Lo_solve, q_eq, q_ne, q_lt, q_ge, q_gt, q_le, g_I, g_L, g_R, g_V, t_0, t_I, t_R, t_U, t_L, t_s, List.getElem?_cons_zero, List.getElem?_cons_succ, Nat.reduceAdd, zif10, zif01b, zib, if_pos, if_neg, ↓reduceIte, not_true_eq_false, not_false_eq_true, Bool.true_eq_false, Bool.false_eq_true, Classical.not_not, eq_self, and_self, and_true, true_and, Int.reduceEq, Int.reduceLE, Int.reduceLT, Int.reduceNeg, Option.toList, List.cons_append, List.nil_append, zup_s, zup_n, zst_s, zup_zs, zup_zn, decide_true, decide_false]
  rw [← hp0]
  refine zfor (a := 0) (N := (m - 1)) (b := 1) (fun k L0 M0 => ∃ (F : Int → Int) (v5 : zMV), L0 = [zR 36, zI (m : Int), zL (pv k), zU, zI (k : Int), v5] ∧ M0 = zst M 40 F ∧ (∀ i j : Nat, k ≤ i → i < m → k ≤ j → j ≤ m → F ((i : Int) * 13 + j) = V k i j)) ?_ ?_ ?_ ?_
  · exact Nat.zero_le _
  · exact ⟨M 40, zU, rfl, (zst_id _ _).symm, fun i j _ a _ b => h0 i j a b⟩
  · rintro k _ _ _ hk ⟨F, v5, rfl, rfl, hF⟩ ih
    rw [k_Lo_solve_1]
    simp (disch := first | omega | exact Nat.le_of_ble_eq_true rfl | assumption | (simp only [Int.natCast_add, Int.natCast_mul, Int.cast_ofNat_Int]; omega) | decide) only [k_Lo_solve_2, x_aload, w_goto, w_fall, w_iadd, w_iconst, w_icmp, x_iinc, x_iload, x_istore, x_lload, x_lstore2, List.length_cons, List.length_nil, List.set_cons_succ, List.set_cons_zero, Nat.reduceLT, Nat.zero_add, w_sipush, zadd_eq, w_vret r_Lo_solve, q_eq, q_ne, q_lt, q_ge, q_gt, q_le, g_I, g_L, g_R, g_V, t_0, t_I, t_R, t_U, t_L, t_s, List.getElem?_cons_zero, List.getElem?_cons_succ, Nat.reduceAdd, zif10, zif01b, zib, if_pos, if_neg, ↓reduceIte, not_true_eq_false, not_false_eq_true, Bool.true_eq_false, Bool.false_eq_true, Classical.not_not, eq_self, and_self, and_true, true_and, Int.reduceEq, Int.reduceLE, Int.reduceLT, Int.reduceNeg, Option.toList, List.cons_append, List.nil_append, zup_s, zup_n, zst_s, zup_zs, zup_zn, decide_true, decide_false]
    refine zfor (a := (k+1)) (N := m) (b := 3) (fun i L0 M0 => ∃ (F2 : Int → Int), L0 = [zR 36, zI (m : Int), zL (pv k), zU, zI (k : Int), zI (i : Int)] ∧ M0 = zst M 40 F2 ∧ ((∀ j : Nat, k ≤ j → j ≤ m → F2 ((k : Int) * 13 + j) = V k k j) ∧ (∀ u j : Nat, i ≤ u → u < m → k ≤ j → j ≤ m → F2 ((u : Int) * 13 + j) = V k u j) ∧ ∀ u j : Nat, k < u → u < i → k ≤ j → j ≤ m → F2 ((u : Int) * 13 + j) = V (k + 1) u j)) ?_ ?_ ?_ ?_
    · omega
    · refine ⟨F, ?_, rfl, fun j a b => hF k j (Nat.le_refl k) (by omega) a b, fun u j a b e f => hF u j (by omega) b e f, fun u j a b => by omega⟩
      rw [show ((k + 1 : Nat) : Int) = (k : Int) + 1 by omega]
    · rintro i _ _ hki hi ⟨F2, rfl, rfl, g1, g2, g3⟩ ih2
      rw [k_Lo_solve_3]
      simp (disch := first | omega | exact Nat.le_of_ble_eq_true rfl | assumption | (simp only [Int.natCast_add, Int.natCast_mul, Int.cast_ofNat_Int]; omega) | decide) only [k_Lo_solve_4, x_aload, w_goto, w_fall, w_iadd, w_iconst, w_icmp, x_iinc, x_iload, x_istore, x_lload, x_lstore2, List.length_cons, List.length_nil, List.set_cons_succ, List.set_cons_zero, Nat.reduceLT, Nat.zero_add, w_sipush, zadd_eq, w_vret r_Lo_solve, q_eq, q_ne, q_lt, q_ge, q_gt, q_le, g_I, g_L, g_R, g_V, t_0, t_I, t_R, t_U, t_L, t_s, List.getElem?_cons_zero, List.getElem?_cons_succ, Nat.reduceAdd, zif10, zif01b, zib, if_pos, if_neg, ↓reduceIte, not_true_eq_false, not_false_eq_true, Bool.true_eq_false, Bool.false_eq_true, Classical.not_not, eq_self, and_self, and_true, true_and, Int.reduceEq, Int.reduceLE, Int.reduceLT, Int.reduceNeg, Option.toList, List.cons_append, List.nil_append, zup_s, zup_n, zst_s, zup_zs, zup_zn, decide_true, decide_false]
      refine c_Lo_clearBelow (i := i) (k := k) (m := m) (b := pv k) (W := fun j => V (k + 1) i j) (by omega) (by omega) (by omega) hm.2 (by omega) (hpb k (by omega)) (fun j a b => ?_) (fun j a b => ⟨?_, ?_, hB (k + 1) i j (by omega) hi b⟩) (by omega) (Nat.le_of_ble_eq_true rfl) ?_
      · rw [zst_s, g1 k (Nat.le_refl k) (by omega), g2 i j (Nat.le_refl i) hi a b, g2 i k (Nat.le_refl i) hi (Nat.le_refl k) (by omega), g1 j a b]
        exact hV k i j (by omega) hi a b
      · rw [zst_s, g2 i j (Nat.le_refl i) hi a b]; exact hB k i j (by omega) hi b
      · rw [zst_s, g1 j a b]; exact hB k k j (Nat.le_refl k) (by omega) b
      rintro _ _ ⟨rfl, F3, rfl, g4, g5⟩
      rw [zst_s] at g5
      rw [zst_zst]
      simp (disch := first | omega | exact Nat.le_of_ble_eq_true rfl | assumption | (simp only [Int.natCast_add, Int.natCast_mul, Int.cast_ofNat_Int]; omega) | decide) only [x_aload, w_goto, w_fall, w_iadd, w_iconst, w_icmp, x_iinc, x_iload, x_istore, x_lload, x_lstore2, List.length_cons, List.length_nil, List.set_cons_succ, List.set_cons_zero, Nat.reduceLT, Nat.zero_add, w_sipush, zadd_eq, w_vret r_Lo_solve, q_eq, q_ne, q_lt, q_ge, q_gt, q_le, g_I, g_L, g_R, g_V, t_0, t_I, t_R, t_U, t_L, t_s, List.getElem?_cons_zero, List.getElem?_cons_succ, Nat.reduceAdd, zif10, zif01b, zib, if_pos, if_neg, ↓reduceIte, not_true_eq_false, not_false_eq_true, Bool.true_eq_false, Bool.false_eq_true, Classical.not_not, eq_self, and_self, and_true, true_and, Int.reduceEq, Int.reduceLE, Int.reduceLT, Int.reduceNeg, Option.toList, List.cons_append, List.nil_append, zup_s, zup_n, zst_s, zup_zs, zup_zn, decide_true, decide_false]
      refine ih2 _ _ ⟨F3, rfl, rfl, fun j a b => ?_, fun u j a b e f => ?_, fun u j a b e f => ?_⟩
      · rw [g5 _ (by omega)]; exact g1 j a b
      · rw [g5 _ (by omega)]; exact g2 u j (by omega) b e f
      · by_cases e2 : u = i
        · subst e2; exact g4 j e f
        · rw [g5 _ (by omega)]; exact g3 u j a (by omega) e f
    · rintro _ _ ⟨F2, rfl, rfl, g1, g2, g3⟩
      have e : F2 ((k : Int) * 13 + k) = pv (k + 1) := by rw [g1 k (Nat.le_refl k) (by omega), hp k (by omega)]
      rw [k_Lo_solve_3]
      simp (disch := first | omega | exact Nat.le_of_ble_eq_true rfl | assumption | (simp only [Int.natCast_add, Int.natCast_mul, Int.cast_ofNat_Int]; omega) | decide) only [k_Lo_solve_5, x_aload, w_goto, w_fall, w_iadd, w_iconst, w_icmp, x_iinc, x_iload, x_istore, x_lload, x_lstore2, List.length_cons, List.length_nil, List.set_cons_succ, List.set_cons_zero, Nat.reduceLT, Nat.zero_add, w_sipush, zadd_eq, w_vret r_Lo_solve, q_eq, q_ne, q_lt, q_ge, q_gt, q_le, g_I, g_L, g_R, g_V, t_0, t_I, t_R, t_U, t_L, t_s, List.getElem?_cons_zero, List.getElem?_cons_succ, Nat.reduceAdd, zif10, zif01b, zib, if_pos, if_neg, ↓reduceIte, not_true_eq_false, not_false_eq_true, Bool.true_eq_false, Bool.false_eq_true, Classical.not_not, eq_self, and_self, and_true, true_and, Int.reduceEq, Int.reduceLE, Int.reduceLT, Int.reduceNeg, Option.toList, List.cons_append, List.nil_append, zup_s, zup_n, zst_s, zup_zs, zup_zn, decide_true, decide_false, c_Lo_cell, e]
      exact ih _ _ ⟨F2, _, rfl, rfl, fun i j a b e f => g3 i j (by omega) b (by omega) f⟩
  · rintro _ _ ⟨F, v5, rfl, rfl, hF⟩
    rw [k_Lo_solve_1]
    simp (disch := first | omega | exact Nat.le_of_ble_eq_true rfl | assumption | (simp only [Int.natCast_add, Int.natCast_mul, Int.cast_ofNat_Int]; omega) | decide) only [k_Lo_solve_6, x_aload, w_goto, w_fall, w_iadd, w_iconst, w_icmp, x_iinc, x_iload, x_istore, x_lload, x_lstore2, List.length_cons, List.length_nil, List.set_cons_succ, List.set_cons_zero, Nat.reduceLT, Nat.zero_add, w_sipush, zadd_eq, w_vret r_Lo_solve, q_eq, q_ne, q_lt, q_ge, q_gt, q_le, g_I, g_L, g_R, g_V, t_0, t_I, t_R, t_U, t_L, t_s, List.getElem?_cons_zero, List.getElem?_cons_succ, Nat.reduceAdd, zif10, zif01b, zib, if_pos, if_neg, ↓reduceIte, not_true_eq_false, not_false_eq_true, Bool.true_eq_false, Bool.false_eq_true, Classical.not_not, eq_self, and_self, and_true, true_and, Int.reduceEq, Int.reduceLE, Int.reduceLT, Int.reduceNeg, Option.toList, List.cons_append, List.nil_append, zup_s, zup_n, zst_s, zup_zs, zup_zn, decide_true, decide_false]
    exact ⟨F, rfl, fun j a b => hF (m - 1) j (Nat.le_refl _) (by omega) a b⟩
theorem c_Lo_solve {d mi o b9 : Nat} {es : List zEnt} {L st : List zMV} {Q : Option zMV → (Nat → Int → Int) → Prop} {m : Nat} {V : Nat → Nat → Nat → Int} {pv : Nat → Int} (hm : 1 ≤ m ∧ m ≤ 12) (h0 : ∀ i j : Nat, i < m → j ≤ m → M 40 ((i : Int) * 13 + j) = V 0 i j) (hp0 : pv 0 = 1) (hp : ∀ k : Nat, k + 1 < m → pv (k + 1) = V k k k) (hpb : ∀ k : Nat, k < m → 0 < pv k ∧ pv k ≤ 1000000) (hV : ∀ k i j : Nat, k < i → i < m → k ≤ j → j ≤ m → V k k k * V k i j - V k i k * V k k j = V (k + 1) i j * pv k) (hB : ∀ k i j : Nat, k ≤ i → i < m → j ≤ m → zB6 (V k i j)) (hd : 2 + 1 ≤ d) (hc : zcats st ≤ 8) (hpost : ∀ r M', (r = none ∧ ∃ F, M' = zst M 40 F ∧ ∀ j : Nat, m - 1 ≤ j → j ≤ m → F (((m - 1 : Nat) : Int) * 13 + j) = V (m - 1) (m - 1) j) → zW (zSH Ln) d mi es L (r.toList ++ st) M' Q) : zW (zSH Ln) d mi ((.invokevirtual o, 51, b9) :: es) L (zI (m : Int) :: zR 36 :: st) M Q :=
  w_callv (ps := [zI (m : Int)]) (by omega) rfl rfl (by omega) (by exact sh_36 Ln) hc (Nat.le_of_ble_eq_true rfl) (F_Lo_solve hm h0 hp0 hp hpb hV hB (by omega)) hpost
set_option maxHeartbeats 20000000 in
theorem F_Lo_shorten {d : Nat} {a b : Nat} (h2 : M 36 2 = (a : Int)) (h3 : M 36 3 = (b : Int)) (hb : 0 < b) (ha6 : a ≤ 1000000) (hb6 : b ≤ 1000000) (hd : 0 ≤ d) : zF (zSH Ln) d i_Lo_shorten [zR 36] M fun r M' => r = none ∧ M' = zup (zup M 36 2 ((a / Nat.gcd a b : Nat) : Int)) 36 3 ((b / Nat.gcd a b : Nat) : Int) := by
  rw [zF_en k_Lo_shorten_0 (L := [zR 36, zU, zU, zU, zU, zU, zU, zU]) rfl]
  have hg : 0 < Nat.gcd a b := Nat.gcd_pos_of_pos_right a hb
  have hgb : Nat.gcd a b ≤ b := Nat.gcd_le_right a hb
  have fin : ∀ (v3 : Int) (v4 v5 v6 v7 : zMV), zW (zSH Ln) d i_Lo_shorten (zblk i_Lo_shorten 4) [zR 36, zL ((Nat.gcd a b : Nat) : Int), zU, zL v3, zU, v5, v6, v7] [] M fun r M' => r = none ∧ M' = zup (zup M 36 2 ((a / Nat.gcd a b : Nat) : Int)) 36 3 ((b / Nat.gcd a b : Nat) : Int) := by
    intro v3 v4 v5 v6 v7
    generalize hgg : Nat.gcd a b = g at *
    have hg0 : ¬ (g : Int) = 0 := by omega
    have hlc : zlcmp (g : Int) 0 = 1 := by unfold zlcmp; rw [if_neg (by omega), if_neg hg0]
    have d1 := zldiv_nat (a := a) (d := g) (by omega) (by omega)
    have d2 := zldiv_nat (a := b) (d := g) (by omega) (by omega)
    have e3 : ∀ v, zup M 36 2 v 36 3 = (b : Int) := fun v => by rw [zup_d (by omega)]; exact h3
    rw [k_Lo_shorten_4]
    simp (disch := first | omega | exact Nat.le_of_ble_eq_true rfl | assumption | (simp only [Int.natCast_add, Int.natCast_mul, Int.cast_ofNat_Int]; omega) | decide) only [k_Lo_shorten_5, k_Lo_shorten_6, x_aload, w_dupI, w_dupR, x_getf, w_goto, w_fall, w_iconst, w_if, w_icmp, x_iinc, x_iload, x_istore, w_lcmp, w_ldiv, x_lload, w_lrem, x_lstore2, List.length_cons, List.length_nil, List.set_cons_succ, List.set_cons_zero, Nat.reduceLT, Nat.zero_add, w_sipush, zadd_eq, gf_36_2, gf_36_3, xp_36_2, xp_36_3, w_vret r_Lo_shorten, q_eq, q_ne, q_lt, q_ge, q_gt, q_le, g_I, g_L, g_R, g_V, t_0, t_I, t_R, t_U, t_L, t_s, List.getElem?_cons_zero, List.getElem?_cons_succ, Nat.reduceAdd, zif10, zif01b, zib, if_pos, if_neg, ↓reduceIte, not_true_eq_false, not_false_eq_true, Bool.true_eq_false, Bool.false_eq_true, Classical.not_not, eq_self, and_self, and_true, true_and, Int.reduceEq, Int.reduceLE, Int.reduceLT, Int.reduceNeg, Option.toList, List.cons_append, List.nil_append, zup_s, zup_n, zst_s, zup_zs, zup_zn, decide_true, decide_false, hlc, h2, d1, w_ldiv hg0, e3, d2]
  have loop : ∀ (k t big small : Nat) (v6 v7 : zMV), small < 2 ^ k → t + 2 * k ≤ 1000 → big ≤ 1000000 → small ≤ 1000000 → Nat.gcd small big = Nat.gcd a b → zW (zSH Ln) d i_Lo_shorten (zblk i_Lo_shorten 1) [zR 36, zL (big : Int), zU, zL (small : Int), zU, zI (t : Int), v6, v7] [] M fun r M' => r = none ∧ M' = zup (zup M 36 2 ((a / Nat.gcd a b : Nat) : Int)) 36 3 ((b / Nat.gcd a b : Nat) : Int) := by
    have end0 : ∀ (t big : Nat) (v6 v7 : zMV), t ≤ 1000 → Nat.gcd 0 big = Nat.gcd a b → zW (zSH Ln) d i_Lo_shorten (zblk i_Lo_shorten 1) [zR 36, zL (big : Int), zU, zL 0, zU, zI (t : Int), v6, v7] [] M fun r M' => r = none ∧ M' = zup (zup M 36 2 ((a / Nat.gcd a b : Nat) : Int)) 36 3 ((b / Nat.gcd a b : Nat) : Int) := by
      intro t big v6 v7 ht h
      rw [Nat.gcd_zero_left] at h
      subst h
      rw [k_Lo_shorten_1]
      by_cases c : t < 1000
      · have c' : ¬ (1000 : Int) ≤ (t : Int) := by omega
        simp (disch := first | omega | exact Nat.le_of_ble_eq_true rfl | assumption | (simp only [Int.natCast_add, Int.natCast_mul, Int.cast_ofNat_Int]; omega) | decide) only [k_Lo_shorten_2, x_aload, w_dupI, w_dupR, x_getf, w_goto, w_fall, w_iconst, w_if, w_icmp, x_iinc, x_iload, x_istore, w_lcmp, w_ldiv, x_lload, w_lrem, x_lstore2, List.length_cons, List.length_nil, List.set_cons_succ, List.set_cons_zero, Nat.reduceLT, Nat.zero_add, w_sipush, zadd_eq, gf_36_2, gf_36_3, xp_36_2, xp_36_3, w_vret r_Lo_shorten, q_eq, q_ne, q_lt, q_ge, q_gt, q_le, g_I, g_L, g_R, g_V, t_0, t_I, t_R, t_U, t_L, t_s, List.getElem?_cons_zero, List.getElem?_cons_succ, Nat.reduceAdd, zif10, zif01b, zib, if_pos, if_neg, ↓reduceIte, not_true_eq_false, not_false_eq_true, Bool.true_eq_false, Bool.false_eq_true, Classical.not_not, eq_self, and_self, and_true, true_and, Int.reduceEq, Int.reduceLE, Int.reduceLT, Int.reduceNeg, Option.toList, List.cons_append, List.nil_append, zup_s, zup_n, zst_s, zup_zs, zup_zn, decide_true, decide_false, c', show zlcmp 0 0 = 0 from rfl]
        exact fin _ zU _ _ _
      · have c' : (1000 : Int) ≤ (t : Int) := by omega
        simp (disch := first | omega | exact Nat.le_of_ble_eq_true rfl | assumption | (simp only [Int.natCast_add, Int.natCast_mul, Int.cast_ofNat_Int]; omega) | decide) only [x_aload, w_dupI, w_dupR, x_getf, w_goto, w_fall, w_iconst, w_if, w_icmp, x_iinc, x_iload, x_istore, w_lcmp, w_ldiv, x_lload, w_lrem, x_lstore2, List.length_cons, List.length_nil, List.set_cons_succ, List.set_cons_zero, Nat.reduceLT, Nat.zero_add, w_sipush, zadd_eq, gf_36_2, gf_36_3, xp_36_2, xp_36_3, w_vret r_Lo_shorten, q_eq, q_ne, q_lt, q_ge, q_gt, q_le, g_I, g_L, g_R, g_V, t_0, t_I, t_R, t_U, t_L, t_s, List.getElem?_cons_zero, List.getElem?_cons_succ, Nat.reduceAdd, zif10, zif01b, zib, if_pos, if_neg, ↓reduceIte, not_true_eq_false, not_false_eq_true, Bool.true_eq_false, Bool.false_eq_true, Classical.not_not, eq_self, and_self, and_true, true_and, Int.reduceEq, Int.reduceLE, Int.reduceLT, Int.reduceNeg, Option.toList, List.cons_append, List.nil_append, zup_s, zup_n, zst_s, zup_zs, zup_zn, decide_true, decide_false, c']
        exact fin _ zU _ _ _
    intro k
    induction k with
    | zero =>
      intro t big small v6 v7 h1 h2 h3 h4 h5
      obtain rfl : small = 0 := by omega
      exact end0 t big v6 v7 (by omega) h5
    | succ k ih =>
      intro t big small v6 v7 h1 h2 h3 h4 h5
      by_cases hs : small = 0
      · subst hs; exact end0 t big v6 v7 (by omega) h5
      have hs0 : ¬ (small : Int) = 0 := by omega
      have hlc : zlcmp (small : Int) 0 = 1 := by unfold zlcmp; rw [if_neg (by omega), if_neg hs0]
      have r1 := zlrem_nat (a := big) (d := small) (by omega) (by omega)
      have hlt := Nat.mod_lt big (show small > 0 by omega)
      have hg1 : Nat.gcd (big % small) small = Nat.gcd a b := by rw [← Nat.gcd_rec, h5]
      have ht : ¬ (1000 : Int) ≤ (t : Int) := by omega
      rw [k_Lo_shorten_1]
      simp (disch := first | omega | exact Nat.le_of_ble_eq_true rfl | assumption | (simp only [Int.natCast_add, Int.natCast_mul, Int.cast_ofNat_Int]; omega) | decide) only [k_Lo_shorten_2, k_Lo_shorten_3, x_aload, w_dupI, w_dupR, x_getf, w_goto, w_fall, w_iconst, w_if, w_icmp, x_iinc, x_iload, x_istore, w_lcmp, w_ldiv, x_lload, w_lrem, x_lstore2, List.length_cons, List.length_nil, List.set_cons_succ, List.set_cons_zero, Nat.reduceLT, Nat.zero_add, w_sipush, zadd_eq, gf_36_2, gf_36_3, xp_36_2, xp_36_3, w_vret r_Lo_shorten, q_eq, q_ne, q_lt, q_ge, q_gt, q_le, g_I, g_L, g_R, g_V, t_0, t_I, t_R, t_U, t_L, t_s, List.getElem?_cons_zero, List.getElem?_cons_succ, Nat.reduceAdd, zif10, zif01b, zib, if_pos, if_neg, ↓reduceIte, not_true_eq_false, not_false_eq_true, Bool.true_eq_false, Bool.false_eq_true, Classical.not_not, eq_self, and_self, and_true, true_and, Int.reduceEq, Int.reduceLE, Int.reduceLT, Int.reduceNeg, Option.toList, List.cons_append, List.nil_append, zup_s, zup_n, zst_s, zup_zs, zup_zn, decide_true, decide_false, ht, hlc, w_lrem hs0, r1]
      rw [show (t : Int) + 1 = ((t + 1 : Nat) : Int) by omega]
      generalize big % small = r at *
      by_cases hr : r = 0
      · subst hr; exact end0 (t + 1) small _ _ (by omega) hg1
      have hr0 : ¬ (r : Int) = 0 := by omega
      have hlc2 : zlcmp (r : Int) 0 = 1 := by unfold zlcmp; rw [if_neg (by omega), if_neg hr0]
      have r2 := zlrem_nat (a := small) (d := r) (by omega) (by omega)
      have hlt2 := Nat.mod_lt small (show r > 0 by omega)
      have hg2 : Nat.gcd (small % r) r = Nat.gcd a b := by rw [← Nat.gcd_rec, hg1]
      have hhalf : small % r + r ≤ small := by
        have := Nat.mod_add_div small r
        have h6 : 1 ≤ small / r := Nat.div_pos (by omega) (by omega)
        have h7 := Nat.mul_le_mul_left r h6
        omega
      have ht2 : ¬ (1000 : Int) ≤ ((t + 1 : Nat) : Int) := by omega
      rw [k_Lo_shorten_1]
      simp (disch := first | omega | exact Nat.le_of_ble_eq_true rfl | assumption | (simp only [Int.natCast_add, Int.natCast_mul, Int.cast_ofNat_Int]; omega) | decide) only [k_Lo_shorten_2, k_Lo_shorten_3, x_aload, w_dupI, w_dupR, x_getf, w_goto, w_fall, w_iconst, w_if, w_icmp, x_iinc, x_iload, x_istore, w_lcmp, w_ldiv, x_lload, w_lrem, x_lstore2, List.length_cons, List.length_nil, List.set_cons_succ, List.set_cons_zero, Nat.reduceLT, Nat.zero_add, w_sipush, zadd_eq, gf_36_2, gf_36_3, xp_36_2, xp_36_3, w_vret r_Lo_shorten, q_eq, q_ne, q_lt, q_ge, q_gt, q_le, g_I, g_L, g_R, g_V, t_0, t_I, t_R, t_U, t_L, t_s, List.getElem?_cons_zero, List.getElem?_cons_succ, Nat.reduceAdd, zif10, zif01b, zib, if_pos, if_neg, ↓reduceIte, not_true_eq_false, not_false_eq_true, Bool.true_eq_false, Bool.false_eq_true, Classical.not_not, eq_self, and_self, and_true, true_and, Int.reduceEq, Int.reduceLE, Int.reduceLT, Int.reduceNeg, Option.toList, List.cons_append, List.nil_append, zup_s, zup_n, zst_s, zup_zs, zup_zn, decide_true, decide_false, ht2, hlc2, w_lrem hr0, r2]
      rw [show ((t + 1 : Nat) : Int) + 1 = ((t + 2 : Nat) : Int) by omega]
      exact ih (t + 2) r (small % r) _ _ (by rw [Nat.pow_succ] at h1; omega) (by omega) (by omega) (by omega) hg2
  simp (disch := first | omega | exact Nat.le_of_ble_eq_true rfl | assumption | (simp only [Int.natCast_add, Int.natCast_mul, Int.cast_ofNat_Int]; omega) | decide) only [x_aload, w_dupI, w_dupR, x_getf, w_goto, w_fall, w_iconst, w_if, w_icmp, x_iinc, x_iload, x_istore, w_lcmp, w_ldiv, x_lload, w_lrem, x_lstore2, List.length_cons, List.length_nil, List.set_cons_succ, List.set_cons_zero, Nat.reduceLT, Nat.zero_add, w_sipush, zadd_eq, gf_36_2, gf_36_3, xp_36_2, xp_36_3, w_vret r_Lo_shorten, q_eq, q_ne, q_lt, q_ge, q_gt, q_le, g_I, g_L, g_R, g_V, t_0, t_I, t_R, t_U, t_L, t_s, List.getElem?_cons_zero, List.getElem?_cons_succ, Nat.reduceAdd, zif10, zif01b, zib, if_pos, if_neg, ↓reduceIte, not_true_eq_false, not_false_eq_true, Bool.true_eq_false, Bool.false_eq_true, Classical.not_not, eq_self, and_self, and_true, true_and, Int.reduceEq, Int.reduceLE, Int.reduceLT, Int.reduceNeg, Option.toList, List.cons_append, List.nil_append, zup_s, zup_n, zst_s, zup_zs, zup_zn, decide_true, decide_false, h2, h3]
  exact loop 20 0 b a zU zU (by omega) (by omega) hb6 ha6 rfl
theorem c_Lo_shorten {d mi o b9 : Nat} {es : List zEnt} {L st : List zMV} {Q : Option zMV → (Nat → Int → Int) → Prop} {a b : Nat} (h2 : M 36 2 = (a : Int)) (h3 : M 36 3 = (b : Int)) (hb : 0 < b) (ha6 : a ≤ 1000000) (hb6 : b ≤ 1000000) (hd : 0 + 1 ≤ d) (hc : zcats st ≤ 8) : zW (zSH Ln) d mi ((.invokevirtual o, 55, b9) :: es) L (zR 36 :: st) M Q = zW (zSH Ln) d mi es L (st) (zup (zup M 36 2 ((a / Nat.gcd a b : Nat) : Int)) 36 3 ((b / Nat.gcd a b : Nat) : Int)) Q :=
  c_virt (ps := []) (by omega) rfl rfl (by omega) (by exact sh_36 Ln) hc (Nat.le_of_ble_eq_true rfl) (F_Lo_shorten h2 h3 hb ha6 hb6 (by omega))
end LO
