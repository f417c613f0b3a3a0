/-! the net: joint moves that lead into a set -/
/-- a group's joint move a leads into X whatever the others do -/
def zinto (m : Nat → Nat) (t : Nat → Nat) (g : Nat → Bool) (P : Nat) (X : Nat → Bool) (a : Nat) : Bool := zfa (zcnt m (znot g) P) fun b => X (t (zcomb m g P a b))
/-- the least such joint move, or how many there are -/
def zleast (m : Nat → Nat) (t : Nat → Nat) (g : Nat → Bool) (P : Nat) (X : Nat → Bool) : Nat := zfst (zcnt m g P) (zinto m t g P X)
theorem zoth {P : Nat} (hP : P ≤ 4) (g : Int) (m : Nat → Nat) : zcnt m (zbit (zand (zset P fun _ => true) (zxor g (-1)))) P = zcnt m (znot (zbit g)) P := by
  apply zcnt_congr
  intro i hi
  rw [zbit_and, zset_bit (by omega), zbit_not _ (by omega)]
  simp [hi, znot]
section NC
variable {Ln S P : Nat} {mv tg : Nat → Nat → Nat} {M : Nat → Int → Int}
theorem F_Ne_together {d : Nat} (hN : zNet S P mv tg) (hC : zNetC S P mv tg M) {s a b : Nat} {g : Int} (hs : s < 12) (ha : a < 2147483648) (hb : b < 2147483648) (hd : 2 ≤ d) : zF (zSH Ln) d i_Ne_together [zR 3, zI (s : Int), zI g, zI (a : Int), zI (b : Int)] M fun r M' => r = some (zI (zcomb (mv s) (zbit g) P a b : Int)) ∧ M' = M := by
  rw [zF_en k_Ne_together_0 (L := [zR 3, zI (s : Int), zI g, zI (a : Int), zI (b : Int), zU, zU, zU, zU, zU, zU]) rfl]
  have hP4 := hN.2.2.2.1
  have hm := hN.2.2.2.2.1 s
  have hlt := zcomb_lt hm (zbit g) P a b
  have h81 := zcnt_81 hm zall1 hP4
  have loop : ∀ (q a' b' num sc : Nat) (v : zMV), q ≤ P → a' < 2147483648 → b' < 2147483648 → zcomb (mv s) (zbit g) P a b = zcomb (mv s) (zbit g) q a' b' * sc + num → sc * zcnt (mv s) zall1 q = zcnt (mv s) zall1 P → num < sc → zW (zSH Ln) d i_Ne_together (zblk 44 1) [zR 3, zI s, zI g, zI a, zI b, zI (a' : Int), zI (b' : Int), zI (num : Int), zI (sc : Int), zI ((q : Int) - 1), v] [] M fun r M' => r = some (zI (zcomb (mv s) (zbit g) P a b : Int)) ∧ M' = M := by
    intro q
    induction q with
    | zero =>
      intro a' b' num sc v hq ha' hb' e1 e2 h3
      simp only [k_Ne_together_1, x_iload, x_lload, x_aload, x_istore, x_astore, x_lstore, x_iinc, x_getf, w_iconst, w_sipush, w_iadd, w_isub, w_imul, w_iand, w_ior, w_ixor, w_ishl, w_ishr, w_iushr, w_ladd, w_lsub, w_lmul, w_land, w_lor, w_lcmp, w_lshl, w_lshr, w_i2l, w_i2b, w_l2i, w_dupI, w_dupR, w_dup2, w_pop, w_if, w_icmp, w_goto, w_fall, q_eq, q_ne, q_lt, q_ge, q_gt, q_le, g_I, g_L, g_R, g_V, t_0, t_I, t_R, t_U, t_L, t_s, List.getElem?_cons_zero, List.getElem?_cons_succ, Nat.reduceAdd]
      rw [if_pos (by omega)]
      simp only [k_Ne_together_6, x_iload, x_lload, x_aload, x_istore, x_astore, x_lstore, x_iinc, x_getf, w_iconst, w_sipush, w_iadd, w_isub, w_imul, w_iand, w_ior, w_ixor, w_ishl, w_ishr, w_iushr, w_ladd, w_lsub, w_lmul, w_land, w_lor, w_lcmp, w_lshl, w_lshr, w_i2l, w_i2b, w_l2i, w_dupI, w_dupR, w_dup2, w_pop, w_if, w_icmp, w_goto, w_fall, q_eq, q_ne, q_lt, q_ge, q_gt, q_le, g_I, g_L, g_R, g_V, t_0, t_I, t_R, t_U, t_L, t_s, List.getElem?_cons_zero, List.getElem?_cons_succ, Nat.reduceAdd, w_iret (y_int _ _ r_Ne_together), and_true]
      rw [e1]
      simp [zcomb]
    | succ q ih =>
      intro a' b' num sc v hq ha' hb' e1 e2 h3
      have hmp := hm q
      have hsc : 0 < sc := by omega
      have h1 := zcnt_pos hm zall1 q
      have e3 : zcnt (mv s) zall1 (q + 1) = zcnt (mv s) zall1 q * mv s q := by simp [zcnt, zall1]
      rw [e3] at e2
      have e4 : sc * mv s q * zcnt (mv s) zall1 q = zcnt (mv s) zall1 P := by rw [← e2, Nat.mul_assoc, Nat.mul_comm (mv s q)]
      have hscm : sc * mv s q ≤ 81 := Nat.le_trans (Nat.le_mul_of_pos_right _ h1) (by rw [e4]; exact h81)
      have hsc2 : sc ≤ sc * mv s q := Nat.le_mul_of_pos_right _ hmp.1
      have hdig : ∀ r : Nat, r < mv s q → r * sc < sc * mv s q ∧ num + r * sc < sc * mv s q := by
        intro r hr
        have h5 : (r + 1) * sc ≤ mv s q * sc := Nat.mul_le_mul_right _ hr
        rw [Nat.add_mul, Nat.one_mul, Nat.mul_comm (mv s q)] at h5
        omega
      simp only [k_Ne_together_1, x_iload, x_lload, x_aload, x_istore, x_astore, x_lstore, x_iinc, x_getf, w_iconst, w_sipush, w_iadd, w_isub, w_imul, w_iand, w_ior, w_ixor, w_ishl, w_ishr, w_iushr, w_ladd, w_lsub, w_lmul, w_land, w_lor, w_lcmp, w_lshl, w_lshr, w_i2l, w_i2b, w_l2i, w_dupI, w_dupR, w_dup2, w_pop, w_if, w_icmp, w_goto, w_fall, q_eq, q_ne, q_lt, q_ge, q_gt, q_le, g_I, g_L, g_R, g_V, t_0, t_I, t_R, t_U, t_L, t_s, List.getElem?_cons_zero, List.getElem?_cons_succ, Nat.reduceAdd]
      rw [if_neg (by omega), show ((q + 1 : Nat) : Int) - 1 = (q : Int) by omega]
      simp (disch := first | omega | exact Nat.le_of_ble_eq_true rfl | assumption) only [k_Ne_together_2, x_iload, x_lload, x_aload, x_istore, x_astore, x_lstore, x_iinc, x_getf, w_iconst, w_sipush, w_iadd, w_isub, w_imul, w_iand, w_ior, w_ixor, w_ishl, w_ishr, w_iushr, w_ladd, w_lsub, w_lmul, w_land, w_lor, w_lcmp, w_lshl, w_lshr, w_i2l, w_i2b, w_l2i, w_dupI, w_dupR, w_dup2, w_pop, w_if, w_icmp, w_goto, w_fall, q_eq, q_ne, q_lt, q_ge, q_gt, q_le, g_I, g_L, g_R, g_V, t_0, t_I, t_R, t_U, t_L, t_s, List.getElem?_cons_zero, List.getElem?_cons_succ, Nat.reduceAdd, c_Ne_movesOf hC, c_has, zif10]
      by_cases hg : zbit g q = true
      · rw [if_neg (by rw [hg]; decide)]
        have h6 := hdig (a' % mv s q) (Nat.mod_lt _ (by omega))
        simp (disch := first | omega | exact Nat.le_of_ble_eq_true rfl | assumption) only [k_Ne_together_3, k_Ne_together_5, x_iload, x_lload, x_aload, x_istore, x_astore, x_lstore, x_iinc, x_getf, w_iconst, w_sipush, w_iadd, w_isub, w_imul, w_iand, w_ior, w_ixor, w_ishl, w_ishr, w_iushr, w_ladd, w_lsub, w_lmul, w_land, w_lor, w_lcmp, w_lshl, w_lshr, w_i2l, w_i2b, w_l2i, w_dupI, w_dupR, w_dup2, w_pop, w_if, w_icmp, w_goto, w_fall, q_eq, q_ne, q_lt, q_ge, q_gt, q_le, g_I, g_L, g_R, g_V, t_0, t_I, t_R, t_U, t_L, t_s, List.getElem?_cons_zero, List.getElem?_cons_succ, Nat.reduceAdd, c_rest, c_over, zmul_nat (show a' % mv s q * sc < 2147483648 by omega), zmul_nat (show sc * mv s q < 2147483648 by omega), zadd_eq]
        have := ih (a' / mv s q) b' (num + a' % mv s q * sc) (sc * mv s q) (zI (mv s q : Int)) (by omega) (Nat.lt_of_le_of_lt (Nat.div_le_self _ _) ha') hb' (by rw [e1]; simp only [zcomb, if_pos hg]; rw [Nat.add_mul, Nat.mul_assoc, Nat.mul_comm (mv s q) sc]; omega) e4 h6.2
        exact this
      · rw [if_pos (by simpa using hg)]
        have h6 := hdig (b' % mv s q) (Nat.mod_lt _ (by omega))
        simp (disch := first | omega | exact Nat.le_of_ble_eq_true rfl | assumption) only [k_Ne_together_4, k_Ne_together_5, x_iload, x_lload, x_aload, x_istore, x_astore, x_lstore, x_iinc, x_getf, w_iconst, w_sipush, w_iadd, w_isub, w_imul, w_iand, w_ior, w_ixor, w_ishl, w_ishr, w_iushr, w_ladd, w_lsub, w_lmul, w_land, w_lor, w_lcmp, w_lshl, w_lshr, w_i2l, w_i2b, w_l2i, w_dupI, w_dupR, w_dup2, w_pop, w_if, w_icmp, w_goto, w_fall, q_eq, q_ne, q_lt, q_ge, q_gt, q_le, g_I, g_L, g_R, g_V, t_0, t_I, t_R, t_U, t_L, t_s, List.getElem?_cons_zero, List.getElem?_cons_succ, Nat.reduceAdd, c_rest, c_over, zmul_nat (show b' % mv s q * sc < 2147483648 by omega), zmul_nat (show sc * mv s q < 2147483648 by omega), zadd_eq]
        have := ih a' (b' / mv s q) (num + b' % mv s q * sc) (sc * mv s q) (zI (mv s q : Int)) (by omega) ha' (Nat.lt_of_le_of_lt (Nat.div_le_self _ _) hb') (by rw [e1]; simp only [zcomb, if_neg hg]; rw [Nat.add_mul, Nat.mul_assoc, Nat.mul_comm (mv s q) sc]; omega) e4 h6.2
        exact this
  simp (disch := first | omega | exact Nat.le_of_ble_eq_true rfl | assumption) only [x_iload, x_lload, x_aload, x_istore, x_astore, x_lstore, x_iinc, x_getf, w_iconst, w_sipush, w_iadd, w_isub, w_imul, w_iand, w_ior, w_ixor, w_ishl, w_ishr, w_iushr, w_ladd, w_lsub, w_lmul, w_land, w_lor, w_lcmp, w_lshl, w_lshr, w_i2l, w_i2b, w_l2i, w_dupI, w_dupR, w_dup2, w_pop, w_if, w_icmp, w_goto, w_fall, q_eq, q_ne, q_lt, q_ge, q_gt, q_le, g_I, g_L, g_R, g_V, t_0, t_I, t_R, t_U, t_L, t_s, List.getElem?_cons_zero, List.getElem?_cons_succ, Nat.reduceAdd, gf_3_1, hC.2.1, zsub_eq]
  exact loop P a b 0 1 zU (Nat.le_refl _) ha hb (by omega) (by omega) (by omega)
theorem c_Ne_together {d mi o b9 : Nat} {es : List zEnt} {L st : List zMV} {Q : Option zMV → (Nat → Int → Int) → Prop} (hN : zNet S P mv tg) (hC : zNetC S P mv tg M) {s a b : Nat} {g : Int} (hs : s < 12) (ha : a < 2147483648) (hb : b < 2147483648) (hd : 2 + 1 ≤ d) (hc : zcats st ≤ 8) : zW (zSH Ln) d mi ((.invokevirtual o, 44, b9) :: es) L (zI (b : Int) :: zI (a : Int) :: zI g :: zI (s : Int) :: zR 3 :: st) M Q = zW (zSH Ln) d mi es L (zI (zcomb (mv s) (zbit g) P a b : Int) :: st) (M) Q :=
  c_virt (ps := [zI (s : Int), zI g, zI (a : Int), zI (b : Int)]) (by omega) rfl rfl (by omega) (by exact sh_3 Ln) hc (Nat.le_of_ble_eq_true rfl) (F_Ne_together hN hC hs ha hb (by omega))
end NC
