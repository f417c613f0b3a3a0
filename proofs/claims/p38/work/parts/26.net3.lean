/-! the net: letters, heaps, prices, what is chosen -/
def zLetC (lt : Nat → Nat) (M : Nat → Int → Int) : Prop := ∀ s : Nat, s < 12 → M 8 (s : Int) = lt s
def zHpC (hp : Nat → Nat → Nat) (M : Nat → Int → Int) : Prop := ∀ p s : Nat, p < 4 → s < 12 → M 9 ((p : Int) * 12 + s) = hp p s
def zPrC (pr : Nat → Nat → Nat → Nat) (M : Nat → Int → Int) : Prop := ∀ s p a : Nat, s < 12 → p < 4 → a < 3 → M 6 (((s : Int) * 4 + p) * 3 + a) = pr s p a
/-- MOVES of PLAYERS in STATES, in a cell of the class -/
def zPkC (k : Nat) (ch : Nat → Nat → Nat) (M : Nat → Int → Int) : Prop := ∀ s p : Nat, s < 12 → p < 4 → M k ((s : Int) * 4 + p) = ch s p
/-- the sum of prices of a group's joint move a -/
def zsum (m : Nat → Nat) (q : Nat → Nat → Nat) (g : Nat → Bool) : Nat → Nat → Nat
  | 0, _ => 0
  | p + 1, a => if g p = true then q p (a % m p) + zsum m q g p (a / m p) else zsum m q g p a
section NC
variable {Ln S P : Nat} {mv tg hp ch : Nat → Nat → Nat} {lt : Nat → Nat} {pr : Nat → Nat → Nat → Nat} {M : Nat → Int → Int}

theorem F_Ne_hasGroup {d : Nat} (hN : zNet S P mv tg) (hC : zNetC S P mv tg M) {x : Int} (hd : 1 ≤ d) : zF (zSH Ln) d i_Ne_hasGroup [zR 3, zI x] M fun r M' => r = some (zI (if 0 ≤ x ∧ x ≤ zset P (fun _ => true) then 1 else 0)) ∧ M' = M := by
  rw [zF_en k_Ne_hasGroup_0 (L := [zR 3, zI x]) rfl]
  simp only [x_iload, x_lload, x_aload, x_istore, x_astore, x_lstore, x_iinc, x_getf, w_iconst, w_sipush, w_iadd, w_isub, w_imul, w_iand, w_ior, w_ixor, w_ishl, w_ishr, w_iushr, w_ladd, w_lsub, w_lmul, w_land, w_lor, w_lcmp, w_lshl, w_lshr, w_i2l, w_i2b, w_l2i, w_dupI, w_dupR, w_dup2, w_pop, w_if, w_icmp, w_goto, w_fall, q_eq, q_ne, q_lt, q_ge, q_gt, q_le, g_I, g_L, g_R, g_V, t_0, t_I, t_R, t_U, t_L, t_s, List.getElem?_cons_zero, List.getElem?_cons_succ, Nat.reduceAdd]
  by_cases h0 : x < 0
  · rw [if_pos h0, if_neg (by omega)]
    simp only [k_Ne_hasGroup_3, k_Ne_hasGroup_4, x_iload, x_lload, x_aload, x_istore, x_astore, x_lstore, x_iinc, x_getf, w_iconst, w_sipush, w_iadd, w_isub, w_imul, w_iand, w_ior, w_ixor, w_ishl, w_ishr, w_iushr, w_ladd, w_lsub, w_lmul, w_land, w_lor, w_lcmp, w_lshl, w_lshr, w_i2l, w_i2b, w_l2i, w_dupI, w_dupR, w_dup2, w_pop, w_if, w_icmp, w_goto, w_fall, q_eq, q_ne, q_lt, q_ge, q_gt, q_le, g_I, g_L, g_R, g_V, t_0, t_I, t_R, t_U, t_L, t_s, List.getElem?_cons_zero, List.getElem?_cons_succ, Nat.reduceAdd, w_iret (y_bool _ 0 r_Ne_hasGroup (Or.inl rfl)), and_self]
  · rw [if_neg h0]
    simp (disch := first | omega | exact Nat.le_of_ble_eq_true rfl | assumption) only [k_Ne_hasGroup_1, x_iload, x_lload, x_aload, x_istore, x_astore, x_lstore, x_iinc, x_getf, w_iconst, w_sipush, w_iadd, w_isub, w_imul, w_iand, w_ior, w_ixor, w_ishl, w_ishr, w_iushr, w_ladd, w_lsub, w_lmul, w_land, w_lor, w_lcmp, w_lshl, w_lshr, w_i2l, w_i2b, w_l2i, w_dupI, w_dupR, w_dup2, w_pop, w_if, w_icmp, w_goto, w_fall, q_eq, q_ne, q_lt, q_ge, q_gt, q_le, g_I, g_L, g_R, g_V, t_0, t_I, t_R, t_U, t_L, t_s, List.getElem?_cons_zero, List.getElem?_cons_succ, Nat.reduceAdd, c_Ne_everyone hN hC]
    by_cases h1 : zset P (fun _ => true) < x
    · rw [if_pos h1, if_neg (by omega)]
      simp only [k_Ne_hasGroup_3, k_Ne_hasGroup_4, x_iload, x_lload, x_aload, x_istore, x_astore, x_lstore, x_iinc, x_getf, w_iconst, w_sipush, w_iadd, w_isub, w_imul, w_iand, w_ior, w_ixor, w_ishl, w_ishr, w_iushr, w_ladd, w_lsub, w_lmul, w_land, w_lor, w_lcmp, w_lshl, w_lshr, w_i2l, w_i2b, w_l2i, w_dupI, w_dupR, w_dup2, w_pop, w_if, w_icmp, w_goto, w_fall, q_eq, q_ne, q_lt, q_ge, q_gt, q_le, g_I, g_L, g_R, g_V, t_0, t_I, t_R, t_U, t_L, t_s, List.getElem?_cons_zero, List.getElem?_cons_succ, Nat.reduceAdd, w_iret (y_bool _ 0 r_Ne_hasGroup (Or.inl rfl)), and_self]
    · rw [if_neg h1, if_pos (by omega)]
      simp only [k_Ne_hasGroup_2, k_Ne_hasGroup_4, x_iload, x_lload, x_aload, x_istore, x_astore, x_lstore, x_iinc, x_getf, w_iconst, w_sipush, w_iadd, w_isub, w_imul, w_iand, w_ior, w_ixor, w_ishl, w_ishr, w_iushr, w_ladd, w_lsub, w_lmul, w_land, w_lor, w_lcmp, w_lshl, w_lshr, w_i2l, w_i2b, w_l2i, w_dupI, w_dupR, w_dup2, w_pop, w_if, w_icmp, w_goto, w_fall, q_eq, q_ne, q_lt, q_ge, q_gt, q_le, g_I, g_L, g_R, g_V, t_0, t_I, t_R, t_U, t_L, t_s, List.getElem?_cons_zero, List.getElem?_cons_succ, Nat.reduceAdd, w_iret (y_bool _ 1 r_Ne_hasGroup (Or.inr rfl)), and_self]
theorem c_Ne_hasGroup {d mi o b9 : Nat} {es : List zEnt} {L st : List zMV} {Q : Option zMV → (Nat → Int → Int) → Prop} (hN : zNet S P mv tg) (hC : zNetC S P mv tg M) {x : Int} (hd : 1 + 1 ≤ d) (hc : zcats st ≤ 8) : zW (zSH Ln) d mi ((.invokevirtual o, 32, b9) :: es) L (zI x :: zR 3 :: st) M Q = zW (zSH Ln) d mi es L (zI (if 0 ≤ x ∧ x ≤ zset P (fun _ => true) then 1 else 0) :: st) (M) Q :=
  c_virt (ps := [zI x]) (by omega) rfl rfl (by omega) (by exact sh_3 Ln) hc (Nat.le_of_ble_eq_true rfl) (F_Ne_hasGroup hN hC (by omega))
theorem zib {c : Prop} [Decidable c] : ((if c then (1 : Int) else 0) = 0) = ¬ c := by by_cases h : c <;> simp [h]
theorem F_Ne_hasMove {d : Nat} (hN : zNet S P mv tg) (hC : zNetC S P mv tg M) {x y z : Int} (hd : 2 ≤ d) : zF (zSH Ln) d i_Ne_hasMove [zR 3, zI x, zI y, zI z] M fun r M' => r = some (zI (if (0 ≤ x ∧ x < S) ∧ (0 ≤ y ∧ y < P) ∧ 0 ≤ z ∧ z < mv x.toNat y.toNat then 1 else 0)) ∧ M' = M := by
  rw [zF_en k_Ne_hasMove_0 (L := [zR 3, zI x, zI y, zI z]) rfl]
  have hS := hN.2.1
  have hP := hN.2.2.2.1
  have no : ¬ ((0 ≤ x ∧ x < S) ∧ (0 ≤ y ∧ y < P) ∧ 0 ≤ z ∧ z < mv x.toNat y.toNat) → zW (zSH Ln) d i_Ne_hasMove (zblk i_Ne_hasMove 5) [zR 3, zI x, zI y, zI z] [] M fun r M' => r = some (zI (if (0 ≤ x ∧ x < S) ∧ (0 ≤ y ∧ y < P) ∧ 0 ≤ z ∧ z < mv x.toNat y.toNat then 1 else 0)) ∧ M' = M := by
    intro h
    rw [if_neg h]
    simp only [k_Ne_hasMove_5, k_Ne_hasMove_6, x_iload, x_lload, x_aload, x_istore, x_astore, x_lstore, x_iinc, x_getf, w_iconst, w_sipush, w_iadd, w_isub, w_imul, w_iand, w_ior, w_ixor, w_ishl, w_ishr, w_iushr, w_ladd, w_lsub, w_lmul, w_land, w_lor, w_lcmp, w_lshl, w_lshr, w_i2l, w_i2b, w_l2i, w_dupI, w_dupR, w_dup2, w_pop, w_if, w_icmp, w_goto, w_fall, q_eq, q_ne, q_lt, q_ge, q_gt, q_le, g_I, g_L, g_R, g_V, t_0, t_I, t_R, t_U, t_L, t_s, List.getElem?_cons_zero, List.getElem?_cons_succ, Nat.reduceAdd, w_iret (y_bool _ 0 r_Ne_hasMove (Or.inl rfl)), and_self]
  simp (disch := first | omega | exact Nat.le_of_ble_eq_true rfl | assumption) only [x_iload, x_lload, x_aload, x_istore, x_astore, x_lstore, x_iinc, x_getf, w_iconst, w_sipush, w_iadd, w_isub, w_imul, w_iand, w_ior, w_ixor, w_ishl, w_ishr, w_iushr, w_ladd, w_lsub, w_lmul, w_land, w_lor, w_lcmp, w_lshl, w_lshr, w_i2l, w_i2b, w_l2i, w_dupI, w_dupR, w_dup2, w_pop, w_if, w_icmp, w_goto, w_fall, q_eq, q_ne, q_lt, q_ge, q_gt, q_le, g_I, g_L, g_R, g_V, t_0, t_I, t_R, t_U, t_L, t_s, List.getElem?_cons_zero, List.getElem?_cons_succ, Nat.reduceAdd, c_Ne_hasState hC, zib]
  by_cases h1 : 0 ≤ x ∧ x < S
  · rw [if_neg (not_not_intro h1)]
    simp (disch := first | omega | exact Nat.le_of_ble_eq_true rfl | assumption) only [k_Ne_hasMove_1, x_iload, x_lload, x_aload, x_istore, x_astore, x_lstore, x_iinc, x_getf, w_iconst, w_sipush, w_iadd, w_isub, w_imul, w_iand, w_ior, w_ixor, w_ishl, w_ishr, w_iushr, w_ladd, w_lsub, w_lmul, w_land, w_lor, w_lcmp, w_lshl, w_lshr, w_i2l, w_i2b, w_l2i, w_dupI, w_dupR, w_dup2, w_pop, w_if, w_icmp, w_goto, w_fall, q_eq, q_ne, q_lt, q_ge, q_gt, q_le, g_I, g_L, g_R, g_V, t_0, t_I, t_R, t_U, t_L, t_s, List.getElem?_cons_zero, List.getElem?_cons_succ, Nat.reduceAdd, c_Ne_hasPlayer hC, zib]
    by_cases h2 : 0 ≤ y ∧ y < P
    · rw [if_neg (not_not_intro h2)]
      simp only [k_Ne_hasMove_2, x_iload, x_lload, x_aload, x_istore, x_astore, x_lstore, x_iinc, x_getf, w_iconst, w_sipush, w_iadd, w_isub, w_imul, w_iand, w_ior, w_ixor, w_ishl, w_ishr, w_iushr, w_ladd, w_lsub, w_lmul, w_land, w_lor, w_lcmp, w_lshl, w_lshr, w_i2l, w_i2b, w_l2i, w_dupI, w_dupR, w_dup2, w_pop, w_if, w_icmp, w_goto, w_fall, q_eq, q_ne, q_lt, q_ge, q_gt, q_le, g_I, g_L, g_R, g_V, t_0, t_I, t_R, t_U, t_L, t_s, List.getElem?_cons_zero, List.getElem?_cons_succ, Nat.reduceAdd]
      by_cases h3 : z < 0
      · rw [if_pos h3]; exact no (fun h => by omega)
      · rw [if_neg h3]
        obtain ⟨s, rfl⟩ : ∃ s : Nat, x = (s : Int) := ⟨x.toNat, by omega⟩
        obtain ⟨p, rfl⟩ : ∃ p : Nat, y = (p : Int) := ⟨y.toNat, by omega⟩
        simp (disch := first | omega | exact Nat.le_of_ble_eq_true rfl | assumption) only [k_Ne_hasMove_3, x_iload, x_lload, x_aload, x_istore, x_astore, x_lstore, x_iinc, x_getf, w_iconst, w_sipush, w_iadd, w_isub, w_imul, w_iand, w_ior, w_ixor, w_ishl, w_ishr, w_iushr, w_ladd, w_lsub, w_lmul, w_land, w_lor, w_lcmp, w_lshl, w_lshr, w_i2l, w_i2b, w_l2i, w_dupI, w_dupR, w_dup2, w_pop, w_if, w_icmp, w_goto, w_fall, q_eq, q_ne, q_lt, q_ge, q_gt, q_le, g_I, g_L, g_R, g_V, t_0, t_I, t_R, t_U, t_L, t_s, List.getElem?_cons_zero, List.getElem?_cons_succ, Nat.reduceAdd, c_Ne_movesOf hC]
        by_cases h4 : (mv s p : Int) ≤ z
        · rw [if_pos h4]; exact no (fun h => by have := h.2.2.2; simp only [Int.toNat_natCast] at this; omega)
        · rw [if_neg h4, if_pos ⟨h1, h2, by omega, by simp only [Int.toNat_natCast]; omega⟩]
          simp only [k_Ne_hasMove_4, k_Ne_hasMove_6, x_iload, x_lload, x_aload, x_istore, x_astore, x_lstore, x_iinc, x_getf, w_iconst, w_sipush, w_iadd, w_isub, w_imul, w_iand, w_ior, w_ixor, w_ishl, w_ishr, w_iushr, w_ladd, w_lsub, w_lmul, w_land, w_lor, w_lcmp, w_lshl, w_lshr, w_i2l, w_i2b, w_l2i, w_dupI, w_dupR, w_dup2, w_pop, w_if, w_icmp, w_goto, w_fall, q_eq, q_ne, q_lt, q_ge, q_gt, q_le, g_I, g_L, g_R, g_V, t_0, t_I, t_R, t_U, t_L, t_s, List.getElem?_cons_zero, List.getElem?_cons_succ, Nat.reduceAdd, w_iret (y_bool _ 1 r_Ne_hasMove (Or.inr rfl)), and_self]
    · rw [if_pos h2]; exact no (fun h => h2 h.2.1)
  · rw [if_pos h1]; exact no (fun h => h1 h.1)
theorem c_Ne_hasMove {d mi o b9 : Nat} {es : List zEnt} {L st : List zMV} {Q : Option zMV → (Nat → Int → Int) → Prop} (hN : zNet S P mv tg) (hC : zNetC S P mv tg M) {x y z : Int} (hd : 2 + 1 ≤ d) (hc : zcats st ≤ 8) : zW (zSH Ln) d mi ((.invokevirtual o, 33, b9) :: es) L (zI z :: zI y :: zI x :: zR 3 :: st) M Q = zW (zSH Ln) d mi es L (zI (if (0 ≤ x ∧ x < S) ∧ (0 ≤ y ∧ y < P) ∧ 0 ≤ z ∧ z < mv x.toNat y.toNat then 1 else 0) :: st) (M) Q :=
  c_virt (ps := [zI x, zI y, zI z]) (by omega) rfl rfl (by omega) (by exact sh_3 Ln) hc (Nat.le_of_ble_eq_true rfl) (F_Ne_hasMove hN hC (by omega))
theorem F_Ne_hasJoint {d : Nat} (hN : zNet S P mv tg) (hC : zNetC S P mv tg M) {x z : Int} (hd : 3 ≤ d) : zF (zSH Ln) d i_Ne_hasJoint [zR 3, zI x, zI z] M fun r M' => r = some (zI (if (0 ≤ x ∧ x < S) ∧ 0 ≤ z ∧ z < zcnt (mv x.toNat) zall1 P then 1 else 0)) ∧ M' = M := by
  rw [zF_en k_Ne_hasJoint_0 (L := [zR 3, zI x, zI z]) rfl]
  have hS := hN.2.1
  have hP := hN.2.2.2.1
  have no : ¬ ((0 ≤ x ∧ x < S) ∧ 0 ≤ z ∧ z < zcnt (mv x.toNat) zall1 P) → zW (zSH Ln) d i_Ne_hasJoint (zblk i_Ne_hasJoint 4) [zR 3, zI x, zI z] [] M fun r M' => r = some (zI (if (0 ≤ x ∧ x < S) ∧ 0 ≤ z ∧ z < zcnt (mv x.toNat) zall1 P then 1 else 0)) ∧ M' = M := by
    intro h
    rw [if_neg h]
    simp only [k_Ne_hasJoint_4, k_Ne_hasJoint_5, x_iload, x_lload, x_aload, x_istore, x_astore, x_lstore, x_iinc, x_getf, w_iconst, w_sipush, w_iadd, w_isub, w_imul, w_iand, w_ior, w_ixor, w_ishl, w_ishr, w_iushr, w_ladd, w_lsub, w_lmul, w_land, w_lor, w_lcmp, w_lshl, w_lshr, w_i2l, w_i2b, w_l2i, w_dupI, w_dupR, w_dup2, w_pop, w_if, w_icmp, w_goto, w_fall, q_eq, q_ne, q_lt, q_ge, q_gt, q_le, g_I, g_L, g_R, g_V, t_0, t_I, t_R, t_U, t_L, t_s, List.getElem?_cons_zero, List.getElem?_cons_succ, Nat.reduceAdd, w_iret (y_bool _ 0 r_Ne_hasJoint (Or.inl rfl)), and_self]
  simp (disch := first | omega | exact Nat.le_of_ble_eq_true rfl | assumption) only [x_iload, x_lload, x_aload, x_istore, x_astore, x_lstore, x_iinc, x_getf, w_iconst, w_sipush, w_iadd, w_isub, w_imul, w_iand, w_ior, w_ixor, w_ishl, w_ishr, w_iushr, w_ladd, w_lsub, w_lmul, w_land, w_lor, w_lcmp, w_lshl, w_lshr, w_i2l, w_i2b, w_l2i, w_dupI, w_dupR, w_dup2, w_pop, w_if, w_icmp, w_goto, w_fall, q_eq, q_ne, q_lt, q_ge, q_gt, q_le, g_I, g_L, g_R, g_V, t_0, t_I, t_R, t_U, t_L, t_s, List.getElem?_cons_zero, List.getElem?_cons_succ, Nat.reduceAdd, c_Ne_hasState hC, zib]
  by_cases h1 : 0 ≤ x ∧ x < S
  · rw [if_neg (not_not_intro h1)]
    simp only [k_Ne_hasJoint_1, x_iload, x_lload, x_aload, x_istore, x_astore, x_lstore, x_iinc, x_getf, w_iconst, w_sipush, w_iadd, w_isub, w_imul, w_iand, w_ior, w_ixor, w_ishl, w_ishr, w_iushr, w_ladd, w_lsub, w_lmul, w_land, w_lor, w_lcmp, w_lshl, w_lshr, w_i2l, w_i2b, w_l2i, w_dupI, w_dupR, w_dup2, w_pop, w_if, w_icmp, w_goto, w_fall, q_eq, q_ne, q_lt, q_ge, q_gt, q_le, g_I, g_L, g_R, g_V, t_0, t_I, t_R, t_U, t_L, t_s, List.getElem?_cons_zero, List.getElem?_cons_succ, Nat.reduceAdd]
    by_cases h3 : z < 0
    · rw [if_pos h3]; exact no (fun h => by omega)
    · rw [if_neg h3]
      obtain ⟨s, rfl⟩ : ∃ s : Nat, x = (s : Int) := ⟨x.toNat, by omega⟩
      have e : zcnt (mv s) (zbit (zset P fun _ => true)) P = zcnt (mv s) zall1 P := zcnt_congr P fun i hi => by rw [zset_bit (by omega)]; simp [hi, zall1]
      simp (disch := first | omega | exact Nat.le_of_ble_eq_true rfl | assumption) only [k_Ne_hasJoint_2, x_iload, x_lload, x_aload, x_istore, x_astore, x_lstore, x_iinc, x_getf, w_iconst, w_sipush, w_iadd, w_isub, w_imul, w_iand, w_ior, w_ixor, w_ishl, w_ishr, w_iushr, w_ladd, w_lsub, w_lmul, w_land, w_lor, w_lcmp, w_lshl, w_lshr, w_i2l, w_i2b, w_l2i, w_dupI, w_dupR, w_dup2, w_pop, w_if, w_icmp, w_goto, w_fall, q_eq, q_ne, q_lt, q_ge, q_gt, q_le, g_I, g_L, g_R, g_V, t_0, t_I, t_R, t_U, t_L, t_s, List.getElem?_cons_zero, List.getElem?_cons_succ, Nat.reduceAdd, c_Ne_everyone hN hC, c_Ne_ways hN hC, e]
      by_cases h4 : (zcnt (mv s) zall1 P : Int) ≤ z
      · rw [if_pos h4]; exact no (fun h => by have := h.2.2; simp only [Int.toNat_natCast] at this; omega)
      · rw [if_neg h4, if_pos ⟨h1, by omega, by simp only [Int.toNat_natCast]; omega⟩]
        simp only [k_Ne_hasJoint_3, k_Ne_hasJoint_5, x_iload, x_lload, x_aload, x_istore, x_astore, x_lstore, x_iinc, x_getf, w_iconst, w_sipush, w_iadd, w_isub, w_imul, w_iand, w_ior, w_ixor, w_ishl, w_ishr, w_iushr, w_ladd, w_lsub, w_lmul, w_land, w_lor, w_lcmp, w_lshl, w_lshr, w_i2l, w_i2b, w_l2i, w_dupI, w_dupR, w_dup2, w_pop, w_if, w_icmp, w_goto, w_fall, q_eq, q_ne, q_lt, q_ge, q_gt, q_le, g_I, g_L, g_R, g_V, t_0, t_I, t_R, t_U, t_L, t_s, List.getElem?_cons_zero, List.getElem?_cons_succ, Nat.reduceAdd, w_iret (y_bool _ 1 r_Ne_hasJoint (Or.inr rfl)), and_self]
  · rw [if_pos h1]; exact no (fun h => h1 h.1)
theorem c_Ne_hasJoint {d mi o b9 : Nat} {es : List zEnt} {L st : List zMV} {Q : Option zMV → (Nat → Int → Int) → Prop} (hN : zNet S P mv tg) (hC : zNetC S P mv tg M) {x z : Int} (hd : 3 + 1 ≤ d) (hc : zcats st ≤ 8) : zW (zSH Ln) d mi ((.invokevirtual o, 34, b9) :: es) L (zI z :: zI x :: zR 3 :: st) M Q = zW (zSH Ln) d mi es L (zI (if (0 ≤ x ∧ x < S) ∧ 0 ≤ z ∧ z < zcnt (mv x.toNat) zall1 P then 1 else 0) :: st) (M) Q :=
  c_virt (ps := [zI x, zI z]) (by omega) rfl rfl (by omega) (by exact sh_3 Ln) hc (Nat.le_of_ble_eq_true rfl) (F_Ne_hasJoint hN hC (by omega))
theorem F_Ne_bearing {d : Nat} (hN : zNet S P mv tg) (hC : zNetC S P mv tg M) (hL : zLetC lt M) {c : Nat} (hc8 : c < 8) (hlt : ∀ s, lt s < 256) (hd : 1 ≤ d) : zF (zSH Ln) d i_Ne_bearing [zR 3, zI (c : Int)] M fun r M' => r = some (zI (zset S fun s => (lt s).testBit c)) ∧ M' = M := by
  rw [zF_en k_Ne_bearing_0 (L := [zR 3, zI (c : Int), zU, zU]) rfl]
  have hS := hN.2.1
  have loop : ∀ k s : Nat, s + k = S → zW (zSH Ln) d i_Ne_bearing (zblk 42 1) [zR 3, zI c, zI (zset S fun t => decide (t < s) && (lt t).testBit c), zI (s : Int)] [] M fun r M' => r = some (zI (zset S fun s => (lt s).testBit c)) ∧ M' = M := by
    intro k
    induction k with
    | zero =>
      intro s hs
      simp only [k_Ne_bearing_1, x_iload, x_lload, x_aload, x_istore, x_astore, x_lstore, x_iinc, x_getf, w_iconst, w_sipush, w_iadd, w_isub, w_imul, w_iand, w_ior, w_ixor, w_ishl, w_ishr, w_iushr, w_ladd, w_lsub, w_lmul, w_land, w_lor, w_lcmp, w_lshl, w_lshr, w_i2l, w_i2b, w_l2i, w_dupI, w_dupR, w_dup2, w_pop, w_if, w_icmp, w_goto, w_fall, q_eq, q_ne, q_lt, q_ge, q_gt, q_le, g_I, g_L, g_R, g_V, t_0, t_I, t_R, t_U, t_L, t_s, List.getElem?_cons_zero, List.getElem?_cons_succ, Nat.reduceAdd, gf_3_0, hC.1]
      rw [if_pos (by omega)]
      simp only [k_Ne_bearing_5, x_iload, x_lload, x_aload, x_istore, x_astore, x_lstore, x_iinc, x_getf, w_iconst, w_sipush, w_iadd, w_isub, w_imul, w_iand, w_ior, w_ixor, w_ishl, w_ishr, w_iushr, w_ladd, w_lsub, w_lmul, w_land, w_lor, w_lcmp, w_lshl, w_lshr, w_i2l, w_i2b, w_l2i, w_dupI, w_dupR, w_dup2, w_pop, w_if, w_icmp, w_goto, w_fall, q_eq, q_ne, q_lt, q_ge, q_gt, q_le, g_I, g_L, g_R, g_V, t_0, t_I, t_R, t_U, t_L, t_s, List.getElem?_cons_zero, List.getElem?_cons_succ, Nat.reduceAdd, w_iret (y_int _ _ r_Ne_bearing), and_true]
      congr 2
      exact zset_cong fun i hi => by simp [show i < s by omega]
    | succ k ih =>
      intro s hs
      simp only [k_Ne_bearing_1, x_iload, x_lload, x_aload, x_istore, x_astore, x_lstore, x_iinc, x_getf, w_iconst, w_sipush, w_iadd, w_isub, w_imul, w_iand, w_ior, w_ixor, w_ishl, w_ishr, w_iushr, w_ladd, w_lsub, w_lmul, w_land, w_lor, w_lcmp, w_lshl, w_lshr, w_i2l, w_i2b, w_l2i, w_dupI, w_dupR, w_dup2, w_pop, w_if, w_icmp, w_goto, w_fall, q_eq, q_ne, q_lt, q_ge, q_gt, q_le, g_I, g_L, g_R, g_V, t_0, t_I, t_R, t_U, t_L, t_s, List.getElem?_cons_zero, List.getElem?_cons_succ, Nat.reduceAdd, gf_3_0, hC.1]
      rw [if_neg (by omega)]
      simp (disch := first | omega | exact Nat.le_of_ble_eq_true rfl | assumption) only [k_Ne_bearing_2, x_iload, x_lload, x_aload, x_istore, x_astore, x_lstore, x_iinc, x_getf, w_iconst, w_sipush, w_iadd, w_isub, w_imul, w_iand, w_ior, w_ixor, w_ishl, w_ishr, w_iushr, w_ladd, w_lsub, w_lmul, w_land, w_lor, w_lcmp, w_lshl, w_lshr, w_i2l, w_i2b, w_l2i, w_dupI, w_dupR, w_dup2, w_pop, w_if, w_icmp, w_goto, w_fall, q_eq, q_ne, q_lt, q_ge, q_gt, q_le, g_I, g_L, g_R, g_V, t_0, t_I, t_R, t_U, t_L, t_s, List.getElem?_cons_zero, List.getElem?_cons_succ, Nat.reduceAdd, gf_3_7, at_8, hL s (by omega), c_has, zif10, zbit_nat]
      have ih := ih (s + 1) (by omega)
      by_cases hb : (lt s).testBit c = true
      · rw [if_neg (by rw [hb]; decide)]
        simp (disch := first | omega | exact Nat.le_of_ble_eq_true rfl | assumption) only [k_Ne_bearing_3, k_Ne_bearing_4, x_iload, x_lload, x_aload, x_istore, x_astore, x_lstore, x_iinc, x_getf, w_iconst, w_sipush, w_iadd, w_isub, w_imul, w_iand, w_ior, w_ixor, w_ishl, w_ishr, w_iushr, w_ladd, w_lsub, w_lmul, w_land, w_lor, w_lcmp, w_lshl, w_lshr, w_i2l, w_i2b, w_l2i, w_dupI, w_dupR, w_dup2, w_pop, w_if, w_icmp, w_goto, w_fall, q_eq, q_ne, q_lt, q_ge, q_gt, q_le, g_I, g_L, g_R, g_V, t_0, t_I, t_R, t_U, t_L, t_s, List.getElem?_cons_zero, List.getElem?_cons_succ, Nat.reduceAdd, zset_up, zadd_eq]
        rw [show (zset S fun j => (decide (j < s) && (lt j).testBit c) || decide (j = s)) = zset S fun t => decide (t < s + 1) && (lt t).testBit c from zset_cong fun i _ => by
          by_cases e : i = s
          · subst e; simp [hb]
          · simp [e, show (i < s + 1) ↔ (i < s) by omega]]
        exact ih
      · rw [if_pos (by simpa using hb)]
        simp (disch := first | omega | exact Nat.le_of_ble_eq_true rfl | assumption) only [k_Ne_bearing_4, x_iload, x_lload, x_aload, x_istore, x_astore, x_lstore, x_iinc, x_getf, w_iconst, w_sipush, w_iadd, w_isub, w_imul, w_iand, w_ior, w_ixor, w_ishl, w_ishr, w_iushr, w_ladd, w_lsub, w_lmul, w_land, w_lor, w_lcmp, w_lshl, w_lshr, w_i2l, w_i2b, w_l2i, w_dupI, w_dupR, w_dup2, w_pop, w_if, w_icmp, w_goto, w_fall, q_eq, q_ne, q_lt, q_ge, q_gt, q_le, g_I, g_L, g_R, g_V, t_0, t_I, t_R, t_U, t_L, t_s, List.getElem?_cons_zero, List.getElem?_cons_succ, Nat.reduceAdd, zadd_eq]
        rw [show (zset S fun j => (decide (j < s) && (lt j).testBit c)) = zset S fun t => decide (t < s + 1) && (lt t).testBit c from zset_cong fun i _ => by
          by_cases e : i = s
          · subst e; simp [hb]
          · simp [show (i < s + 1) ↔ (i < s) by omega]]
        exact ih
  simp only [x_iload, x_lload, x_aload, x_istore, x_astore, x_lstore, x_iinc, x_getf, w_iconst, w_sipush, w_iadd, w_isub, w_imul, w_iand, w_ior, w_ixor, w_ishl, w_ishr, w_iushr, w_ladd, w_lsub, w_lmul, w_land, w_lor, w_lcmp, w_lshl, w_lshr, w_i2l, w_i2b, w_l2i, w_dupI, w_dupR, w_dup2, w_pop, w_if, w_icmp, w_goto, w_fall, q_eq, q_ne, q_lt, q_ge, q_gt, q_le, g_I, g_L, g_R, g_V, t_0, t_I, t_R, t_U, t_L, t_s, List.getElem?_cons_zero, List.getElem?_cons_succ, Nat.reduceAdd]
  have := loop S 0 (by omega)
  rw [show (zset S fun t => decide (t < 0) && (lt t).testBit c) = 0 from (zset_cong (g := fun _ => false) fun i _ => by simp).trans zset_none] at this
  exact this
theorem c_Ne_bearing {d mi o b9 : Nat} {es : List zEnt} {L st : List zMV} {Q : Option zMV → (Nat → Int → Int) → Prop} (hN : zNet S P mv tg) (hC : zNetC S P mv tg M) (hL : zLetC lt M) {c : Nat} (hc8 : c < 8) (hlt : ∀ s, lt s < 256) (hd : 1 + 1 ≤ d) (hc : zcats st ≤ 8) : zW (zSH Ln) d mi ((.invokevirtual o, 42, b9) :: es) L (zI (c : Int) :: zR 3 :: st) M Q = zW (zSH Ln) d mi es L (zI (zset S fun s => (lt s).testBit c) :: st) (M) Q :=
  c_virt (ps := [zI (c : Int)]) (by omega) rfl rfl (by omega) (by exact sh_3 Ln) hc (Nat.le_of_ble_eq_true rfl) (F_Ne_bearing hN hC hL hc8 hlt (by omega))
theorem F_Ne_sumOfPrices {d : Nat} (hN : zNet S P mv tg) (hC : zNetC S P mv tg M) (hR : zPrC pr M) (hpr : ∀ s p a, pr s p a ≤ 9) {s a : Nat} {g : Int} (hs : s < 12) (ha : a < 2147483648) (hd : 2 ≤ d) : zF (zSH Ln) d i_Ne_sumOfPrices [zR 3, zI (s : Int), zI g, zI (a : Int)] M fun r M' => r = some (zI (zsum (mv s) (pr s) (zbit g) P a : Int)) ∧ M' = M := by
  rw [zF_en k_Ne_sumOfPrices_0 (L := [zR 3, zI (s : Int), zI g, zI (a : Int), zU, zU, zU, zU]) rfl]
  have hP4 := hN.2.2.2.1
  have hm := hN.2.2.2.2.1 s
  have loop : ∀ (q a' n : Nat) (v : zMV), q ≤ P → a' < 2147483648 → n ≤ 9 * (P - q) → zsum (mv s) (pr s) (zbit g) P a = n + zsum (mv s) (pr s) (zbit g) q a' → zW (zSH Ln) d i_Ne_sumOfPrices (zblk 45 1) [zR 3, zI s, zI g, zI a, zI (a' : Int), zI (n : Int), zI ((q : Int) - 1), v] [] M fun r M' => r = some (zI (zsum (mv s) (pr s) (zbit g) P a : Int)) ∧ M' = M := by
    intro q
    induction q with
    | zero =>
      intro a' n v hq ha' hn e
      simp only [k_Ne_sumOfPrices_1, x_iload, x_lload, x_aload, x_istore, x_astore, x_lstore, x_iinc, x_getf, w_iconst, w_sipush, w_iadd, w_isub, w_imul, w_iand, w_ior, w_ixor, w_ishl, w_ishr, w_iushr, w_ladd, w_lsub, w_lmul, w_land, w_lor, w_lcmp, w_lshl, w_lshr, w_i2l, w_i2b, w_l2i, w_dupI, w_dupR, w_dup2, w_pop, w_if, w_icmp, w_goto, w_fall, q_eq, q_ne, q_lt, q_ge, q_gt, q_le, g_I, g_L, g_R, g_V, t_0, t_I, t_R, t_U, t_L, t_s, List.getElem?_cons_zero, List.getElem?_cons_succ, Nat.reduceAdd]
      rw [if_pos (by omega)]
      simp only [k_Ne_sumOfPrices_5, x_iload, x_lload, x_aload, x_istore, x_astore, x_lstore, x_iinc, x_getf, w_iconst, w_sipush, w_iadd, w_isub, w_imul, w_iand, w_ior, w_ixor, w_ishl, w_ishr, w_iushr, w_ladd, w_lsub, w_lmul, w_land, w_lor, w_lcmp, w_lshl, w_lshr, w_i2l, w_i2b, w_l2i, w_dupI, w_dupR, w_dup2, w_pop, w_if, w_icmp, w_goto, w_fall, q_eq, q_ne, q_lt, q_ge, q_gt, q_le, g_I, g_L, g_R, g_V, t_0, t_I, t_R, t_U, t_L, t_s, List.getElem?_cons_zero, List.getElem?_cons_succ, Nat.reduceAdd, w_iret (y_int _ _ r_Ne_sumOfPrices), and_true]
      rw [e]; simp [zsum]
    | succ q ih =>
      intro a' n v hq ha' hn e
      have hmp := hm q
      have hmod := Nat.mod_lt a' (show 0 < mv s q by omega)
      simp only [k_Ne_sumOfPrices_1, x_iload, x_lload, x_aload, x_istore, x_astore, x_lstore, x_iinc, x_getf, w_iconst, w_sipush, w_iadd, w_isub, w_imul, w_iand, w_ior, w_ixor, w_ishl, w_ishr, w_iushr, w_ladd, w_lsub, w_lmul, w_land, w_lor, w_lcmp, w_lshl, w_lshr, w_i2l, w_i2b, w_l2i, w_dupI, w_dupR, w_dup2, w_pop, w_if, w_icmp, w_goto, w_fall, q_eq, q_ne, q_lt, q_ge, q_gt, q_le, g_I, g_L, g_R, g_V, t_0, t_I, t_R, t_U, t_L, t_s, List.getElem?_cons_zero, List.getElem?_cons_succ, Nat.reduceAdd]
      rw [if_neg (by omega), show ((q + 1 : Nat) : Int) - 1 = (q : Int) by omega]
      simp (disch := first | omega | exact Nat.le_of_ble_eq_true rfl | assumption) only [k_Ne_sumOfPrices_2, x_iload, x_lload, x_aload, x_istore, x_astore, x_lstore, x_iinc, x_getf, w_iconst, w_sipush, w_iadd, w_isub, w_imul, w_iand, w_ior, w_ixor, w_ishl, w_ishr, w_iushr, w_ladd, w_lsub, w_lmul, w_land, w_lor, w_lcmp, w_lshl, w_lshr, w_i2l, w_i2b, w_l2i, w_dupI, w_dupR, w_dup2, w_pop, w_if, w_icmp, w_goto, w_fall, q_eq, q_ne, q_lt, q_ge, q_gt, q_le, g_I, g_L, g_R, g_V, t_0, t_I, t_R, t_U, t_L, t_s, List.getElem?_cons_zero, List.getElem?_cons_succ, Nat.reduceAdd, c_has, zif10]
      by_cases hg : zbit g q = true
      · rw [if_neg (by rw [hg]; decide)]
        have h9 := hpr s q (a' % mv s q)
        simp only [zsum, if_pos hg] at e
        simp (disch := first | omega | exact Nat.le_of_ble_eq_true rfl | assumption) only [k_Ne_sumOfPrices_3, k_Ne_sumOfPrices_4, x_iload, x_lload, x_aload, x_istore, x_astore, x_lstore, x_iinc, x_getf, w_iconst, w_sipush, w_iadd, w_isub, w_imul, w_iand, w_ior, w_ixor, w_ishl, w_ishr, w_iushr, w_ladd, w_lsub, w_lmul, w_land, w_lor, w_lcmp, w_lshl, w_lshr, w_i2l, w_i2b, w_l2i, w_dupI, w_dupR, w_dup2, w_pop, w_if, w_icmp, w_goto, w_fall, q_eq, q_ne, q_lt, q_ge, q_gt, q_le, g_I, g_L, g_R, g_V, t_0, t_I, t_R, t_U, t_L, t_s, List.getElem?_cons_zero, List.getElem?_cons_succ, Nat.reduceAdd, c_Ne_movesOf hC, gf_3_5, c_rest, zmul_eq, zadd_eq, at_6, hR s q (a' % mv s q) hs (by omega) (by omega), c_over]
        exact ih (a' / mv s q) (n + pr s q (a' % mv s q)) (zI (mv s q : Int)) (by omega) (Nat.lt_of_le_of_lt (Nat.div_le_self _ _) ha') (by omega) (by omega)
      · rw [if_pos (by simpa using hg)]
        simp only [zsum, if_neg hg] at e
        simp (disch := first | omega | exact Nat.le_of_ble_eq_true rfl | assumption) only [k_Ne_sumOfPrices_4, x_iload, x_lload, x_aload, x_istore, x_astore, x_lstore, x_iinc, x_getf, w_iconst, w_sipush, w_iadd, w_isub, w_imul, w_iand, w_ior, w_ixor, w_ishl, w_ishr, w_iushr, w_ladd, w_lsub, w_lmul, w_land, w_lor, w_lcmp, w_lshl, w_lshr, w_i2l, w_i2b, w_l2i, w_dupI, w_dupR, w_dup2, w_pop, w_if, w_icmp, w_goto, w_fall, q_eq, q_ne, q_lt, q_ge, q_gt, q_le, g_I, g_L, g_R, g_V, t_0, t_I, t_R, t_U, t_L, t_s, List.getElem?_cons_zero, List.getElem?_cons_succ, Nat.reduceAdd, zadd_eq]
        exact ih a' n v (by omega) ha' (by omega) (by omega)
  simp (disch := first | omega | exact Nat.le_of_ble_eq_true rfl | assumption) only [x_iload, x_lload, x_aload, x_istore, x_astore, x_lstore, x_iinc, x_getf, w_iconst, w_sipush, w_iadd, w_isub, w_imul, w_iand, w_ior, w_ixor, w_ishl, w_ishr, w_iushr, w_ladd, w_lsub, w_lmul, w_land, w_lor, w_lcmp, w_lshl, w_lshr, w_i2l, w_i2b, w_l2i, w_dupI, w_dupR, w_dup2, w_pop, w_if, w_icmp, w_goto, w_fall, q_eq, q_ne, q_lt, q_ge, q_gt, q_le, g_I, g_L, g_R, g_V, t_0, t_I, t_R, t_U, t_L, t_s, List.getElem?_cons_zero, List.getElem?_cons_succ, Nat.reduceAdd, gf_3_1, hC.2.1, zsub_eq]
  exact loop P a 0 zU (Nat.le_refl _) ha (by omega) (by omega)
theorem c_Ne_sumOfPrices {d mi o b9 : Nat} {es : List zEnt} {L st : List zMV} {Q : Option zMV → (Nat → Int → Int) → Prop} (hN : zNet S P mv tg) (hC : zNetC S P mv tg M) (hR : zPrC pr M) (hpr : ∀ s p a, pr s p a ≤ 9) {s a : Nat} {g : Int} (hs : s < 12) (ha : a < 2147483648) (hd : 2 + 1 ≤ d) (hc : zcats st ≤ 8) : zW (zSH Ln) d mi ((.invokevirtual o, 45, b9) :: es) L (zI (a : Int) :: zI g :: zI (s : Int) :: zR 3 :: st) M Q = zW (zSH Ln) d mi es L (zI (zsum (mv s) (pr s) (zbit g) P a : Int) :: st) (M) Q :=
  c_virt (ps := [zI (s : Int), zI g, zI (a : Int)]) (by omega) rfl rfl (by omega) (by exact sh_3 Ln) hc (Nat.le_of_ble_eq_true rfl) (F_Ne_sumOfPrices hN hC hR hpr hs ha (by omega))
end NC
