/-! the tape's reader: groups, pairs, forms -/
theorem zup_self {M : Nat → Int → Int} {k : Nat} {i v : Int} (h : M k i = v) : zup M k i v = M := by
  funext a b; unfold zup
  split
  · next e => rw [e.1, e.2, h]
  · rfl
theorem zup_cm {M : Nat → Int → Int} {k k2 : Nat} {i j v w : Int} (h : k ≠ k2) : zup (zup M k i v) k2 j w = zup (zup M k2 j w) k i v := by
  funext a b; unfold zup
  by_cases e : a = k2 ∧ b = j
  · rw [if_pos e, if_neg (fun z => h (z.1.symm.trans e.1)), if_pos e]
  · rw [if_neg e]
    by_cases e2 : a = k ∧ b = i
    · rw [if_pos e2, if_pos e2]
    · rw [if_neg e2, if_neg e2, if_neg e]
theorem zor_pw {g i : Nat} (hg : g < 2 ^ i) (hi : i ≤ 20) : zor (g : Int) (zshl 1 (i : Int)) = ((g + 2 ^ i : Nat) : Int) := by
  have hp : 2 ^ i ≤ 2 ^ 20 := Nat.pow_le_pow_right (by omega) hi
  rw [zshl_1 (by omega), zor_nat (by omega) (by omega)]
  have := Nat.two_pow_add_eq_or_of_lt hg 1
  rw [Nat.mul_one] at this
  rw [Nat.or_comm, ← this, Nat.add_comm]
theorem zNc_126 {q : Nat} {tb : Nat → Nat} (htb : ∀ j, j < q → 32 ≤ tb j ∧ tb j ≤ 126) (p : Nat) : zNc q tb p ≤ 126 := by
  unfold zNc; split
  · next h => exact (htb _ h).2
  · omega
section TP
variable {Ln q P : Nat} {tb : Nat → Nat} {M : Nat → Int → Int}
set_option maxHeartbeats 20000000 in
theorem F_Tp_readGroup {d : Nat} {p k : Nat} (hT : zTpC q tb M) (hq : q ≤ 100) (hP : M 22 5 = P) (hP4 : P ≤ 4) (hp : M 22 3 = p) (hpq : p ≤ q) (hk : k < 24) (htb : ∀ j, j < q → 32 ≤ tb j ∧ tb j ≤ 126) (hd : 3 ≤ d) : zF (zSH Ln) d i_Tp_readGroup [zR 22, zI (k : Int)] M fun r M' => (zNc q tb (zGd q P tb 4 p 0 0).1 = 62 → r = some (zI 1) ∧ M' = zup (zup M 28 k ((zGd q P tb 4 p 0 0).2 : Int)) 22 3 ((zNp q tb (zGd q P tb 4 p 0 0).1 + 1 : Nat) : Int)) ∧ (¬ zNc q tb (zGd q P tb 4 p 0 0).1 = 62 → r = some (zI 0) ∧ M' = zup (zup (zup M 28 k ((zGd q P tb 4 p 0 0).2 : Int)) 22 3 (zNp q tb (zGd q P tb 4 p 0 0).1 : Int)) 22 4 (zNp q tb (zGd q P tb 4 p 0 0).1 : Int)) := by
  rw [zF_en k_Tp_readGroup_0 (L := [zR 22, zI (k : Int), zU, zU, zU, zU]) rfl]
  have hGnp := zGd_np (q := q) (P := P) (tb := tb) 4 p 0 0
  generalize hG : zGd q P tb 4 p 0 0 = G at hGnp ⊢
  have fin : ∀ (pe g : Nat) (v3 v4 v5 : zMV), zNp q tb pe = G.1 → g = G.2 → pe ≤ q → zW (zSH Ln) d i_Tp_readGroup (zblk i_Tp_readGroup 6) [zR 22, zI (k : Int), zI (g : Int), v3, v4, v5] [] (zup M 22 3 (pe : Int)) fun r M' => (zNc q tb G.1 = 62 → r = some (zI 1) ∧ M' = zup (zup M 28 k (G.2 : Int)) 22 3 ((zNp q tb G.1 + 1 : Nat) : Int)) ∧ (¬ zNc q tb G.1 = 62 → r = some (zI 0) ∧ M' = zup (zup (zup M 28 k (G.2 : Int)) 22 3 (zNp q tb G.1 : Int)) 22 4 (zNp q tb G.1 : Int)) := by
    intro pe g v3 v4 v5 h1 h2 h3
    rw [← h2, ← h1]
    have hT2 : zTpC q tb (zup (zup M 22 3 (pe : Int)) 28 k (g : Int)) := hT
    have hp2 : zup (zup M 22 3 (pe : Int)) 28 k (g : Int) 22 3 = (pe : Int) := rfl
    rw [k_Tp_readGroup_6]
    simp (disch := first | omega | exact Nat.le_of_ble_eq_true rfl | assumption | (simp only [Int.natCast_add, Int.natCast_mul, Int.cast_ofNat_Int]; omega) | decide) only [x_aload, w_dupI, w_dupR, x_getf, w_goto, w_fall, w_iadd, w_iconst, w_icmp, x_iinc, x_iload, w_ior, w_ishl, x_istore, w_isub, zadd_eq, zsub_eq, gf_10_5, gf_24_5, gf_22_1, gf_22_3, gf_22_5, xp_22_3, pu_14, pu_28, w_bret r_Tp_readGroup, q_eq, q_ne, q_lt, q_ge, q_gt, q_le, g_I, g_L, g_R, g_V, t_0, t_I, t_R, t_U, t_L, t_s, List.getElem?_cons_zero, List.getElem?_cons_succ, Nat.reduceAdd, zif10, zif01b, zib, if_pos, if_neg, ↓reduceIte, not_true_eq_false, not_false_eq_true, Bool.true_eq_false, Bool.false_eq_true, Classical.not_not, eq_self, and_self, and_true, true_and, Int.reduceEq, Int.reduceLE, Int.reduceLT, Int.reduceNeg, Option.toList, List.cons_append, List.nil_append, zup_s, zup_n, zst_s, zup_zs, zup_zn, decide_true, decide_false]
    refine c_Tp_take (c := 62) hT2 hq hp2 h3 (by omega) (by omega) (Nat.le_of_ble_eq_true rfl) ?_
    rintro r M1 ⟨a1, a2⟩
    rw [zNp_id, zNc_id]
    rw [zup_cm (show 22 ≠ 28 by omega), zup_up] at a1 a2
    by_cases e : zNc q tb pe = 62
    · obtain ⟨rfl, rfl⟩ := a1 e
      simp (disch := first | omega | exact Nat.le_of_ble_eq_true rfl | assumption | (simp only [Int.natCast_add, Int.natCast_mul, Int.cast_ofNat_Int]; omega) | decide) only [x_aload, w_dupI, w_dupR, x_getf, w_goto, w_fall, w_iadd, w_iconst, w_icmp, x_iinc, x_iload, w_ior, w_ishl, x_istore, w_isub, zadd_eq, zsub_eq, gf_10_5, gf_24_5, gf_22_1, gf_22_3, gf_22_5, xp_22_3, pu_14, pu_28, w_bret r_Tp_readGroup, q_eq, q_ne, q_lt, q_ge, q_gt, q_le, g_I, g_L, g_R, g_V, t_0, t_I, t_R, t_U, t_L, t_s, List.getElem?_cons_zero, List.getElem?_cons_succ, Nat.reduceAdd, zif10, zif01b, zib, if_pos, if_neg, ↓reduceIte, not_true_eq_false, not_false_eq_true, Bool.true_eq_false, Bool.false_eq_true, Classical.not_not, eq_self, and_self, and_true, true_and, Int.reduceEq, Int.reduceLE, Int.reduceLT, Int.reduceNeg, Option.toList, List.cons_append, List.nil_append, zup_s, zup_n, zst_s, zup_zs, zup_zn, decide_true, decide_false, e]
      exact ⟨fun _ => trivial, fun z => z.elim⟩
    · obtain ⟨rfl, rfl⟩ := a2 e
      simp (disch := first | omega | exact Nat.le_of_ble_eq_true rfl | assumption | (simp only [Int.natCast_add, Int.natCast_mul, Int.cast_ofNat_Int]; omega) | decide) only [x_aload, w_dupI, w_dupR, x_getf, w_goto, w_fall, w_iadd, w_iconst, w_icmp, x_iinc, x_iload, w_ior, w_ishl, x_istore, w_isub, zadd_eq, zsub_eq, gf_10_5, gf_24_5, gf_22_1, gf_22_3, gf_22_5, xp_22_3, pu_14, pu_28, w_bret r_Tp_readGroup, q_eq, q_ne, q_lt, q_ge, q_gt, q_le, g_I, g_L, g_R, g_V, t_0, t_I, t_R, t_U, t_L, t_s, List.getElem?_cons_zero, List.getElem?_cons_succ, Nat.reduceAdd, zif10, zif01b, zib, if_pos, if_neg, ↓reduceIte, not_true_eq_false, not_false_eq_true, Bool.true_eq_false, Bool.false_eq_true, Classical.not_not, eq_self, and_self, and_true, true_and, Int.reduceEq, Int.reduceLE, Int.reduceLT, Int.reduceNeg, Option.toList, List.cons_append, List.nil_append, zup_s, zup_n, zst_s, zup_zs, zup_zn, decide_true, decide_false]
      exact ⟨fun z => absurd z e, fun _ => trivial⟩
  simp (disch := first | omega | exact Nat.le_of_ble_eq_true rfl | assumption | (simp only [Int.natCast_add, Int.natCast_mul, Int.cast_ofNat_Int]; omega) | decide) only [x_aload, w_dupI, w_dupR, x_getf, w_goto, w_fall, w_iadd, w_iconst, w_icmp, x_iinc, x_iload, w_ior, w_ishl, x_istore, w_isub, zadd_eq, zsub_eq, gf_10_5, gf_24_5, gf_22_1, gf_22_3, gf_22_5, xp_22_3, pu_14, pu_28, w_bret r_Tp_readGroup, q_eq, q_ne, q_lt, q_ge, q_gt, q_le, g_I, g_L, g_R, g_V, t_0, t_I, t_R, t_U, t_L, t_s, List.getElem?_cons_zero, List.getElem?_cons_succ, Nat.reduceAdd, zif10, zif01b, zib, if_pos, if_neg, ↓reduceIte, not_true_eq_false, not_false_eq_true, Bool.true_eq_false, Bool.false_eq_true, Classical.not_not, eq_self, and_self, and_true, true_and, Int.reduceEq, Int.reduceLE, Int.reduceLT, Int.reduceNeg, Option.toList, List.cons_append, List.nil_append, zup_s, zup_n, zst_s, zup_zs, zup_zn, decide_true, decide_false]
  refine zfor (a := 0) (N := 4) (b := 1) (fun t L0 M0 => ∃ pt l g v5, L0 = [zR 22, zI (k : Int), zI ((g : Nat) : Int), zI ((l : Nat) : Int), zI (t : Int), v5] ∧ M0 = zup M 22 3 ((pt : Nat) : Int) ∧ (pt ≤ q ∧ g < 2 ^ l ∧ l ≤ P ∧ zGd q P tb (4 - t) pt l g = G)) ?_ ?_ ?_ ?_
  · exact Nat.zero_le _
  · exact ⟨p, 0, 0, zU, rfl, (zup_self hp).symm, hpq, by decide, Nat.zero_le _, hG⟩
  · rintro t _ _ _ ht ⟨pt, l, g, v5, rfl, rfl, h1, h2, h3, h4⟩ ih
    have hT2 : zTpC q tb (zup M 22 3 (pt : Int)) := hT
    have hp2 : zup M 22 3 (pt : Int) 22 3 = (pt : Int) := rfl
    have hP2 : M 22 5 = (P : Int) := hP
    rw [show 4 - t = (4 - (t + 1)) + 1 by omega] at h4
    unfold zGd at h4
    rw [k_Tp_readGroup_1]
    by_cases c1 : 48 + l ≤ zNc q tb pt ∧ zNc q tb pt < 48 + P
    · rw [if_pos c1] at h4
      have hlt := zNc_lt (q := q) (tb := tb) (p := pt) (by omega)
      have hv : zHc q tb pt = (zNc q tb pt : Int) := by
        rcases zHc_v q tb pt with h | h
        · omega
        · exact h.1
      generalize zNc q tb pt = c at *
      obtain ⟨x, rfl⟩ : ∃ x, c = 48 + x := ⟨c - 48, by omega⟩
      rw [show 48 + x - 48 = x by omega] at h4
      have e1 : ((48 + x : Nat) : Int) - 48 = (x : Int) := by omega
      have hgx : g < 2 ^ x := Nat.lt_of_lt_of_le h2 (Nat.pow_le_pow_right (by omega) (by omega))
      simp (disch := first | omega | exact Nat.le_of_ble_eq_true rfl | assumption | (simp only [Int.natCast_add, Int.natCast_mul, Int.cast_ofNat_Int]; omega) | decide) only [k_Tp_readGroup_2, k_Tp_readGroup_3, k_Tp_readGroup_5, x_aload, w_dupI, w_dupR, x_getf, w_goto, w_fall, w_iadd, w_iconst, w_icmp, x_iinc, x_iload, w_ior, w_ishl, x_istore, w_isub, zadd_eq, zsub_eq, gf_10_5, gf_24_5, gf_22_1, gf_22_3, gf_22_5, xp_22_3, pu_14, pu_28, w_bret r_Tp_readGroup, q_eq, q_ne, q_lt, q_ge, q_gt, q_le, g_I, g_L, g_R, g_V, t_0, t_I, t_R, t_U, t_L, t_s, List.getElem?_cons_zero, List.getElem?_cons_succ, Nat.reduceAdd, zif10, zif01b, zib, if_pos, if_neg, ↓reduceIte, not_true_eq_false, not_false_eq_true, Bool.true_eq_false, Bool.false_eq_true, Classical.not_not, eq_self, and_self, and_true, true_and, Int.reduceEq, Int.reduceLE, Int.reduceLT, Int.reduceNeg, Option.toList, List.cons_append, List.nil_append, zup_s, zup_n, zst_s, zup_zs, zup_zn, decide_true, decide_false, c_Tp_here hT2 hq hp2 h1, hv, zsub_eq, e1, hP2, zor_pw hgx (show x ≤ 20 by omega), zup_up, zup_d]
      refine ih _ _ ⟨zNp q tb pt + 1, x + 1, g + 2 ^ x, _, rfl, ?_, by omega, ?_, by omega, h4⟩
      · rw [show ((zNp q tb pt + 1 : Nat) : Int) = (zNp q tb pt : Int) + 1 by omega]
      · rw [Nat.pow_succ]; omega
    · rw [if_neg c1] at h4
      have f1 : zNp q tb (zNp q tb pt) = G.1 := by rw [zNp_id, ← h4]
      have f2 : g = G.2 := by rw [← h4]
      have hnp := zNp_le (tb := tb) h1
      rcases zHc_v q tb pt with ⟨z1, z2, z3⟩ | ⟨z1, z2⟩
      · have e1 : (-1 : Int) - 48 = -49 := by omega
        have e2 : ¬ ((l : Int) ≤ -49) := by omega
        simp (disch := first | omega | exact Nat.le_of_ble_eq_true rfl | assumption | (simp only [Int.natCast_add, Int.natCast_mul, Int.cast_ofNat_Int]; omega) | decide) only [k_Tp_readGroup_2, x_aload, w_dupI, w_dupR, x_getf, w_goto, w_fall, w_iadd, w_iconst, w_icmp, x_iinc, x_iload, w_ior, w_ishl, x_istore, w_isub, zadd_eq, zsub_eq, gf_10_5, gf_24_5, gf_22_1, gf_22_3, gf_22_5, xp_22_3, pu_14, pu_28, w_bret r_Tp_readGroup, q_eq, q_ne, q_lt, q_ge, q_gt, q_le, g_I, g_L, g_R, g_V, t_0, t_I, t_R, t_U, t_L, t_s, List.getElem?_cons_zero, List.getElem?_cons_succ, Nat.reduceAdd, zif10, zif01b, zib, if_pos, if_neg, ↓reduceIte, not_true_eq_false, not_false_eq_true, Bool.true_eq_false, Bool.false_eq_true, Classical.not_not, eq_self, and_self, and_true, true_and, Int.reduceEq, Int.reduceLE, Int.reduceLT, Int.reduceNeg, Option.toList, List.cons_append, List.nil_append, zup_s, zup_n, zst_s, zup_zs, zup_zn, decide_true, decide_false, c_Tp_here hT2 hq hp2 h1, z1, zsub_eq, e1, e2, zup_up]
        exact fin _ _ _ _ _ f1 f2 hnp
      · by_cases c2 : 48 + l ≤ zNc q tb pt
        · have hb := zNc_126 htb pt
          have e2 : (l : Int) ≤ (zNc q tb pt : Int) - 48 := by omega
          have e3 : ¬ ((zNc q tb pt : Int) - 48 < (P : Int)) := by omega
          simp (disch := first | omega | exact Nat.le_of_ble_eq_true rfl | assumption | (simp only [Int.natCast_add, Int.natCast_mul, Int.cast_ofNat_Int]; omega) | decide) only [k_Tp_readGroup_2, k_Tp_readGroup_3, k_Tp_readGroup_4, x_aload, w_dupI, w_dupR, x_getf, w_goto, w_fall, w_iadd, w_iconst, w_icmp, x_iinc, x_iload, w_ior, w_ishl, x_istore, w_isub, zadd_eq, zsub_eq, gf_10_5, gf_24_5, gf_22_1, gf_22_3, gf_22_5, xp_22_3, pu_14, pu_28, w_bret r_Tp_readGroup, q_eq, q_ne, q_lt, q_ge, q_gt, q_le, g_I, g_L, g_R, g_V, t_0, t_I, t_R, t_U, t_L, t_s, List.getElem?_cons_zero, List.getElem?_cons_succ, Nat.reduceAdd, zif10, zif01b, zib, if_pos, if_neg, ↓reduceIte, not_true_eq_false, not_false_eq_true, Bool.true_eq_false, Bool.false_eq_true, Classical.not_not, eq_self, and_self, and_true, true_and, Int.reduceEq, Int.reduceLE, Int.reduceLT, Int.reduceNeg, Option.toList, List.cons_append, List.nil_append, zup_s, zup_n, zst_s, zup_zs, zup_zn, decide_true, decide_false, c_Tp_here hT2 hq hp2 h1, z1, zsub_eq, e2, e3, zup_up, zup_d, hP2]
          exact fin _ _ _ _ _ f1 f2 hnp
        · have e2 : ¬ ((l : Int) ≤ (zNc q tb pt : Int) - 48) := by omega
          simp (disch := first | omega | exact Nat.le_of_ble_eq_true rfl | assumption | (simp only [Int.natCast_add, Int.natCast_mul, Int.cast_ofNat_Int]; omega) | decide) only [k_Tp_readGroup_2, x_aload, w_dupI, w_dupR, x_getf, w_goto, w_fall, w_iadd, w_iconst, w_icmp, x_iinc, x_iload, w_ior, w_ishl, x_istore, w_isub, zadd_eq, zsub_eq, gf_10_5, gf_24_5, gf_22_1, gf_22_3, gf_22_5, xp_22_3, pu_14, pu_28, w_bret r_Tp_readGroup, q_eq, q_ne, q_lt, q_ge, q_gt, q_le, g_I, g_L, g_R, g_V, t_0, t_I, t_R, t_U, t_L, t_s, List.getElem?_cons_zero, List.getElem?_cons_succ, Nat.reduceAdd, zif10, zif01b, zib, if_pos, if_neg, ↓reduceIte, not_true_eq_false, not_false_eq_true, Bool.true_eq_false, Bool.false_eq_true, Classical.not_not, eq_self, and_self, and_true, true_and, Int.reduceEq, Int.reduceLE, Int.reduceLT, Int.reduceNeg, Option.toList, List.cons_append, List.nil_append, zup_s, zup_n, zst_s, zup_zs, zup_zn, decide_true, decide_false, c_Tp_here hT2 hq hp2 h1, z1, zsub_eq, e2, zup_up]
          exact fin _ _ _ _ _ f1 f2 hnp
  · rintro _ _ ⟨pt, l, g, v5, rfl, rfl, h1, h2, h3, h4⟩
    have h4 : (zNp q tb pt, g) = G := h4
    rw [k_Tp_readGroup_1]
    simp (disch := first | omega | exact Nat.le_of_ble_eq_true rfl | assumption | (simp only [Int.natCast_add, Int.natCast_mul, Int.cast_ofNat_Int]; omega) | decide) only [x_aload, w_dupI, w_dupR, x_getf, w_goto, w_fall, w_iadd, w_iconst, w_icmp, x_iinc, x_iload, w_ior, w_ishl, x_istore, w_isub, zadd_eq, zsub_eq, gf_10_5, gf_24_5, gf_22_1, gf_22_3, gf_22_5, xp_22_3, pu_14, pu_28, w_bret r_Tp_readGroup, q_eq, q_ne, q_lt, q_ge, q_gt, q_le, g_I, g_L, g_R, g_V, t_0, t_I, t_R, t_U, t_L, t_s, List.getElem?_cons_zero, List.getElem?_cons_succ, Nat.reduceAdd, zif10, zif01b, zib, if_pos, if_neg, ↓reduceIte, not_true_eq_false, not_false_eq_true, Bool.true_eq_false, Bool.false_eq_true, Classical.not_not, eq_self, and_self, and_true, true_and, Int.reduceEq, Int.reduceLE, Int.reduceLT, Int.reduceNeg, Option.toList, List.cons_append, List.nil_append, zup_s, zup_n, zst_s, zup_zs, zup_zn, decide_true, decide_false]
    exact fin _ _ _ _ _ (by rw [← h4]) (by rw [← h4]) h1
theorem c_Tp_readGroup {d mi o b9 : Nat} {es : List zEnt} {L st : List zMV} {Q : Option zMV → (Nat → Int → Int) → Prop} {p k : Nat} (hT : zTpC q tb M) (hq : q ≤ 100) (hP : M 22 5 = P) (hP4 : P ≤ 4) (hp : M 22 3 = p) (hpq : p ≤ q) (hk : k < 24) (htb : ∀ j, j < q → 32 ≤ tb j ∧ tb j ≤ 126) (hd : 3 + 1 ≤ d) (hc : zcats st ≤ 8) (hpost : ∀ r M', ((zNc q tb (zGd q P tb 4 p 0 0).1 = 62 → r = some (zI 1) ∧ M' = zup (zup M 28 k ((zGd q P tb 4 p 0 0).2 : Int)) 22 3 ((zNp q tb (zGd q P tb 4 p 0 0).1 + 1 : Nat) : Int)) ∧ (¬ zNc q tb (zGd q P tb 4 p 0 0).1 = 62 → r = some (zI 0) ∧ M' = zup (zup (zup M 28 k ((zGd q P tb 4 p 0 0).2 : Int)) 22 3 (zNp q tb (zGd q P tb 4 p 0 0).1 : Int)) 22 4 (zNp q tb (zGd q P tb 4 p 0 0).1 : Int))) → zW (zSH Ln) d mi es L (r.toList ++ st) M' Q) : zW (zSH Ln) d mi ((.invokevirtual o, 81, b9) :: es) L (zI (k : Int) :: zR 22 :: st) M Q :=
  w_callv (ps := [zI (k : Int)]) (by omega) rfl rfl (by omega) (by exact sh_22 Ln) hc (Nat.le_of_ble_eq_true rfl) (F_Tp_readGroup hT hq hP hP4 hp hpq hk htb (by omega)) hpost
end TP
