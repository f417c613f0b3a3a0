/-! the class's face: form -/
def zqT (q P : Nat) (tb : Nat → Nat) : Nat ⊕ List zqP := match zqF q P tb 25 0 0 with
  | .inl e => .inl e
  | .inr (p, l) => if zNp q tb p < q then .inl (zNp q tb p) else .inr l
def zFoR (res : Nat ⊕ List zqP) : Int := match res with
  | .inl e => -20 - (e : Int)
  | .inr l => (l.length : Int)
def zqd (l : List zqP) (k : Nat) : Nat := (l.getD k (0, 0, 0, 0)).1
def zql (l : List zqP) (k : Nat) : Nat := (l.getD k (0, 0, 0, 0)).2.1
def zqr (l : List zqP) (k : Nat) : Nat := (l.getD k (0, 0, 0, 0)).2.2.1
def zqg (l : List zqP) (k : Nat) : Nat := (l.getD k (0, 0, 0, 0)).2.2.2
theorem zqT_l {q P : Nat} {tb : Nat → Nat} {e : Nat} (h : zqT q P tb = .inl e) : e ≤ q := by
  have hg := zqF_g (q := q) (P := P) (tb := tb) 25 0 0 (Nat.zero_le _) (Nat.zero_le _)
  unfold zqT at h
  cases e1 : zqF q P tb 25 0 0 with
  | inl e2 =>
    rw [e1] at h hg
    cases h
    exact hg
  | inr y =>
    obtain ⟨p, l⟩ := y
    rw [e1] at h hg
    have h : (if zNp q tb p < q then .inl (zNp q tb p) else .inr l : Nat ⊕ List zqP) = .inl e := h
    split at h
    · cases h; omega
    · cases h
theorem zqT_r {q P : Nat} {tb : Nat → Nat} {l : List zqP} (h : zqT q P tb = .inr l) : zForm P l.length (zqd l) (zql l) (zqr l) (zqg l) := by
  have hg := zqF_g (q := q) (P := P) (tb := tb) 25 0 0 (Nat.zero_le _) (Nat.zero_le _)
  unfold zqT at h
  cases e1 : zqF q P tb 25 0 0 with
  | inl e2 =>
    rw [e1] at h
    cases h
  | inr y =>
    obtain ⟨p, l2⟩ := y
    rw [e1] at h hg
    have h : (if zNp q tb p < q then .inl (zNp q tb p) else .inr l2 : Nat ⊕ List zqP) = .inr l := h
    split at h
    · cases h
    · cases h
      obtain ⟨_, _, h3, h4, h5⟩ := hg
      refine ⟨h3, by omega, fun k hk => ?_⟩
      have := zqWL_at l 0 k h5 hk
      rw [Nat.zero_add, Nat.zero_add] at this
      exact this
section TP
variable {Ln q P : Nat} {tb : Nat → Nat} {M : Nat → Int → Int}
set_option maxHeartbeats 20000000 in
theorem F_Tp_understand {d : Nat} (hT : zTpC q tb M) (hq : q ≤ 100) (hP4 : P ≤ 4) (htb : ∀ j, j < q → 32 ≤ tb j ∧ tb j ≤ 126) (hd : 80 ≤ d) : zF (zSH Ln) d i_Tp_understand [zR 22, zI (P : Int)] M fun r M' => r = some (zI (match zqT q P tb with | .inl e => -20 - (e : Int) | .inr _ => 0)) ∧ zKp [22, 24, 25, 26, 27, 28] M M' ∧ M' 22 2 = 0 ∧ ∀ l, zqT q P tb = .inr l → M' 24 0 = (l.length : Int) ∧ zHoldL 0 l M' := by
  rw [zF_en k_Tp_understand_0 (L := [zR 22, zI (P : Int)]) rfl]
  generalize hres : zqT q P tb = res
  have hM0 : ∀ (v : Int), zTpC q tb (zup (zup (zup (zup (zup M 22 5 (P : Int)) 22 3 0) 22 4 (-1)) 24 0 0) 24 1 v) := fun v => hT
  have hl := fun e => zqT_l (q := q) (P := P) (tb := tb) (e := e)
  rw [hres] at hl
  have hG := zqF_g (q := q) (P := P) (tb := tb) 25 0 0 (Nat.zero_le _) (Nat.zero_le _)
  unfold zqT at hres
  have fin : ∀ (M2 : Nat → Int → Int) (ft : Int), M2 22 4 = ft → zKp [22, 24, 25, 26, 27, 28] M M2 → (res = .inr [] ∨ True) → (match res with | .inl e => ft = (e : Int) | .inr l => ft = -1 ∧ M2 24 0 = (l.length : Int) ∧ zHoldL 0 l M2) → zW (zSH Ln) d i_Tp_understand (zblk i_Tp_understand 3) [zR 22, zI (P : Int)] [] M2 fun r M' => r = some (zI (match res with | .inl e => -20 - (e : Int) | .inr _ => 0)) ∧ zKp [22, 24, 25, 26, 27, 28] M M' ∧ M' 22 2 = 0 ∧ ∀ l, res = .inr l → M' 24 0 = (l.length : Int) ∧ zHoldL 0 l M' := by
    intro M2 ft h4 hk _ hr
    have h4' : zup M2 22 2 0 22 4 = ft := by rw [zup_d (by omega)]; exact h4
    rw [k_Tp_understand_3]
    cases res with
    | inl e =>
      have hr : ft = (e : Int) := hr
      subst hr
      have he := hl e rfl
      simp (disch := first | omega | exact Nat.le_of_ble_eq_true rfl | assumption | (simp only [Int.natCast_add, Int.natCast_mul, Int.cast_ofNat_Int]; omega) | decide) only [k_Tp_understand_5, k_Tp_understand_6, x_aload, x_getf, w_goto, w_fall, w_iconst, w_if, w_icmp, x_iload, w_isub, w_pop, zsub_eq, gf_22_1, gf_22_4, xp_22_2, xp_22_3, xp_22_4, xp_22_5, w_nret r_Tp_understand, q_eq, q_ne, q_lt, q_ge, q_gt, q_le, g_I, g_L, g_R, g_V, t_0, t_I, t_R, t_U, t_L, t_s, List.getElem?_cons_zero, List.getElem?_cons_succ, Nat.reduceAdd, zif10, zif01b, zib, if_pos, if_neg, ↓reduceIte, not_true_eq_false, not_false_eq_true, Bool.true_eq_false, Bool.false_eq_true, Classical.not_not, eq_self, and_self, and_true, true_and, Int.reduceEq, Int.reduceLE, Int.reduceLT, Int.reduceNeg, Option.toList, List.cons_append, List.nil_append, zup_s, zup_n, zst_s, zup_zs, zup_zn, decide_true, decide_false, h4', zsub_eq]
      exact ⟨zKp_up (by decide) hk, fun l h => by cases h⟩
    | inr l =>
      obtain ⟨rfl, h5, h6⟩ : ft = -1 ∧ M2 24 0 = (l.length : Int) ∧ zHoldL 0 l M2 := hr
      simp (disch := first | omega | exact Nat.le_of_ble_eq_true rfl | assumption | (simp only [Int.natCast_add, Int.natCast_mul, Int.cast_ofNat_Int]; omega) | decide) only [k_Tp_understand_4, k_Tp_understand_6, x_aload, x_getf, w_goto, w_fall, w_iconst, w_if, w_icmp, x_iload, w_isub, w_pop, zsub_eq, gf_22_1, gf_22_4, xp_22_2, xp_22_3, xp_22_4, xp_22_5, w_nret r_Tp_understand, q_eq, q_ne, q_lt, q_ge, q_gt, q_le, g_I, g_L, g_R, g_V, t_0, t_I, t_R, t_U, t_L, t_s, List.getElem?_cons_zero, List.getElem?_cons_succ, Nat.reduceAdd, zif10, zif01b, zib, if_pos, if_neg, ↓reduceIte, not_true_eq_false, not_false_eq_true, Bool.true_eq_false, Bool.false_eq_true, Classical.not_not, eq_self, and_self, and_true, true_and, Int.reduceEq, Int.reduceLE, Int.reduceLT, Int.reduceNeg, Option.toList, List.cons_append, List.nil_append, zup_s, zup_n, zst_s, zup_zs, zup_zn, decide_true, decide_false, h4']
      refine ⟨zKp_up (by decide) hk, fun l2 h => ?_⟩
      cases h
      exact ⟨h5, zHoldL_k l 0 h6 zSame_np⟩
  simp (disch := first | omega | exact Nat.le_of_ble_eq_true rfl | assumption | (simp only [Int.natCast_add, Int.natCast_mul, Int.cast_ofNat_Int]; omega) | decide) only [x_aload, x_getf, w_goto, w_fall, w_iconst, w_if, w_icmp, x_iload, w_isub, w_pop, zsub_eq, gf_22_1, gf_22_4, xp_22_2, xp_22_3, xp_22_4, xp_22_5, w_nret r_Tp_understand, q_eq, q_ne, q_lt, q_ge, q_gt, q_le, g_I, g_L, g_R, g_V, t_0, t_I, t_R, t_U, t_L, t_s, List.getElem?_cons_zero, List.getElem?_cons_succ, Nat.reduceAdd, zif10, zif01b, zib, if_pos, if_neg, ↓reduceIte, not_true_eq_false, not_false_eq_true, Bool.true_eq_false, Bool.false_eq_true, Classical.not_not, eq_self, and_self, and_true, true_and, Int.reduceEq, Int.reduceLE, Int.reduceLT, Int.reduceNeg, Option.toList, List.cons_append, List.nil_append, zup_s, zup_n, zst_s, zup_zs, zup_zn, decide_true, decide_false, c_Fo_clear24]
  have hk0 : ∀ v, zKp [22, 24, 25, 26, 27, 28] M (zup (zup (zup (zup (zup M 22 5 (P : Int)) 22 3 0) 22 4 (-1)) 24 0 0) 24 1 v) := fun v => zKp_up (by decide) (zKp_up (by decide) (zKp_up (by decide) (zKp_up (by decide) (zKp_up (by decide) (zKp_rf _ _)))))
  generalize zadd (M 24 1) 1 = v24 at *
  refine w_callv (ps := [zI 0]) (by omega) rfl rfl (by omega) (sh_22 Ln) (Nat.le_of_ble_eq_true rfl) (Nat.le_of_ble_eq_true rfl) (F_Tp_readForm hq hP4 htb 25 _ 0 0 0 _ (hM0 v24) rfl rfl (Nat.zero_le _) rfl (by omega) (by omega) (by omega) (by omega) (by omega)) ?_
  intro r M1 h1
  cases e1 : zqF q P tb 25 0 0 with
  | inl e =>
    rw [e1] at h1 hres
    obtain ⟨rfl, hfa⟩ : r = some (zI 0) ∧ zFaT e _ M1 := h1
    have hres : (.inl e : Nat ⊕ List zqP) = res := hres
    subst hres
    simp (disch := first | omega | exact Nat.le_of_ble_eq_true rfl | assumption | (simp only [Int.natCast_add, Int.natCast_mul, Int.cast_ofNat_Int]; omega) | decide) only [x_aload, x_getf, w_goto, w_fall, w_iconst, w_if, w_icmp, x_iload, w_isub, w_pop, zsub_eq, gf_22_1, gf_22_4, xp_22_2, xp_22_3, xp_22_4, xp_22_5, w_nret r_Tp_understand, q_eq, q_ne, q_lt, q_ge, q_gt, q_le, g_I, g_L, g_R, g_V, t_0, t_I, t_R, t_U, t_L, t_s, List.getElem?_cons_zero, List.getElem?_cons_succ, Nat.reduceAdd, zif10, zif01b, zib, if_pos, if_neg, ↓reduceIte, not_true_eq_false, not_false_eq_true, Bool.true_eq_false, Bool.false_eq_true, Classical.not_not, eq_self, and_self, and_true, true_and, Int.reduceEq, Int.reduceLE, Int.reduceLT, Int.reduceNeg, Option.toList, List.cons_append, List.nil_append, zup_s, zup_n, zst_s, zup_zs, zup_zn, decide_true, decide_false]
    exact fin M1 _ rfl (zKp_tr (hk0 v24) hfa.1) (Or.inr trivial) hfa.2.2
  | inr y =>
    obtain ⟨p1, l1⟩ := y
    rw [e1] at h1 hres hG
    dsimp only at hres
    obtain ⟨rfl, ho1, hl1⟩ : r = some (zI 1) ∧ zOkT 0 p1 (0 + l1.length) _ M1 ∧ zHoldL 0 l1 M1 := h1
    have hp1 : M1 22 3 = p1 := ho1.2.2.1
    have hp1q : p1 ≤ q := hG.2.1
    have hT1 := zOkT_tp (hM0 v24) ho1
    have ho2 := zOkT_np ho1 (zNp q tb p1)
    by_cases hlt : zNp q tb p1 < q
    · rw [if_pos hlt] at hres
      subst hres
      have hv : ¬ zHc q tb p1 = -1 := by unfold zHc; rw [if_pos hlt]; omega
      simp (disch := first | omega | exact Nat.le_of_ble_eq_true rfl | assumption | (simp only [Int.natCast_add, Int.natCast_mul, Int.cast_ofNat_Int]; omega) | decide) only [k_Tp_understand_1, k_Tp_understand_2, x_aload, x_getf, w_goto, w_fall, w_iconst, w_if, w_icmp, x_iload, w_isub, w_pop, zsub_eq, gf_22_1, gf_22_4, xp_22_2, xp_22_3, xp_22_4, xp_22_5, w_nret r_Tp_understand, q_eq, q_ne, q_lt, q_ge, q_gt, q_le, g_I, g_L, g_R, g_V, t_0, t_I, t_R, t_U, t_L, t_s, List.getElem?_cons_zero, List.getElem?_cons_succ, Nat.reduceAdd, zif10, zif01b, zib, if_pos, if_neg, ↓reduceIte, not_true_eq_false, not_false_eq_true, Bool.true_eq_false, Bool.false_eq_true, Classical.not_not, eq_self, and_self, and_true, true_and, Int.reduceEq, Int.reduceLE, Int.reduceLT, Int.reduceNeg, Option.toList, List.cons_append, List.nil_append, zup_s, zup_n, zst_s, zup_zs, zup_zn, decide_true, decide_false, c_Tp_here hT1 hq hp1 hp1q, hv, c_Tp_refuse]
      exact fin _ _ rfl (zKp_tr (hk0 v24) (zOkT_fa ho2).1) (Or.inr trivial) (zOkT_fa ho2).2.2
    · rw [if_neg hlt] at hres
      subst hres
      have hv : zHc q tb p1 = -1 := by unfold zHc; rw [if_neg hlt]
      simp (disch := first | omega | exact Nat.le_of_ble_eq_true rfl | assumption | (simp only [Int.natCast_add, Int.natCast_mul, Int.cast_ofNat_Int]; omega) | decide) only [k_Tp_understand_1, x_aload, x_getf, w_goto, w_fall, w_iconst, w_if, w_icmp, x_iload, w_isub, w_pop, zsub_eq, gf_22_1, gf_22_4, xp_22_2, xp_22_3, xp_22_4, xp_22_5, w_nret r_Tp_understand, q_eq, q_ne, q_lt, q_ge, q_gt, q_le, g_I, g_L, g_R, g_V, t_0, t_I, t_R, t_U, t_L, t_s, List.getElem?_cons_zero, List.getElem?_cons_succ, Nat.reduceAdd, zif10, zif01b, zib, if_pos, if_neg, ↓reduceIte, not_true_eq_false, not_false_eq_true, Bool.true_eq_false, Bool.false_eq_true, Classical.not_not, eq_self, and_self, and_true, true_and, Int.reduceEq, Int.reduceLE, Int.reduceLT, Int.reduceNeg, Option.toList, List.cons_append, List.nil_append, zup_s, zup_n, zst_s, zup_zs, zup_zn, decide_true, decide_false, c_Tp_here hT1 hq hp1 hp1q, hv]
      refine fin _ _ rfl (zKp_tr (hk0 v24) ho2.1) (Or.inr trivial) ⟨ho2.2.1.2.2.trans rfl, ?_, zHoldL_k l1 0 hl1 zSame_np⟩
      have := ho2.2.2.2.1
      rw [Nat.zero_add] at this
      exact this
theorem c_Tp_understand {d mi o b9 : Nat} {es : List zEnt} {L st : List zMV} {Q : Option zMV → (Nat → Int → Int) → Prop} (hT : zTpC q tb M) (hq : q ≤ 100) (hP4 : P ≤ 4) (htb : ∀ j, j < q → 32 ≤ tb j ∧ tb j ≤ 126) (hd : 80 + 1 ≤ d) (hc : zcats st ≤ 8) (hpost : ∀ r M', (r = some (zI (match zqT q P tb with | .inl e => -20 - (e : Int) | .inr _ => 0)) ∧ zKp [22, 24, 25, 26, 27, 28] M M' ∧ M' 22 2 = 0 ∧ ∀ l, zqT q P tb = .inr l → M' 24 0 = (l.length : Int) ∧ zHoldL 0 l M') → zW (zSH Ln) d mi es L (r.toList ++ st) M' Q) : zW (zSH Ln) d mi ((.invokevirtual o, 76, b9) :: es) L (zI (P : Int) :: zR 22 :: st) M Q :=
  w_callv (ps := [zI (P : Int)]) (by omega) rfl rfl (by omega) (by exact sh_22 Ln) hc (Nat.le_of_ble_eq_true rfl) (F_Tp_understand hT hq hP4 htb (by omega)) hpost
theorem F_Fo_become {d : Nat} {m : Nat} (hm : M 24 0 = m) (hm2 : m ≤ 24) (hd : 2 ≤ d) : zF (zSH Ln) d i_Fo_become [zR 10, zR 24] M fun r M' => r = none ∧ zKp [10, 11, 12, 13, 14] M M' ∧ M' 10 0 = m ∧ M' 10 1 = zadd (M 10 1) 1 ∧ ∀ k : Nat, k < m → M' 11 k = M 25 k ∧ M' 12 k = M 26 k ∧ M' 13 k = M 27 k ∧ M' 14 k = M 28 k := by
  rw [zF_en k_Fo_become_0 (L := [zR 10, zR 24, zU]) rfl]
  simp (disch := first | omega | exact Nat.le_of_ble_eq_true rfl | assumption | (simp only [Int.natCast_add, Int.natCast_mul, Int.cast_ofNat_Int]; omega) | decide) only [x_aload, x_getf, w_goto, w_fall, w_iconst, w_icmp, x_iinc, x_iload, x_istore, zadd_eq, gf_10_0, w_vret r_Fo_become, q_eq, q_ne, q_lt, q_ge, q_gt, q_le, g_I, g_L, g_R, g_V, t_0, t_I, t_R, t_U, t_L, t_s, List.getElem?_cons_zero, List.getElem?_cons_succ, Nat.reduceAdd, zif10, zif01b, zib, if_pos, if_neg, ↓reduceIte, not_true_eq_false, not_false_eq_true, Bool.true_eq_false, Bool.false_eq_true, Classical.not_not, eq_self, and_self, and_true, true_and, Int.reduceEq, Int.reduceLE, Int.reduceLT, Int.reduceNeg, Option.toList, List.cons_append, List.nil_append, zup_s, zup_n, zst_s, zup_zs, zup_zn, decide_true, decide_false, c_Fo_clear]
  refine zfor (a := 0) (N := m) (b := 1) (fun t L0 M0 => ∃ M2, L0 = [zR 10, zR 24, zI (t : Int)] ∧ M0 = M2 ∧ (zKp [10, 11, 12, 13, 14] M M2 ∧ M2 10 0 = (t : Int) ∧ M2 10 1 = zadd (M 10 1) 1 ∧ ∀ k : Nat, k < t → M2 11 k = M 25 k ∧ M2 12 k = M 26 k ∧ M2 13 k = M 27 k ∧ M2 14 k = M 28 k)) ?_ ?_ ?_ ?_
  · exact Nat.zero_le _
  · exact ⟨_, rfl, rfl, zKp_up (by decide) (zKp_up (by decide) (zKp_rf _ _)), rfl, zup_s _ _ _ _, fun k hk => by omega⟩
  · rintro t _ M2 _ ht ⟨_, rfl, rfl, hk, h0, h1, hr⟩ ih
    have h24 : M2 24 0 = (m : Int) := by rw [hk 24 (by decide)]; exact hm
    have e25 := hk 25 (by decide)
    have e26 := hk 26 (by decide)
    have e27 := hk 27 (by decide)
    have e28 := hk 28 (by decide)
    rw [k_Fo_become_1]
    simp (disch := first | omega | exact Nat.le_of_ble_eq_true rfl | assumption | (simp only [Int.natCast_add, Int.natCast_mul, Int.cast_ofNat_Int]; omega) | decide) only [k_Fo_become_2, x_aload, x_getf, w_goto, w_fall, w_iconst, w_icmp, x_iinc, x_iload, x_istore, zadd_eq, gf_10_0, w_vret r_Fo_become, q_eq, q_ne, q_lt, q_ge, q_gt, q_le, g_I, g_L, g_R, g_V, t_0, t_I, t_R, t_U, t_L, t_s, List.getElem?_cons_zero, List.getElem?_cons_succ, Nat.reduceAdd, zif10, zif01b, zib, if_pos, if_neg, ↓reduceIte, not_true_eq_false, not_false_eq_true, Bool.true_eq_false, Bool.false_eq_true, Classical.not_not, eq_self, and_self, and_true, true_and, Int.reduceEq, Int.reduceLE, Int.reduceLT, Int.reduceNeg, Option.toList, List.cons_append, List.nil_append, zup_s, zup_n, zst_s, zup_zs, zup_zn, decide_true, decide_false, gf_24_0, h24, c_Fo_group24, c_Fo_kind24, c_Fo_left24, c_Fo_right24, c_Fo_add h0 (show t < 24 by omega), c_Fo_set, e25, e26, e27, e28]
    refine ih _ _ ⟨_, rfl, rfl, zKp_up (by decide) (zKp_up (by decide) (zKp_up (by decide) (zKp_up (by decide) (zKp_up (by decide) hk)))), ?_, ?_, fun k h => ?_⟩
    · show (t : Int) + 1 = ((t + 1 : Nat) : Int)
      omega
    · exact h1
    · by_cases e : k = t
      · subst e
        refine ⟨?_, ?_, ?_, ?_⟩
        · rw [zup_n (by decide), zup_n (by decide), zup_s]
        · rw [zup_n (by decide), zup_s]
        · rw [zup_s]
        · rw [zup_n (by decide), zup_n (by decide), zup_n (by decide), zup_n (by decide), zup_s]
      · have hr := hr k (by omega)
        refine ⟨?_, ?_, ?_, ?_⟩
        · rw [zup_n (by decide), zup_n (by decide), zup_d (by omega)]; exact hr.1
        · rw [zup_n (by decide), zup_d (by omega)]; exact hr.2.1
        · rw [zup_d (by omega)]; exact hr.2.2.1
        · rw [zup_n (by decide), zup_n (by decide), zup_n (by decide), zup_n (by decide), zup_d (by omega)]; exact hr.2.2.2
  · rintro _ M2 ⟨_, rfl, rfl, hk, h0, h1, hr⟩
    have h24 : M2 24 0 = (m : Int) := by rw [hk 24 (by decide)]; exact hm
    rw [k_Fo_become_1]
    simp (disch := first | omega | exact Nat.le_of_ble_eq_true rfl | assumption | (simp only [Int.natCast_add, Int.natCast_mul, Int.cast_ofNat_Int]; omega) | decide) only [k_Fo_become_3, x_aload, x_getf, w_goto, w_fall, w_iconst, w_icmp, x_iinc, x_iload, x_istore, zadd_eq, gf_10_0, w_vret r_Fo_become, q_eq, q_ne, q_lt, q_ge, q_gt, q_le, g_I, g_L, g_R, g_V, t_0, t_I, t_R, t_U, t_L, t_s, List.getElem?_cons_zero, List.getElem?_cons_succ, Nat.reduceAdd, zif10, zif01b, zib, if_pos, if_neg, ↓reduceIte, not_true_eq_false, not_false_eq_true, Bool.true_eq_false, Bool.false_eq_true, Classical.not_not, eq_self, and_self, and_true, true_and, Int.reduceEq, Int.reduceLE, Int.reduceLT, Int.reduceNeg, Option.toList, List.cons_append, List.nil_append, zup_s, zup_n, zst_s, zup_zs, zup_zn, decide_true, decide_false, gf_24_0, h24]
    exact ⟨hk, h0, h1, hr⟩
theorem c_Fo_become {d mi o b9 : Nat} {es : List zEnt} {L st : List zMV} {Q : Option zMV → (Nat → Int → Int) → Prop} {m : Nat} (hm : M 24 0 = m) (hm2 : m ≤ 24) (hd : 2 + 1 ≤ d) (hc : zcats st ≤ 8) (hpost : ∀ r M', (r = none ∧ zKp [10, 11, 12, 13, 14] M M' ∧ M' 10 0 = m ∧ M' 10 1 = zadd (M 10 1) 1 ∧ ∀ k : Nat, k < m → M' 11 k = M 25 k ∧ M' 12 k = M 26 k ∧ M' 13 k = M 27 k ∧ M' 14 k = M 28 k) → zW (zSH Ln) d mi es L (r.toList ++ st) M' Q) : zW (zSH Ln) d mi ((.invokevirtual o, 6, b9) :: es) L (zR 24 :: zR 10 :: st) M Q :=
  w_callv (ps := [zR 24]) (by omega) rfl rfl (by omega) (by exact sh_10 Ln) hc (Nat.le_of_ble_eq_true rfl) (F_Fo_become hm hm2 (by omega)) hpost
set_option maxHeartbeats 20000000 in
theorem F_FN_form {d : Nat} (hT : zTpC q tb M) (hq : q ≤ 100) (hP4 : P ≤ 4) (hP : M 3 1 = P) (htb : ∀ j, j < q → 32 ≤ tb j ∧ tb j ≤ 126) (hd : 81 ≤ d) : zF (zSH Ln) d i_FN_form [zR 2] M fun r M' => r = some (zI (zFoR (zqT q P tb))) ∧ M' 22 2 = 0 ∧ (∀ e, zqT q P tb = .inl e → zKp [22, 24, 25, 26, 27, 28] M M') ∧ ∀ l, zqT q P tb = .inr l → zKp [10, 11, 12, 13, 14, 22, 24, 25, 26, 27, 28] M M' ∧ M' 10 1 = zadd (M 10 1) 1 ∧ zFormC l.length (zqd l) (zql l) (zqr l) (zqg l) M' := by
  rw [zF_en k_FN_form_0 (L := [zR 2, zU]) rfl]
  have hl := fun e => zqT_l (q := q) (P := P) (tb := tb) (e := e)
  have hr := fun l => zqT_r (q := q) (P := P) (tb := tb) (l := l)
  simp (disch := first | omega | exact Nat.le_of_ble_eq_true rfl | assumption | (simp only [Int.natCast_add, Int.natCast_mul, Int.cast_ofNat_Int]; omega) | decide) only [x_aload, x_getf, w_fall, w_if, x_iload, x_istore, gf_10_0, gf_24_0, gf_3_1, gf_22_1, gf_2_0, gf_2_1, gf_2_2, w_nret r_FN_form, q_eq, q_ne, q_lt, q_ge, q_gt, q_le, g_I, g_L, g_R, g_V, t_0, t_I, t_R, t_U, t_L, t_s, List.getElem?_cons_zero, List.getElem?_cons_succ, Nat.reduceAdd, zif10, zif01b, zib, if_pos, if_neg, ↓reduceIte, not_true_eq_false, not_false_eq_true, Bool.true_eq_false, Bool.false_eq_true, Classical.not_not, eq_self, and_self, and_true, true_and, Int.reduceEq, Int.reduceLE, Int.reduceLT, Int.reduceNeg, Option.toList, List.cons_append, List.nil_append, zup_s, zup_n, zst_s, zup_zs, zup_zn, decide_true, decide_false, hP]
  refine c_Tp_understand (q := q) (P := P) (tb := tb) hT hq hP4 htb (by omega) (Nat.le_of_ble_eq_true rfl) ?_
  rintro _ M1 ⟨rfl, hk, h22, hin⟩
  cases e1 : zqT q P tb with
  | inl e =>
    have he := hl e e1
    have hne : ¬ (-20 - (e : Int)) = 0 := by omega
    dsimp only
    simp (disch := first | omega | exact Nat.le_of_ble_eq_true rfl | assumption | (simp only [Int.natCast_add, Int.natCast_mul, Int.cast_ofNat_Int]; omega) | decide) only [k_FN_form_1, x_aload, x_getf, w_fall, w_if, x_iload, x_istore, gf_10_0, gf_24_0, gf_3_1, gf_22_1, gf_2_0, gf_2_1, gf_2_2, w_nret r_FN_form, q_eq, q_ne, q_lt, q_ge, q_gt, q_le, g_I, g_L, g_R, g_V, t_0, t_I, t_R, t_U, t_L, t_s, List.getElem?_cons_zero, List.getElem?_cons_succ, Nat.reduceAdd, zif10, zif01b, zib, if_pos, if_neg, ↓reduceIte, not_true_eq_false, not_false_eq_true, Bool.true_eq_false, Bool.false_eq_true, Classical.not_not, eq_self, and_self, and_true, true_and, Int.reduceEq, Int.reduceLE, Int.reduceLT, Int.reduceNeg, Option.toList, List.cons_append, List.nil_append, zup_s, zup_n, zst_s, zup_zs, zup_zn, decide_true, decide_false, hne]
    exact ⟨rfl, h22, fun _ _ => hk, fun l h => by cases h⟩
  | inr l =>
    obtain ⟨h24, hh⟩ := hin l e1
    have hF := hr l e1
    dsimp only
    simp (disch := first | omega | exact Nat.le_of_ble_eq_true rfl | assumption | (simp only [Int.natCast_add, Int.natCast_mul, Int.cast_ofNat_Int]; omega) | decide) only [k_FN_form_2, x_aload, x_getf, w_fall, w_if, x_iload, x_istore, gf_10_0, gf_24_0, gf_3_1, gf_22_1, gf_2_0, gf_2_1, gf_2_2, w_nret r_FN_form, q_eq, q_ne, q_lt, q_ge, q_gt, q_le, g_I, g_L, g_R, g_V, t_0, t_I, t_R, t_U, t_L, t_s, List.getElem?_cons_zero, List.getElem?_cons_succ, Nat.reduceAdd, zif10, zif01b, zib, if_pos, if_neg, ↓reduceIte, not_true_eq_false, not_false_eq_true, Bool.true_eq_false, Bool.false_eq_true, Classical.not_not, eq_self, and_self, and_true, true_and, Int.reduceEq, Int.reduceLE, Int.reduceLT, Int.reduceNeg, Option.toList, List.cons_append, List.nil_append, zup_s, zup_n, zst_s, zup_zs, zup_zn, decide_true, decide_false]
    refine c_Fo_become (m := l.length) h24 hF.2.1 (by omega) (Nat.le_of_ble_eq_true rfl) ?_
    rintro _ M2 ⟨rfl, hk2, h10, h101, hrow⟩
    simp (disch := first | omega | exact Nat.le_of_ble_eq_true rfl | assumption | (simp only [Int.natCast_add, Int.natCast_mul, Int.cast_ofNat_Int]; omega) | decide) only [x_aload, x_getf, w_fall, w_if, x_iload, x_istore, gf_10_0, gf_24_0, gf_3_1, gf_22_1, gf_2_0, gf_2_1, gf_2_2, w_nret r_FN_form, q_eq, q_ne, q_lt, q_ge, q_gt, q_le, g_I, g_L, g_R, g_V, t_0, t_I, t_R, t_U, t_L, t_s, List.getElem?_cons_zero, List.getElem?_cons_succ, Nat.reduceAdd, zif10, zif01b, zib, if_pos, if_neg, ↓reduceIte, not_true_eq_false, not_false_eq_true, Bool.true_eq_false, Bool.false_eq_true, Classical.not_not, eq_self, and_self, and_true, true_and, Int.reduceEq, Int.reduceLE, Int.reduceLT, Int.reduceNeg, Option.toList, List.cons_append, List.nil_append, zup_s, zup_n, zst_s, zup_zs, zup_zn, decide_true, decide_false, h10]
    have hk3 : zKp [10, 11, 12, 13, 14, 22, 24, 25, 26, 27, 28] M M2 := zKp_tr (zKp_mo hk (by decide)) (zKp_mo hk2 (by decide))
    refine ⟨rfl, by rw [hk2 22 (by decide)]; exact h22, fun e h => (by cases h), fun l2 h => ?_⟩
    cases h
    refine ⟨hk3, by rw [h101, hk 10 (by decide)], h10, fun k hk4 => ?_⟩
    have h1 := zHoldL_at l 0 k hh hk4
    rw [Nat.zero_add] at h1
    obtain ⟨a, b, c, e⟩ := hrow k hk4
    exact ⟨by rw [a]; exact h1.1, fun z => by rw [b]; exact h1.2.1 z, fun z => by rw [c]; exact h1.2.2.1 z, fun z => by rw [e]; exact h1.2.2.2 z⟩
end TP
