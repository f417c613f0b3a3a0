/-! the tape's reader: the class -/
def zHc (q : Nat) (tb : Nat → Nat) (p : Nat) : Int := if zNp q tb p < q then (tb (zNp q tb p) : Int) else -1
theorem zHc_c {q : Nat} {tb : Nat → Nat} {p c : Nat} (hc : c ≠ 0) : zHc q tb p = (c : Int) ↔ zNc q tb p = c := by
  unfold zHc zNc
  split <;> omega
theorem zHc_v (q : Nat) (tb : Nat → Nat) (p : Nat) : (zHc q tb p = -1 ∧ zNc q tb p = 0 ∧ ¬ zNp q tb p < q) ∨ (zHc q tb p = (zNc q tb p : Int) ∧ zNp q tb p < q) := by
  unfold zHc zNc
  split <;> simp_all
def zOkT (n p' n' : Nat) (M M' : Nat → Int → Int) : Prop := zKp [22, 24, 25, 26, 27, 28] M M' ∧ (M' 22 2 = M 22 2 ∧ M' 22 5 = M 22 5 ∧ M' 22 4 = M 22 4) ∧ M' 22 3 = p' ∧ M' 24 0 = n' ∧ ∀ i : Nat, i < n → M' 25 i = M 25 i ∧ M' 26 i = M 26 i ∧ M' 27 i = M 27 i ∧ M' 28 i = M 28 i
def zFaT (e : Nat) (M M' : Nat → Int → Int) : Prop := zKp [22, 24, 25, 26, 27, 28] M M' ∧ M' 22 2 = M 22 2 ∧ M' 22 4 = e
def zHold1 (k : Nat) (x : zqP) (M : Nat → Int → Int) : Prop := M 25 k = x.1 ∧ (1 ≤ x.1 → M 26 k = x.2.1) ∧ (ztwo x.1 = true → M 27 k = x.2.2.1) ∧ (5 ≤ x.1 → M 28 k = x.2.2.2)
def zHoldL : Nat → List zqP → (Nat → Int → Int) → Prop
  | _, [], _ => True
  | k, x :: l, M => zHold1 k x M ∧ zHoldL (k + 1) l M
def zSame (a b : Nat) (M M' : Nat → Int → Int) : Prop := ∀ i : Nat, a ≤ i → i < b → M' 25 i = M 25 i ∧ M' 26 i = M 26 i ∧ M' 27 i = M 27 i ∧ M' 28 i = M 28 i
theorem zHold1_k {k : Nat} {x : zqP} {M M' : Nat → Int → Int} (h : zHold1 k x M) (e : M' 25 k = M 25 k ∧ M' 26 k = M 26 k ∧ M' 27 k = M 27 k ∧ M' 28 k = M 28 k) : zHold1 k x M' := by
  obtain ⟨e1, e2, e3, e4⟩ := e
  exact ⟨by rw [e1]; exact h.1, by rw [e2]; exact h.2.1, by rw [e3]; exact h.2.2.1, by rw [e4]; exact h.2.2.2⟩
theorem zHoldL_k {M M' : Nat → Int → Int} : ∀ (l : List zqP) (k : Nat), zHoldL k l M → zSame k (k + l.length) M M' → zHoldL k l M'
  | [], _, _, _ => trivial
  | x :: l, k, h, e => ⟨zHold1_k h.1 (e k (Nat.le_refl _) (by simp)), zHoldL_k l (k + 1) h.2 fun i h1 h2 => e i (by omega) (by rw [List.length_cons]; omega)⟩
theorem zHoldL_app {M : Nat → Int → Int} : ∀ (l l2 : List zqP) (k : Nat), zHoldL k l M → zHoldL (k + l.length) l2 M → zHoldL k (l ++ l2) M
  | [], _, _, _, h => h
  | x :: l, l2, k, h, h2 => ⟨h.1, zHoldL_app l l2 (k + 1) h.2 (by rw [show k + 1 + l.length = k + (x :: l).length by simp; omega]; exact h2)⟩
theorem zHoldL_at {M : Nat → Int → Int} : ∀ (l : List zqP) (k i : Nat), zHoldL k l M → i < l.length → zHold1 (k + i) (l.getD i (0, 0, 0, 0)) M
  | [], _, i, _, h => by simp at h
  | x :: l, k, 0, h, _ => h.1
  | x :: l, k, i + 1, h, hi => by
    have := zHoldL_at l (k + 1) i h.2 (by simpa using hi)
    rw [show k + 1 + i = k + (i + 1) by omega] at this
    exact this
section OK
variable {n n' n0 n1 n2 p p' p1 p2 q e k : Nat} {M M1 M2 : Nat → Int → Int} {g x y z : Int} {tb : Nat → Nat}
theorem zOkT_rf (h1 : M 22 3 = p) (h2 : M 24 0 = n0) : zOkT n p n0 M M := ⟨zKp_rf _ _, ⟨rfl, rfl, rfl⟩, h1, h2, fun _ _ => ⟨rfl, rfl, rfl, rfl⟩⟩
theorem zOkT_tp (hT : zTpC q tb M) (h : zOkT n p n1 M M1) : zTpC q tb M1 := ⟨by rw [h.2.1.1]; exact hT.1, by rw [h.1 23 (by decide)]; exact hT.2⟩
theorem zOkT_np (h : zOkT n p n1 M M1) (p' : Nat) : zOkT n p' n1 M (zup M1 22 3 p') := by
  obtain ⟨h1, ⟨h2, h3, h4⟩, h5, h6, h7⟩ := h
  exact ⟨zKp_up (by decide) h1, ⟨by rw [zup_d (by omega)]; exact h2, by rw [zup_d (by omega)]; exact h3, by rw [zup_d (by omega)]; exact h4⟩, zup_s _ _ _ _, by rw [zup_n (by decide)]; exact h6, fun i hi => h7 i hi⟩
theorem zOkT_set (h : zOkT n p n1 M M1) (hk : n ≤ k) (x y z : Int) : zOkT n p n1 M (zup (zup (zup M1 25 k x) 26 k y) 27 k z) := by
  obtain ⟨h1, ⟨h2, h3, h4⟩, h5, h6, h7⟩ := h
  refine ⟨zKp_up (by decide) (zKp_up (by decide) (zKp_up (by decide) h1)), ⟨h2, h3, h4⟩, h5, h6, fun i hi => ?_⟩
  obtain ⟨a, b, c, d⟩ := h7 i hi
  refine ⟨?_, ?_, ?_, d⟩
  · rw [zup_n (by decide), zup_n (by decide), zup_d (by omega)]; exact a
  · rw [zup_n (by decide), zup_d (by omega)]; exact b
  · rw [zup_d (by omega)]; exact c
theorem zOkT_gr (h : zOkT n p n1 M M1) (hk : n ≤ k) (g : Int) : zOkT n p n1 M (zup M1 28 k g) := by
  obtain ⟨h1, ⟨h2, h3, h4⟩, h5, h6, h7⟩ := h
  refine ⟨zKp_up (by decide) h1, ⟨h2, h3, h4⟩, h5, h6, fun i hi => ?_⟩
  obtain ⟨a, b, c, d⟩ := h7 i hi
  exact ⟨a, b, c, by rw [zup_d (by omega)]; exact d⟩
theorem zOkT_add (h : zOkT n p n1 M M1) (hk : n ≤ n1) (g : Int) : zOkT n p (n1 + 1) M (zup (zup M1 28 n1 g) 24 0 ((n1 : Int) + 1)) := by
  obtain ⟨h1, ⟨h2, h3, h4⟩, h5, h6, h7⟩ := h
  refine ⟨zKp_up (by decide) (zKp_up (by decide) h1), ⟨h2, h3, h4⟩, h5, by rw [zup_s]; omega, fun i hi => ?_⟩
  obtain ⟨a, b, c, d⟩ := h7 i hi
  exact ⟨a, b, c, by rw [zup_n (by decide), zup_d (by omega)]; exact d⟩
theorem zOkT_tr (h : zOkT n p1 n1 M M1) (h2 : zOkT n' p2 n2 M1 M2) (hn : n ≤ n') : zOkT n p2 n2 M M2 := by
  obtain ⟨a1, ⟨a2, a3, a4⟩, _, _, a7⟩ := h
  obtain ⟨b1, ⟨b2, b3, b4⟩, b5, b6, b7⟩ := h2
  refine ⟨zKp_tr a1 b1, ⟨b2.trans a2, b3.trans a3, b4.trans a4⟩, b5, b6, fun i hi => ?_⟩
  obtain ⟨c1, c2, c3, c4⟩ := a7 i hi
  obtain ⟨d1, d2, d3, d4⟩ := b7 i (by omega)
  exact ⟨d1.trans c1, d2.trans c2, d3.trans c3, d4.trans c4⟩
theorem zOkT_fa (h : zOkT n p n1 M M1) : zFaT p M (zup M1 22 4 p) := ⟨zKp_up (by decide) h.1, by rw [zup_d (by omega)]; exact h.2.1.1, zup_s _ _ _ _⟩
theorem zFaT_tr (h : zOkT n p n1 M M1) (h2 : zFaT e M1 M2) : zFaT e M M2 := ⟨zKp_tr h.1 h2.1, h2.2.1.trans h.2.1.1, h2.2.2⟩
end OK
def zRet (res : zqR) (n : Nat) (M : Nat → Int → Int) (r : Option zMV) (M' : Nat → Int → Int) : Prop := match res with
  | .inl e => r = some (zI 0) ∧ zFaT e M M'
  | .inr (p', l) => r = some (zI 1) ∧ zOkT n p' (n + l.length) M M' ∧ zHoldL n l M'
def zRec (Ln q P : Nat) (tb : Nat → Nat) (f : Nat) : Prop := ∀ (d p n : Nat) (dep : Int) (M : Nat → Int → Int), zTpC q tb M → M 22 5 = P → M 22 3 = p → p ≤ q → M 24 0 = n → n ≤ 24 → 25 ≤ n + f → 0 ≤ dep → dep ≤ n → 3 * f + 3 ≤ d → zF (zSH Ln) d i_Tp_readForm [zR 22, zI dep] M fun r M' => zRet (zqF q P tb f p n) n M r M'
section TP
variable {Ln q P : Nat} {tb : Nat → Nat} {M : Nat → Int → Int}
theorem F_Tp_here {d : Nat} {p : Nat} (hT : zTpC q tb M) (hq : q ≤ 100) (hp : M 22 3 = p) (hpq : p ≤ q) (hd : 1 ≤ d) : zF (zSH Ln) d i_Tp_here [zR 22] M fun r M' => r = some (zI (zHc q tb p)) ∧ M' = zup M 22 3 (zNp q tb p : Int) := by
  rw [zF_en k_Tp_here_0 (L := [zR 22]) rfl]
  rw [← k_Tp_here_0]
  have key : ∀ (f p : Nat) (M : Nat → Int → Int), q - p = f → zTpC q tb M → M 22 3 = p → p ≤ q → zW (zSH Ln) d i_Tp_here (zblk i_Tp_here 0) [zR 22] [] M fun r M' => r = some (zI (zHc q tb p)) ∧ M' = zup M 22 3 (zNp q tb p : Int) := by
    intro f
    induction f with
    | zero =>
      intro p M hf hT hp hpq
      have hpq2 : p = q := by omega
      have e := hT.1
      have e2 : zNp q tb p = p := zNp_q (by omega)
      have e3 : zHc q tb p = -1 := by unfold zHc; rw [if_neg (by omega)]
      rw [k_Tp_here_0]
      simp (disch := first | omega | exact Nat.le_of_ble_eq_true rfl | assumption | (simp only [Int.natCast_add, Int.natCast_mul, Int.cast_ofNat_Int]; omega) | decide) only [k_Tp_here_3, k_Tp_here_5, k_Tp_here_6, x_aload, w_dupI, w_dupR, x_getf, w_goto, w_fall, w_iadd, w_iconst, w_icmp, zadd_eq, gf_22_0, gf_22_2, gf_22_3, xp_22_3, at_23, ao_23, w_nret r_Tp_here, q_eq, q_ne, q_lt, q_ge, q_gt, q_le, g_I, g_L, g_R, g_V, t_0, t_I, t_R, t_U, t_L, t_s, List.getElem?_cons_zero, List.getElem?_cons_succ, Nat.reduceAdd, zif10, zif01b, zib, if_pos, if_neg, ↓reduceIte, not_true_eq_false, not_false_eq_true, Bool.true_eq_false, Bool.false_eq_true, Classical.not_not, eq_self, and_self, and_true, true_and, Int.reduceEq, Int.reduceLE, Int.reduceLT, Int.reduceNeg, Option.toList, List.cons_append, List.nil_append, zup_s, zup_n, zst_s, zup_zs, zup_zn, decide_true, decide_false, hp, e, e2, e3]
      funext a b
      unfold zup
      split
      · next h => rw [h.1, h.2, hp]
      · rfl
    | succ f ih =>
      intro p M hf hT hp hpq
      have e := hT.1
      have et := hT.2 p (by omega)
      have hlt : (p : Int) < q := by omega
      rw [k_Tp_here_0]
      by_cases hb : tb p = 32
      · have hb' : (tb p : Int) = 32 := by omega
        have := ih (p + 1) (zup M 22 3 ((p + 1 : Nat) : Int)) (by omega) ⟨by rw [zup_d (by omega)]; exact e, by rw [zup_n (by decide)]; exact hT.2⟩ (zup_s _ _ _ _) (by omega)
        rw [zup_up, ← zNp_s (by omega) hb] at this
        have e3 : zHc q tb (p + 1) = zHc q tb p := by unfold zHc; rw [← zNp_s (by omega) hb]
        rw [e3] at this
        simp (disch := first | omega | exact Nat.le_of_ble_eq_true rfl | assumption | (simp only [Int.natCast_add, Int.natCast_mul, Int.cast_ofNat_Int]; omega) | decide) only [k_Tp_here_1, k_Tp_here_2, x_aload, w_dupI, w_dupR, x_getf, w_goto, w_fall, w_iadd, w_iconst, w_icmp, zadd_eq, gf_22_0, gf_22_2, gf_22_3, xp_22_3, at_23, ao_23, w_nret r_Tp_here, q_eq, q_ne, q_lt, q_ge, q_gt, q_le, g_I, g_L, g_R, g_V, t_0, t_I, t_R, t_U, t_L, t_s, List.getElem?_cons_zero, List.getElem?_cons_succ, Nat.reduceAdd, zif10, zif01b, zib, if_pos, if_neg, ↓reduceIte, not_true_eq_false, not_false_eq_true, Bool.true_eq_false, Bool.false_eq_true, Classical.not_not, eq_self, and_self, and_true, true_and, Int.reduceEq, Int.reduceLE, Int.reduceLT, Int.reduceNeg, Option.toList, List.cons_append, List.nil_append, zup_s, zup_n, zst_s, zup_zs, zup_zn, decide_true, decide_false, hp, e, et, hb', hlt]
        exact this
      · have hb' : ¬ (tb p : Int) = 32 := by omega
        have e2 : zNp q tb p = p := zNp_n hb
        have e3 : zHc q tb p = (tb p : Int) := by unfold zHc; rw [e2, if_pos (by omega)]
        simp (disch := first | omega | exact Nat.le_of_ble_eq_true rfl | assumption | (simp only [Int.natCast_add, Int.natCast_mul, Int.cast_ofNat_Int]; omega) | decide) only [k_Tp_here_1, k_Tp_here_3, k_Tp_here_4, k_Tp_here_6, x_aload, w_dupI, w_dupR, x_getf, w_goto, w_fall, w_iadd, w_iconst, w_icmp, zadd_eq, gf_22_0, gf_22_2, gf_22_3, xp_22_3, at_23, ao_23, w_nret r_Tp_here, q_eq, q_ne, q_lt, q_ge, q_gt, q_le, g_I, g_L, g_R, g_V, t_0, t_I, t_R, t_U, t_L, t_s, List.getElem?_cons_zero, List.getElem?_cons_succ, Nat.reduceAdd, zif10, zif01b, zib, if_pos, if_neg, ↓reduceIte, not_true_eq_false, not_false_eq_true, Bool.true_eq_false, Bool.false_eq_true, Classical.not_not, eq_self, and_self, and_true, true_and, Int.reduceEq, Int.reduceLE, Int.reduceLT, Int.reduceNeg, Option.toList, List.cons_append, List.nil_append, zup_s, zup_n, zst_s, zup_zs, zup_zn, decide_true, decide_false, hp, e, et, hb', hlt, e2, e3]
        funext a b
        unfold zup
        split
        · next h => rw [h.1, h.2, hp]
        · rfl
  exact key (q - p) p M rfl hT hp hpq
theorem c_Tp_here {d mi o b9 : Nat} {es : List zEnt} {L st : List zMV} {Q : Option zMV → (Nat → Int → Int) → Prop} {p : Nat} (hT : zTpC q tb M) (hq : q ≤ 100) (hp : M 22 3 = p) (hpq : p ≤ q) (hd : 1 + 1 ≤ d) (hc : zcats st ≤ 8) : zW (zSH Ln) d mi ((.invokevirtual o, 77, b9) :: es) L (zR 22 :: st) M Q = zW (zSH Ln) d mi es L (zI (zHc q tb p) :: st) (zup M 22 3 (zNp q tb p : Int)) Q :=
  c_virt (ps := []) (by omega) rfl rfl (by omega) (by exact sh_22 Ln) hc (Nat.le_of_ble_eq_true rfl) (F_Tp_here hT hq hp hpq (by omega))
theorem F_Tp_refuse {d : Nat}  (hd : 0 ≤ d) : zF (zSH Ln) d i_Tp_refuse [zR 22] M fun r M' => r = some (zI 0) ∧ M' = zup M 22 4 (M 22 3) := by
  rw [zF_en k_Tp_refuse_0 (L := [zR 22]) rfl]
  simp (disch := first | omega | exact Nat.le_of_ble_eq_true rfl | assumption | (simp only [Int.natCast_add, Int.natCast_mul, Int.cast_ofNat_Int]; omega) | decide) only [x_aload, x_getf, w_iconst, gf_22_3, xp_22_4, w_bret r_Tp_refuse, q_eq, q_ne, q_lt, q_ge, q_gt, q_le, g_I, g_L, g_R, g_V, t_0, t_I, t_R, t_U, t_L, t_s, List.getElem?_cons_zero, List.getElem?_cons_succ, Nat.reduceAdd, zif10, zif01b, zib, if_pos, if_neg, ↓reduceIte, not_true_eq_false, not_false_eq_true, Bool.true_eq_false, Bool.false_eq_true, Classical.not_not, eq_self, and_self, and_true, true_and, Int.reduceEq, Int.reduceLE, Int.reduceLT, Int.reduceNeg, Option.toList, List.cons_append, List.nil_append, zup_s, zup_n, zst_s, zup_zs, zup_zn, decide_true, decide_false]
theorem c_Tp_refuse {d mi o b9 : Nat} {es : List zEnt} {L st : List zMV} {Q : Option zMV → (Nat → Int → Int) → Prop}  (hd : 0 + 1 ≤ d) (hc : zcats st ≤ 8) : zW (zSH Ln) d mi ((.invokevirtual o, 78, b9) :: es) L (zR 22 :: st) M Q = zW (zSH Ln) d mi es L (zI 0 :: st) (zup M 22 4 (M 22 3)) Q :=
  c_virt (ps := []) (by omega) rfl rfl (by omega) (by exact sh_22 Ln) hc (Nat.le_of_ble_eq_true rfl) (F_Tp_refuse  (by omega))
theorem F_Tp_take {d : Nat} {p c : Nat} (hT : zTpC q tb M) (hq : q ≤ 100) (hp : M 22 3 = p) (hpq : p ≤ q) (hcn : c ≠ 0) (hd : 2 ≤ d) : zF (zSH Ln) d i_Tp_take [zR 22, zI (c : Int)] M fun r M' => (zNc q tb p = c → r = some (zI 1) ∧ M' = zup M 22 3 ((zNp q tb p + 1 : Nat) : Int)) ∧ (¬ zNc q tb p = c → r = some (zI 0) ∧ M' = zup (zup M 22 3 (zNp q tb p : Int)) 22 4 (zNp q tb p : Int)) := by
  rw [zF_en k_Tp_take_0 (L := [zR 22, zI (c : Int)]) rfl]
  have hnp := zNp_le (tb := tb) hpq
  by_cases h : zNc q tb p = c
  · have h' : zHc q tb p = (c : Int) := (zHc_c hcn).mpr h
    simp (disch := first | omega | exact Nat.le_of_ble_eq_true rfl | assumption | (simp only [Int.natCast_add, Int.natCast_mul, Int.cast_ofNat_Int]; omega) | decide) only [k_Tp_take_2, x_aload, w_dupI, w_dupR, x_getf, w_fall, w_iadd, w_iconst, w_icmp, x_iload, zadd_eq, gf_22_3, xp_22_3, w_bret r_Tp_take, q_eq, q_ne, q_lt, q_ge, q_gt, q_le, g_I, g_L, g_R, g_V, t_0, t_I, t_R, t_U, t_L, t_s, List.getElem?_cons_zero, List.getElem?_cons_succ, Nat.reduceAdd, zif10, zif01b, zib, if_pos, if_neg, ↓reduceIte, not_true_eq_false, not_false_eq_true, Bool.true_eq_false, Bool.false_eq_true, Classical.not_not, eq_self, and_self, and_true, true_and, Int.reduceEq, Int.reduceLE, Int.reduceLT, Int.reduceNeg, Option.toList, List.cons_append, List.nil_append, zup_s, zup_n, zst_s, zup_zs, zup_zn, decide_true, decide_false, c_Tp_here hT hq hp hpq, h', zup_up]
    exact ⟨fun _ => by rw [show ((zNp q tb p + 1 : Nat) : Int) = (zNp q tb p : Int) + 1 by omega], fun z => absurd h z⟩
  · have h' : ¬ zHc q tb p = (c : Int) := fun z => h ((zHc_c hcn).mp z)
    simp (disch := first | omega | exact Nat.le_of_ble_eq_true rfl | assumption | (simp only [Int.natCast_add, Int.natCast_mul, Int.cast_ofNat_Int]; omega) | decide) only [k_Tp_take_1, x_aload, w_dupI, w_dupR, x_getf, w_fall, w_iadd, w_iconst, w_icmp, x_iload, zadd_eq, gf_22_3, xp_22_3, w_bret r_Tp_take, q_eq, q_ne, q_lt, q_ge, q_gt, q_le, g_I, g_L, g_R, g_V, t_0, t_I, t_R, t_U, t_L, t_s, List.getElem?_cons_zero, List.getElem?_cons_succ, Nat.reduceAdd, zif10, zif01b, zib, if_pos, if_neg, ↓reduceIte, not_true_eq_false, not_false_eq_true, Bool.true_eq_false, Bool.false_eq_true, Classical.not_not, eq_self, and_self, and_true, true_and, Int.reduceEq, Int.reduceLE, Int.reduceLT, Int.reduceNeg, Option.toList, List.cons_append, List.nil_append, zup_s, zup_n, zst_s, zup_zs, zup_zn, decide_true, decide_false, c_Tp_here hT hq hp hpq, h', c_Tp_refuse]
    exact ⟨fun z => absurd z h, fun _ => trivial⟩
theorem c_Tp_take {d mi o b9 : Nat} {es : List zEnt} {L st : List zMV} {Q : Option zMV → (Nat → Int → Int) → Prop} {p c : Nat} (hT : zTpC q tb M) (hq : q ≤ 100) (hp : M 22 3 = p) (hpq : p ≤ q) (hcn : c ≠ 0) (hd : 2 + 1 ≤ d) (hc : zcats st ≤ 8) (hpost : ∀ r M', ((zNc q tb p = c → r = some (zI 1) ∧ M' = zup M 22 3 ((zNp q tb p + 1 : Nat) : Int)) ∧ (¬ zNc q tb p = c → r = some (zI 0) ∧ M' = zup (zup M 22 3 (zNp q tb p : Int)) 22 4 (zNp q tb p : Int))) → zW (zSH Ln) d mi es L (r.toList ++ st) M' Q) : zW (zSH Ln) d mi ((.invokevirtual o, 79, b9) :: es) L (zI (c : Int) :: zR 22 :: st) M Q :=
  w_callv (ps := [zI (c : Int)]) (by omega) rfl rfl (by omega) (by exact sh_22 Ln) hc (Nat.le_of_ble_eq_true rfl) (F_Tp_take hT hq hp hpq hcn (by omega)) hpost
theorem F_Tp_lawKind {d : Nat} {x : Int} (hd : 0 ≤ d) : zF (zSH Ln) d i_Tp_lawKind [zI x] M fun r M' => r = some (zI (if x = 40 then 8 else if x = 70 then 7 else if x = 71 then 6 else if x = 73 then 9 else if x = 88 then 5 else -1)) ∧ M' = M := by
  rw [zF_en k_Tp_lawKind_0 (L := [zI x]) rfl]
  by_cases h1 : x = 40
  · subst h1
    simp (disch := first | omega | exact Nat.le_of_ble_eq_true rfl | assumption | (simp only [Int.natCast_add, Int.natCast_mul, Int.cast_ofNat_Int]; omega) | decide) only [k_Tp_lawKind_5, w_iconst, x_iload, w_lsw, w_nret r_Tp_lawKind, q_eq, q_ne, q_lt, q_ge, q_gt, q_le, g_I, g_L, g_R, g_V, t_0, t_I, t_R, t_U, t_L, t_s, List.getElem?_cons_zero, List.getElem?_cons_succ, Nat.reduceAdd, zif10, zif01b, zib, if_pos, if_neg, ↓reduceIte, not_true_eq_false, not_false_eq_true, Bool.true_eq_false, Bool.false_eq_true, Classical.not_not, eq_self, and_self, and_true, true_and, Int.reduceEq, Int.reduceLE, Int.reduceLT, Int.reduceNeg, Option.toList, List.cons_append, List.nil_append, zup_s, zup_n, zst_s, zup_zs, zup_zn, decide_true, decide_false, show zlsw (Int.toNat 6) ([(40, 5), (70, 3), (71, 2), (73, 4), (88, 1)] : List (Int × Int)) 40 = 5 from rfl]
  by_cases h2 : x = 70
  · subst h2
    simp (disch := first | omega | exact Nat.le_of_ble_eq_true rfl | assumption | (simp only [Int.natCast_add, Int.natCast_mul, Int.cast_ofNat_Int]; omega) | decide) only [k_Tp_lawKind_3, w_iconst, x_iload, w_lsw, w_nret r_Tp_lawKind, q_eq, q_ne, q_lt, q_ge, q_gt, q_le, g_I, g_L, g_R, g_V, t_0, t_I, t_R, t_U, t_L, t_s, List.getElem?_cons_zero, List.getElem?_cons_succ, Nat.reduceAdd, zif10, zif01b, zib, if_pos, if_neg, ↓reduceIte, not_true_eq_false, not_false_eq_true, Bool.true_eq_false, Bool.false_eq_true, Classical.not_not, eq_self, and_self, and_true, true_and, Int.reduceEq, Int.reduceLE, Int.reduceLT, Int.reduceNeg, Option.toList, List.cons_append, List.nil_append, zup_s, zup_n, zst_s, zup_zs, zup_zn, decide_true, decide_false, show zlsw (Int.toNat 6) ([(40, 5), (70, 3), (71, 2), (73, 4), (88, 1)] : List (Int × Int)) 70 = 3 from rfl]
  by_cases h3 : x = 71
  · subst h3
    simp (disch := first | omega | exact Nat.le_of_ble_eq_true rfl | assumption | (simp only [Int.natCast_add, Int.natCast_mul, Int.cast_ofNat_Int]; omega) | decide) only [k_Tp_lawKind_2, w_iconst, x_iload, w_lsw, w_nret r_Tp_lawKind, q_eq, q_ne, q_lt, q_ge, q_gt, q_le, g_I, g_L, g_R, g_V, t_0, t_I, t_R, t_U, t_L, t_s, List.getElem?_cons_zero, List.getElem?_cons_succ, Nat.reduceAdd, zif10, zif01b, zib, if_pos, if_neg, ↓reduceIte, not_true_eq_false, not_false_eq_true, Bool.true_eq_false, Bool.false_eq_true, Classical.not_not, eq_self, and_self, and_true, true_and, Int.reduceEq, Int.reduceLE, Int.reduceLT, Int.reduceNeg, Option.toList, List.cons_append, List.nil_append, zup_s, zup_n, zst_s, zup_zs, zup_zn, decide_true, decide_false, show zlsw (Int.toNat 6) ([(40, 5), (70, 3), (71, 2), (73, 4), (88, 1)] : List (Int × Int)) 71 = 2 from rfl]
  by_cases h4 : x = 73
  · subst h4
    simp (disch := first | omega | exact Nat.le_of_ble_eq_true rfl | assumption | (simp only [Int.natCast_add, Int.natCast_mul, Int.cast_ofNat_Int]; omega) | decide) only [k_Tp_lawKind_4, w_iconst, x_iload, w_lsw, w_nret r_Tp_lawKind, q_eq, q_ne, q_lt, q_ge, q_gt, q_le, g_I, g_L, g_R, g_V, t_0, t_I, t_R, t_U, t_L, t_s, List.getElem?_cons_zero, List.getElem?_cons_succ, Nat.reduceAdd, zif10, zif01b, zib, if_pos, if_neg, ↓reduceIte, not_true_eq_false, not_false_eq_true, Bool.true_eq_false, Bool.false_eq_true, Classical.not_not, eq_self, and_self, and_true, true_and, Int.reduceEq, Int.reduceLE, Int.reduceLT, Int.reduceNeg, Option.toList, List.cons_append, List.nil_append, zup_s, zup_n, zst_s, zup_zs, zup_zn, decide_true, decide_false, show zlsw (Int.toNat 6) ([(40, 5), (70, 3), (71, 2), (73, 4), (88, 1)] : List (Int × Int)) 73 = 4 from rfl]
  by_cases h5 : x = 88
  · subst h5
    simp (disch := first | omega | exact Nat.le_of_ble_eq_true rfl | assumption | (simp only [Int.natCast_add, Int.natCast_mul, Int.cast_ofNat_Int]; omega) | decide) only [k_Tp_lawKind_1, w_iconst, x_iload, w_lsw, w_nret r_Tp_lawKind, q_eq, q_ne, q_lt, q_ge, q_gt, q_le, g_I, g_L, g_R, g_V, t_0, t_I, t_R, t_U, t_L, t_s, List.getElem?_cons_zero, List.getElem?_cons_succ, Nat.reduceAdd, zif10, zif01b, zib, if_pos, if_neg, ↓reduceIte, not_true_eq_false, not_false_eq_true, Bool.true_eq_false, Bool.false_eq_true, Classical.not_not, eq_self, and_self, and_true, true_and, Int.reduceEq, Int.reduceLE, Int.reduceLT, Int.reduceNeg, Option.toList, List.cons_append, List.nil_append, zup_s, zup_n, zst_s, zup_zs, zup_zn, decide_true, decide_false, show zlsw (Int.toNat 6) ([(40, 5), (70, 3), (71, 2), (73, 4), (88, 1)] : List (Int × Int)) 88 = 1 from rfl]
  have e : zlsw (Int.toNat 6) ([(40, 5), (70, 3), (71, 2), (73, 4), (88, 1)] : List (Int × Int)) x = 6 := by simp only [zlsw, h1, h2, h3, h4, h5, if_false]; rfl
  simp (disch := first | omega | exact Nat.le_of_ble_eq_true rfl | assumption | (simp only [Int.natCast_add, Int.natCast_mul, Int.cast_ofNat_Int]; omega) | decide) only [k_Tp_lawKind_6, w_iconst, x_iload, w_lsw, w_nret r_Tp_lawKind, q_eq, q_ne, q_lt, q_ge, q_gt, q_le, g_I, g_L, g_R, g_V, t_0, t_I, t_R, t_U, t_L, t_s, List.getElem?_cons_zero, List.getElem?_cons_succ, Nat.reduceAdd, zif10, zif01b, zib, if_pos, if_neg, ↓reduceIte, not_true_eq_false, not_false_eq_true, Bool.true_eq_false, Bool.false_eq_true, Classical.not_not, eq_self, and_self, and_true, true_and, Int.reduceEq, Int.reduceLE, Int.reduceLT, Int.reduceNeg, Option.toList, List.cons_append, List.nil_append, zup_s, zup_n, zst_s, zup_zs, zup_zn, decide_true, decide_false, e, h1, h2, h3, h4, h5]
theorem c_Tp_lawKind {d mi o b9 : Nat} {es : List zEnt} {L st : List zMV} {Q : Option zMV → (Nat → Int → Int) → Prop} {x : Int} (hd : 0 + 1 ≤ d) (hc : zcats st ≤ 8) : zW (zSH Ln) d mi ((.invokestatic o, 84, b9) :: es) L (zI x :: st) M Q = zW (zSH Ln) d mi es L (zI (if x = 40 then 8 else if x = 70 then 7 else if x = 71 then 6 else if x = 73 then 9 else if x = 88 then 5 else -1) :: st) (M) Q :=
  c_stat (vs := [zI x]) (by omega) rfl rfl hc (Nat.le_of_ble_eq_true rfl) (F_Tp_lawKind  (by omega))
theorem F_Tp_pairKind {d : Nat} {x : Int} (hd : 0 ≤ d) : zF (zSH Ln) d i_Tp_pairKind [zI x] M fun r M' => r = some (zI (if x = 38 then 3 else if x = 85 then 8 else if x = 124 then 4 else -1)) ∧ M' = M := by
  rw [zF_en k_Tp_pairKind_0 (L := [zI x]) rfl]
  by_cases h1 : x = 38
  · subst h1
    simp (disch := first | omega | exact Nat.le_of_ble_eq_true rfl | assumption | (simp only [Int.natCast_add, Int.natCast_mul, Int.cast_ofNat_Int]; omega) | decide) only [k_Tp_pairKind_1, w_iconst, x_iload, w_lsw, w_nret r_Tp_pairKind, q_eq, q_ne, q_lt, q_ge, q_gt, q_le, g_I, g_L, g_R, g_V, t_0, t_I, t_R, t_U, t_L, t_s, List.getElem?_cons_zero, List.getElem?_cons_succ, Nat.reduceAdd, zif10, zif01b, zib, if_pos, if_neg, ↓reduceIte, not_true_eq_false, not_false_eq_true, Bool.true_eq_false, Bool.false_eq_true, Classical.not_not, eq_self, and_self, and_true, true_and, Int.reduceEq, Int.reduceLE, Int.reduceLT, Int.reduceNeg, Option.toList, List.cons_append, List.nil_append, zup_s, zup_n, zst_s, zup_zs, zup_zn, decide_true, decide_false, show zlsw (Int.toNat 4) ([(38, 1), (85, 3), (124, 2)] : List (Int × Int)) 38 = 1 from rfl]
  by_cases h2 : x = 85
  · subst h2
    simp (disch := first | omega | exact Nat.le_of_ble_eq_true rfl | assumption | (simp only [Int.natCast_add, Int.natCast_mul, Int.cast_ofNat_Int]; omega) | decide) only [k_Tp_pairKind_3, w_iconst, x_iload, w_lsw, w_nret r_Tp_pairKind, q_eq, q_ne, q_lt, q_ge, q_gt, q_le, g_I, g_L, g_R, g_V, t_0, t_I, t_R, t_U, t_L, t_s, List.getElem?_cons_zero, List.getElem?_cons_succ, Nat.reduceAdd, zif10, zif01b, zib, if_pos, if_neg, ↓reduceIte, not_true_eq_false, not_false_eq_true, Bool.true_eq_false, Bool.false_eq_true, Classical.not_not, eq_self, and_self, and_true, true_and, Int.reduceEq, Int.reduceLE, Int.reduceLT, Int.reduceNeg, Option.toList, List.cons_append, List.nil_append, zup_s, zup_n, zst_s, zup_zs, zup_zn, decide_true, decide_false, show zlsw (Int.toNat 4) ([(38, 1), (85, 3), (124, 2)] : List (Int × Int)) 85 = 3 from rfl]
  by_cases h3 : x = 124
  · subst h3
    simp (disch := first | omega | exact Nat.le_of_ble_eq_true rfl | assumption | (simp only [Int.natCast_add, Int.natCast_mul, Int.cast_ofNat_Int]; omega) | decide) only [k_Tp_pairKind_2, w_iconst, x_iload, w_lsw, w_nret r_Tp_pairKind, q_eq, q_ne, q_lt, q_ge, q_gt, q_le, g_I, g_L, g_R, g_V, t_0, t_I, t_R, t_U, t_L, t_s, List.getElem?_cons_zero, List.getElem?_cons_succ, Nat.reduceAdd, zif10, zif01b, zib, if_pos, if_neg, ↓reduceIte, not_true_eq_false, not_false_eq_true, Bool.true_eq_false, Bool.false_eq_true, Classical.not_not, eq_self, and_self, and_true, true_and, Int.reduceEq, Int.reduceLE, Int.reduceLT, Int.reduceNeg, Option.toList, List.cons_append, List.nil_append, zup_s, zup_n, zst_s, zup_zs, zup_zn, decide_true, decide_false, show zlsw (Int.toNat 4) ([(38, 1), (85, 3), (124, 2)] : List (Int × Int)) 124 = 2 from rfl]
  have e : zlsw (Int.toNat 4) ([(38, 1), (85, 3), (124, 2)] : List (Int × Int)) x = 4 := by simp only [zlsw, h1, h2, h3, if_false]; rfl
  simp (disch := first | omega | exact Nat.le_of_ble_eq_true rfl | assumption | (simp only [Int.natCast_add, Int.natCast_mul, Int.cast_ofNat_Int]; omega) | decide) only [k_Tp_pairKind_4, w_iconst, x_iload, w_lsw, w_nret r_Tp_pairKind, q_eq, q_ne, q_lt, q_ge, q_gt, q_le, g_I, g_L, g_R, g_V, t_0, t_I, t_R, t_U, t_L, t_s, List.getElem?_cons_zero, List.getElem?_cons_succ, Nat.reduceAdd, zif10, zif01b, zib, if_pos, if_neg, ↓reduceIte, not_true_eq_false, not_false_eq_true, Bool.true_eq_false, Bool.false_eq_true, Classical.not_not, eq_self, and_self, and_true, true_and, Int.reduceEq, Int.reduceLE, Int.reduceLT, Int.reduceNeg, Option.toList, List.cons_append, List.nil_append, zup_s, zup_n, zst_s, zup_zs, zup_zn, decide_true, decide_false, e, h1, h2, h3]
theorem c_Tp_pairKind {d mi o b9 : Nat} {es : List zEnt} {L st : List zMV} {Q : Option zMV → (Nat → Int → Int) → Prop} {x : Int} (hd : 0 + 1 ≤ d) (hc : zcats st ≤ 8) : zW (zSH Ln) d mi ((.invokestatic o, 85, b9) :: es) L (zI x :: st) M Q = zW (zSH Ln) d mi es L (zI (if x = 38 then 3 else if x = 85 then 8 else if x = 124 then 4 else -1) :: st) (M) Q :=
  c_stat (vs := [zI x]) (by omega) rfl rfl hc (Nat.le_of_ble_eq_true rfl) (F_Tp_pairKind  (by omega))
end TP
