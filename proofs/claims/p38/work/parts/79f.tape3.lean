/-! the tape's reader: pairs, forms -/
theorem zRet_l {e n : Nat} {M M' : Nat → Int → Int} (h : zFaT e M M') : zRet (.inl e) n M (some (zI 0)) M' := ⟨rfl, h⟩
theorem zRet_r {p n : Nat} {l : List zqP} {M M' : Nat → Int → Int} (h : zOkT n p (n + l.length) M M') (h2 : zHoldL n l M') : zRet (.inr (p, l)) n M (some (zI 1)) M' := ⟨rfl, h, h2⟩
theorem zOkT_e {n p n1 n2 : Nat} {M M1 : Nat → Int → Int} (h : zOkT n p n1 M M1) (e : n1 = n2) : zOkT n p n2 M M1 := e ▸ h
theorem zOkT_mo {n n' p n1 : Nat} {M M1 : Nat → Int → Int} (h : zOkT n p n1 M M1) (e : n' ≤ n) : zOkT n' p n1 M M1 := ⟨h.1, h.2.1, h.2.2.1, h.2.2.2.1, fun i hi => h.2.2.2.2 i (by omega)⟩
theorem zSame_of {n a b p n1 : Nat} {M M1 : Nat → Int → Int} (h : zOkT n p n1 M M1) (hb : b ≤ n) : zSame a b M M1 := fun i _ h2 => h.2.2.2.2 i (by omega)
theorem zSame_np {a b : Nat} {M : Nat → Int → Int} {i v : Int} : zSame a b M (zup M 22 i v) := fun _ _ _ => ⟨rfl, rfl, rfl, rfl⟩
theorem zSame_tr {a b : Nat} {M M1 M2 : Nat → Int → Int} (h1 : zSame a b M M1) (h2 : zSame a b M1 M2) : zSame a b M M2 := fun i ha hb => by
  obtain ⟨a1, a2, a3, a4⟩ := h1 i ha hb
  obtain ⟨b1, b2, b3, b4⟩ := h2 i ha hb
  exact ⟨b1.trans a1, b2.trans a2, b3.trans a3, b4.trans a4⟩
theorem zSame_set {a b k : Nat} {M : Nat → Int → Int} {x y z : Int} (h : k < a) : zSame a b M (zup (zup (zup M 25 k x) 26 k y) 27 k z) := fun i ha hb => ⟨by rw [zup_n (by decide), zup_n (by decide), zup_d (by omega)], by rw [zup_n (by decide), zup_d (by omega), zup_n (by decide)], by rw [zup_d (by omega), zup_n (by decide), zup_n (by decide)], rfl⟩
section TP
variable {Ln q P : Nat} {tb : Nat → Nat} {M : Nat → Int → Int}
set_option maxHeartbeats 20000000 in
theorem F_Tp_readPair {f : Nat} (hrec : zRec Ln q P tb f) (hq : q ≤ 100) {d p k g : Nat} {dep : Int} {og : Bool} (hT : zTpC q tb M) (hP : M 22 5 = P) (hp : M 22 3 = p) (hpq : p ≤ q) (hn : M 24 0 = ((k + 1 : Nat) : Int)) (hk : k + 1 ≤ 24) (hf : 25 ≤ k + 1 + f) (hd0 : 0 ≤ dep) (hdk : dep ≤ k) (hg : og = true → M 28 k = g) (hd : 3 * f + 4 ≤ d) : zF (zSH Ln) d i_Tp_readPair [zR 22, zI (k : Int), zI (if og = true then 1 else 0), zI dep] M fun r M' => zRet (zqPair (zqF q P tb f) q tb og p k g) k M r M' := by
  rw [zF_en k_Tp_readPair_0 (L := [zR 22, zI (k : Int), zI (if og = true then 1 else 0), zI dep, zU]) rfl]
  generalize hres : zqPair (zqF q P tb f) q tb og p k g = res
  unfold zqPair at hres
  have hG1 := zqF_g (q := q) (P := P) (tb := tb) f p (k + 1) hpq hk
  simp (disch := first | omega | exact Nat.le_of_ble_eq_true rfl | assumption | (simp only [Int.natCast_add, Int.natCast_mul, Int.cast_ofNat_Int]; omega) | decide) only [x_aload, w_dupI, w_dupR, x_getf, w_goto, w_fall, w_iadd, w_iconst, w_if, w_icmp, x_iload, x_istore, zadd_eq, gf_10_0, gf_24_0, gf_22_1, gf_22_3, xp_22_3, w_bret r_Tp_readPair, q_eq, q_ne, q_lt, q_ge, q_gt, q_le, g_I, g_L, g_R, g_V, t_0, t_I, t_R, t_U, t_L, t_s, List.getElem?_cons_zero, List.getElem?_cons_succ, Nat.reduceAdd, zif10, zif01b, zib, if_pos, if_neg, ↓reduceIte, not_true_eq_false, not_false_eq_true, Bool.true_eq_false, Bool.false_eq_true, Classical.not_not, eq_self, and_self, and_true, true_and, Int.reduceEq, Int.reduceLE, Int.reduceLT, Int.reduceNeg, Option.toList, List.cons_append, List.nil_append, zup_s, zup_n, zst_s, zup_zs, zup_zn, decide_true, decide_false]
  refine w_callv (ps := [zI (dep + 1)]) (by omega) rfl rfl (by omega) (sh_22 Ln) (Nat.le_of_ble_eq_true rfl) (Nat.le_of_ble_eq_true rfl) (hrec _ p (k + 1) (dep + 1) M hT hP hp hpq hn hk hf (by omega) (by omega) (by omega)) ?_
  intro r M1 h1
  cases e1 : zqF q P tb f p (k + 1) with
  | inl e =>
    rw [e1] at h1 hres
    obtain ⟨rfl, hfa⟩ : r = some (zI 0) ∧ zFaT e M M1 := h1
    have hres : (.inl e : zqR) = res := hres
    subst hres
    simp (disch := first | omega | exact Nat.le_of_ble_eq_true rfl | assumption | (simp only [Int.natCast_add, Int.natCast_mul, Int.cast_ofNat_Int]; omega) | decide) only [k_Tp_readPair_1, x_aload, w_dupI, w_dupR, x_getf, w_goto, w_fall, w_iadd, w_iconst, w_if, w_icmp, x_iload, x_istore, zadd_eq, gf_10_0, gf_24_0, gf_22_1, gf_22_3, xp_22_3, w_bret r_Tp_readPair, q_eq, q_ne, q_lt, q_ge, q_gt, q_le, g_I, g_L, g_R, g_V, t_0, t_I, t_R, t_U, t_L, t_s, List.getElem?_cons_zero, List.getElem?_cons_succ, Nat.reduceAdd, zif10, zif01b, zib, if_pos, if_neg, ↓reduceIte, not_true_eq_false, not_false_eq_true, Bool.true_eq_false, Bool.false_eq_true, Classical.not_not, eq_self, and_self, and_true, true_and, Int.reduceEq, Int.reduceLE, Int.reduceLT, Int.reduceNeg, Option.toList, List.cons_append, List.nil_append, zup_s, zup_n, zst_s, zup_zs, zup_zn, decide_true, decide_false]
    exact zRet_l hfa
  | inr y =>
    obtain ⟨p1, l1⟩ := y
    rw [e1] at h1 hres hG1
    dsimp only at hres
    obtain ⟨rfl, ho1, hl1⟩ : r = some (zI 1) ∧ zOkT (k + 1) p1 (k + 1 + l1.length) M M1 ∧ zHoldL (k + 1) l1 M1 := h1
    obtain ⟨g1, g2, g3, g4, g5⟩ : p ≤ p1 ∧ p1 ≤ q ∧ 1 ≤ l1.length ∧ k + 1 + l1.length ≤ 24 ∧ zqWL P (k + 1 + l1.length) (k + 1) l1 := hG1
    have hT1 := zOkT_tp hT ho1
    have hp1 : M1 22 3 = p1 := ho1.2.2.1
    have ho2 := zOkT_np ho1 (zNp q tb p1)
    have hnp := zNp_le (tb := tb) g2
    have no : ∀ v2 v4, zqK og (zNc q tb p1) = 0 → zW (zSH Ln) d i_Tp_readPair (zblk i_Tp_readPair 7) [zR 22, zI (k : Int), v2, zI dep, v4] [] (zup M1 22 3 (zNp q tb p1 : Int)) fun r M' => zRet res k M r M' := by
      intro v2 v4 hz
      rw [if_pos hz] at hres
      subst hres
      rw [k_Tp_readPair_7]
      simp (disch := first | omega | exact Nat.le_of_ble_eq_true rfl | assumption | (simp only [Int.natCast_add, Int.natCast_mul, Int.cast_ofNat_Int]; omega) | decide) only [x_aload, w_dupI, w_dupR, x_getf, w_goto, w_fall, w_iadd, w_iconst, w_if, w_icmp, x_iload, x_istore, zadd_eq, gf_10_0, gf_24_0, gf_22_1, gf_22_3, xp_22_3, w_bret r_Tp_readPair, q_eq, q_ne, q_lt, q_ge, q_gt, q_le, g_I, g_L, g_R, g_V, t_0, t_I, t_R, t_U, t_L, t_s, List.getElem?_cons_zero, List.getElem?_cons_succ, Nat.reduceAdd, zif10, zif01b, zib, if_pos, if_neg, ↓reduceIte, not_true_eq_false, not_false_eq_true, Bool.true_eq_false, Bool.false_eq_true, Classical.not_not, eq_self, and_self, and_true, true_and, Int.reduceEq, Int.reduceLE, Int.reduceLT, Int.reduceNeg, Option.toList, List.cons_append, List.nil_append, zup_s, zup_n, zst_s, zup_zs, zup_zn, decide_true, decide_false, c_Tp_refuse]
      exact zRet_l (zOkT_fa ho2)
    have go : ∀ (v2 : zMV) (kd : Nat), zqK og (zNc q tb p1) = kd → kd ≠ 0 → zW (zSH Ln) d i_Tp_readPair (zblk i_Tp_readPair 8) [zR 22, zI (k : Int), v2, zI dep, zI (kd : Int)] [] (zup M1 22 3 (zNp q tb p1 : Int)) fun r M' => zRet res k M r M' := by
      intro v2 kd hz h0
      rw [hz, if_neg h0] at hres
      have hlt : zNp q tb p1 < q := zNc_lt (fun z => h0 (by rw [← hz, z]; unfold zqK; cases og <;> rfl))
      have hc24 : M1 24 0 = ((k + 1 + l1.length : Nat) : Int) := ho1.2.2.2.1
      have ho3 := zOkT_set (zOkT_np (zOkT_mo ho1 (show k ≤ k + 1 by omega)) (zNp q tb p1 + 1)) (Nat.le_refl k) (kd : Int) ((k : Int) + 1) ((k + 1 + l1.length : Nat) : Int)
      have hcast : ((zNp q tb p1 + 1 : Nat) : Int) = (zNp q tb p1 : Int) + 1 := by omega
      rw [hcast] at ho3
      rw [k_Tp_readPair_8]
      simp (disch := first | omega | exact Nat.le_of_ble_eq_true rfl | assumption | (simp only [Int.natCast_add, Int.natCast_mul, Int.cast_ofNat_Int]; omega) | decide) only [x_aload, w_dupI, w_dupR, x_getf, w_goto, w_fall, w_iadd, w_iconst, w_if, w_icmp, x_iload, x_istore, zadd_eq, gf_10_0, gf_24_0, gf_22_1, gf_22_3, xp_22_3, w_bret r_Tp_readPair, q_eq, q_ne, q_lt, q_ge, q_gt, q_le, g_I, g_L, g_R, g_V, t_0, t_I, t_R, t_U, t_L, t_s, List.getElem?_cons_zero, List.getElem?_cons_succ, Nat.reduceAdd, zif10, zif01b, zib, if_pos, if_neg, ↓reduceIte, not_true_eq_false, not_false_eq_true, Bool.true_eq_false, Bool.false_eq_true, Classical.not_not, eq_self, and_self, and_true, true_and, Int.reduceEq, Int.reduceLE, Int.reduceLT, Int.reduceNeg, Option.toList, List.cons_append, List.nil_append, zup_s, zup_n, zst_s, zup_zs, zup_zn, decide_true, decide_false, c_Fo_set24, zup_up, hc24]
      refine w_callv (ps := [zI (dep + 1)]) (by omega) rfl rfl (by omega) (sh_22 Ln) (Nat.le_of_ble_eq_true rfl) (Nat.le_of_ble_eq_true rfl) (hrec _ (zNp q tb p1 + 1) (k + 1 + l1.length) (dep + 1) _ (zOkT_tp hT ho3) (ho3.2.1.2.1.trans hP) (ho3.2.2.1.trans hcast.symm) (by omega) ho3.2.2.2.1 g4 (by omega) (by omega) (by omega) (by omega)) ?_
      intro r M2 h2
      have hG2 := zqF_g (q := q) (P := P) (tb := tb) f (zNp q tb p1 + 1) (k + 1 + l1.length) (by omega) g4
      cases e2 : zqF q P tb f (zNp q tb p1 + 1) (k + 1 + l1.length) with
      | inl e =>
        rw [e2] at h2 hres
        obtain ⟨rfl, hfa⟩ : r = some (zI 0) ∧ zFaT e _ M2 := h2
        have hres : (.inl e : zqR) = res := hres
        subst hres
        simp (disch := first | omega | exact Nat.le_of_ble_eq_true rfl | assumption | (simp only [Int.natCast_add, Int.natCast_mul, Int.cast_ofNat_Int]; omega) | decide) only [k_Tp_readPair_11, k_Tp_readPair_12, x_aload, w_dupI, w_dupR, x_getf, w_goto, w_fall, w_iadd, w_iconst, w_if, w_icmp, x_iload, x_istore, zadd_eq, gf_10_0, gf_24_0, gf_22_1, gf_22_3, xp_22_3, w_bret r_Tp_readPair, q_eq, q_ne, q_lt, q_ge, q_gt, q_le, g_I, g_L, g_R, g_V, t_0, t_I, t_R, t_U, t_L, t_s, List.getElem?_cons_zero, List.getElem?_cons_succ, Nat.reduceAdd, zif10, zif01b, zib, if_pos, if_neg, ↓reduceIte, not_true_eq_false, not_false_eq_true, Bool.true_eq_false, Bool.false_eq_true, Classical.not_not, eq_self, and_self, and_true, true_and, Int.reduceEq, Int.reduceLE, Int.reduceLT, Int.reduceNeg, Option.toList, List.cons_append, List.nil_append, zup_s, zup_n, zst_s, zup_zs, zup_zn, decide_true, decide_false]
        exact zRet_l (zFaT_tr ho3 hfa)
      | inr y2 =>
        obtain ⟨p2, l2⟩ := y2
        rw [e2] at h2 hres hG2
        dsimp only at hres
        obtain ⟨rfl, ho4, hl2⟩ : r = some (zI 1) ∧ zOkT (k + 1 + l1.length) p2 (k + 1 + l1.length + l2.length) _ M2 ∧ zHoldL (k + 1 + l1.length) l2 M2 := h2
        obtain ⟨b1, b2, b3, b4, b5⟩ : zNp q tb p1 + 1 ≤ p2 ∧ p2 ≤ q ∧ 1 ≤ l2.length ∧ k + 1 + l1.length + l2.length ≤ 24 ∧ zqWL P (k + 1 + l1.length + l2.length) (k + 1 + l1.length) l2 := hG2
        have ho5 := zOkT_tr ho3 ho4 (by omega)
        have hp2 : M2 22 3 = p2 := ho5.2.2.1
        simp (disch := first | omega | exact Nat.le_of_ble_eq_true rfl | assumption | (simp only [Int.natCast_add, Int.natCast_mul, Int.cast_ofNat_Int]; omega) | decide) only [k_Tp_readPair_9, x_aload, w_dupI, w_dupR, x_getf, w_goto, w_fall, w_iadd, w_iconst, w_if, w_icmp, x_iload, x_istore, zadd_eq, gf_10_0, gf_24_0, gf_22_1, gf_22_3, xp_22_3, w_bret r_Tp_readPair, q_eq, q_ne, q_lt, q_ge, q_gt, q_le, g_I, g_L, g_R, g_V, t_0, t_I, t_R, t_U, t_L, t_s, List.getElem?_cons_zero, List.getElem?_cons_succ, Nat.reduceAdd, zif10, zif01b, zib, if_pos, if_neg, ↓reduceIte, not_true_eq_false, not_false_eq_true, Bool.true_eq_false, Bool.false_eq_true, Classical.not_not, eq_self, and_self, and_true, true_and, Int.reduceEq, Int.reduceLE, Int.reduceLT, Int.reduceNeg, Option.toList, List.cons_append, List.nil_append, zup_s, zup_n, zst_s, zup_zs, zup_zn, decide_true, decide_false]
        refine c_Tp_take (p := p2) (c := 41) (zOkT_tp hT ho5) hq hp2 b2 (by omega) (by omega) (Nat.le_of_ble_eq_true rfl) ?_
        rintro r M3 ⟨a1, a2⟩
        by_cases hc2 : zNc q tb p2 = 41
        · rw [if_pos hc2] at hres
          obtain ⟨rfl, rfl⟩ := a1 hc2
          subst hres
          simp (disch := first | omega | exact Nat.le_of_ble_eq_true rfl | assumption | (simp only [Int.natCast_add, Int.natCast_mul, Int.cast_ofNat_Int]; omega) | decide) only [k_Tp_readPair_10, k_Tp_readPair_12, x_aload, w_dupI, w_dupR, x_getf, w_goto, w_fall, w_iadd, w_iconst, w_if, w_icmp, x_iload, x_istore, zadd_eq, gf_10_0, gf_24_0, gf_22_1, gf_22_3, xp_22_3, w_bret r_Tp_readPair, q_eq, q_ne, q_lt, q_ge, q_gt, q_le, g_I, g_L, g_R, g_V, t_0, t_I, t_R, t_U, t_L, t_s, List.getElem?_cons_zero, List.getElem?_cons_succ, Nat.reduceAdd, zif10, zif01b, zib, if_pos, if_neg, ↓reduceIte, not_true_eq_false, not_false_eq_true, Bool.true_eq_false, Bool.false_eq_true, Classical.not_not, eq_self, and_self, and_true, true_and, Int.reduceEq, Int.reduceLE, Int.reduceLT, Int.reduceNeg, Option.toList, List.cons_append, List.nil_append, zup_s, zup_n, zst_s, zup_zs, zup_zn, decide_true, decide_false]
          refine zRet_r (zOkT_e (zOkT_np ho5 (zNp q tb p2 + 1)) (by simp; omega)) ⟨?_, ?_⟩
          · refine zHold1_k (M := zup (zup (zup (zup M1 22 3 ((zNp q tb p1 : Int) + 1)) 25 k kd) 26 k ((k : Int) + 1)) 27 k ((k + 1 + l1.length : Nat) : Int)) ⟨?_, ?_, ?_, ?_⟩ ((zSame_tr (zSame_of (a := k) (b := k + 1) ho4 (by omega)) zSame_np) k (Nat.le_refl _) (by omega))
            · rw [zup_n (by decide), zup_n (by decide), zup_s]
            · intro _
              rw [zup_n (by decide), zup_s]
              show (k : Int) + 1 = ((k + 1 : Nat) : Int)
              omega
            · intro _
              rw [zup_s]
            · intro h5
              have h5 : 5 ≤ kd := h5
              have hog : og = true := by
                rcases zqK_k (og := og) (c := zNc q tb p1) (by rw [hz]; exact h0) with z | z
                · exact z.1
                · omega
              show M1 28 (k : Int) = (g : Int)
              rw [(ho1.2.2.2.2 k (by omega)).2.2.2]
              exact hg hog
          · refine zHoldL_app l1 l2 (k + 1) (zHoldL_k l1 (k + 1) hl1 ?_) (zHoldL_k l2 _ hl2 zSame_np)
            refine zSame_tr (zSame_tr (zSame_tr (M1 := zup M1 22 3 ((zNp q tb p1 : Int) + 1)) zSame_np (zSame_set (by omega))) (zSame_of ho4 (Nat.le_refl _))) zSame_np
        · rw [if_neg hc2] at hres
          obtain ⟨rfl, rfl⟩ := a2 hc2
          subst hres
          simp (disch := first | omega | exact Nat.le_of_ble_eq_true rfl | assumption | (simp only [Int.natCast_add, Int.natCast_mul, Int.cast_ofNat_Int]; omega) | decide) only [k_Tp_readPair_11, k_Tp_readPair_12, x_aload, w_dupI, w_dupR, x_getf, w_goto, w_fall, w_iadd, w_iconst, w_if, w_icmp, x_iload, x_istore, zadd_eq, gf_10_0, gf_24_0, gf_22_1, gf_22_3, xp_22_3, w_bret r_Tp_readPair, q_eq, q_ne, q_lt, q_ge, q_gt, q_le, g_I, g_L, g_R, g_V, t_0, t_I, t_R, t_U, t_L, t_s, List.getElem?_cons_zero, List.getElem?_cons_succ, Nat.reduceAdd, zif10, zif01b, zib, if_pos, if_neg, ↓reduceIte, not_true_eq_false, not_false_eq_true, Bool.true_eq_false, Bool.false_eq_true, Classical.not_not, eq_self, and_self, and_true, true_and, Int.reduceEq, Int.reduceLE, Int.reduceLT, Int.reduceNeg, Option.toList, List.cons_append, List.nil_append, zup_s, zup_n, zst_s, zup_zs, zup_zn, decide_true, decide_false]
          exact zRet_l (zOkT_fa (zOkT_np ho5 (zNp q tb p2)))
    simp (disch := first | omega | exact Nat.le_of_ble_eq_true rfl | assumption | (simp only [Int.natCast_add, Int.natCast_mul, Int.cast_ofNat_Int]; omega) | decide) only [x_aload, w_dupI, w_dupR, x_getf, w_goto, w_fall, w_iadd, w_iconst, w_if, w_icmp, x_iload, x_istore, zadd_eq, gf_10_0, gf_24_0, gf_22_1, gf_22_3, xp_22_3, w_bret r_Tp_readPair, q_eq, q_ne, q_lt, q_ge, q_gt, q_le, g_I, g_L, g_R, g_V, t_0, t_I, t_R, t_U, t_L, t_s, List.getElem?_cons_zero, List.getElem?_cons_succ, Nat.reduceAdd, zif10, zif01b, zib, if_pos, if_neg, ↓reduceIte, not_true_eq_false, not_false_eq_true, Bool.true_eq_false, Bool.false_eq_true, Classical.not_not, eq_self, and_self, and_true, true_and, Int.reduceEq, Int.reduceLE, Int.reduceLT, Int.reduceNeg, Option.toList, List.cons_append, List.nil_append, zup_s, zup_n, zst_s, zup_zs, zup_zn, decide_true, decide_false]
    rcases zHc_v q tb p1 with ⟨z1, z2, z3⟩ | ⟨z1, z2⟩
    · simp (disch := first | omega | exact Nat.le_of_ble_eq_true rfl | assumption | (simp only [Int.natCast_add, Int.natCast_mul, Int.cast_ofNat_Int]; omega) | decide) only [k_Tp_readPair_2, x_aload, w_dupI, w_dupR, x_getf, w_goto, w_fall, w_iadd, w_iconst, w_if, w_icmp, x_iload, x_istore, zadd_eq, gf_10_0, gf_24_0, gf_22_1, gf_22_3, xp_22_3, w_bret r_Tp_readPair, q_eq, q_ne, q_lt, q_ge, q_gt, q_le, g_I, g_L, g_R, g_V, t_0, t_I, t_R, t_U, t_L, t_s, List.getElem?_cons_zero, List.getElem?_cons_succ, Nat.reduceAdd, zif10, zif01b, zib, if_pos, if_neg, ↓reduceIte, not_true_eq_false, not_false_eq_true, Bool.true_eq_false, Bool.false_eq_true, Classical.not_not, eq_self, and_self, and_true, true_and, Int.reduceEq, Int.reduceLE, Int.reduceLT, Int.reduceNeg, Option.toList, List.cons_append, List.nil_append, zup_s, zup_n, zst_s, zup_zs, zup_zn, decide_true, decide_false, c_Tp_here hT1 hq hp1 g2, z1, c_Tp_pairKind]
      exact no _ _ (by rw [z2]; unfold zqK; cases og <;> rfl)
    · by_cases c1 : zNc q tb p1 = 38
      · rw [c1] at z1
        cases og
        · simp (disch := first | omega | exact Nat.le_of_ble_eq_true rfl | assumption | (simp only [Int.natCast_add, Int.natCast_mul, Int.cast_ofNat_Int]; omega) | decide) only [k_Tp_readPair_2, k_Tp_readPair_3, k_Tp_readPair_5, k_Tp_readPair_6, x_aload, w_dupI, w_dupR, x_getf, w_goto, w_fall, w_iadd, w_iconst, w_if, w_icmp, x_iload, x_istore, zadd_eq, gf_10_0, gf_24_0, gf_22_1, gf_22_3, xp_22_3, w_bret r_Tp_readPair, q_eq, q_ne, q_lt, q_ge, q_gt, q_le, g_I, g_L, g_R, g_V, t_0, t_I, t_R, t_U, t_L, t_s, List.getElem?_cons_zero, List.getElem?_cons_succ, Nat.reduceAdd, zif10, zif01b, zib, if_pos, if_neg, ↓reduceIte, not_true_eq_false, not_false_eq_true, Bool.true_eq_false, Bool.false_eq_true, Classical.not_not, eq_self, and_self, and_true, true_and, Int.reduceEq, Int.reduceLE, Int.reduceLT, Int.reduceNeg, Option.toList, List.cons_append, List.nil_append, zup_s, zup_n, zst_s, zup_zs, zup_zn, decide_true, decide_false, c_Tp_here hT1 hq hp1 g2, z1, c_Tp_pairKind, show ((38 : Nat) : Int) = 38 from rfl]
          exact go _ 3 (by rw [c1]; rfl) (by omega)
        · simp (disch := first | omega | exact Nat.le_of_ble_eq_true rfl | assumption | (simp only [Int.natCast_add, Int.natCast_mul, Int.cast_ofNat_Int]; omega) | decide) only [k_Tp_readPair_2, k_Tp_readPair_3, k_Tp_readPair_5, k_Tp_readPair_6, x_aload, w_dupI, w_dupR, x_getf, w_goto, w_fall, w_iadd, w_iconst, w_if, w_icmp, x_iload, x_istore, zadd_eq, gf_10_0, gf_24_0, gf_22_1, gf_22_3, xp_22_3, w_bret r_Tp_readPair, q_eq, q_ne, q_lt, q_ge, q_gt, q_le, g_I, g_L, g_R, g_V, t_0, t_I, t_R, t_U, t_L, t_s, List.getElem?_cons_zero, List.getElem?_cons_succ, Nat.reduceAdd, zif10, zif01b, zib, if_pos, if_neg, ↓reduceIte, not_true_eq_false, not_false_eq_true, Bool.true_eq_false, Bool.false_eq_true, Classical.not_not, eq_self, and_self, and_true, true_and, Int.reduceEq, Int.reduceLE, Int.reduceLT, Int.reduceNeg, Option.toList, List.cons_append, List.nil_append, zup_s, zup_n, zst_s, zup_zs, zup_zn, decide_true, decide_false, c_Tp_here hT1 hq hp1 g2, z1, c_Tp_pairKind, show ((38 : Nat) : Int) = 38 from rfl]
          exact no _ _ (by rw [c1]; rfl)
      by_cases c2 : zNc q tb p1 = 85
      · rw [c2] at z1
        cases og
        · simp (disch := first | omega | exact Nat.le_of_ble_eq_true rfl | assumption | (simp only [Int.natCast_add, Int.natCast_mul, Int.cast_ofNat_Int]; omega) | decide) only [k_Tp_readPair_2, k_Tp_readPair_3, k_Tp_readPair_4, k_Tp_readPair_6, x_aload, w_dupI, w_dupR, x_getf, w_goto, w_fall, w_iadd, w_iconst, w_if, w_icmp, x_iload, x_istore, zadd_eq, gf_10_0, gf_24_0, gf_22_1, gf_22_3, xp_22_3, w_bret r_Tp_readPair, q_eq, q_ne, q_lt, q_ge, q_gt, q_le, g_I, g_L, g_R, g_V, t_0, t_I, t_R, t_U, t_L, t_s, List.getElem?_cons_zero, List.getElem?_cons_succ, Nat.reduceAdd, zif10, zif01b, zib, if_pos, if_neg, ↓reduceIte, not_true_eq_false, not_false_eq_true, Bool.true_eq_false, Bool.false_eq_true, Classical.not_not, eq_self, and_self, and_true, true_and, Int.reduceEq, Int.reduceLE, Int.reduceLT, Int.reduceNeg, Option.toList, List.cons_append, List.nil_append, zup_s, zup_n, zst_s, zup_zs, zup_zn, decide_true, decide_false, c_Tp_here hT1 hq hp1 g2, z1, c_Tp_pairKind, show ((85 : Nat) : Int) = 85 from rfl]
          exact no _ _ (by rw [c2]; rfl)
        · simp (disch := first | omega | exact Nat.le_of_ble_eq_true rfl | assumption | (simp only [Int.natCast_add, Int.natCast_mul, Int.cast_ofNat_Int]; omega) | decide) only [k_Tp_readPair_2, k_Tp_readPair_3, k_Tp_readPair_4, k_Tp_readPair_6, x_aload, w_dupI, w_dupR, x_getf, w_goto, w_fall, w_iadd, w_iconst, w_if, w_icmp, x_iload, x_istore, zadd_eq, gf_10_0, gf_24_0, gf_22_1, gf_22_3, xp_22_3, w_bret r_Tp_readPair, q_eq, q_ne, q_lt, q_ge, q_gt, q_le, g_I, g_L, g_R, g_V, t_0, t_I, t_R, t_U, t_L, t_s, List.getElem?_cons_zero, List.getElem?_cons_succ, Nat.reduceAdd, zif10, zif01b, zib, if_pos, if_neg, ↓reduceIte, not_true_eq_false, not_false_eq_true, Bool.true_eq_false, Bool.false_eq_true, Classical.not_not, eq_self, and_self, and_true, true_and, Int.reduceEq, Int.reduceLE, Int.reduceLT, Int.reduceNeg, Option.toList, List.cons_append, List.nil_append, zup_s, zup_n, zst_s, zup_zs, zup_zn, decide_true, decide_false, c_Tp_here hT1 hq hp1 g2, z1, c_Tp_pairKind, show ((85 : Nat) : Int) = 85 from rfl]
          exact go _ 8 (by rw [c2]; rfl) (by omega)
      by_cases c3 : zNc q tb p1 = 124
      · rw [c3] at z1
        cases og
        · simp (disch := first | omega | exact Nat.le_of_ble_eq_true rfl | assumption | (simp only [Int.natCast_add, Int.natCast_mul, Int.cast_ofNat_Int]; omega) | decide) only [k_Tp_readPair_2, k_Tp_readPair_3, k_Tp_readPair_5, k_Tp_readPair_6, x_aload, w_dupI, w_dupR, x_getf, w_goto, w_fall, w_iadd, w_iconst, w_if, w_icmp, x_iload, x_istore, zadd_eq, gf_10_0, gf_24_0, gf_22_1, gf_22_3, xp_22_3, w_bret r_Tp_readPair, q_eq, q_ne, q_lt, q_ge, q_gt, q_le, g_I, g_L, g_R, g_V, t_0, t_I, t_R, t_U, t_L, t_s, List.getElem?_cons_zero, List.getElem?_cons_succ, Nat.reduceAdd, zif10, zif01b, zib, if_pos, if_neg, ↓reduceIte, not_true_eq_false, not_false_eq_true, Bool.true_eq_false, Bool.false_eq_true, Classical.not_not, eq_self, and_self, and_true, true_and, Int.reduceEq, Int.reduceLE, Int.reduceLT, Int.reduceNeg, Option.toList, List.cons_append, List.nil_append, zup_s, zup_n, zst_s, zup_zs, zup_zn, decide_true, decide_false, c_Tp_here hT1 hq hp1 g2, z1, c_Tp_pairKind, show ((124 : Nat) : Int) = 124 from rfl]
          exact go _ 4 (by rw [c3]; rfl) (by omega)
        · simp (disch := first | omega | exact Nat.le_of_ble_eq_true rfl | assumption | (simp only [Int.natCast_add, Int.natCast_mul, Int.cast_ofNat_Int]; omega) | decide) only [k_Tp_readPair_2, k_Tp_readPair_3, k_Tp_readPair_5, k_Tp_readPair_6, x_aload, w_dupI, w_dupR, x_getf, w_goto, w_fall, w_iadd, w_iconst, w_if, w_icmp, x_iload, x_istore, zadd_eq, gf_10_0, gf_24_0, gf_22_1, gf_22_3, xp_22_3, w_bret r_Tp_readPair, q_eq, q_ne, q_lt, q_ge, q_gt, q_le, g_I, g_L, g_R, g_V, t_0, t_I, t_R, t_U, t_L, t_s, List.getElem?_cons_zero, List.getElem?_cons_succ, Nat.reduceAdd, zif10, zif01b, zib, if_pos, if_neg, ↓reduceIte, not_true_eq_false, not_false_eq_true, Bool.true_eq_false, Bool.false_eq_true, Classical.not_not, eq_self, and_self, and_true, true_and, Int.reduceEq, Int.reduceLE, Int.reduceLT, Int.reduceNeg, Option.toList, List.cons_append, List.nil_append, zup_s, zup_n, zst_s, zup_zs, zup_zn, decide_true, decide_false, c_Tp_here hT1 hq hp1 g2, z1, c_Tp_pairKind, show ((124 : Nat) : Int) = 124 from rfl]
          exact no _ _ (by rw [c3]; rfl)
      · have d1 : ¬ (zNc q tb p1 : Int) = 38 := by omega
        have d2 : ¬ (zNc q tb p1 : Int) = 85 := by omega
        have d3 : ¬ (zNc q tb p1 : Int) = 124 := by omega
        simp (disch := first | omega | exact Nat.le_of_ble_eq_true rfl | assumption | (simp only [Int.natCast_add, Int.natCast_mul, Int.cast_ofNat_Int]; omega) | decide) only [k_Tp_readPair_2, x_aload, w_dupI, w_dupR, x_getf, w_goto, w_fall, w_iadd, w_iconst, w_if, w_icmp, x_iload, x_istore, zadd_eq, gf_10_0, gf_24_0, gf_22_1, gf_22_3, xp_22_3, w_bret r_Tp_readPair, q_eq, q_ne, q_lt, q_ge, q_gt, q_le, g_I, g_L, g_R, g_V, t_0, t_I, t_R, t_U, t_L, t_s, List.getElem?_cons_zero, List.getElem?_cons_succ, Nat.reduceAdd, zif10, zif01b, zib, if_pos, if_neg, ↓reduceIte, not_true_eq_false, not_false_eq_true, Bool.true_eq_false, Bool.false_eq_true, Classical.not_not, eq_self, and_self, and_true, true_and, Int.reduceEq, Int.reduceLE, Int.reduceLT, Int.reduceNeg, Option.toList, List.cons_append, List.nil_append, zup_s, zup_n, zst_s, zup_zs, zup_zn, decide_true, decide_false, c_Tp_here hT1 hq hp1 g2, z1, c_Tp_pairKind, d1, d2, d3]
        exact no _ _ (by unfold zqK; rw [if_neg c1, if_neg c2, if_neg c3]; cases og <;> rfl)
end TP
