/-! the tape's reader: laws, forms -/
theorem zRet_v {res : zqR} {n : Nat} {M M' : Nat → Int → Int} {r : Option zMV} (h : zRet res n M r M') : ∃ v : Int, r = some (zI v) ∧ (v = 0 ∨ v = 1) := by
  cases res with
  | inl e => exact ⟨0, h.1, Or.inl rfl⟩
  | inr y => obtain ⟨p, l⟩ := y; exact ⟨1, h.1, Or.inr rfl⟩
theorem zRet_tr {res : zqR} {n p n1 : Nat} {M M1 M2 : Nat → Int → Int} {r : Option zMV} (h1 : zOkT n p n1 M M1) (h : zRet res n M1 r M2) : zRet res n M r M2 := by
  cases res with
  | inl e => exact ⟨h.1, zFaT_tr h1 h.2⟩
  | inr y => obtain ⟨p, l⟩ := y; exact ⟨h.1, zOkT_tr h1 h.2.1 (Nat.le_refl _), h.2.2⟩
/-- a part that has one within: after its own row the rest is read -/
theorem zRet_C {res : zqR} {k p kd g : Nat} {M M1 M2 : Nat → Int → Int} {r : Option zMV} (ho : zOkT k p (k + 1) M M1) (h1 : M1 25 k = kd) (h2 : M1 26 k = ((k + 1 : Nat) : Int)) (h3 : ztwo kd = false) (h4 : 5 ≤ kd → M1 28 k = g) (h : zRet res (k + 1) M1 r M2) : zRet (zqC (kd, k + 1, 0, g) res) k M r M2 := by
  cases res with
  | inl e => exact ⟨h.1, zFaT_tr ho h.2⟩
  | inr y =>
    obtain ⟨p, l⟩ := y
    obtain ⟨a, b, c⟩ : r = some (zI 1) ∧ zOkT (k + 1) p (k + 1 + l.length) M1 M2 ∧ zHoldL (k + 1) l M2 := h
    refine ⟨a, zOkT_e (zOkT_tr ho b (by omega)) (by simp; omega), zHold1_k (M := M1) ⟨h1, fun _ => h2, fun z => ?_, h4⟩ (b.2.2.2.2 k (by omega)), c⟩
    have z : ztwo kd = true := z
    rw [h3] at z; cases z
section TP
variable {Ln q P : Nat} {tb : Nat → Nat} {M : Nat → Int → Int}
set_option maxHeartbeats 20000000 in
theorem F_Tp_readLaw {f : Nat} (hrec : zRec Ln q P tb f) (hq : q ≤ 100) {d p k g : Nat} {dep : Int} (hT : zTpC q tb M) (hP : M 22 5 = P) (hp : M 22 3 = p) (hpq : p ≤ q) (hn : M 24 0 = ((k + 1 : Nat) : Int)) (hk : k + 1 ≤ 24) (hf : 25 ≤ k + 1 + f) (hd0 : 0 ≤ dep) (hdk : dep ≤ k) (hg : M 28 k = g) (hd : 3 * f + 5 ≤ d) : zF (zSH Ln) d i_Tp_readLaw [zR 22, zI (k : Int), zI dep] M fun r M' => zRet (if zNc q tb p = 40 then zqPair (zqF q P tb f) q tb true (zNp q tb p + 1) k g else if zqL (zNc q tb p) = 0 then .inl (zNp q tb p) else zqC (zqL (zNc q tb p), k + 1, 0, g) (zqF q P tb f (zNp q tb p + 1) (k + 1))) k M r M' := by
  rw [zF_en k_Tp_readLaw_0 (L := [zR 22, zI (k : Int), zI dep, zU, zU]) rfl]
  have ho1 : zOkT k p (k + 1) M M := zOkT_rf hp hn
  have hcast : ((zNp q tb p + 1 : Nat) : Int) = (zNp q tb p : Int) + 1 := by omega
  generalize hc : zNc q tb p = c
  generalize hres : (if c = 40 then zqPair (zqF q P tb f) q tb true (zNp q tb p + 1) k g else if zqL c = 0 then .inl (zNp q tb p) else zqC (zqL c, k + 1, 0, g) (zqF q P tb f (zNp q tb p + 1) (k + 1))) = res
  have no : ∀ v3 v4, zqL c = 0 → c ≠ 40 → zW (zSH Ln) d i_Tp_readLaw (zblk i_Tp_readLaw 1) [zR 22, zI (k : Int), zI dep, v3, v4] [] (zup M 22 3 (zNp q tb p : Int)) fun r M' => zRet res k M r M' := by
    intro v3 v4 hz h40
    rw [if_neg h40, if_pos hz] at hres
    subst hres
    rw [k_Tp_readLaw_1]
    simp (disch := first | omega | exact Nat.le_of_ble_eq_true rfl | assumption | (simp only [Int.natCast_add, Int.natCast_mul, Int.cast_ofNat_Int]; omega) | decide) only [x_aload, w_dupI, w_dupR, x_getf, w_fall, w_iadd, w_iconst, w_if, w_icmp, x_iload, x_istore, zadd_eq, gf_22_1, gf_22_3, xp_22_3, w_bret r_Tp_readLaw, q_eq, q_ne, q_lt, q_ge, q_gt, q_le, g_I, g_L, g_R, g_V, t_0, t_I, t_R, t_U, t_L, t_s, List.getElem?_cons_zero, List.getElem?_cons_succ, Nat.reduceAdd, zif10, zif01b, zib, if_pos, if_neg, ↓reduceIte, not_true_eq_false, not_false_eq_true, Bool.true_eq_false, Bool.false_eq_true, Classical.not_not, eq_self, and_self, and_true, true_and, Int.reduceEq, Int.reduceLE, Int.reduceLT, Int.reduceNeg, Option.toList, List.cons_append, List.nil_append, zup_s, zup_n, zst_s, zup_zs, zup_zn, decide_true, decide_false, c_Tp_refuse]
    exact zRet_l (zOkT_fa (zOkT_np ho1 (zNp q tb p)))
  have go : ∀ (v3 : zMV) (kd : Nat), zqL c = kd → kd ≠ 0 → c ≠ 40 → zW (zSH Ln) d i_Tp_readLaw (zblk i_Tp_readLaw 2) [zR 22, zI (k : Int), zI dep, v3, zI (kd : Int)] [] (zup M 22 3 (zNp q tb p : Int)) fun r M' => zRet res k M r M' := by
    intro v3 kd hz h0 h40
    rw [if_neg h40, hz, if_neg h0] at hres
    subst hres
    have hkd := zqL_k (c := c) (by rw [hz]; exact h0)
    rw [hz] at hkd
    have h8 : ¬ (kd : Int) = 8 := by omega
    have hlt : zNp q tb p < q := zNc_lt (fun z => h0 (by rw [← hz, ← hc, z]; rfl))
    have ho3 := zOkT_set (zOkT_np ho1 (zNp q tb p + 1)) (Nat.le_refl k) (kd : Int) ((k : Int) + 1) 0
    rw [hcast] at ho3
    rw [k_Tp_readLaw_2]
    simp (disch := first | omega | exact Nat.le_of_ble_eq_true rfl | assumption | (simp only [Int.natCast_add, Int.natCast_mul, Int.cast_ofNat_Int]; omega) | decide) only [k_Tp_readLaw_4, x_aload, w_dupI, w_dupR, x_getf, w_fall, w_iadd, w_iconst, w_if, w_icmp, x_iload, x_istore, zadd_eq, gf_22_1, gf_22_3, xp_22_3, w_bret r_Tp_readLaw, q_eq, q_ne, q_lt, q_ge, q_gt, q_le, g_I, g_L, g_R, g_V, t_0, t_I, t_R, t_U, t_L, t_s, List.getElem?_cons_zero, List.getElem?_cons_succ, Nat.reduceAdd, zif10, zif01b, zib, if_pos, if_neg, ↓reduceIte, not_true_eq_false, not_false_eq_true, Bool.true_eq_false, Bool.false_eq_true, Classical.not_not, eq_self, and_self, and_true, true_and, Int.reduceEq, Int.reduceLE, Int.reduceLT, Int.reduceNeg, Option.toList, List.cons_append, List.nil_append, zup_s, zup_n, zst_s, zup_zs, zup_zn, decide_true, decide_false, h8, c_Fo_set24, zup_up]
    refine w_callv (ps := [zI (dep + 1)]) (by omega) rfl rfl (by omega) (sh_22 Ln) (Nat.le_of_ble_eq_true rfl) (Nat.le_of_ble_eq_true rfl) (hrec _ (zNp q tb p + 1) (k + 1) (dep + 1) _ (zOkT_tp hT ho3) (ho3.2.1.2.1.trans hP) (ho3.2.2.1.trans hcast.symm) (by omega) ho3.2.2.2.1 hk (by omega) (by omega) (by omega) (by omega)) ?_
    intro r M2 h2
    obtain ⟨v, rfl, hv⟩ := zRet_v h2
    simp (disch := first | omega | exact Nat.le_of_ble_eq_true rfl | assumption | (simp only [Int.natCast_add, Int.natCast_mul, Int.cast_ofNat_Int]; omega) | decide) only [x_aload, w_dupI, w_dupR, x_getf, w_fall, w_iadd, w_iconst, w_if, w_icmp, x_iload, x_istore, zadd_eq, gf_22_1, gf_22_3, xp_22_3, w_bret r_Tp_readLaw, q_eq, q_ne, q_lt, q_ge, q_gt, q_le, g_I, g_L, g_R, g_V, t_0, t_I, t_R, t_U, t_L, t_s, List.getElem?_cons_zero, List.getElem?_cons_succ, Nat.reduceAdd, zif10, zif01b, zib, if_pos, if_neg, ↓reduceIte, not_true_eq_false, not_false_eq_true, Bool.true_eq_false, Bool.false_eq_true, Classical.not_not, eq_self, and_self, and_true, true_and, Int.reduceEq, Int.reduceLE, Int.reduceLT, Int.reduceNeg, Option.toList, List.cons_append, List.nil_append, zup_s, zup_n, zst_s, zup_zs, zup_zn, decide_true, decide_false]
    refine zRet_C ho3 ?_ ?_ ?_ (fun _ => hg) h2
    · rw [zup_n (by decide), zup_n (by decide), zup_s]
    · rw [zup_n (by decide), zup_s]; omega
    · rcases hkd with e | e | e | e <;> rw [e] <;> rfl
  simp (disch := first | omega | exact Nat.le_of_ble_eq_true rfl | assumption | (simp only [Int.natCast_add, Int.natCast_mul, Int.cast_ofNat_Int]; omega) | decide) only [x_aload, w_dupI, w_dupR, x_getf, w_fall, w_iadd, w_iconst, w_if, w_icmp, x_iload, x_istore, zadd_eq, gf_22_1, gf_22_3, xp_22_3, w_bret r_Tp_readLaw, q_eq, q_ne, q_lt, q_ge, q_gt, q_le, g_I, g_L, g_R, g_V, t_0, t_I, t_R, t_U, t_L, t_s, List.getElem?_cons_zero, List.getElem?_cons_succ, Nat.reduceAdd, zif10, zif01b, zib, if_pos, if_neg, ↓reduceIte, not_true_eq_false, not_false_eq_true, Bool.true_eq_false, Bool.false_eq_true, Classical.not_not, eq_self, and_self, and_true, true_and, Int.reduceEq, Int.reduceLE, Int.reduceLT, Int.reduceNeg, Option.toList, List.cons_append, List.nil_append, zup_s, zup_n, zst_s, zup_zs, zup_zn, decide_true, decide_false]
  rcases zHc_v q tb p with ⟨z1, z2, z3⟩ | ⟨z1, z2⟩
  · rw [hc] at z2
    simp (disch := first | omega | exact Nat.le_of_ble_eq_true rfl | assumption | (simp only [Int.natCast_add, Int.natCast_mul, Int.cast_ofNat_Int]; omega) | decide) only [x_aload, w_dupI, w_dupR, x_getf, w_fall, w_iadd, w_iconst, w_if, w_icmp, x_iload, x_istore, zadd_eq, gf_22_1, gf_22_3, xp_22_3, w_bret r_Tp_readLaw, q_eq, q_ne, q_lt, q_ge, q_gt, q_le, g_I, g_L, g_R, g_V, t_0, t_I, t_R, t_U, t_L, t_s, List.getElem?_cons_zero, List.getElem?_cons_succ, Nat.reduceAdd, zif10, zif01b, zib, if_pos, if_neg, ↓reduceIte, not_true_eq_false, not_false_eq_true, Bool.true_eq_false, Bool.false_eq_true, Classical.not_not, eq_self, and_self, and_true, true_and, Int.reduceEq, Int.reduceLE, Int.reduceLT, Int.reduceNeg, Option.toList, List.cons_append, List.nil_append, zup_s, zup_n, zst_s, zup_zs, zup_zn, decide_true, decide_false, c_Tp_here hT hq hp hpq, z1, c_Tp_lawKind]
    exact no _ _ (by rw [z2]; rfl) (by omega)
  · have hlt := z2
    rw [hc] at z1
    by_cases c1 : c = 40
    · subst c1
      have ho3 := zOkT_np ho1 (zNp q tb p + 1)
      rw [hcast] at ho3
      rw [if_pos rfl] at hres
      subst hres
      simp (disch := first | omega | exact Nat.le_of_ble_eq_true rfl | assumption | (simp only [Int.natCast_add, Int.natCast_mul, Int.cast_ofNat_Int]; omega) | decide) only [k_Tp_readLaw_2, k_Tp_readLaw_3, x_aload, w_dupI, w_dupR, x_getf, w_fall, w_iadd, w_iconst, w_if, w_icmp, x_iload, x_istore, zadd_eq, gf_22_1, gf_22_3, xp_22_3, w_bret r_Tp_readLaw, q_eq, q_ne, q_lt, q_ge, q_gt, q_le, g_I, g_L, g_R, g_V, t_0, t_I, t_R, t_U, t_L, t_s, List.getElem?_cons_zero, List.getElem?_cons_succ, Nat.reduceAdd, zif10, zif01b, zib, if_pos, if_neg, ↓reduceIte, not_true_eq_false, not_false_eq_true, Bool.true_eq_false, Bool.false_eq_true, Classical.not_not, eq_self, and_self, and_true, true_and, Int.reduceEq, Int.reduceLE, Int.reduceLT, Int.reduceNeg, Option.toList, List.cons_append, List.nil_append, zup_s, zup_n, zst_s, zup_zs, zup_zn, decide_true, decide_false, c_Tp_here hT hq hp hpq, z1, c_Tp_lawKind, show ((40 : Nat) : Int) = 40 from rfl, zup_up]
      refine w_callv (ps := [zI (k : Int), zI 1, zI dep]) (by omega) rfl rfl (by omega) (sh_22 Ln) (Nat.le_of_ble_eq_true rfl) (Nat.le_of_ble_eq_true rfl) (F_Tp_readPair hrec hq (d := d - 1) (p := zNp q tb p + 1) (k := k) (g := g) (dep := dep) (og := true) (zOkT_tp hT ho3) (ho3.2.1.2.1.trans hP) (ho3.2.2.1.trans hcast.symm) (by omega) ho3.2.2.2.1 hk hf hd0 hdk (fun _ => hg) (by omega)) ?_
      intro r M2 h2
      obtain ⟨v, rfl, hv⟩ := zRet_v h2
      simp (disch := first | omega | exact Nat.le_of_ble_eq_true rfl | assumption | (simp only [Int.natCast_add, Int.natCast_mul, Int.cast_ofNat_Int]; omega) | decide) only [x_aload, w_dupI, w_dupR, x_getf, w_fall, w_iadd, w_iconst, w_if, w_icmp, x_iload, x_istore, zadd_eq, gf_22_1, gf_22_3, xp_22_3, w_bret r_Tp_readLaw, q_eq, q_ne, q_lt, q_ge, q_gt, q_le, g_I, g_L, g_R, g_V, t_0, t_I, t_R, t_U, t_L, t_s, List.getElem?_cons_zero, List.getElem?_cons_succ, Nat.reduceAdd, zif10, zif01b, zib, if_pos, if_neg, ↓reduceIte, not_true_eq_false, not_false_eq_true, Bool.true_eq_false, Bool.false_eq_true, Classical.not_not, eq_self, and_self, and_true, true_and, Int.reduceEq, Int.reduceLE, Int.reduceLT, Int.reduceNeg, Option.toList, List.cons_append, List.nil_append, zup_s, zup_n, zst_s, zup_zs, zup_zn, decide_true, decide_false]
      exact zRet_tr ho3 h2
    by_cases c88 : c = 88
    · rw [c88] at z1
      simp (disch := first | omega | exact Nat.le_of_ble_eq_true rfl | assumption | (simp only [Int.natCast_add, Int.natCast_mul, Int.cast_ofNat_Int]; omega) | decide) only [x_aload, w_dupI, w_dupR, x_getf, w_fall, w_iadd, w_iconst, w_if, w_icmp, x_iload, x_istore, zadd_eq, gf_22_1, gf_22_3, xp_22_3, w_bret r_Tp_readLaw, q_eq, q_ne, q_lt, q_ge, q_gt, q_le, g_I, g_L, g_R, g_V, t_0, t_I, t_R, t_U, t_L, t_s, List.getElem?_cons_zero, List.getElem?_cons_succ, Nat.reduceAdd, zif10, zif01b, zib, if_pos, if_neg, ↓reduceIte, not_true_eq_false, not_false_eq_true, Bool.true_eq_false, Bool.false_eq_true, Classical.not_not, eq_self, and_self, and_true, true_and, Int.reduceEq, Int.reduceLE, Int.reduceLT, Int.reduceNeg, Option.toList, List.cons_append, List.nil_append, zup_s, zup_n, zst_s, zup_zs, zup_zn, decide_true, decide_false, c_Tp_here hT hq hp hpq, z1, c_Tp_lawKind, show ((88 : Nat) : Int) = 88 from rfl]
      exact go _ 5 (by rw [c88]; rfl) (by omega) (by omega)
    by_cases c71 : c = 71
    · rw [c71] at z1
      simp (disch := first | omega | exact Nat.le_of_ble_eq_true rfl | assumption | (simp only [Int.natCast_add, Int.natCast_mul, Int.cast_ofNat_Int]; omega) | decide) only [x_aload, w_dupI, w_dupR, x_getf, w_fall, w_iadd, w_iconst, w_if, w_icmp, x_iload, x_istore, zadd_eq, gf_22_1, gf_22_3, xp_22_3, w_bret r_Tp_readLaw, q_eq, q_ne, q_lt, q_ge, q_gt, q_le, g_I, g_L, g_R, g_V, t_0, t_I, t_R, t_U, t_L, t_s, List.getElem?_cons_zero, List.getElem?_cons_succ, Nat.reduceAdd, zif10, zif01b, zib, if_pos, if_neg, ↓reduceIte, not_true_eq_false, not_false_eq_true, Bool.true_eq_false, Bool.false_eq_true, Classical.not_not, eq_self, and_self, and_true, true_and, Int.reduceEq, Int.reduceLE, Int.reduceLT, Int.reduceNeg, Option.toList, List.cons_append, List.nil_append, zup_s, zup_n, zst_s, zup_zs, zup_zn, decide_true, decide_false, c_Tp_here hT hq hp hpq, z1, c_Tp_lawKind, show ((71 : Nat) : Int) = 71 from rfl]
      exact go _ 6 (by rw [c71]; rfl) (by omega) (by omega)
    by_cases c70 : c = 70
    · rw [c70] at z1
      simp (disch := first | omega | exact Nat.le_of_ble_eq_true rfl | assumption | (simp only [Int.natCast_add, Int.natCast_mul, Int.cast_ofNat_Int]; omega) | decide) only [x_aload, w_dupI, w_dupR, x_getf, w_fall, w_iadd, w_iconst, w_if, w_icmp, x_iload, x_istore, zadd_eq, gf_22_1, gf_22_3, xp_22_3, w_bret r_Tp_readLaw, q_eq, q_ne, q_lt, q_ge, q_gt, q_le, g_I, g_L, g_R, g_V, t_0, t_I, t_R, t_U, t_L, t_s, List.getElem?_cons_zero, List.getElem?_cons_succ, Nat.reduceAdd, zif10, zif01b, zib, if_pos, if_neg, ↓reduceIte, not_true_eq_false, not_false_eq_true, Bool.true_eq_false, Bool.false_eq_true, Classical.not_not, eq_self, and_self, and_true, true_and, Int.reduceEq, Int.reduceLE, Int.reduceLT, Int.reduceNeg, Option.toList, List.cons_append, List.nil_append, zup_s, zup_n, zst_s, zup_zs, zup_zn, decide_true, decide_false, c_Tp_here hT hq hp hpq, z1, c_Tp_lawKind, show ((70 : Nat) : Int) = 70 from rfl]
      exact go _ 7 (by rw [c70]; rfl) (by omega) (by omega)
    by_cases c73 : c = 73
    · rw [c73] at z1
      simp (disch := first | omega | exact Nat.le_of_ble_eq_true rfl | assumption | (simp only [Int.natCast_add, Int.natCast_mul, Int.cast_ofNat_Int]; omega) | decide) only [x_aload, w_dupI, w_dupR, x_getf, w_fall, w_iadd, w_iconst, w_if, w_icmp, x_iload, x_istore, zadd_eq, gf_22_1, gf_22_3, xp_22_3, w_bret r_Tp_readLaw, q_eq, q_ne, q_lt, q_ge, q_gt, q_le, g_I, g_L, g_R, g_V, t_0, t_I, t_R, t_U, t_L, t_s, List.getElem?_cons_zero, List.getElem?_cons_succ, Nat.reduceAdd, zif10, zif01b, zib, if_pos, if_neg, ↓reduceIte, not_true_eq_false, not_false_eq_true, Bool.true_eq_false, Bool.false_eq_true, Classical.not_not, eq_self, and_self, and_true, true_and, Int.reduceEq, Int.reduceLE, Int.reduceLT, Int.reduceNeg, Option.toList, List.cons_append, List.nil_append, zup_s, zup_n, zst_s, zup_zs, zup_zn, decide_true, decide_false, c_Tp_here hT hq hp hpq, z1, c_Tp_lawKind, show ((73 : Nat) : Int) = 73 from rfl]
      exact go _ 9 (by rw [c73]; rfl) (by omega) (by omega)
    have d1 : ¬ (c : Int) = 40 := by omega
    have d2 : ¬ (c : Int) = 70 := by omega
    have d3 : ¬ (c : Int) = 71 := by omega
    have d4 : ¬ (c : Int) = 73 := by omega
    have d5 : ¬ (c : Int) = 88 := by omega
    simp (disch := first | omega | exact Nat.le_of_ble_eq_true rfl | assumption | (simp only [Int.natCast_add, Int.natCast_mul, Int.cast_ofNat_Int]; omega) | decide) only [x_aload, w_dupI, w_dupR, x_getf, w_fall, w_iadd, w_iconst, w_if, w_icmp, x_iload, x_istore, zadd_eq, gf_22_1, gf_22_3, xp_22_3, w_bret r_Tp_readLaw, q_eq, q_ne, q_lt, q_ge, q_gt, q_le, g_I, g_L, g_R, g_V, t_0, t_I, t_R, t_U, t_L, t_s, List.getElem?_cons_zero, List.getElem?_cons_succ, Nat.reduceAdd, zif10, zif01b, zib, if_pos, if_neg, ↓reduceIte, not_true_eq_false, not_false_eq_true, Bool.true_eq_false, Bool.false_eq_true, Classical.not_not, eq_self, and_self, and_true, true_and, Int.reduceEq, Int.reduceLE, Int.reduceLT, Int.reduceNeg, Option.toList, List.cons_append, List.nil_append, zup_s, zup_n, zst_s, zup_zs, zup_zn, decide_true, decide_false, c_Tp_here hT hq hp hpq, z1, c_Tp_lawKind, d1, d2, d3, d4, d5]
    exact no _ _ (by unfold zqL; rw [if_neg c88, if_neg c71, if_neg c70, if_neg c73]) c1
set_option maxHeartbeats 20000000 in
theorem F_Tp_readForm (hq : q ≤ 100) (hP4 : P ≤ 4) (htb : ∀ j, j < q → 32 ≤ tb j ∧ tb j ≤ 126) : ∀ f, zRec Ln q P tb f := by
  intro f
  induction f with
  | zero => intro d p n dep M _ _ _ _ _ hn hf; omega
  | succ f hrec =>
    intro d p n dep M hT hP hp hpq hn hn24 hf hd0 hdn hd
    rw [zF_en k_Tp_readForm_0 (L := [zR 22, zI dep, zU, zU]) rfl]
    have ho0 : zOkT n p n M M := zOkT_rf hp hn
    have ho1 := zOkT_np ho0 (zNp q tb p)
    have hcast : ((zNp q tb p + 1 : Nat) : Int) = (zNp q tb p : Int) + 1 := by omega
    have hnp := zNp_le (tb := tb) hpq
    generalize hres : zqF q P tb (f + 1) p n = res
    unfold zqF at hres
    by_cases h24 : 24 ≤ n
    · rw [if_pos h24] at hres
      subst hres
      have hn' : ¬ M 24 0 < 24 := by omega
      by_cases hd24 : dep < 24
      · simp (disch := first | omega | exact Nat.le_of_ble_eq_true rfl | assumption | (simp only [Int.natCast_add, Int.natCast_mul, Int.cast_ofNat_Int]; omega) | decide) only [k_Tp_readForm_1, k_Tp_readForm_2, x_aload, w_dupI, w_dupR, x_getf, w_goto, w_fall, w_iadd, w_iconst, w_if, w_icmp, x_iload, x_istore, w_isub, zadd_eq, zsub_eq, gf_10_0, gf_24_0, gf_22_1, gf_22_3, xp_22_3, w_bret r_Tp_readForm, q_eq, q_ne, q_lt, q_ge, q_gt, q_le, g_I, g_L, g_R, g_V, t_0, t_I, t_R, t_U, t_L, t_s, List.getElem?_cons_zero, List.getElem?_cons_succ, Nat.reduceAdd, zif10, zif01b, zib, if_pos, if_neg, ↓reduceIte, not_true_eq_false, not_false_eq_true, Bool.true_eq_false, Bool.false_eq_true, Classical.not_not, eq_self, and_self, and_true, true_and, Int.reduceEq, Int.reduceLE, Int.reduceLT, Int.reduceNeg, Option.toList, List.cons_append, List.nil_append, zup_s, zup_n, zst_s, zup_zs, zup_zn, decide_true, decide_false, c_Tp_here hT hq hp hpq, c_Tp_refuse, hn', hd24]
        exact zRet_l (zOkT_fa ho1)
      · simp (disch := first | omega | exact Nat.le_of_ble_eq_true rfl | assumption | (simp only [Int.natCast_add, Int.natCast_mul, Int.cast_ofNat_Int]; omega) | decide) only [k_Tp_readForm_2, x_aload, w_dupI, w_dupR, x_getf, w_goto, w_fall, w_iadd, w_iconst, w_if, w_icmp, x_iload, x_istore, w_isub, zadd_eq, zsub_eq, gf_10_0, gf_24_0, gf_22_1, gf_22_3, xp_22_3, w_bret r_Tp_readForm, q_eq, q_ne, q_lt, q_ge, q_gt, q_le, g_I, g_L, g_R, g_V, t_0, t_I, t_R, t_U, t_L, t_s, List.getElem?_cons_zero, List.getElem?_cons_succ, Nat.reduceAdd, zif10, zif01b, zib, if_pos, if_neg, ↓reduceIte, not_true_eq_false, not_false_eq_true, Bool.true_eq_false, Bool.false_eq_true, Classical.not_not, eq_self, and_self, and_true, true_and, Int.reduceEq, Int.reduceLE, Int.reduceLT, Int.reduceNeg, Option.toList, List.cons_append, List.nil_append, zup_s, zup_n, zst_s, zup_zs, zup_zn, decide_true, decide_false, c_Tp_here hT hq hp hpq, c_Tp_refuse, hd24]
        exact zRet_l (zOkT_fa ho1)
    rw [if_neg h24] at hres
    have hn' : M 24 0 < 24 := by omega
    have hd24 : dep < 24 := by omega
    have hnn : M 24 0 = (n : Int) := hn
    -- a leaf
    have leaf : ∀ (x : Int) (kd : Nat), kd ≤ 1 → zNp q tb p < q → zHc q tb p = x → (x = 84 ↔ kd = 0) → -10000 < x → x < 10000 → (kd = 1 → x - 97 = ((zNc q tb p - 97 : Nat) : Int)) → res = .inr (zNp q tb p + 1, [(kd, (if kd = 0 then 0 else zNc q tb p - 97), 0, 0)]) → zW (zSH Ln) d i_Tp_readForm (zblk i_Tp_readForm 6) [zR 22, zI dep, zI x, zU] [] (zup M 22 3 (zNp q tb p : Int)) fun r M' => zRet res n M r M' := by
      intro x kd hkd hlt hx hx84 hx1 hx2 hxl hr
      subst hr
      have hT1 : zOkT n (zNp q tb p + 1) n M (zup M 22 3 ((zNp q tb p + 1 : Nat) : Int)) := zOkT_np ho0 _
      have ho3 := zOkT_set (zOkT_add hT1 (Nat.le_refl n) 0) (Nat.le_refl n) (kd : Int) (x - 97) 0
      rw [hcast] at ho3
      have hadd : zup M 22 3 ((zNp q tb p : Int) + 1) 24 0 = (n : Int) := hn
      rw [k_Tp_readForm_6]
      by_cases h0 : kd = 0
      · have hx' : x = 84 := hx84.mpr h0
        subst h0
        subst hx'
        simp (disch := first | omega | exact Nat.le_of_ble_eq_true rfl | assumption | (simp only [Int.natCast_add, Int.natCast_mul, Int.cast_ofNat_Int]; omega) | decide) only [k_Tp_readForm_7, k_Tp_readForm_9, x_aload, w_dupI, w_dupR, x_getf, w_goto, w_fall, w_iadd, w_iconst, w_if, w_icmp, x_iload, x_istore, w_isub, zadd_eq, zsub_eq, gf_10_0, gf_24_0, gf_22_1, gf_22_3, xp_22_3, w_bret r_Tp_readForm, q_eq, q_ne, q_lt, q_ge, q_gt, q_le, g_I, g_L, g_R, g_V, t_0, t_I, t_R, t_U, t_L, t_s, List.getElem?_cons_zero, List.getElem?_cons_succ, Nat.reduceAdd, zif10, zif01b, zib, if_pos, if_neg, ↓reduceIte, not_true_eq_false, not_false_eq_true, Bool.true_eq_false, Bool.false_eq_true, Classical.not_not, eq_self, and_self, and_true, true_and, Int.reduceEq, Int.reduceLE, Int.reduceLT, Int.reduceNeg, Option.toList, List.cons_append, List.nil_append, zup_s, zup_n, zst_s, zup_zs, zup_zn, decide_true, decide_false, zup_up, c_Fo_add24 hadd (show n < 24 by omega), c_Fo_set24, zsub_eq]
        refine zRet_r ho3 ⟨⟨?_, fun z => absurd z (by decide), fun z => absurd z (by decide), fun z => absurd z (by decide)⟩, trivial⟩
        rw [zup_n (by decide), zup_n (by decide), zup_s]
        rfl
      · have hx' : ¬ x = 84 := fun z => h0 (hx84.mp z)
        obtain rfl : kd = 1 := by omega
        simp (disch := first | omega | exact Nat.le_of_ble_eq_true rfl | assumption | (simp only [Int.natCast_add, Int.natCast_mul, Int.cast_ofNat_Int]; omega) | decide) only [k_Tp_readForm_8, k_Tp_readForm_9, x_aload, w_dupI, w_dupR, x_getf, w_goto, w_fall, w_iadd, w_iconst, w_if, w_icmp, x_iload, x_istore, w_isub, zadd_eq, zsub_eq, gf_10_0, gf_24_0, gf_22_1, gf_22_3, xp_22_3, w_bret r_Tp_readForm, q_eq, q_ne, q_lt, q_ge, q_gt, q_le, g_I, g_L, g_R, g_V, t_0, t_I, t_R, t_U, t_L, t_s, List.getElem?_cons_zero, List.getElem?_cons_succ, Nat.reduceAdd, zif10, zif01b, zib, if_pos, if_neg, ↓reduceIte, not_true_eq_false, not_false_eq_true, Bool.true_eq_false, Bool.false_eq_true, Classical.not_not, eq_self, and_self, and_true, true_and, Int.reduceEq, Int.reduceLE, Int.reduceLT, Int.reduceNeg, Option.toList, List.cons_append, List.nil_append, zup_s, zup_n, zst_s, zup_zs, zup_zn, decide_true, decide_false, zup_up, c_Fo_add24 hadd (show n < 24 by omega), c_Fo_set24, zsub_eq, hx']
        refine zRet_r ho3 ⟨⟨?_, fun z => ?_, fun z => absurd (show ztwo 1 = true from z) (by decide), fun z => absurd (show 5 ≤ 1 from z) (by decide)⟩, trivial⟩
        · rw [zup_n (by decide), zup_n (by decide), zup_s]
          rfl
        · rw [zup_n (by decide), zup_s]
          exact hxl rfl
    -- what begins with a bracket
    have ho4 : zOkT n (zNp q tb p + 1) (n + 1) M (zup (zup (zup M 22 3 ((zNp q tb p : Int) + 1)) 28 n 0) 24 0 ((n : Int) + 1)) := by
      have := zOkT_add (zOkT_np ho0 (zNp q tb p + 1)) (Nat.le_refl n) 0
      rw [hcast] at this
      exact this
    have hadd : zup M 22 3 ((zNp q tb p : Int) + 1) 24 0 = (n : Int) := hn
    rcases zHc_v q tb p with ⟨z1, z2, z3⟩ | ⟨z1, hlt⟩
    · have hr : res = .inl (zNp q tb p) := by
        rw [← hres, z2]; rfl
      subst hr
      simp (disch := first | omega | exact Nat.le_of_ble_eq_true rfl | assumption | (simp only [Int.natCast_add, Int.natCast_mul, Int.cast_ofNat_Int]; omega) | decide) only [k_Tp_readForm_1, k_Tp_readForm_3, k_Tp_readForm_4, k_Tp_readForm_10, k_Tp_readForm_11, k_Tp_readForm_12, k_Tp_readForm_13, x_aload, w_dupI, w_dupR, x_getf, w_goto, w_fall, w_iadd, w_iconst, w_if, w_icmp, x_iload, x_istore, w_isub, zadd_eq, zsub_eq, gf_10_0, gf_24_0, gf_22_1, gf_22_3, xp_22_3, w_bret r_Tp_readForm, q_eq, q_ne, q_lt, q_ge, q_gt, q_le, g_I, g_L, g_R, g_V, t_0, t_I, t_R, t_U, t_L, t_s, List.getElem?_cons_zero, List.getElem?_cons_succ, Nat.reduceAdd, zif10, zif01b, zib, if_pos, if_neg, ↓reduceIte, not_true_eq_false, not_false_eq_true, Bool.true_eq_false, Bool.false_eq_true, Classical.not_not, eq_self, and_self, and_true, true_and, Int.reduceEq, Int.reduceLE, Int.reduceLT, Int.reduceNeg, Option.toList, List.cons_append, List.nil_append, zup_s, zup_n, zst_s, zup_zs, zup_zn, decide_true, decide_false, c_Tp_here hT hq hp hpq, c_Tp_refuse, hn', hd24, z1]
      exact zRet_l (zOkT_fa ho1)
    have h126 := zNc_126 htb p
    by_cases c84 : zNc q tb p = 84
    · rw [if_pos c84] at hres
      rw [c84] at z1
      simp (disch := first | omega | exact Nat.le_of_ble_eq_true rfl | assumption | (simp only [Int.natCast_add, Int.natCast_mul, Int.cast_ofNat_Int]; omega) | decide) only [k_Tp_readForm_1, k_Tp_readForm_3, x_aload, w_dupI, w_dupR, x_getf, w_goto, w_fall, w_iadd, w_iconst, w_if, w_icmp, x_iload, x_istore, w_isub, zadd_eq, zsub_eq, gf_10_0, gf_24_0, gf_22_1, gf_22_3, xp_22_3, w_bret r_Tp_readForm, q_eq, q_ne, q_lt, q_ge, q_gt, q_le, g_I, g_L, g_R, g_V, t_0, t_I, t_R, t_U, t_L, t_s, List.getElem?_cons_zero, List.getElem?_cons_succ, Nat.reduceAdd, zif10, zif01b, zib, if_pos, if_neg, ↓reduceIte, not_true_eq_false, not_false_eq_true, Bool.true_eq_false, Bool.false_eq_true, Classical.not_not, eq_self, and_self, and_true, true_and, Int.reduceEq, Int.reduceLE, Int.reduceLT, Int.reduceNeg, Option.toList, List.cons_append, List.nil_append, zup_s, zup_n, zst_s, zup_zs, zup_zn, decide_true, decide_false, c_Tp_here hT hq hp hpq, hn', hd24, z1, show ((84 : Nat) : Int) = 84 from rfl]
      exact leaf 84 0 (by omega) hlt z1 (by simp) (by omega) (by omega) (fun h => absurd h (by decide)) hres.symm
    rw [if_neg c84] at hres
    have d84 : ¬ (zNc q tb p : Int) = 84 := by omega
    by_cases cl : 97 ≤ zNc q tb p ∧ zNc q tb p ≤ 104
    · rw [if_pos cl] at hres
      have cl1 : (97 : Int) ≤ (zNc q tb p : Int) := by omega
      have cl2 : (zNc q tb p : Int) ≤ 104 := by omega
      simp (disch := first | omega | exact Nat.le_of_ble_eq_true rfl | assumption | (simp only [Int.natCast_add, Int.natCast_mul, Int.cast_ofNat_Int]; omega) | decide) only [k_Tp_readForm_1, k_Tp_readForm_3, k_Tp_readForm_4, k_Tp_readForm_5, x_aload, w_dupI, w_dupR, x_getf, w_goto, w_fall, w_iadd, w_iconst, w_if, w_icmp, x_iload, x_istore, w_isub, zadd_eq, zsub_eq, gf_10_0, gf_24_0, gf_22_1, gf_22_3, xp_22_3, w_bret r_Tp_readForm, q_eq, q_ne, q_lt, q_ge, q_gt, q_le, g_I, g_L, g_R, g_V, t_0, t_I, t_R, t_U, t_L, t_s, List.getElem?_cons_zero, List.getElem?_cons_succ, Nat.reduceAdd, zif10, zif01b, zib, if_pos, if_neg, ↓reduceIte, not_true_eq_false, not_false_eq_true, Bool.true_eq_false, Bool.false_eq_true, Classical.not_not, eq_self, and_self, and_true, true_and, Int.reduceEq, Int.reduceLE, Int.reduceLT, Int.reduceNeg, Option.toList, List.cons_append, List.nil_append, zup_s, zup_n, zst_s, zup_zs, zup_zn, decide_true, decide_false, c_Tp_here hT hq hp hpq, hn', hd24, z1, d84, cl1, cl2]
      exact leaf (zNc q tb p : Int) 1 (by omega) hlt z1 (by omega) (by omega) (by omega) (fun _ => by omega) hres.symm
    rw [if_neg cl] at hres
    have to10 : ∀ (Q : Option zMV → (Nat → Int → Int) → Prop), zW (zSH Ln) d i_Tp_readForm (zblk i_Tp_readForm 10) [zR 22, zI dep, zI (zNc q tb p : Int), zU] [] (zup M 22 3 (zNp q tb p : Int)) Q → zW (zSH Ln) d i_Tp_readForm (zblk i_Tp_readForm 0) [zR 22, zI dep, zU, zU] [] M Q := by
      intro Q hQ
      rw [k_Tp_readForm_0]
      by_cases cl1 : (97 : Int) ≤ (zNc q tb p : Int)
      · have cl2 : ¬ (zNc q tb p : Int) ≤ 104 := by omega
        simp (disch := first | omega | exact Nat.le_of_ble_eq_true rfl | assumption | (simp only [Int.natCast_add, Int.natCast_mul, Int.cast_ofNat_Int]; omega) | decide) only [k_Tp_readForm_1, k_Tp_readForm_3, k_Tp_readForm_4, k_Tp_readForm_5, x_aload, w_dupI, w_dupR, x_getf, w_goto, w_fall, w_iadd, w_iconst, w_if, w_icmp, x_iload, x_istore, w_isub, zadd_eq, zsub_eq, gf_10_0, gf_24_0, gf_22_1, gf_22_3, xp_22_3, w_bret r_Tp_readForm, q_eq, q_ne, q_lt, q_ge, q_gt, q_le, g_I, g_L, g_R, g_V, t_0, t_I, t_R, t_U, t_L, t_s, List.getElem?_cons_zero, List.getElem?_cons_succ, Nat.reduceAdd, zif10, zif01b, zib, if_pos, if_neg, ↓reduceIte, not_true_eq_false, not_false_eq_true, Bool.true_eq_false, Bool.false_eq_true, Classical.not_not, eq_self, and_self, and_true, true_and, Int.reduceEq, Int.reduceLE, Int.reduceLT, Int.reduceNeg, Option.toList, List.cons_append, List.nil_append, zup_s, zup_n, zst_s, zup_zs, zup_zn, decide_true, decide_false, c_Tp_here hT hq hp hpq, hn', hd24, z1, d84, cl1, cl2]
        exact hQ
      · simp (disch := first | omega | exact Nat.le_of_ble_eq_true rfl | assumption | (simp only [Int.natCast_add, Int.natCast_mul, Int.cast_ofNat_Int]; omega) | decide) only [k_Tp_readForm_1, k_Tp_readForm_3, k_Tp_readForm_4, x_aload, w_dupI, w_dupR, x_getf, w_goto, w_fall, w_iadd, w_iconst, w_if, w_icmp, x_iload, x_istore, w_isub, zadd_eq, zsub_eq, gf_10_0, gf_24_0, gf_22_1, gf_22_3, xp_22_3, w_bret r_Tp_readForm, q_eq, q_ne, q_lt, q_ge, q_gt, q_le, g_I, g_L, g_R, g_V, t_0, t_I, t_R, t_U, t_L, t_s, List.getElem?_cons_zero, List.getElem?_cons_succ, Nat.reduceAdd, zif10, zif01b, zib, if_pos, if_neg, ↓reduceIte, not_true_eq_false, not_false_eq_true, Bool.true_eq_false, Bool.false_eq_true, Classical.not_not, eq_self, and_self, and_true, true_and, Int.reduceEq, Int.reduceLE, Int.reduceLT, Int.reduceNeg, Option.toList, List.cons_append, List.nil_append, zup_s, zup_n, zst_s, zup_zs, zup_zn, decide_true, decide_false, c_Tp_here hT hq hp hpq, hn', hd24, z1, d84, cl1]
        exact hQ
    rw [← k_Tp_readForm_0]
    refine to10 _ ?_
    rw [k_Tp_readForm_10]
    by_cases c33 : zNc q tb p = 33
    · rw [if_pos c33] at hres
      subst hres
      have ho5 := zOkT_set ho4 (Nat.le_refl n) 2 ((n : Int) + 1) 0
      simp (disch := first | omega | exact Nat.le_of_ble_eq_true rfl | assumption | (simp only [Int.natCast_add, Int.natCast_mul, Int.cast_ofNat_Int]; omega) | decide) only [k_Tp_readForm_14, k_Tp_readForm_15, x_aload, w_dupI, w_dupR, x_getf, w_goto, w_fall, w_iadd, w_iconst, w_if, w_icmp, x_iload, x_istore, w_isub, zadd_eq, zsub_eq, gf_10_0, gf_24_0, gf_22_1, gf_22_3, xp_22_3, w_bret r_Tp_readForm, q_eq, q_ne, q_lt, q_ge, q_gt, q_le, g_I, g_L, g_R, g_V, t_0, t_I, t_R, t_U, t_L, t_s, List.getElem?_cons_zero, List.getElem?_cons_succ, Nat.reduceAdd, zif10, zif01b, zib, if_pos, if_neg, ↓reduceIte, not_true_eq_false, not_false_eq_true, Bool.true_eq_false, Bool.false_eq_true, Classical.not_not, eq_self, and_self, and_true, true_and, Int.reduceEq, Int.reduceLE, Int.reduceLT, Int.reduceNeg, Option.toList, List.cons_append, List.nil_append, zup_s, zup_n, zst_s, zup_zs, zup_zn, decide_true, decide_false, c33, show ((33 : Nat) : Int) = 33 from rfl, zup_up, c_Fo_add24 hadd (show n < 24 by omega), c_Fo_set24]
      refine w_callv (ps := [zI (dep + 1)]) (by omega) rfl rfl (by omega) (sh_22 Ln) (Nat.le_of_ble_eq_true rfl) (Nat.le_of_ble_eq_true rfl) (hrec _ (zNp q tb p + 1) (n + 1) (dep + 1) _ (zOkT_tp hT ho5) (ho5.2.1.2.1.trans hP) (ho5.2.2.1) (by omega) ho5.2.2.2.1 (by omega) (by omega) (by omega) (by omega) (by omega)) ?_
      intro r M2 h2
      obtain ⟨v, rfl, hv⟩ := zRet_v h2
      simp (disch := first | omega | exact Nat.le_of_ble_eq_true rfl | assumption | (simp only [Int.natCast_add, Int.natCast_mul, Int.cast_ofNat_Int]; omega) | decide) only [x_aload, w_dupI, w_dupR, x_getf, w_goto, w_fall, w_iadd, w_iconst, w_if, w_icmp, x_iload, x_istore, w_isub, zadd_eq, zsub_eq, gf_10_0, gf_24_0, gf_22_1, gf_22_3, xp_22_3, w_bret r_Tp_readForm, q_eq, q_ne, q_lt, q_ge, q_gt, q_le, g_I, g_L, g_R, g_V, t_0, t_I, t_R, t_U, t_L, t_s, List.getElem?_cons_zero, List.getElem?_cons_succ, Nat.reduceAdd, zif10, zif01b, zib, if_pos, if_neg, ↓reduceIte, not_true_eq_false, not_false_eq_true, Bool.true_eq_false, Bool.false_eq_true, Classical.not_not, eq_self, and_self, and_true, true_and, Int.reduceEq, Int.reduceLE, Int.reduceLT, Int.reduceNeg, Option.toList, List.cons_append, List.nil_append, zup_s, zup_n, zst_s, zup_zs, zup_zn, decide_true, decide_false]
      refine zRet_C (kd := 2) ho5 ?_ ?_ rfl (fun z => absurd z (by decide)) h2
      · rw [zup_n (by decide), zup_n (by decide), zup_s]; rfl
      · rw [zup_n (by decide), zup_s]; omega
    rw [if_neg c33] at hres
    have d33 : ¬ (zNc q tb p : Int) = 33 := by omega
    by_cases c40 : zNc q tb p = 40
    · rw [if_pos c40] at hres
      subst hres
      simp (disch := first | omega | exact Nat.le_of_ble_eq_true rfl | assumption | (simp only [Int.natCast_add, Int.natCast_mul, Int.cast_ofNat_Int]; omega) | decide) only [k_Tp_readForm_11, k_Tp_readForm_14, k_Tp_readForm_16, k_Tp_readForm_17, x_aload, w_dupI, w_dupR, x_getf, w_goto, w_fall, w_iadd, w_iconst, w_if, w_icmp, x_iload, x_istore, w_isub, zadd_eq, zsub_eq, gf_10_0, gf_24_0, gf_22_1, gf_22_3, xp_22_3, w_bret r_Tp_readForm, q_eq, q_ne, q_lt, q_ge, q_gt, q_le, g_I, g_L, g_R, g_V, t_0, t_I, t_R, t_U, t_L, t_s, List.getElem?_cons_zero, List.getElem?_cons_succ, Nat.reduceAdd, zif10, zif01b, zib, if_pos, if_neg, ↓reduceIte, not_true_eq_false, not_false_eq_true, Bool.true_eq_false, Bool.false_eq_true, Classical.not_not, eq_self, and_self, and_true, true_and, Int.reduceEq, Int.reduceLE, Int.reduceLT, Int.reduceNeg, Option.toList, List.cons_append, List.nil_append, zup_s, zup_n, zst_s, zup_zs, zup_zn, decide_true, decide_false, c40, show ((40 : Nat) : Int) = 40 from rfl, zup_up, c_Fo_add24 hadd (show n < 24 by omega)]
      refine w_callv (ps := [zI (n : Int), zI 0, zI dep]) (by omega) rfl rfl (by omega) (sh_22 Ln) (Nat.le_of_ble_eq_true rfl) (Nat.le_of_ble_eq_true rfl) (F_Tp_readPair hrec hq (d := d - 1) (p := zNp q tb p + 1) (k := n) (g := 0) (dep := dep) (og := false) (zOkT_tp hT ho4) (ho4.2.1.2.1.trans hP) (ho4.2.2.1) (by omega) ho4.2.2.2.1 (by omega) (by omega) hd0 hdn (fun z => by cases z) (by omega)) ?_
      intro r M2 h2
      obtain ⟨v, rfl, hv⟩ := zRet_v h2
      simp (disch := first | omega | exact Nat.le_of_ble_eq_true rfl | assumption | (simp only [Int.natCast_add, Int.natCast_mul, Int.cast_ofNat_Int]; omega) | decide) only [k_Tp_readForm_22, x_aload, w_dupI, w_dupR, x_getf, w_goto, w_fall, w_iadd, w_iconst, w_if, w_icmp, x_iload, x_istore, w_isub, zadd_eq, zsub_eq, gf_10_0, gf_24_0, gf_22_1, gf_22_3, xp_22_3, w_bret r_Tp_readForm, q_eq, q_ne, q_lt, q_ge, q_gt, q_le, g_I, g_L, g_R, g_V, t_0, t_I, t_R, t_U, t_L, t_s, List.getElem?_cons_zero, List.getElem?_cons_succ, Nat.reduceAdd, zif10, zif01b, zib, if_pos, if_neg, ↓reduceIte, not_true_eq_false, not_false_eq_true, Bool.true_eq_false, Bool.false_eq_true, Classical.not_not, eq_self, and_self, and_true, true_and, Int.reduceEq, Int.reduceLE, Int.reduceLT, Int.reduceNeg, Option.toList, List.cons_append, List.nil_append, zup_s, zup_n, zst_s, zup_zs, zup_zn, decide_true, decide_false]
      exact zRet_tr ho4 h2
    rw [if_neg c40] at hres
    have d40 : ¬ (zNc q tb p : Int) = 40 := by omega
    by_cases c60 : zNc q tb p = 60
    rotate_left
    · rw [if_neg c60] at hres
      have d60 : ¬ (zNc q tb p : Int) = 60 := by omega
      subst hres
      simp (disch := first | omega | exact Nat.le_of_ble_eq_true rfl | assumption | (simp only [Int.natCast_add, Int.natCast_mul, Int.cast_ofNat_Int]; omega) | decide) only [k_Tp_readForm_11, k_Tp_readForm_12, k_Tp_readForm_13, x_aload, w_dupI, w_dupR, x_getf, w_goto, w_fall, w_iadd, w_iconst, w_if, w_icmp, x_iload, x_istore, w_isub, zadd_eq, zsub_eq, gf_10_0, gf_24_0, gf_22_1, gf_22_3, xp_22_3, w_bret r_Tp_readForm, q_eq, q_ne, q_lt, q_ge, q_gt, q_le, g_I, g_L, g_R, g_V, t_0, t_I, t_R, t_U, t_L, t_s, List.getElem?_cons_zero, List.getElem?_cons_succ, Nat.reduceAdd, zif10, zif01b, zib, if_pos, if_neg, ↓reduceIte, not_true_eq_false, not_false_eq_true, Bool.true_eq_false, Bool.false_eq_true, Classical.not_not, eq_self, and_self, and_true, true_and, Int.reduceEq, Int.reduceLE, Int.reduceLT, Int.reduceNeg, Option.toList, List.cons_append, List.nil_append, zup_s, zup_n, zst_s, zup_zs, zup_zn, decide_true, decide_false, d33, d40, d60, c_Tp_refuse]
      exact zRet_l (zOkT_fa ho1)
    rw [if_pos c60] at hres
    simp (disch := first | omega | exact Nat.le_of_ble_eq_true rfl | assumption | (simp only [Int.natCast_add, Int.natCast_mul, Int.cast_ofNat_Int]; omega) | decide) only [k_Tp_readForm_11, k_Tp_readForm_12, k_Tp_readForm_14, k_Tp_readForm_16, k_Tp_readForm_18, x_aload, w_dupI, w_dupR, x_getf, w_goto, w_fall, w_iadd, w_iconst, w_if, w_icmp, x_iload, x_istore, w_isub, zadd_eq, zsub_eq, gf_10_0, gf_24_0, gf_22_1, gf_22_3, xp_22_3, w_bret r_Tp_readForm, q_eq, q_ne, q_lt, q_ge, q_gt, q_le, g_I, g_L, g_R, g_V, t_0, t_I, t_R, t_U, t_L, t_s, List.getElem?_cons_zero, List.getElem?_cons_succ, Nat.reduceAdd, zif10, zif01b, zib, if_pos, if_neg, ↓reduceIte, not_true_eq_false, not_false_eq_true, Bool.true_eq_false, Bool.false_eq_true, Classical.not_not, eq_self, and_self, and_true, true_and, Int.reduceEq, Int.reduceLE, Int.reduceLT, Int.reduceNeg, Option.toList, List.cons_append, List.nil_append, zup_s, zup_n, zst_s, zup_zs, zup_zn, decide_true, decide_false, c60, show ((60 : Nat) : Int) = 60 from rfl, zup_up, c_Fo_add24 hadd (show n < 24 by omega)]
    have hGle := zGd_le (q := q) (P := P) (tb := tb) 4 (zNp q tb p + 1) 0 0 (by omega)
    refine c_Tp_readGroup (p := zNp q tb p + 1) (k := n) (zOkT_tp hT ho4) hq (ho4.2.1.2.1.trans hP) hP4 (ho4.2.2.1) (by omega) (by omega) htb (by omega) (Nat.le_of_ble_eq_true rfl) ?_
    rintro r M1 ⟨a1, a2⟩
    generalize zGd q P tb 4 (zNp q tb p + 1) 0 0 = G at *
    by_cases c62 : zNc q tb G.1 = 62
    rotate_left
    · rw [if_neg c62] at hres
      obtain ⟨rfl, rfl⟩ := a2 c62
      subst hres
      simp (disch := first | omega | exact Nat.le_of_ble_eq_true rfl | assumption | (simp only [Int.natCast_add, Int.natCast_mul, Int.cast_ofNat_Int]; omega) | decide) only [k_Tp_readForm_21, k_Tp_readForm_22, x_aload, w_dupI, w_dupR, x_getf, w_goto, w_fall, w_iadd, w_iconst, w_if, w_icmp, x_iload, x_istore, w_isub, zadd_eq, zsub_eq, gf_10_0, gf_24_0, gf_22_1, gf_22_3, xp_22_3, w_bret r_Tp_readForm, q_eq, q_ne, q_lt, q_ge, q_gt, q_le, g_I, g_L, g_R, g_V, t_0, t_I, t_R, t_U, t_L, t_s, List.getElem?_cons_zero, List.getElem?_cons_succ, Nat.reduceAdd, zif10, zif01b, zib, if_pos, if_neg, ↓reduceIte, not_true_eq_false, not_false_eq_true, Bool.true_eq_false, Bool.false_eq_true, Classical.not_not, eq_self, and_self, and_true, true_and, Int.reduceEq, Int.reduceLE, Int.reduceLT, Int.reduceNeg, Option.toList, List.cons_append, List.nil_append, zup_s, zup_n, zst_s, zup_zs, zup_zn, decide_true, decide_false]
      exact zRet_l (zOkT_fa (zOkT_np (zOkT_gr ho4 (Nat.le_refl n) (G.2 : Int)) (zNp q tb G.1)))
    rw [if_pos c62] at hres
    obtain ⟨rfl, rfl⟩ := a1 c62
    have hlt2 : zNp q tb G.1 < q := zNc_lt (by omega)
    have ho6 := zOkT_np (zOkT_gr ho4 (Nat.le_refl n) (G.2 : Int)) (zNp q tb G.1 + 1)
    subst hres
    simp (disch := first | omega | exact Nat.le_of_ble_eq_true rfl | assumption | (simp only [Int.natCast_add, Int.natCast_mul, Int.cast_ofNat_Int]; omega) | decide) only [k_Tp_readForm_19, x_aload, w_dupI, w_dupR, x_getf, w_goto, w_fall, w_iadd, w_iconst, w_if, w_icmp, x_iload, x_istore, w_isub, zadd_eq, zsub_eq, gf_10_0, gf_24_0, gf_22_1, gf_22_3, xp_22_3, w_bret r_Tp_readForm, q_eq, q_ne, q_lt, q_ge, q_gt, q_le, g_I, g_L, g_R, g_V, t_0, t_I, t_R, t_U, t_L, t_s, List.getElem?_cons_zero, List.getElem?_cons_succ, Nat.reduceAdd, zif10, zif01b, zib, if_pos, if_neg, ↓reduceIte, not_true_eq_false, not_false_eq_true, Bool.true_eq_false, Bool.false_eq_true, Classical.not_not, eq_self, and_self, and_true, true_and, Int.reduceEq, Int.reduceLE, Int.reduceLT, Int.reduceNeg, Option.toList, List.cons_append, List.nil_append, zup_s, zup_n, zst_s, zup_zs, zup_zn, decide_true, decide_false]
    refine w_callv (ps := [zI (n : Int), zI dep]) (by omega) rfl rfl (by omega) (sh_22 Ln) (Nat.le_of_ble_eq_true rfl) (Nat.le_of_ble_eq_true rfl) (F_Tp_readLaw hrec hq (d := d - 1) (p := zNp q tb G.1 + 1) (k := n) (g := G.2) (dep := dep) (zOkT_tp hT ho6) (ho6.2.1.2.1.trans hP) (ho6.2.2.1) (by omega) ho6.2.2.2.1 (by omega) (by omega) hd0 hdn ?_ (by omega)) ?_
    · rw [zup_n (by decide), zup_s]
    intro r M2 h2
    obtain ⟨v, rfl, hv⟩ := zRet_v h2
    rcases hv with rfl | rfl
    · simp (disch := first | omega | exact Nat.le_of_ble_eq_true rfl | assumption | (simp only [Int.natCast_add, Int.natCast_mul, Int.cast_ofNat_Int]; omega) | decide) only [k_Tp_readForm_21, k_Tp_readForm_22, x_aload, w_dupI, w_dupR, x_getf, w_goto, w_fall, w_iadd, w_iconst, w_if, w_icmp, x_iload, x_istore, w_isub, zadd_eq, zsub_eq, gf_10_0, gf_24_0, gf_22_1, gf_22_3, xp_22_3, w_bret r_Tp_readForm, q_eq, q_ne, q_lt, q_ge, q_gt, q_le, g_I, g_L, g_R, g_V, t_0, t_I, t_R, t_U, t_L, t_s, List.getElem?_cons_zero, List.getElem?_cons_succ, Nat.reduceAdd, zif10, zif01b, zib, if_pos, if_neg, ↓reduceIte, not_true_eq_false, not_false_eq_true, Bool.true_eq_false, Bool.false_eq_true, Classical.not_not, eq_self, and_self, and_true, true_and, Int.reduceEq, Int.reduceLE, Int.reduceLT, Int.reduceNeg, Option.toList, List.cons_append, List.nil_append, zup_s, zup_n, zst_s, zup_zs, zup_zn, decide_true, decide_false]
      exact zRet_tr ho6 h2
    · simp (disch := first | omega | exact Nat.le_of_ble_eq_true rfl | assumption | (simp only [Int.natCast_add, Int.natCast_mul, Int.cast_ofNat_Int]; omega) | decide) only [k_Tp_readForm_20, k_Tp_readForm_22, x_aload, w_dupI, w_dupR, x_getf, w_goto, w_fall, w_iadd, w_iconst, w_if, w_icmp, x_iload, x_istore, w_isub, zadd_eq, zsub_eq, gf_10_0, gf_24_0, gf_22_1, gf_22_3, xp_22_3, w_bret r_Tp_readForm, q_eq, q_ne, q_lt, q_ge, q_gt, q_le, g_I, g_L, g_R, g_V, t_0, t_I, t_R, t_U, t_L, t_s, List.getElem?_cons_zero, List.getElem?_cons_succ, Nat.reduceAdd, zif10, zif01b, zib, if_pos, if_neg, ↓reduceIte, not_true_eq_false, not_false_eq_true, Bool.true_eq_false, Bool.false_eq_true, Classical.not_not, eq_self, and_self, and_true, true_and, Int.reduceEq, Int.reduceLE, Int.reduceLT, Int.reduceNeg, Option.toList, List.cons_append, List.nil_append, zup_s, zup_n, zst_s, zup_zs, zup_zn, decide_true, decide_false]
      exact zRet_tr ho6 h2
end TP
