/-! the toll: the class -/
theorem zmaxI (a b : Nat) : (if (a : Int) < (b : Int) then (b : Int) else (a : Int)) = ((max a b : Nat) : Int) := by split <;> omega
theorem zminI (a b : Nat) : (if (b : Int) < (a : Int) then (b : Int) else (a : Int)) = ((min a b : Nat) : Int) := by split <;> omega
theorem zsum_le {m : Nat → Nat} {q : Nat → Nat → Nat} (hq : ∀ p a, q p a ≤ 9) (g : Nat → Bool) : ∀ p a, zsum m q g p a ≤ 9 * p
  | 0, _ => by simp [zsum]
  | p + 1, a => by
    have h1 := zsum_le (m := m) hq g p (a / m p)
    have h2 := zsum_le (m := m) hq g p a
    have h3 := hq p (a % m p)
    unfold zsum; split <;> omega
/-- the toll's turns -/
def zTl (S P : Nat) (mv tg : Nat → Nat → Nat) (pr : Nat → Nat → Nat → Nat) (g : Nat → Bool) (r0 ok : Nat → Bool) : Nat → Nat → Nat := zTo S (fun s => zcnt (mv s) g P) (fun s a => zsum (mv s) (pr s) g P a) (fun s a => zend (mv s) (tg s) g P a) r0 ok
section TL
variable {Ln S P n : Nat} {mv tg : Nat → Nat → Nat} {lt kd lf rt gp : Nat → Nat} {pr : Nat → Nat → Nat → Nat} {M : Nat → Int → Int} {R : Nat → Nat} {whole : Nat → Bool} {V : Nat → Nat}
theorem F_Pl_worst {d : Nat} {f : Nat → Bool} (hS : S ≤ 12) (hC : zNetC S P mv tg M) (hV : ∀ s : Nat, s < S → M 30 (s : Int) = V s) (hd : 1 ≤ d) : zF (zSH Ln) d i_Pl_worst [zR 29, zI (zset S f)] M fun r M' => r = some (zI (zmx S f V : Int)) ∧ M' = M := by
  rw [zF_en k_Pl_worst_0 (L := [zR 29, zI (zset S f), zU, zU]) rfl]
  simp (disch := first | omega | exact Nat.le_of_ble_eq_true rfl | assumption | (simp only [Int.natCast_add, Int.natCast_mul, Int.cast_ofNat_Int]; omega) | decide) only [x_aload, w_imax, x_getf, w_goto, w_fall, w_iconst, w_if, w_icmp, x_iinc, x_iload, x_istore, zadd_eq, gf_3_0, gf_29_0, gf_29_4, at_30, ao_30, w_nret r_Pl_worst, q_eq, q_ne, q_lt, q_ge, q_gt, q_le, g_I, g_L, g_R, g_V, t_0, t_I, t_R, t_U, t_L, t_s, List.getElem?_cons_zero, List.getElem?_cons_succ, Nat.reduceAdd, zif10, zif01b, zib, if_pos, if_neg, reduceIte, not_true_eq_false, not_false_eq_true, Bool.true_eq_false, Bool.false_eq_true, Classical.not_not, eq_self, and_self, and_true, true_and, Int.reduceEq, Int.reduceLE, Int.reduceLT, Int.reduceNeg, Option.toList, List.cons_append, List.nil_append, zup_s, zup_n, zst_s, zup_zs, zup_zn, decide_true, decide_false]
  refine zfor (a := 0) (N := S) (b := 1) (fun p L0 M0 => L0 = [zR 29, zI (zset S f), zI (zmx p f V : Int), zI (p : Int)] ∧ M0 = M) ?_ ?_ ?_ ?_
  · exact Nat.zero_le _
  · exact ⟨rfl, rfl⟩
  · rintro p _ _ _ hp ⟨rfl, rfl⟩ ih
    have hVp := hV p hp
    rw [k_Pl_worst_1]
    cases hf : f p
    · simp (disch := first | omega | exact Nat.le_of_ble_eq_true rfl | assumption | (simp only [Int.natCast_add, Int.natCast_mul, Int.cast_ofNat_Int]; omega) | decide) only [k_Pl_worst_2, k_Pl_worst_4, x_aload, w_imax, x_getf, w_goto, w_fall, w_iconst, w_if, w_icmp, x_iinc, x_iload, x_istore, zadd_eq, gf_3_0, gf_29_0, gf_29_4, at_30, ao_30, w_nret r_Pl_worst, q_eq, q_ne, q_lt, q_ge, q_gt, q_le, g_I, g_L, g_R, g_V, t_0, t_I, t_R, t_U, t_L, t_s, List.getElem?_cons_zero, List.getElem?_cons_succ, Nat.reduceAdd, zif10, zif01b, zib, if_pos, if_neg, reduceIte, not_true_eq_false, not_false_eq_true, Bool.true_eq_false, Bool.false_eq_true, Classical.not_not, eq_self, and_self, and_true, true_and, Int.reduceEq, Int.reduceLE, Int.reduceLT, Int.reduceNeg, Option.toList, List.cons_append, List.nil_append, zup_s, zup_n, zst_s, zup_zs, zup_zn, decide_true, decide_false, hC.1, c_hasS, hf]
      refine ih _ _ ⟨?_, rfl⟩
      simp [zmx, hf]
    · simp (disch := first | omega | exact Nat.le_of_ble_eq_true rfl | assumption | (simp only [Int.natCast_add, Int.natCast_mul, Int.cast_ofNat_Int]; omega) | decide) only [k_Pl_worst_2, k_Pl_worst_3, k_Pl_worst_4, x_aload, w_imax, x_getf, w_goto, w_fall, w_iconst, w_if, w_icmp, x_iinc, x_iload, x_istore, zadd_eq, gf_3_0, gf_29_0, gf_29_4, at_30, ao_30, w_nret r_Pl_worst, q_eq, q_ne, q_lt, q_ge, q_gt, q_le, g_I, g_L, g_R, g_V, t_0, t_I, t_R, t_U, t_L, t_s, List.getElem?_cons_zero, List.getElem?_cons_succ, Nat.reduceAdd, zif10, zif01b, zib, if_pos, if_neg, reduceIte, not_true_eq_false, not_false_eq_true, Bool.true_eq_false, Bool.false_eq_true, Classical.not_not, eq_self, and_self, and_true, true_and, Int.reduceEq, Int.reduceLE, Int.reduceLT, Int.reduceNeg, Option.toList, List.cons_append, List.nil_append, zup_s, zup_n, zst_s, zup_zs, zup_zn, decide_true, decide_false, hC.1, c_hasS, hf, hVp, w_imax, zmaxI]
      refine ih _ _ ⟨?_, rfl⟩
      simp [zmx, hf]
  · rintro _ _ ⟨rfl, rfl⟩
    rw [k_Pl_worst_1]
    simp (disch := first | omega | exact Nat.le_of_ble_eq_true rfl | assumption | (simp only [Int.natCast_add, Int.natCast_mul, Int.cast_ofNat_Int]; omega) | decide) only [k_Pl_worst_5, x_aload, w_imax, x_getf, w_goto, w_fall, w_iconst, w_if, w_icmp, x_iinc, x_iload, x_istore, zadd_eq, gf_3_0, gf_29_0, gf_29_4, at_30, ao_30, w_nret r_Pl_worst, q_eq, q_ne, q_lt, q_ge, q_gt, q_le, g_I, g_L, g_R, g_V, t_0, t_I, t_R, t_U, t_L, t_s, List.getElem?_cons_zero, List.getElem?_cons_succ, Nat.reduceAdd, zif10, zif01b, zib, if_pos, if_neg, reduceIte, not_true_eq_false, not_false_eq_true, Bool.true_eq_false, Bool.false_eq_true, Classical.not_not, eq_self, and_self, and_true, true_and, Int.reduceEq, Int.reduceLE, Int.reduceLT, Int.reduceNeg, Option.toList, List.cons_append, List.nil_append, zup_s, zup_n, zst_s, zup_zs, zup_zn, decide_true, decide_false, hC.1]
theorem c_Pl_worst {d mi o b9 : Nat} {es : List zEnt} {L st : List zMV} {Q : Option zMV → (Nat → Int → Int) → Prop} {f : Nat → Bool} (hS : S ≤ 12) (hC : zNetC S P mv tg M) (hV : ∀ s : Nat, s < S → M 30 (s : Int) = V s) (hd : 1 + 1 ≤ d) (hc : zcats st ≤ 8) : zW (zSH Ln) d mi ((.invokevirtual o, 52, b9) :: es) L (zI (zset S f) :: zR 29 :: st) M Q = zW (zSH Ln) d mi es L (zI (zmx S f V : Int) :: st) (M) Q :=
  c_virt (ps := [zI (zset S f)]) (by omega) rfl rfl (by omega) (by exact sh_29 Ln) hc (Nat.le_of_ble_eq_true rfl) (F_Pl_worst hS hC hV (by omega))
theorem F_Pl_cheapest {d : Nat} {s : Nat} (hN : zNet S P mv tg) (hC : zNetC S P mv tg M) (hF : zForm P n kd lf rt gp) (hFC : zFormC n kd lf rt gp M) (h5 : 5 ≤ kd 0) (hR : zPrC pr M) (hpr : ∀ s p a, pr s p a ≤ 9) (hT : zTabC S P mv tg (zbit (gp 0 : Int)) M) (hV : ∀ s : Nat, s < S → M 30 (s : Int) = V s) (hV2 : ∀ s, s < S → V s ≤ 1000000) (hs : s < S) (hd : 3 ≤ d) : zF (zSH Ln) d i_Pl_cheapest [zR 29, zI (s : Int)] M fun r M' => r = some (zI (zmn (zcnt (mv s) (zbit (gp 0 : Int)) P) (fun a => zsum (mv s) (pr s) (zbit (gp 0 : Int)) P a + zmx S (zend (mv s) (tg s) (zbit (gp 0 : Int)) P a) V) : Int)) ∧ M' = M := by
  rw [zF_en k_Pl_cheapest_0 (L := [zR 29, zI (s : Int), zU, zU, zU, zU]) rfl]
  have hS := hN.2.1
  have hP4 := hN.2.2.2.1
  have hm := hN.2.2.2.2.1 s
  have h17 := hT.1 s hs
  have g4 := (hFC.2 0 hF.1).2.2.2 h5
  simp only [show ((0 : Nat) : Int) = 0 from rfl] at g4
  have h81 := zcnt_81 hm (zbit (gp 0 : Int)) hP4
  simp (disch := first | omega | exact Nat.le_of_ble_eq_true rfl | assumption | (simp only [Int.natCast_add, Int.natCast_mul, Int.cast_ofNat_Int]; omega) | decide) only [x_aload, w_imin, x_getf, w_goto, w_fall, w_iadd, w_iconst, w_icmp, x_iinc, x_iload, x_istore, zadd_eq, gf_29_0, gf_29_1, gf_29_2, gf_15_2, at_17, ao_17, w_nret r_Pl_cheapest, q_eq, q_ne, q_lt, q_ge, q_gt, q_le, g_I, g_L, g_R, g_V, t_0, t_I, t_R, t_U, t_L, t_s, List.getElem?_cons_zero, List.getElem?_cons_succ, Nat.reduceAdd, zif10, zif01b, zib, if_pos, if_neg, reduceIte, not_true_eq_false, not_false_eq_true, Bool.true_eq_false, Bool.false_eq_true, Classical.not_not, eq_self, and_self, and_true, true_and, Int.reduceEq, Int.reduceLE, Int.reduceLT, Int.reduceNeg, Option.toList, List.cons_append, List.nil_append, zup_s, zup_n, zst_s, zup_zs, zup_zn, decide_true, decide_false, gf_15_2, at_17, h17]
  refine zfor (a := 0) (N := (zcnt (mv s) (zbit (gp 0 : Int)) P)) (b := 1) (fun p L0 M0 => ∃ v5, L0 = [zR 29, zI s, zI (zmn p (fun a => zsum (mv s) (pr s) (zbit (gp 0 : Int)) P a + zmx S (zend (mv s) (tg s) (zbit (gp 0 : Int)) P a) V) : Int), zI (zcnt (mv s) (zbit (gp 0 : Int)) P : Int), zI (p : Int), v5] ∧ M0 = M) ?_ ?_ ?_ ?_
  · exact Nat.zero_le _
  · exact ⟨zU, rfl, rfl⟩
  · rintro p _ _ _ hp ⟨v5, rfl, rfl⟩ ih
    have hsum := zsum_le (m := mv s) (hpr s) (zbit (gp 0 : Int)) P p
    have hmx := zmx_le S (zend (mv s) (tg s) (zbit (gp 0 : Int)) P p) V 1000000 fun t ht _ => hV2 t ht
    have e : (zsum (mv s) (pr s) (zbit (gp 0 : Int)) P p : Int) + (zmx S (zend (mv s) (tg s) (zbit (gp 0 : Int)) P p) V : Int) = ((zsum (mv s) (pr s) (zbit (gp 0 : Int)) P p + zmx S (zend (mv s) (tg s) (zbit (gp 0 : Int)) P p) V : Nat) : Int) := by simp
    rw [k_Pl_cheapest_1]
    simp (disch := first | omega | exact Nat.le_of_ble_eq_true rfl | assumption | (simp only [Int.natCast_add, Int.natCast_mul, Int.cast_ofNat_Int]; omega) | decide) only [k_Pl_cheapest_2, x_aload, w_imin, x_getf, w_goto, w_fall, w_iadd, w_iconst, w_icmp, x_iinc, x_iload, x_istore, zadd_eq, gf_29_0, gf_29_1, gf_29_2, gf_15_2, at_17, ao_17, w_nret r_Pl_cheapest, q_eq, q_ne, q_lt, q_ge, q_gt, q_le, g_I, g_L, g_R, g_V, t_0, t_I, t_R, t_U, t_L, t_s, List.getElem?_cons_zero, List.getElem?_cons_succ, Nat.reduceAdd, zif10, zif01b, zib, if_pos, if_neg, reduceIte, not_true_eq_false, not_false_eq_true, Bool.true_eq_false, Bool.false_eq_true, Classical.not_not, eq_self, and_self, and_true, true_and, Int.reduceEq, Int.reduceLE, Int.reduceLT, Int.reduceNeg, Option.toList, List.cons_append, List.nil_append, zup_s, zup_n, zst_s, zup_zs, zup_zn, decide_true, decide_false, c_Fo_group, g4, c_Ne_sumOfPrices hN hC hR hpr, c_Ta_endsOf hN hT hs hp, c_Pl_worst hS hC hV, e, w_imin, zminI]
    exact ih _ _ ⟨_, rfl, rfl⟩
  · rintro _ _ ⟨v5, rfl, rfl⟩
    rw [k_Pl_cheapest_1]
    simp (disch := first | omega | exact Nat.le_of_ble_eq_true rfl | assumption | (simp only [Int.natCast_add, Int.natCast_mul, Int.cast_ofNat_Int]; omega) | decide) only [k_Pl_cheapest_3, x_aload, w_imin, x_getf, w_goto, w_fall, w_iadd, w_iconst, w_icmp, x_iinc, x_iload, x_istore, zadd_eq, gf_29_0, gf_29_1, gf_29_2, gf_15_2, at_17, ao_17, w_nret r_Pl_cheapest, q_eq, q_ne, q_lt, q_ge, q_gt, q_le, g_I, g_L, g_R, g_V, t_0, t_I, t_R, t_U, t_L, t_s, List.getElem?_cons_zero, List.getElem?_cons_succ, Nat.reduceAdd, zif10, zif01b, zib, if_pos, if_neg, reduceIte, not_true_eq_false, not_false_eq_true, Bool.true_eq_false, Bool.false_eq_true, Classical.not_not, eq_self, and_self, and_true, true_and, Int.reduceEq, Int.reduceLE, Int.reduceLT, Int.reduceNeg, Option.toList, List.cons_append, List.nil_append, zup_s, zup_n, zst_s, zup_zs, zup_zn, decide_true, decide_false]
theorem c_Pl_cheapest {d mi o b9 : Nat} {es : List zEnt} {L st : List zMV} {Q : Option zMV → (Nat → Int → Int) → Prop} {s : Nat} (hN : zNet S P mv tg) (hC : zNetC S P mv tg M) (hF : zForm P n kd lf rt gp) (hFC : zFormC n kd lf rt gp M) (h5 : 5 ≤ kd 0) (hR : zPrC pr M) (hpr : ∀ s p a, pr s p a ≤ 9) (hT : zTabC S P mv tg (zbit (gp 0 : Int)) M) (hV : ∀ s : Nat, s < S → M 30 (s : Int) = V s) (hV2 : ∀ s, s < S → V s ≤ 1000000) (hs : s < S) (hd : 3 + 1 ≤ d) (hc : zcats st ≤ 8) : zW (zSH Ln) d mi ((.invokevirtual o, 51, b9) :: es) L (zI (s : Int) :: zR 29 :: st) M Q = zW (zSH Ln) d mi es L (zI (zmn (zcnt (mv s) (zbit (gp 0 : Int)) P) (fun a => zsum (mv s) (pr s) (zbit (gp 0 : Int)) P a + zmx S (zend (mv s) (tg s) (zbit (gp 0 : Int)) P a) V) : Int) :: st) (M) Q :=
  c_virt (ps := [zI (s : Int)]) (by omega) rfl rfl (by omega) (by exact sh_29 Ln) hc (Nat.le_of_ble_eq_true rfl) (F_Pl_cheapest hN hC hF hFC h5 hR hpr hT hV hV2 hs (by omega))
theorem F_Pl_leastSum {d : Nat} {s : Nat} (hN : zNet S P mv tg) (hC : zNetC S P mv tg M) (hF : zForm P n kd lf rt gp) (hFC : zFormC n kd lf rt gp M) (h5 : 7 ≤ kd 0) (hR : zPrC pr M) (hpr : ∀ s p a, pr s p a ≤ 9) (hT : zTabC S P mv tg (zbit (gp 0 : Int)) M) (hRd : ∀ s : Nat, s < S → M 21 (s : Int) = zneg1 (R s)) (h0 : M 20 0 = zset S whole) (hw : ∀ s, s < S → (whole s = true ↔ R s < 13)) (hs : s < S) (hd : 4 ≤ d) : zF (zSH Ln) d i_Pl_leastSum [zR 29, zI (s : Int)] M fun r M' => r = some (zI (zTl S P mv tg pr (zbit (gp 0 : Int)) (fun s => decide (R s = 0)) whole S s : Int)) ∧ ∃ F, M' = zst M 30 F := by
  rw [zF_en k_Pl_leastSum_0 (L := [zR 29, zI (s : Int), zU, zU]) rfl]
  have hS := hN.2.1
  simp (disch := first | omega | exact Nat.le_of_ble_eq_true rfl | assumption | (simp only [Int.natCast_add, Int.natCast_mul, Int.cast_ofNat_Int]; omega) | decide) only [x_aload, x_getf, w_goto, w_fall, w_iconst, w_if, w_icmp, x_iinc, x_iload, x_istore, zadd_eq, gf_19_4, gf_3_0, gf_29_0, gf_29_3, gf_29_4, at_21, ao_21, pu_21, at_30, ao_30, pu_30, w_nret r_Pl_leastSum, q_eq, q_ne, q_lt, q_ge, q_gt, q_le, g_I, g_L, g_R, g_V, t_0, t_I, t_R, t_U, t_L, t_s, List.getElem?_cons_zero, List.getElem?_cons_succ, Nat.reduceAdd, zif10, zif01b, zib, if_pos, if_neg, reduceIte, not_true_eq_false, not_false_eq_true, Bool.true_eq_false, Bool.false_eq_true, Classical.not_not, eq_self, and_self, and_true, true_and, Int.reduceEq, Int.reduceLE, Int.reduceLT, Int.reduceNeg, Option.toList, List.cons_append, List.nil_append, zup_s, zup_n, zst_s, zup_zs, zup_zn, decide_true, decide_false]
  refine zfor (a := 0) (N := 12) (b := 1) (fun p L0 M0 => ∃ F, L0 = [zR 29, zI s, zI (p : Int), zU] ∧ M0 = zst M 30 F ∧ ∀ s : Nat, s < p → F (s : Int) = 1000000) ?_ ?_ ?_ ?_
  · exact Nat.zero_le _
  · exact ⟨M 30, rfl, (zst_id _ _).symm, fun s hs => by omega⟩
  · rintro p _ _ _ hp ⟨F, rfl, rfl, h1⟩ ih
    rw [k_Pl_leastSum_1]
    simp (disch := first | omega | exact Nat.le_of_ble_eq_true rfl | assumption | (simp only [Int.natCast_add, Int.natCast_mul, Int.cast_ofNat_Int]; omega) | decide) only [k_Pl_leastSum_2, x_aload, x_getf, w_goto, w_fall, w_iconst, w_if, w_icmp, x_iinc, x_iload, x_istore, zadd_eq, gf_19_4, gf_3_0, gf_29_0, gf_29_3, gf_29_4, at_21, ao_21, pu_21, at_30, ao_30, pu_30, w_nret r_Pl_leastSum, q_eq, q_ne, q_lt, q_ge, q_gt, q_le, g_I, g_L, g_R, g_V, t_0, t_I, t_R, t_U, t_L, t_s, List.getElem?_cons_zero, List.getElem?_cons_succ, Nat.reduceAdd, zif10, zif01b, zib, if_pos, if_neg, reduceIte, not_true_eq_false, not_false_eq_true, Bool.true_eq_false, Bool.false_eq_true, Classical.not_not, eq_self, and_self, and_true, true_and, Int.reduceEq, Int.reduceLE, Int.reduceLT, Int.reduceNeg, Option.toList, List.cons_append, List.nil_append, zup_s, zup_n, zst_s, zup_zs, zup_zn, decide_true, decide_false]
    refine ih _ _ ⟨_, rfl, rfl, fun s hs => ?_⟩
    by_cases e : s = p
    · subst e; rw [zf_s]
    · rw [zf_n (by omega)]; exact h1 s (by omega)
  · rintro _ _ ⟨F, rfl, rfl, h1⟩
    have hdn : ∀ j k, j ≤ k → ∀ i, zTl S P mv tg pr (zbit (gp 0 : Int)) (fun s => decide (R s = 0)) whole k i ≤ zTl S P mv tg pr (zbit (gp 0 : Int)) (fun s => decide (R s = 0)) whole j i := fun j k h i => zTo_dns h i
    have hst : ∀ i, i < S → zTl S P mv tg pr (zbit (gp 0 : Int)) (fun s => decide (R s = 0)) whole (S + 1) i = zTl S P mv tg pr (zbit (gp 0 : Int)) (fun s => decide (R s = 0)) whole S i := fun i hi => zTo_st (by omega) hi
    have hsu : ∀ k i, zTl S P mv tg pr (zbit (gp 0 : Int)) (fun s => decide (R s = 0)) whole (k + 1) i = zPh S (fun s => zcnt (mv s) (zbit (gp 0 : Int)) P) (fun s a => zsum (mv s) (pr s) (zbit (gp 0 : Int)) P a) (fun s a => zend (mv s) (tg s) (zbit (gp 0 : Int)) P a) (fun s => decide (R s = 0)) whole (zTl S P mv tg pr (zbit (gp 0 : Int)) (fun s => decide (R s = 0)) whole k) i := fun _ _ => rfl
    have hfar : ∀ k i, i < S → zTl S P mv tg pr (zbit (gp 0 : Int)) (fun s => decide (R s = 0)) whole k i ≤ 1000000 ∧ (¬ whole i = true → zTl S P mv tg pr (zbit (gp 0 : Int)) (fun s => decide (R s = 0)) whole k i = 1000000) := by
      intro k i hi
      cases k with
      | zero =>
        simp only [zTl, zTo]
        refine ⟨by split <;> omega, fun h => ?_⟩
        rw [if_neg]
        intro z
        have := of_decide_eq_true z
        exact h ((hw i hi).mpr (by omega))
      | succ k =>
        simp only [zTl, zTo]
        refine ⟨zPh_far _ _, fun h => ?_⟩
        unfold zPh
        rw [if_neg, if_neg h]
        intro z
        have := of_decide_eq_true z
        exact h ((hw i hi).mpr (by omega))
    rw [k_Pl_leastSum_1]
    simp (disch := first | omega | exact Nat.le_of_ble_eq_true rfl | assumption | (simp only [Int.natCast_add, Int.natCast_mul, Int.cast_ofNat_Int]; omega) | decide) only [k_Pl_leastSum_3, x_aload, x_getf, w_goto, w_fall, w_iconst, w_if, w_icmp, x_iinc, x_iload, x_istore, zadd_eq, gf_19_4, gf_3_0, gf_29_0, gf_29_3, gf_29_4, at_21, ao_21, pu_21, at_30, ao_30, pu_30, w_nret r_Pl_leastSum, q_eq, q_ne, q_lt, q_ge, q_gt, q_le, g_I, g_L, g_R, g_V, t_0, t_I, t_R, t_U, t_L, t_s, List.getElem?_cons_zero, List.getElem?_cons_succ, Nat.reduceAdd, zif10, zif01b, zib, if_pos, if_neg, reduceIte, not_true_eq_false, not_false_eq_true, Bool.true_eq_false, Bool.false_eq_true, Classical.not_not, eq_self, and_self, and_true, true_and, Int.reduceEq, Int.reduceLE, Int.reduceLT, Int.reduceNeg, Option.toList, List.cons_append, List.nil_append, zup_s, zup_n, zst_s, zup_zs, zup_zn, decide_true, decide_false]
    refine zfor (a := 0) (N := (S + 1)) (b := 4) (fun t L0 M0 => ∃ (F : Int → Int) (V : Nat → Nat) (v3 : zMV), L0 = [zR 29, zI s, zI (t : Int), v3] ∧ M0 = zst M 30 F ∧ (∀ i : Nat, i < S → F (i : Int) = V i) ∧ (∀ i, i < S → V i ≤ 1000000 ∧ zTl S P mv tg pr (zbit (gp 0 : Int)) (fun s => decide (R s = 0)) whole S i ≤ V i ∧ (1 ≤ t → V i ≤ zTl S P mv tg pr (zbit (gp 0 : Int)) (fun s => decide (R s = 0)) whole (t - 1) i))) ?_ ?_ ?_ ?_
    · exact Nat.zero_le _
    · exact ⟨F, fun _ => 1000000, zU, rfl, rfl, fun i hi => h1 i (by omega), fun i hi => ⟨Nat.le_refl _, (hfar S i hi).1, fun h => by omega⟩⟩
    · rintro t _ _ _ ht ⟨F, V, v3, rfl, rfl, hF1, hV1⟩ ih
      rw [k_Pl_leastSum_4]
      simp (disch := first | omega | exact Nat.le_of_ble_eq_true rfl | assumption | (simp only [Int.natCast_add, Int.natCast_mul, Int.cast_ofNat_Int]; omega) | decide) only [k_Pl_leastSum_5, x_aload, x_getf, w_goto, w_fall, w_iconst, w_if, w_icmp, x_iinc, x_iload, x_istore, zadd_eq, gf_19_4, gf_3_0, gf_29_0, gf_29_3, gf_29_4, at_21, ao_21, pu_21, at_30, ao_30, pu_30, w_nret r_Pl_leastSum, q_eq, q_ne, q_lt, q_ge, q_gt, q_le, g_I, g_L, g_R, g_V, t_0, t_I, t_R, t_U, t_L, t_s, List.getElem?_cons_zero, List.getElem?_cons_succ, Nat.reduceAdd, zif10, zif01b, zib, if_pos, if_neg, reduceIte, not_true_eq_false, not_false_eq_true, Bool.true_eq_false, Bool.false_eq_true, Classical.not_not, eq_self, and_self, and_true, true_and, Int.reduceEq, Int.reduceLE, Int.reduceLT, Int.reduceNeg, Option.toList, List.cons_append, List.nil_append, zup_s, zup_n, zst_s, zup_zs, zup_zn, decide_true, decide_false, zst_n, hC.1]
      refine zfor (a := 0) (N := S) (b := 6) (fun p L0 M0 => ∃ (F : Int → Int) (V : Nat → Nat), L0 = [zR 29, zI s, zI (t : Int), zI (p : Int)] ∧ M0 = zst M 30 F ∧ (∀ i : Nat, i < S → F (i : Int) = V i) ∧ (∀ i, i < S → V i ≤ 1000000 ∧ zTl S P mv tg pr (zbit (gp 0 : Int)) (fun s => decide (R s = 0)) whole S i ≤ V i ∧ (1 ≤ t → V i ≤ zTl S P mv tg pr (zbit (gp 0 : Int)) (fun s => decide (R s = 0)) whole (t - 1) i) ∧ (i < p → V i ≤ zTl S P mv tg pr (zbit (gp 0 : Int)) (fun s => decide (R s = 0)) whole t i))) ?_ ?_ ?_ ?_
      · exact Nat.zero_le _
      · exact ⟨F, V, rfl, rfl, hF1, fun i hi => ⟨(hV1 i hi).1, (hV1 i hi).2.1, (hV1 i hi).2.2, fun h => by omega⟩⟩
      · rintro p _ _ _ hp ⟨F, V, rfl, rfl, hF1, hV1⟩ ih2
        have hC1 : zNetC S P mv tg (zst M 30 F) := hC
        have hFC1 : zFormC n kd lf rt gp (zst M 30 F) := hFC
        have hR1 : zPrC pr (zst M 30 F) := hR
        have hT1 : zTabC S P mv tg (zbit (gp 0 : Int)) (zst M 30 F) := hT
        have hFF : ∀ s : Nat, s < S → zst M 30 F 30 (s : Int) = V s := fun s hs => by rw [zst_s]; exact hF1 s hs
        have hRp := hRd p hp
        have upd : ∀ v : Nat, whole p = true → v = zPh S (fun s => zcnt (mv s) (zbit (gp 0 : Int)) P) (fun s a => zsum (mv s) (pr s) (zbit (gp 0 : Int)) P a) (fun s a => zend (mv s) (tg s) (zbit (gp 0 : Int)) P a) (fun s => decide (R s = 0)) whole V p → zW (zSH Ln) d i_Pl_leastSum (zblk i_Pl_leastSum 6) [zR 29, zI s, zI (t : Int), zI ((p : Int) + 1)] [] (zst M 30 (zf F p v)) fun r M' => r = some (zI (zTl S P mv tg pr (zbit (gp 0 : Int)) (fun s => decide (R s = 0)) whole S s : Int)) ∧ ∃ F, M' = zst M 30 F := by
          intro v hwp hv
          refine ih2 _ _ ⟨zf F p v, fun i => if i = p then v else V i, rfl, rfl, fun i hi => ?_, fun i hi => ?_⟩
          · dsimp only
            by_cases e : i = p
            · subst e; rw [zf_s, if_pos rfl]
            · rw [zf_n (by omega), if_neg e]; exact hF1 i hi
          · dsimp only
            by_cases e : i = p
            · subst e
              have low : zTl S P mv tg pr (zbit (gp 0 : Int)) (fun s => decide (R s = 0)) whole S i ≤ v := by
                rw [← hst i hi, hv]
                exact Nat.le_trans (Nat.le_of_eq (hsu S i)) (zPh_mono (fun t ht => (hV1 t ht).2.1) i)
              have upp : v ≤ zTl S P mv tg pr (zbit (gp 0 : Int)) (fun s => decide (R s = 0)) whole t i := by
                rw [hv]
                cases t with
                | zero =>
                  simp only [zTl, zTo]
                  split
                  · next h => unfold zPh; rw [if_pos h]; exact Nat.le_refl _
                  · exact zPh_far _ _
                | succ t =>
                  exact zPh_mono (fun j hj => (hV1 j hj).2.2.1 (by omega)) i
              rw [if_pos rfl]
              refine ⟨by rw [hv]; exact zPh_far _ _, low, fun h => Nat.le_trans upp (hdn (t - 1) t (by omega) i), fun _ => upp⟩
            · rw [if_neg e]
              exact ⟨(hV1 i hi).1, (hV1 i hi).2.1, (hV1 i hi).2.2.1, fun h => (hV1 i hi).2.2.2 (by omega)⟩
        rw [k_Pl_leastSum_6]
        cases hwp : whole p
        · have hb : ¬ whole p = true := by rw [hwp]; decide
          simp (disch := first | omega | exact Nat.le_of_ble_eq_true rfl | assumption | (simp only [Int.natCast_add, Int.natCast_mul, Int.cast_ofNat_Int]; omega) | decide) only [k_Pl_leastSum_7, k_Pl_leastSum_12, x_aload, x_getf, w_goto, w_fall, w_iconst, w_if, w_icmp, x_iinc, x_iload, x_istore, zadd_eq, gf_19_4, gf_3_0, gf_29_0, gf_29_3, gf_29_4, at_21, ao_21, pu_21, at_30, ao_30, pu_30, w_nret r_Pl_leastSum, q_eq, q_ne, q_lt, q_ge, q_gt, q_le, g_I, g_L, g_R, g_V, t_0, t_I, t_R, t_U, t_L, t_s, List.getElem?_cons_zero, List.getElem?_cons_succ, Nat.reduceAdd, zif10, zif01b, zib, if_pos, if_neg, reduceIte, not_true_eq_false, not_false_eq_true, Bool.true_eq_false, Bool.false_eq_true, Classical.not_not, eq_self, and_self, and_true, true_and, Int.reduceEq, Int.reduceLE, Int.reduceLT, Int.reduceNeg, Option.toList, List.cons_append, List.nil_append, zup_s, zup_n, zst_s, zup_zs, zup_zn, decide_true, decide_false, zst_n, hC.1, c_La_whole, h0, c_hasS, hwp]
          refine ih2 _ _ ⟨F, V, rfl, rfl, hF1, fun i hi => ⟨(hV1 i hi).1, (hV1 i hi).2.1, (hV1 i hi).2.2.1, fun h => ?_⟩⟩
          by_cases e : i = p
          · subst e
            rw [(hfar t i hi).2 hb]; exact (hV1 i hi).1
          · exact (hV1 i hi).2.2.2 (by omega)
        · have hlt := (hw p hp).mp hwp
          rw [zneg1, if_pos hlt] at hRp
          by_cases hr0 : R p = 0
          · have hr0' : ((R p : Nat) : Int) = 0 := by omega
            simp (disch := first | omega | exact Nat.le_of_ble_eq_true rfl | assumption | (simp only [Int.natCast_add, Int.natCast_mul, Int.cast_ofNat_Int]; omega) | decide) only [k_Pl_leastSum_7, k_Pl_leastSum_8, k_Pl_leastSum_9, k_Pl_leastSum_11, k_Pl_leastSum_12, x_aload, x_getf, w_goto, w_fall, w_iconst, w_if, w_icmp, x_iinc, x_iload, x_istore, zadd_eq, gf_19_4, gf_3_0, gf_29_0, gf_29_3, gf_29_4, at_21, ao_21, pu_21, at_30, ao_30, pu_30, w_nret r_Pl_leastSum, q_eq, q_ne, q_lt, q_ge, q_gt, q_le, g_I, g_L, g_R, g_V, t_0, t_I, t_R, t_U, t_L, t_s, List.getElem?_cons_zero, List.getElem?_cons_succ, Nat.reduceAdd, zif10, zif01b, zib, if_pos, if_neg, reduceIte, not_true_eq_false, not_false_eq_true, Bool.true_eq_false, Bool.false_eq_true, Classical.not_not, eq_self, and_self, and_true, true_and, Int.reduceEq, Int.reduceLE, Int.reduceLT, Int.reduceNeg, Option.toList, List.cons_append, List.nil_append, zup_s, zup_n, zst_s, zup_zs, zup_zn, decide_true, decide_false, zst_n, hC.1, c_La_whole, h0, c_hasS, hwp, gf_19_4, at_21, hRp, hr0']
            exact upd 0 hwp (by unfold zPh; rw [if_pos (decide_eq_true hr0)])
          · have hr0' : ¬ ((R p : Nat) : Int) = 0 := by omega
            simp (disch := first | omega | exact Nat.le_of_ble_eq_true rfl | assumption | (simp only [Int.natCast_add, Int.natCast_mul, Int.cast_ofNat_Int]; omega) | decide) only [k_Pl_leastSum_7, k_Pl_leastSum_8, k_Pl_leastSum_10, k_Pl_leastSum_11, k_Pl_leastSum_12, x_aload, x_getf, w_goto, w_fall, w_iconst, w_if, w_icmp, x_iinc, x_iload, x_istore, zadd_eq, gf_19_4, gf_3_0, gf_29_0, gf_29_3, gf_29_4, at_21, ao_21, pu_21, at_30, ao_30, pu_30, w_nret r_Pl_leastSum, q_eq, q_ne, q_lt, q_ge, q_gt, q_le, g_I, g_L, g_R, g_V, t_0, t_I, t_R, t_U, t_L, t_s, List.getElem?_cons_zero, List.getElem?_cons_succ, Nat.reduceAdd, zif10, zif01b, zib, if_pos, if_neg, reduceIte, not_true_eq_false, not_false_eq_true, Bool.true_eq_false, Bool.false_eq_true, Classical.not_not, eq_self, and_self, and_true, true_and, Int.reduceEq, Int.reduceLE, Int.reduceLT, Int.reduceNeg, Option.toList, List.cons_append, List.nil_append, zup_s, zup_n, zst_s, zup_zs, zup_zn, decide_true, decide_false, zst_n, hC.1, c_La_whole, h0, c_hasS, hwp, gf_19_4, at_21, hRp, hr0', c_Pl_cheapest hN hC1 hF hFC1 (by omega) hR1 hpr hT1 hFF (fun s hs => (hV1 s hs).1) hp]
            exact upd _ hwp (by unfold zPh; rw [if_neg (fun z => hr0 (of_decide_eq_true z)), if_pos hwp])
      · rintro _ _ ⟨F, V, rfl, rfl, hF1, hV1⟩
        rw [k_Pl_leastSum_6]
        simp (disch := first | omega | exact Nat.le_of_ble_eq_true rfl | assumption | (simp only [Int.natCast_add, Int.natCast_mul, Int.cast_ofNat_Int]; omega) | decide) only [k_Pl_leastSum_13, x_aload, x_getf, w_goto, w_fall, w_iconst, w_if, w_icmp, x_iinc, x_iload, x_istore, zadd_eq, gf_19_4, gf_3_0, gf_29_0, gf_29_3, gf_29_4, at_21, ao_21, pu_21, at_30, ao_30, pu_30, w_nret r_Pl_leastSum, q_eq, q_ne, q_lt, q_ge, q_gt, q_le, g_I, g_L, g_R, g_V, t_0, t_I, t_R, t_U, t_L, t_s, List.getElem?_cons_zero, List.getElem?_cons_succ, Nat.reduceAdd, zif10, zif01b, zib, if_pos, if_neg, reduceIte, not_true_eq_false, not_false_eq_true, Bool.true_eq_false, Bool.false_eq_true, Classical.not_not, eq_self, and_self, and_true, true_and, Int.reduceEq, Int.reduceLE, Int.reduceLT, Int.reduceNeg, Option.toList, List.cons_append, List.nil_append, zup_s, zup_n, zst_s, zup_zs, zup_zn, decide_true, decide_false, zst_n, hC.1]
        exact ih _ _ ⟨F, V, _, rfl, rfl, hF1, fun i hi => ⟨(hV1 i hi).1, (hV1 i hi).2.1, fun _ => (hV1 i hi).2.2.2 hi⟩⟩
    · rintro _ _ ⟨F, V, v3, rfl, rfl, hF1, hV1⟩
      have hv := hV1 s hs
      have hv3 := hv.2.2 (by omega)
      rw [Nat.add_sub_cancel] at hv3
      have e : V s = zTl S P mv tg pr (zbit (gp 0 : Int)) (fun s => decide (R s = 0)) whole S s := Nat.le_antisymm hv3 hv.2.1
      have e2 := hF1 s hs
      rw [e] at e2
      rw [k_Pl_leastSum_4]
      simp (disch := first | omega | exact Nat.le_of_ble_eq_true rfl | assumption | (simp only [Int.natCast_add, Int.natCast_mul, Int.cast_ofNat_Int]; omega) | decide) only [k_Pl_leastSum_14, x_aload, x_getf, w_goto, w_fall, w_iconst, w_if, w_icmp, x_iinc, x_iload, x_istore, zadd_eq, gf_19_4, gf_3_0, gf_29_0, gf_29_3, gf_29_4, at_21, ao_21, pu_21, at_30, ao_30, pu_30, w_nret r_Pl_leastSum, q_eq, q_ne, q_lt, q_ge, q_gt, q_le, g_I, g_L, g_R, g_V, t_0, t_I, t_R, t_U, t_L, t_s, List.getElem?_cons_zero, List.getElem?_cons_succ, Nat.reduceAdd, zif10, zif01b, zib, if_pos, if_neg, reduceIte, not_true_eq_false, not_false_eq_true, Bool.true_eq_false, Bool.false_eq_true, Classical.not_not, eq_self, and_self, and_true, true_and, Int.reduceEq, Int.reduceLE, Int.reduceLT, Int.reduceNeg, Option.toList, List.cons_append, List.nil_append, zup_s, zup_n, zst_s, zup_zs, zup_zn, decide_true, decide_false, zst_n, hC.1, zst_s, e2]
      exact ⟨F, rfl⟩
theorem c_Pl_leastSum {d mi o b9 : Nat} {es : List zEnt} {L st : List zMV} {Q : Option zMV → (Nat → Int → Int) → Prop} {s : Nat} (hN : zNet S P mv tg) (hC : zNetC S P mv tg M) (hF : zForm P n kd lf rt gp) (hFC : zFormC n kd lf rt gp M) (h5 : 7 ≤ kd 0) (hR : zPrC pr M) (hpr : ∀ s p a, pr s p a ≤ 9) (hT : zTabC S P mv tg (zbit (gp 0 : Int)) M) (hRd : ∀ s : Nat, s < S → M 21 (s : Int) = zneg1 (R s)) (h0 : M 20 0 = zset S whole) (hw : ∀ s, s < S → (whole s = true ↔ R s < 13)) (hs : s < S) (hd : 4 + 1 ≤ d) (hc : zcats st ≤ 8) (hpost : ∀ r M', (r = some (zI (zTl S P mv tg pr (zbit (gp 0 : Int)) (fun s => decide (R s = 0)) whole S s : Int)) ∧ ∃ F, M' = zst M 30 F) → zW (zSH Ln) d mi es L (r.toList ++ st) M' Q) : zW (zSH Ln) d mi ((.invokevirtual o, 50, b9) :: es) L (zI (s : Int) :: zR 29 :: st) M Q :=
  w_callv (ps := [zI (s : Int)]) (by omega) rfl rfl (by omega) (by exact sh_29 Ln) hc (Nat.le_of_ble_eq_true rfl) (F_Pl_leastSum hN hC hF hFC h5 hR hpr hT hRd h0 hw hs (by omega)) hpost
end TL
