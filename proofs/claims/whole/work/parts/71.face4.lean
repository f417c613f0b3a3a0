/-! the class's face: rows of moves, the trail -/
section FC
variable {Ln S P n : Nat} {mv tg hp ch : Nat → Nat → Nat} {lt kd lf rt gp : Nat → Nat} {M : Nat → Int → Int}
theorem zOutC_kp {M1 M2 : Nat → Int → Int} {l : List Nat} (hk : zKp l M1 M2) (hl : ∀ k ∈ l, k ∈ [30, 32, 33, 34, 35, 37, 38, 39, 40, 43]) (h : zOutC S P n mv tg lt kd lf rt gp M M1) : zOutC S P n mv tg lt kd lf rt gp M M2 := by
  obtain ⟨⟨h1, h2⟩, h3, h4, h5, h6, h7⟩ := h
  have hn : ∀ j, j ∈ [3, 10, 15, 16, 17, 19, 20, 21, 36] → M2 j = M1 j := fun j hj => hk j (fun e => by have := hl j e; revert this hj; simp; omega)
  refine ⟨⟨zKp_tr h1 (zKp_mo hk fun k hk => by have := hl k hk; revert this; simp; omega), by rw [hn 36 (by decide)]; exact h2⟩, ?_, ?_, ?_, ?_, ?_⟩
  · intro h
    rw [hn 15 (by decide), hn 3 (by decide)] at h
    have := h3 h
    rw [hn 15 (by decide)]
    exact zTabC_k this (hn 16 (by decide)) (hn 17 (by decide))
  · intro ha hb
    rw [hn 19 (by decide), hn 3 (by decide)] at ha
    rw [hn 19 (by decide), hn 10 (by decide)] at hb
    obtain ⟨q1, q2, q3⟩ := h4 ha hb
    exact ⟨by rw [hn 20 (by decide)]; exact q1, by rw [hn 21 (by decide)]; exact q2, fun h => zTabC_k (q3 h) (hn 16 (by decide)) (hn 17 (by decide))⟩
  · rw [hn 15 (by decide)]; exact h5
  · rw [hn 19 (by decide)]; exact h6
  · rw [hn 19 (by decide)]; exact h7
theorem F_FN_findRow {d : Nat} {s : Nat} (hN : zNet S P mv tg) (hC : zNetC S P mv tg M) (hF : zForm P n kd lf rt gp) (hFC : zFormC n kd lf rt gp M) (hH : zHpC hp M) (hhp : ∀ p s, hp p s < 12) (hW : zLawC S P n mv tg lt kd lf rt gp M) (h5 : 5 ≤ kd 0) (hs : s < S) (hd : 6 ≤ d) : zF (zSH Ln) d i_FN_findRow [zR 2, zI (s : Int)] M fun r M' => r = some (zI (if (zSkA S P mv tg hp (zbit (gp 0 : Int)) (kd 0) (zHp mv tg P lt kd lf rt gp (lf 0)) (zHp mv tg P lt kd lf rt gp (rt 0)) (zFt P hp (zbit (gp 0 : Int)) s)) = 0 then -4 else (zSkA S P mv tg hp (zbit (gp 0 : Int)) (kd 0) (zHp mv tg P lt kd lf rt gp (lf 0)) (zHp mv tg P lt kd lf rt gp (rt 0)) (zFt P hp (zbit (gp 0 : Int)) s)))) ∧ zKp [32, 33, 34, 35] M M' ∧ ((zSkA S P mv tg hp (zbit (gp 0 : Int)) (kd 0) (zHp mv tg P lt kd lf rt gp (lf 0)) (zHp mv tg P lt kd lf rt gp (rt 0)) (zFt P hp (zbit (gp 0 : Int)) s)) = 1 → ∀ p h : Nat, p < 4 → h < 12 → M' 33 ((p : Int) * 12 + h) = zRow (zBm S P mv hp (zbit (gp 0 : Int))) (zSk S P mv tg hp (zbit (gp 0 : Int)) (kd 0) (zHp mv tg P lt kd lf rt gp (lf 0)) (zHp mv tg P lt kd lf rt gp (rt 0)) (zFt P hp (zbit (gp 0 : Int)) s)) p h) := by
  rw [zF_en k_FN_findRow_0 (L := [zR 2, zI (s : Int), zU, zU, zU]) rfl]
  have hn := hF.1
  have hS := hN.2.1
  obtain ⟨f1, f2, f3, f4, f5⟩ := hF.2.2 0 hn
  have f3 := f3 (by omega)
  obtain ⟨g1, g2, g3, g4⟩ := hFC.2 0 hn
  have g2 := g2 (by omega)
  have g4 := g4 h5
  simp only [show ((0 : Nat) : Int) = 0 from rfl] at g1 g2 g3 g4
  have h1l := hW.1 (lf 0) f3.2
  have h2r : ztwo (kd 0) = true → M 20 (rt 0 : Int) = zset S (zHp mv tg P lt kd lf rt gp (rt 0)) := fun h => hW.1 (rt 0) (f4 h).2
  have hTab := hW.2.2 h5
  generalize zHp mv tg P lt kd lf rt gp (lf 0) = one at *
  generalize zHp mv tg P lt kd lf rt gp (rt 0) = two at *
  have hbm : zBm S P mv hp (zbit (gp 0 : Int)) = fun i => max (zBb S P mv hp (zbit (gp 0 : Int)) i) 1 := rfl
  generalize hska : zSkA S P mv tg hp (zbit (gp 0 : Int)) (kd 0) one two (zFt P hp (zbit (gp 0 : Int)) s) = ska
  unfold zSkA at hska
  simp (disch := first | omega | exact Nat.le_of_ble_eq_true rfl | assumption | (simp only [Int.natCast_add, Int.natCast_mul, Int.cast_ofNat_Int]; omega) | decide) only [x_aload, x_getf, w_goto, w_fall, w_iconst, w_if, w_icmp, x_iload, x_istore, gf_19_3, gf_2_1, gf_2_3, gf_2_5, at_20, ao_20, w_nret r_FN_findRow, q_eq, q_ne, q_lt, q_ge, q_gt, q_le, g_I, g_L, g_R, g_V, t_0, t_I, t_R, t_U, t_L, t_s, List.getElem?_cons_zero, List.getElem?_cons_succ, Nat.reduceAdd, zif10, zif01b, zib, if_pos, if_neg, ↓reduceIte, not_true_eq_false, not_false_eq_true, Bool.true_eq_false, Bool.false_eq_true, Classical.not_not, eq_self, and_self, and_true, true_and, Int.reduceEq, Int.reduceLE, Int.reduceLT, Int.reduceNeg, Option.toList, List.cons_append, List.nil_append, zup_s, zup_n, zst_s, zup_zs, zup_zn, decide_true, decide_false, c_Fo_group, g4]
  refine c_Bl_prepare hN hC hH (by omega) (Nat.le_of_ble_eq_true rfl) ?_
  rintro _ _ ⟨rfl, B, rfl, hB⟩
  by_cases c1 : 5000 < zcap (zBb S P mv hp (zbit (gp 0 : Int))) 48
  · have c1' : ¬ (zcap (zBb S P mv hp (zbit (gp 0 : Int))) 48 : Int) ≤ 5000 := by omega
    rw [if_pos c1] at hska
    subst hska
    simp (disch := first | omega | exact Nat.le_of_ble_eq_true rfl | assumption | (simp only [Int.natCast_add, Int.natCast_mul, Int.cast_ofNat_Int]; omega) | decide) only [k_FN_findRow_1, x_aload, x_getf, w_goto, w_fall, w_iconst, w_if, w_icmp, x_iload, x_istore, gf_19_3, gf_2_1, gf_2_3, gf_2_5, at_20, ao_20, w_nret r_FN_findRow, q_eq, q_ne, q_lt, q_ge, q_gt, q_le, g_I, g_L, g_R, g_V, t_0, t_I, t_R, t_U, t_L, t_s, List.getElem?_cons_zero, List.getElem?_cons_succ, Nat.reduceAdd, zif10, zif01b, zib, if_pos, if_neg, ↓reduceIte, not_true_eq_false, not_false_eq_true, Bool.true_eq_false, Bool.false_eq_true, Classical.not_not, eq_self, and_self, and_true, true_and, Int.reduceEq, Int.reduceLE, Int.reduceLT, Int.reduceNeg, Option.toList, List.cons_append, List.nil_append, zup_s, zup_n, zst_s, zup_zs, zup_zn, decide_true, decide_false, c1']
    exact ⟨zKp_st (by decide) (zKp_up (by decide) (zKp_rf _ _)), fun h => h.elim⟩
  have c1' : (zcap (zBb S P mv hp (zbit (gp 0 : Int))) 48 : Int) ≤ 5000 := by omega
  rw [if_neg c1] at hska
  have hcap : zcnt (zBm S P mv hp (zbit (gp 0 : Int))) zall1 48 ≤ 5000 := by
    have := zcap_eq (zBb S P mv hp (zbit (gp 0 : Int))) 48
    rw [hbm]; omega
  generalize htv : (if 0 ≤ M 13 0 ∧ M 13 0 < 24 then M 20 (M 13 0) else 0) = tv
  have htw : kd 0 = 8 → tv = zset S two := fun h => by
    have h2 : ztwo (kd 0) = true := by rw [h]; decide
    have := f4 h2
    have hn24 := hF.2.1
    rw [← htv, g3 h2, if_pos (by omega), h2r h2]
  have hC2 : zNetC S P mv tg (zst (zup (zup (zup (zup M 32 5 (gp 0 : Int)) 32 6 (kd 0 : Int)) 32 7 (zset S one)) 32 8 tv) 34 B) := hC
  have hH2 : zHpC hp (zst (zup (zup (zup (zup M 32 5 (gp 0 : Int)) 32 6 (kd 0 : Int)) 32 7 (zset S one)) 32 8 tv) 34 B) := hH
  have hT2 : zTabC S P mv tg (zbit (gp 0 : Int)) (zst (zup (zup (zup (zup M 32 5 (gp 0 : Int)) 32 6 (kd 0 : Int)) 32 7 (zset S one)) 32 8 tv) 34 B) := zTabC_k hTab rfl rfl
  have hg2 : (zst (zup (zup (zup (zup M 32 5 (gp 0 : Int)) 32 6 (kd 0 : Int)) 32 7 (zset S one)) 32 8 tv) 34 B) 32 5 = (gp 0 : Int) := rfl
  have hB2 : ∀ i : Nat, i < 48 → (zst (zup (zup (zup (zup M 32 5 (gp 0 : Int)) 32 6 (kd 0 : Int)) 32 7 (zset S one)) 32 8 tv) 34 B) 34 (i : Int) = zBb S P mv hp (zbit (gp 0 : Int)) i := hB
  have hkp : zKp [32, 33, 34, 35] M (zst (zup (zup (zup (zup M 32 5 (gp 0 : Int)) 32 6 (kd 0 : Int)) 32 7 (zset S one)) 32 8 tv) 34 B) := zKp_st (by decide) (zKp_up (by decide) (zKp_up (by decide) (zKp_up (by decide) (zKp_up (by decide) (zKp_rf _ _)))))
  have ek : zst (zup M 32 5 (gp 0 : Int)) 34 B 11 0 = (kd 0 : Int) := g1
  have el : zst (zup M 32 5 (gp 0 : Int)) 34 B 12 0 = (lf 0 : Int) := g2
  have er : zst (zup M 32 5 (gp 0 : Int)) 34 B 13 0 = M 13 0 := rfl
  have e20 : zst (zup M 32 5 (gp 0 : Int)) 34 B 20 = M 20 := rfl
  have hlf24 : (0 : Int) ≤ (lf 0 : Int) ∧ (lf 0 : Int) < 24 := by have := hF.2.1; omega
  simp (disch := first | omega | exact Nat.le_of_ble_eq_true rfl | assumption | (simp only [Int.natCast_add, Int.natCast_mul, Int.cast_ofNat_Int]; omega) | decide) only [k_FN_findRow_2, x_aload, x_getf, w_goto, w_fall, w_iconst, w_if, w_icmp, x_iload, x_istore, gf_19_3, gf_2_1, gf_2_3, gf_2_5, at_20, ao_20, w_nret r_FN_findRow, q_eq, q_ne, q_lt, q_ge, q_gt, q_le, g_I, g_L, g_R, g_V, t_0, t_I, t_R, t_U, t_L, t_s, List.getElem?_cons_zero, List.getElem?_cons_succ, Nat.reduceAdd, zif10, zif01b, zib, if_pos, if_neg, ↓reduceIte, not_true_eq_false, not_false_eq_true, Bool.true_eq_false, Bool.false_eq_true, Classical.not_not, eq_self, and_self, and_true, true_and, Int.reduceEq, Int.reduceLE, Int.reduceLT, Int.reduceNeg, Option.toList, List.cons_append, List.nil_append, zup_s, zup_n, zst_s, zup_zs, zup_zn, decide_true, decide_false, c1', c_Fo_left, c_Fo_right, c_Fo_kind, ax_20, ek, el, er, e20, hlf24, h1l, htv, c_Bl_want, c_Bl_fit hN hC2 hH2 hg2 hs]
  refine c_Bl_search (kd := kd 0) (one := one) (two := two) hN hC2 hH2 hhp hT2 hg2 hB2 (by omega) rfl rfl htw hcap (by omega) (Nat.le_of_ble_eq_true rfl) ?_
  rintro _ _ ⟨rfl, A, E, rfl, hA⟩
  by_cases c2 : zSk S P mv tg hp (zbit (gp 0 : Int)) (kd 0) one two (zFt P hp (zbit (gp 0 : Int)) s) < zcnt (zBm S P mv hp (zbit (gp 0 : Int))) zall1 48
  · rw [if_pos c2] at hska
    subst hska
    simp (disch := first | omega | exact Nat.le_of_ble_eq_true rfl | assumption | (simp only [Int.natCast_add, Int.natCast_mul, Int.cast_ofNat_Int]; omega) | decide) only [k_FN_findRow_3, k_FN_findRow_5, x_aload, x_getf, w_goto, w_fall, w_iconst, w_if, w_icmp, x_iload, x_istore, gf_19_3, gf_2_1, gf_2_3, gf_2_5, at_20, ao_20, w_nret r_FN_findRow, q_eq, q_ne, q_lt, q_ge, q_gt, q_le, g_I, g_L, g_R, g_V, t_0, t_I, t_R, t_U, t_L, t_s, List.getElem?_cons_zero, List.getElem?_cons_succ, Nat.reduceAdd, zif10, zif01b, zib, if_pos, if_neg, ↓reduceIte, not_true_eq_false, not_false_eq_true, Bool.true_eq_false, Bool.false_eq_true, Classical.not_not, eq_self, and_self, and_true, true_and, Int.reduceEq, Int.reduceLE, Int.reduceLT, Int.reduceNeg, Option.toList, List.cons_append, List.nil_append, zup_s, zup_n, zst_s, zup_zs, zup_zn, decide_true, decide_false, c2]
    exact ⟨zKp_st (by decide) (zKp_st (by decide) hkp), fun _ => hA c2⟩
  · rw [if_neg c2] at hska
    subst hska
    simp (disch := first | omega | exact Nat.le_of_ble_eq_true rfl | assumption | (simp only [Int.natCast_add, Int.natCast_mul, Int.cast_ofNat_Int]; omega) | decide) only [k_FN_findRow_4, k_FN_findRow_5, x_aload, x_getf, w_goto, w_fall, w_iconst, w_if, w_icmp, x_iload, x_istore, gf_19_3, gf_2_1, gf_2_3, gf_2_5, at_20, ao_20, w_nret r_FN_findRow, q_eq, q_ne, q_lt, q_ge, q_gt, q_le, g_I, g_L, g_R, g_V, t_0, t_I, t_R, t_U, t_L, t_s, List.getElem?_cons_zero, List.getElem?_cons_succ, Nat.reduceAdd, zif10, zif01b, zib, if_pos, if_neg, ↓reduceIte, not_true_eq_false, not_false_eq_true, Bool.true_eq_false, Bool.false_eq_true, Classical.not_not, eq_self, and_self, and_true, true_and, Int.reduceEq, Int.reduceLE, Int.reduceLT, Int.reduceNeg, Option.toList, List.cons_append, List.nil_append, zup_s, zup_n, zst_s, zup_zs, zup_zn, decide_true, decide_false, c2]
    exact ⟨zKp_st (by decide) (zKp_st (by decide) hkp), fun h => h.elim⟩
theorem c_FN_findRow {d mi o b9 : Nat} {es : List zEnt} {L st : List zMV} {Q : Option zMV → (Nat → Int → Int) → Prop} {s : Nat} (hN : zNet S P mv tg) (hC : zNetC S P mv tg M) (hF : zForm P n kd lf rt gp) (hFC : zFormC n kd lf rt gp M) (hH : zHpC hp M) (hhp : ∀ p s, hp p s < 12) (hW : zLawC S P n mv tg lt kd lf rt gp M) (h5 : 5 ≤ kd 0) (hs : s < S) (hd : 6 + 1 ≤ d) (hc : zcats st ≤ 8) (hpost : ∀ r M', (r = some (zI (if (zSkA S P mv tg hp (zbit (gp 0 : Int)) (kd 0) (zHp mv tg P lt kd lf rt gp (lf 0)) (zHp mv tg P lt kd lf rt gp (rt 0)) (zFt P hp (zbit (gp 0 : Int)) s)) = 0 then -4 else (zSkA S P mv tg hp (zbit (gp 0 : Int)) (kd 0) (zHp mv tg P lt kd lf rt gp (lf 0)) (zHp mv tg P lt kd lf rt gp (rt 0)) (zFt P hp (zbit (gp 0 : Int)) s)))) ∧ zKp [32, 33, 34, 35] M M' ∧ ((zSkA S P mv tg hp (zbit (gp 0 : Int)) (kd 0) (zHp mv tg P lt kd lf rt gp (lf 0)) (zHp mv tg P lt kd lf rt gp (rt 0)) (zFt P hp (zbit (gp 0 : Int)) s)) = 1 → ∀ p h : Nat, p < 4 → h < 12 → M' 33 ((p : Int) * 12 + h) = zRow (zBm S P mv hp (zbit (gp 0 : Int))) (zSk S P mv tg hp (zbit (gp 0 : Int)) (kd 0) (zHp mv tg P lt kd lf rt gp (lf 0)) (zHp mv tg P lt kd lf rt gp (rt 0)) (zFt P hp (zbit (gp 0 : Int)) s)) p h)) → zW (zSH Ln) d mi es L (r.toList ++ st) M' Q) : zW (zSH Ln) d mi ((.invokevirtual o, 145, b9) :: es) L (zI (s : Int) :: zR 2 :: st) M Q :=
  w_callv (ps := [zI (s : Int)]) (by omega) rfl rfl (by omega) (by exact sh_2 Ln) hc (Nat.le_of_ble_eq_true rfl) (F_FN_findRow hN hC hF hFC hH hhp hW h5 hs (by omega)) hpost
theorem F_FN_blind {d : Nat} {x : Int} (hN : zNet S P mv tg) (hC : zNetC S P mv tg M) (hL : zLetC lt M) (hlt : ∀ s, lt s < 256) (hF : zForm P n kd lf rt gp) (hFC : zFormC n kd lf rt gp M) (hT : zTabI S P mv tg M) (hI : zLawI S P n mv tg lt kd lf rt gp M) (hH : zHpC hp M) (hhp : ∀ p s, hp p s < 12) (hd : 7 ≤ d) : zF (zSH Ln) d i_FN_blind [zR 2, zI x] M fun r M' => r = some (zI (zBlA S P mv tg hp lt kd lf rt gp x)) ∧ zOutC S P n mv tg lt kd lf rt gp M M' := by
  rw [zF_en k_FN_blind_0 (L := [zR 2, zI x, zU]) rfl]
  have hn := hF.1
  have hS := hN.2.1
  have hkk : M 11 0 = (kd 0 : Int) := (hFC.2 0 hn).1
  generalize hans : zBlA S P mv tg hp lt kd lf rt gp x = ans
  unfold zBlA at hans
  by_cases c1 : 0 ≤ x ∧ x < S
  rotate_left
  · rw [if_neg c1] at hans
    subst hans
    simp (disch := first | omega | exact Nat.le_of_ble_eq_true rfl | assumption | (simp only [Int.natCast_add, Int.natCast_mul, Int.cast_ofNat_Int]; omega) | decide) only [k_FN_blind_1, x_aload, x_getf, w_goto, w_fall, w_iconst, w_if, w_icmp, x_iload, x_istore, gf_2_0, gf_2_1, gf_2_3, w_nret r_FN_blind, q_eq, q_ne, q_lt, q_ge, q_gt, q_le, g_I, g_L, g_R, g_V, t_0, t_I, t_R, t_U, t_L, t_s, List.getElem?_cons_zero, List.getElem?_cons_succ, Nat.reduceAdd, zif10, zif01b, zib, if_pos, if_neg, ↓reduceIte, not_true_eq_false, not_false_eq_true, Bool.true_eq_false, Bool.false_eq_true, Classical.not_not, eq_self, and_self, and_true, true_and, Int.reduceEq, Int.reduceLE, Int.reduceLT, Int.reduceNeg, Option.toList, List.cons_append, List.nil_append, zup_s, zup_n, zst_s, zup_zs, zup_zn, decide_true, decide_false, c_Ne_hasState hC, c1]
    exact zOutC_rf hT hI
  rw [if_pos c1] at hans
  obtain ⟨s, rfl⟩ : ∃ s : Nat, x = (s : Int) := ⟨x.toNat, by omega⟩
  rw [Int.toNat_natCast] at hans
  by_cases c2 : 5 ≤ kd 0
  rotate_left
  · have c2' : ¬ ((5 : Int) ≤ (kd 0 : Int)) := by omega
    rw [if_neg c2] at hans
    subst hans
    simp (disch := first | omega | exact Nat.le_of_ble_eq_true rfl | assumption | (simp only [Int.natCast_add, Int.natCast_mul, Int.cast_ofNat_Int]; omega) | decide) only [k_FN_blind_2, k_FN_blind_3, x_aload, x_getf, w_goto, w_fall, w_iconst, w_if, w_icmp, x_iload, x_istore, gf_2_0, gf_2_1, gf_2_3, w_nret r_FN_blind, q_eq, q_ne, q_lt, q_ge, q_gt, q_le, g_I, g_L, g_R, g_V, t_0, t_I, t_R, t_U, t_L, t_s, List.getElem?_cons_zero, List.getElem?_cons_succ, Nat.reduceAdd, zif10, zif01b, zib, if_pos, if_neg, ↓reduceIte, not_true_eq_false, not_false_eq_true, Bool.true_eq_false, Bool.false_eq_true, Classical.not_not, eq_self, and_self, and_true, true_and, Int.reduceEq, Int.reduceLE, Int.reduceLT, Int.reduceNeg, Option.toList, List.cons_append, List.nil_append, zup_s, zup_n, zst_s, zup_zs, zup_zn, decide_true, decide_false, c_Ne_hasState hC, c1, c_Fo_isOfGroup hkk, c2']
    exact zOutC_rf hT hI
  have c2' : ((5 : Int) ≤ (kd 0 : Int)) := by omega
  rw [if_pos c2] at hans
  simp (disch := first | omega | exact Nat.le_of_ble_eq_true rfl | assumption | (simp only [Int.natCast_add, Int.natCast_mul, Int.cast_ofNat_Int]; omega) | decide) only [k_FN_blind_2, k_FN_blind_4, x_aload, x_getf, w_goto, w_fall, w_iconst, w_if, w_icmp, x_iload, x_istore, gf_2_0, gf_2_1, gf_2_3, w_nret r_FN_blind, q_eq, q_ne, q_lt, q_ge, q_gt, q_le, g_I, g_L, g_R, g_V, t_0, t_I, t_R, t_U, t_L, t_s, List.getElem?_cons_zero, List.getElem?_cons_succ, Nat.reduceAdd, zif10, zif01b, zib, if_pos, if_neg, ↓reduceIte, not_true_eq_false, not_false_eq_true, Bool.true_eq_false, Bool.false_eq_true, Classical.not_not, eq_self, and_self, and_true, true_and, Int.reduceEq, Int.reduceLE, Int.reduceLT, Int.reduceNeg, Option.toList, List.cons_append, List.nil_append, zup_s, zup_n, zst_s, zup_zs, zup_zn, decide_true, decide_false, c_Ne_hasState hC, c1, c_Fo_isOfGroup hkk, c2']
  refine c_La_refresh hN hC hL hlt hF hFC hT hI (by omega) (Nat.le_of_ble_eq_true rfl) ?_
  rintro _ M1 ⟨rfl, hk, hT1, hv15, hv5, hv6, hW⟩
  have hout : zOutC S P n mv tg lt kd lf rt gp M M1 := zOutC_of ⟨hk, hv15⟩ hT1 hv5 hv6 hW
  have hC1 : zNetC S P mv tg M1 := zNetC_k hC (hk 3 (by decide)) (hk 4 (by decide)) (hk 7 (by decide))
  have hFC1 : zFormC n kd lf rt gp M1 := zFormC_k hFC (by rw [hk 10 (by decide)]) (hk 11 (by decide)) (hk 12 (by decide)) (hk 13 (by decide)) (hk 14 (by decide))
  have hH1 : zHpC hp M1 := fun p s a b => by rw [hk 9 (by decide)]; exact hH p s a b
  simp (disch := first | omega | exact Nat.le_of_ble_eq_true rfl | assumption | (simp only [Int.natCast_add, Int.natCast_mul, Int.cast_ofNat_Int]; omega) | decide) only [x_aload, x_getf, w_goto, w_fall, w_iconst, w_if, w_icmp, x_iload, x_istore, gf_2_0, gf_2_1, gf_2_3, w_nret r_FN_blind, q_eq, q_ne, q_lt, q_ge, q_gt, q_le, g_I, g_L, g_R, g_V, t_0, t_I, t_R, t_U, t_L, t_s, List.getElem?_cons_zero, List.getElem?_cons_succ, Nat.reduceAdd, zif10, zif01b, zib, if_pos, if_neg, ↓reduceIte, not_true_eq_false, not_false_eq_true, Bool.true_eq_false, Bool.false_eq_true, Classical.not_not, eq_self, and_self, and_true, true_and, Int.reduceEq, Int.reduceLE, Int.reduceLT, Int.reduceNeg, Option.toList, List.cons_append, List.nil_append, zup_s, zup_n, zst_s, zup_zs, zup_zn, decide_true, decide_false]
  refine c_FN_findRow (s := s) hN hC1 hF hFC1 hH1 hhp hW c2 (by omega) (by omega) (Nat.le_of_ble_eq_true rfl) ?_
  rintro _ M2 ⟨rfl, hk2, _⟩
  rw [hans]
  have hout2 := zOutC_kp hk2 (by decide) hout
  have hv : ans = -5 ∨ ans = 1 ∨ ans = 0 := by rw [← hans]; exact zSkA_v
  rcases hv with rfl | rfl | rfl
  · simp (disch := first | omega | exact Nat.le_of_ble_eq_true rfl | assumption | (simp only [Int.natCast_add, Int.natCast_mul, Int.cast_ofNat_Int]; omega) | decide) only [k_FN_blind_6, k_FN_blind_7, x_aload, x_getf, w_goto, w_fall, w_iconst, w_if, w_icmp, x_iload, x_istore, gf_2_0, gf_2_1, gf_2_3, w_nret r_FN_blind, q_eq, q_ne, q_lt, q_ge, q_gt, q_le, g_I, g_L, g_R, g_V, t_0, t_I, t_R, t_U, t_L, t_s, List.getElem?_cons_zero, List.getElem?_cons_succ, Nat.reduceAdd, zif10, zif01b, zib, if_pos, if_neg, ↓reduceIte, not_true_eq_false, not_false_eq_true, Bool.true_eq_false, Bool.false_eq_true, Classical.not_not, eq_self, and_self, and_true, true_and, Int.reduceEq, Int.reduceLE, Int.reduceLT, Int.reduceNeg, Option.toList, List.cons_append, List.nil_append, zup_s, zup_n, zst_s, zup_zs, zup_zn, decide_true, decide_false]
    exact hout2
  · simp (disch := first | omega | exact Nat.le_of_ble_eq_true rfl | assumption | (simp only [Int.natCast_add, Int.natCast_mul, Int.cast_ofNat_Int]; omega) | decide) only [k_FN_blind_6, k_FN_blind_7, x_aload, x_getf, w_goto, w_fall, w_iconst, w_if, w_icmp, x_iload, x_istore, gf_2_0, gf_2_1, gf_2_3, w_nret r_FN_blind, q_eq, q_ne, q_lt, q_ge, q_gt, q_le, g_I, g_L, g_R, g_V, t_0, t_I, t_R, t_U, t_L, t_s, List.getElem?_cons_zero, List.getElem?_cons_succ, Nat.reduceAdd, zif10, zif01b, zib, if_pos, if_neg, ↓reduceIte, not_true_eq_false, not_false_eq_true, Bool.true_eq_false, Bool.false_eq_true, Classical.not_not, eq_self, and_self, and_true, true_and, Int.reduceEq, Int.reduceLE, Int.reduceLT, Int.reduceNeg, Option.toList, List.cons_append, List.nil_append, zup_s, zup_n, zst_s, zup_zs, zup_zn, decide_true, decide_false]
    exact hout2
  · simp (disch := first | omega | exact Nat.le_of_ble_eq_true rfl | assumption | (simp only [Int.natCast_add, Int.natCast_mul, Int.cast_ofNat_Int]; omega) | decide) only [k_FN_blind_5, k_FN_blind_7, x_aload, x_getf, w_goto, w_fall, w_iconst, w_if, w_icmp, x_iload, x_istore, gf_2_0, gf_2_1, gf_2_3, w_nret r_FN_blind, q_eq, q_ne, q_lt, q_ge, q_gt, q_le, g_I, g_L, g_R, g_V, t_0, t_I, t_R, t_U, t_L, t_s, List.getElem?_cons_zero, List.getElem?_cons_succ, Nat.reduceAdd, zif10, zif01b, zib, if_pos, if_neg, ↓reduceIte, not_true_eq_false, not_false_eq_true, Bool.true_eq_false, Bool.false_eq_true, Classical.not_not, eq_self, and_self, and_true, true_and, Int.reduceEq, Int.reduceLE, Int.reduceLT, Int.reduceNeg, Option.toList, List.cons_append, List.nil_append, zup_s, zup_n, zst_s, zup_zs, zup_zn, decide_true, decide_false]
    exact hout2
theorem c_FN_blind {d mi o b9 : Nat} {es : List zEnt} {L st : List zMV} {Q : Option zMV → (Nat → Int → Int) → Prop} {x : Int} (hN : zNet S P mv tg) (hC : zNetC S P mv tg M) (hL : zLetC lt M) (hlt : ∀ s, lt s < 256) (hF : zForm P n kd lf rt gp) (hFC : zFormC n kd lf rt gp M) (hT : zTabI S P mv tg M) (hI : zLawI S P n mv tg lt kd lf rt gp M) (hH : zHpC hp M) (hhp : ∀ p s, hp p s < 12) (hd : 7 + 1 ≤ d) (hc : zcats st ≤ 8) (hpost : ∀ r M', (r = some (zI (zBlA S P mv tg hp lt kd lf rt gp x)) ∧ zOutC S P n mv tg lt kd lf rt gp M M') → zW (zSH Ln) d mi es L (r.toList ++ st) M' Q) : zW (zSH Ln) d mi ((.invokevirtual o, 143, b9) :: es) L (zI x :: zR 2 :: st) M Q :=
  w_callv (ps := [zI x]) (by omega) rfl rfl (by omega) (by exact sh_2 Ln) hc (Nat.le_of_ble_eq_true rfl) (F_FN_blind hN hC hL hlt hF hFC hT hI hH hhp (by omega)) hpost
theorem F_FN_blindMove {d : Nat} {x y h : Int} (hN : zNet S P mv tg) (hC : zNetC S P mv tg M) (hL : zLetC lt M) (hlt : ∀ s, lt s < 256) (hF : zForm P n kd lf rt gp) (hFC : zFormC n kd lf rt gp M) (hT : zTabI S P mv tg M) (hI : zLawI S P n mv tg lt kd lf rt gp M) (hH : zHpC hp M) (hhp : ∀ p s, hp p s < 12) (hd : 7 ≤ d) : zF (zSH Ln) d i_FN_blindMove [zR 2, zI x, zI y, zI h] M fun r M' => r = some (zI (zBmA S P mv tg hp lt kd lf rt gp x y h)) ∧ zOutC S P n mv tg lt kd lf rt gp M M' := by
  rw [zF_en k_FN_blindMove_0 (L := [zR 2, zI x, zI y, zI h, zU]) rfl]
  have hn := hF.1
  have hS := hN.2.1
  have hP4 := hN.2.2.2.1
  have hkk : M 11 0 = (kd 0 : Int) := (hFC.2 0 hn).1
  generalize hans : zBmA S P mv tg hp lt kd lf rt gp x y h = ans
  unfold zBmA at hans
  by_cases c1 : (0 ≤ x ∧ x < S) ∧ (0 ≤ y ∧ y < P) ∧ 0 ≤ h ∧ h < 12
  rotate_left
  · rw [if_neg c1] at hans
    subst hans
    by_cases c2 : 0 ≤ x ∧ x < S
    · by_cases c3 : 0 ≤ y ∧ y < P
      · by_cases c4 : 0 ≤ h
        · have c5 : ¬ h < 12 := fun z => c1 ⟨c2, c3, c4, z⟩
          simp (disch := first | omega | exact Nat.le_of_ble_eq_true rfl | assumption | (simp only [Int.natCast_add, Int.natCast_mul, Int.cast_ofNat_Int]; omega) | decide) only [k_FN_blindMove_1, k_FN_blindMove_2, k_FN_blindMove_3, k_FN_blindMove_4, x_aload, x_getf, w_goto, w_fall, w_iadd, w_iconst, w_if, w_icmp, x_iload, w_imul, x_istore, zadd_eq, zmul_eq, gf_32_2, gf_2_0, gf_2_1, gf_2_3, gf_2_5, at_33, ao_33, w_nret r_FN_blindMove, q_eq, q_ne, q_lt, q_ge, q_gt, q_le, g_I, g_L, g_R, g_V, t_0, t_I, t_R, t_U, t_L, t_s, List.getElem?_cons_zero, List.getElem?_cons_succ, Nat.reduceAdd, zif10, zif01b, zib, if_pos, if_neg, ↓reduceIte, not_true_eq_false, not_false_eq_true, Bool.true_eq_false, Bool.false_eq_true, Classical.not_not, eq_self, and_self, and_true, true_and, Int.reduceEq, Int.reduceLE, Int.reduceLT, Int.reduceNeg, Option.toList, List.cons_append, List.nil_append, zup_s, zup_n, zst_s, zup_zs, zup_zn, decide_true, decide_false, c_Ne_hasState hC, c2, c_Ne_hasPlayer hC, c3, c4, c5]
          exact zOutC_rf hT hI
        · simp (disch := first | omega | exact Nat.le_of_ble_eq_true rfl | assumption | (simp only [Int.natCast_add, Int.natCast_mul, Int.cast_ofNat_Int]; omega) | decide) only [k_FN_blindMove_1, k_FN_blindMove_2, k_FN_blindMove_4, x_aload, x_getf, w_goto, w_fall, w_iadd, w_iconst, w_if, w_icmp, x_iload, w_imul, x_istore, zadd_eq, zmul_eq, gf_32_2, gf_2_0, gf_2_1, gf_2_3, gf_2_5, at_33, ao_33, w_nret r_FN_blindMove, q_eq, q_ne, q_lt, q_ge, q_gt, q_le, g_I, g_L, g_R, g_V, t_0, t_I, t_R, t_U, t_L, t_s, List.getElem?_cons_zero, List.getElem?_cons_succ, Nat.reduceAdd, zif10, zif01b, zib, if_pos, if_neg, ↓reduceIte, not_true_eq_false, not_false_eq_true, Bool.true_eq_false, Bool.false_eq_true, Classical.not_not, eq_self, and_self, and_true, true_and, Int.reduceEq, Int.reduceLE, Int.reduceLT, Int.reduceNeg, Option.toList, List.cons_append, List.nil_append, zup_s, zup_n, zst_s, zup_zs, zup_zn, decide_true, decide_false, c_Ne_hasState hC, c2, c_Ne_hasPlayer hC, c3, c4]
          exact zOutC_rf hT hI
      · simp (disch := first | omega | exact Nat.le_of_ble_eq_true rfl | assumption | (simp only [Int.natCast_add, Int.natCast_mul, Int.cast_ofNat_Int]; omega) | decide) only [k_FN_blindMove_1, k_FN_blindMove_4, x_aload, x_getf, w_goto, w_fall, w_iadd, w_iconst, w_if, w_icmp, x_iload, w_imul, x_istore, zadd_eq, zmul_eq, gf_32_2, gf_2_0, gf_2_1, gf_2_3, gf_2_5, at_33, ao_33, w_nret r_FN_blindMove, q_eq, q_ne, q_lt, q_ge, q_gt, q_le, g_I, g_L, g_R, g_V, t_0, t_I, t_R, t_U, t_L, t_s, List.getElem?_cons_zero, List.getElem?_cons_succ, Nat.reduceAdd, zif10, zif01b, zib, if_pos, if_neg, ↓reduceIte, not_true_eq_false, not_false_eq_true, Bool.true_eq_false, Bool.false_eq_true, Classical.not_not, eq_self, and_self, and_true, true_and, Int.reduceEq, Int.reduceLE, Int.reduceLT, Int.reduceNeg, Option.toList, List.cons_append, List.nil_append, zup_s, zup_n, zst_s, zup_zs, zup_zn, decide_true, decide_false, c_Ne_hasState hC, c2, c_Ne_hasPlayer hC, c3]
        exact zOutC_rf hT hI
    · simp (disch := first | omega | exact Nat.le_of_ble_eq_true rfl | assumption | (simp only [Int.natCast_add, Int.natCast_mul, Int.cast_ofNat_Int]; omega) | decide) only [k_FN_blindMove_4, x_aload, x_getf, w_goto, w_fall, w_iadd, w_iconst, w_if, w_icmp, x_iload, w_imul, x_istore, zadd_eq, zmul_eq, gf_32_2, gf_2_0, gf_2_1, gf_2_3, gf_2_5, at_33, ao_33, w_nret r_FN_blindMove, q_eq, q_ne, q_lt, q_ge, q_gt, q_le, g_I, g_L, g_R, g_V, t_0, t_I, t_R, t_U, t_L, t_s, List.getElem?_cons_zero, List.getElem?_cons_succ, Nat.reduceAdd, zif10, zif01b, zib, if_pos, if_neg, ↓reduceIte, not_true_eq_false, not_false_eq_true, Bool.true_eq_false, Bool.false_eq_true, Classical.not_not, eq_self, and_self, and_true, true_and, Int.reduceEq, Int.reduceLE, Int.reduceLT, Int.reduceNeg, Option.toList, List.cons_append, List.nil_append, zup_s, zup_n, zst_s, zup_zs, zup_zn, decide_true, decide_false, c_Ne_hasState hC, c2]
      exact zOutC_rf hT hI
  rw [if_pos c1] at hans
  obtain ⟨c1, c3, c4⟩ := c1
  obtain ⟨s, rfl⟩ : ∃ s : Nat, x = (s : Int) := ⟨x.toNat, by omega⟩
  obtain ⟨p, rfl⟩ : ∃ p : Nat, y = (p : Int) := ⟨y.toNat, by omega⟩
  obtain ⟨q, rfl⟩ : ∃ q : Nat, h = (q : Int) := ⟨h.toNat, by omega⟩
  simp only [Int.toNat_natCast] at hans
  by_cases c2 : 5 ≤ kd 0
  rotate_left
  · have c2' : ¬ ((5 : Int) ≤ (kd 0 : Int)) := by omega
    rw [if_neg c2] at hans
    subst hans
    simp (disch := first | omega | exact Nat.le_of_ble_eq_true rfl | assumption | (simp only [Int.natCast_add, Int.natCast_mul, Int.cast_ofNat_Int]; omega) | decide) only [k_FN_blindMove_1, k_FN_blindMove_2, k_FN_blindMove_3, k_FN_blindMove_5, k_FN_blindMove_6, x_aload, x_getf, w_goto, w_fall, w_iadd, w_iconst, w_if, w_icmp, x_iload, w_imul, x_istore, zadd_eq, zmul_eq, gf_32_2, gf_2_0, gf_2_1, gf_2_3, gf_2_5, at_33, ao_33, w_nret r_FN_blindMove, q_eq, q_ne, q_lt, q_ge, q_gt, q_le, g_I, g_L, g_R, g_V, t_0, t_I, t_R, t_U, t_L, t_s, List.getElem?_cons_zero, List.getElem?_cons_succ, Nat.reduceAdd, zif10, zif01b, zib, if_pos, if_neg, ↓reduceIte, not_true_eq_false, not_false_eq_true, Bool.true_eq_false, Bool.false_eq_true, Classical.not_not, eq_self, and_self, and_true, true_and, Int.reduceEq, Int.reduceLE, Int.reduceLT, Int.reduceNeg, Option.toList, List.cons_append, List.nil_append, zup_s, zup_n, zst_s, zup_zs, zup_zn, decide_true, decide_false, c_Ne_hasState hC, c1, c_Ne_hasPlayer hC, c3, c4, c_Fo_isOfGroup hkk, c2']
    exact zOutC_rf hT hI
  have c2' : ((5 : Int) ≤ (kd 0 : Int)) := by omega
  rw [if_pos c2] at hans
  have g4 : M 14 0 = (gp 0 : Int) := (hFC.2 0 hn).2.2.2 c2
  by_cases c5 : zbit (gp 0 : Int) p = true
  rotate_left
  · have c5' : zbit (gp 0 : Int) p = false := by simpa using c5
    rw [if_neg (fun z => c5 z.1)] at hans
    subst hans
    simp (disch := first | omega | exact Nat.le_of_ble_eq_true rfl | assumption | (simp only [Int.natCast_add, Int.natCast_mul, Int.cast_ofNat_Int]; omega) | decide) only [k_FN_blindMove_1, k_FN_blindMove_2, k_FN_blindMove_3, k_FN_blindMove_5, k_FN_blindMove_7, k_FN_blindMove_9, x_aload, x_getf, w_goto, w_fall, w_iadd, w_iconst, w_if, w_icmp, x_iload, w_imul, x_istore, zadd_eq, zmul_eq, gf_32_2, gf_2_0, gf_2_1, gf_2_3, gf_2_5, at_33, ao_33, w_nret r_FN_blindMove, q_eq, q_ne, q_lt, q_ge, q_gt, q_le, g_I, g_L, g_R, g_V, t_0, t_I, t_R, t_U, t_L, t_s, List.getElem?_cons_zero, List.getElem?_cons_succ, Nat.reduceAdd, zif10, zif01b, zib, if_pos, if_neg, ↓reduceIte, not_true_eq_false, not_false_eq_true, Bool.true_eq_false, Bool.false_eq_true, Classical.not_not, eq_self, and_self, and_true, true_and, Int.reduceEq, Int.reduceLE, Int.reduceLT, Int.reduceNeg, Option.toList, List.cons_append, List.nil_append, zup_s, zup_n, zst_s, zup_zs, zup_zn, decide_true, decide_false, c_Ne_hasState hC, c1, c_Ne_hasPlayer hC, c3, c4, c_Fo_isOfGroup hkk, c2', c_Fo_group, g4, c_has, c5']
    exact zOutC_rf hT hI
  by_cases c6 : zlm mv hp p q S = 0
  · rw [if_neg (fun z => z.2 c6)] at hans
    subst hans
    simp (disch := first | omega | exact Nat.le_of_ble_eq_true rfl | assumption | (simp only [Int.natCast_add, Int.natCast_mul, Int.cast_ofNat_Int]; omega) | decide) only [k_FN_blindMove_1, k_FN_blindMove_2, k_FN_blindMove_3, k_FN_blindMove_5, k_FN_blindMove_7, k_FN_blindMove_8, k_FN_blindMove_9, x_aload, x_getf, w_goto, w_fall, w_iadd, w_iconst, w_if, w_icmp, x_iload, w_imul, x_istore, zadd_eq, zmul_eq, gf_32_2, gf_2_0, gf_2_1, gf_2_3, gf_2_5, at_33, ao_33, w_nret r_FN_blindMove, q_eq, q_ne, q_lt, q_ge, q_gt, q_le, g_I, g_L, g_R, g_V, t_0, t_I, t_R, t_U, t_L, t_s, List.getElem?_cons_zero, List.getElem?_cons_succ, Nat.reduceAdd, zif10, zif01b, zib, if_pos, if_neg, ↓reduceIte, not_true_eq_false, not_false_eq_true, Bool.true_eq_false, Bool.false_eq_true, Classical.not_not, eq_self, and_self, and_true, true_and, Int.reduceEq, Int.reduceLE, Int.reduceLT, Int.reduceNeg, Option.toList, List.cons_append, List.nil_append, zup_s, zup_n, zst_s, zup_zs, zup_zn, decide_true, decide_false, c_Ne_hasState hC, c1, c_Ne_hasPlayer hC, c3, c4, c_Fo_isOfGroup hkk, c2', c_Fo_group, g4, c_has, c5, c_Ne_leastMoves hN hC hH (show p < 4 by omega), c6]
    exact zOutC_rf hT hI
  rw [if_pos ⟨c5, c6⟩] at hans
  have c6' : ¬ (zlm mv hp p q S : Int) = 0 := by omega
  simp (disch := first | omega | exact Nat.le_of_ble_eq_true rfl | assumption | (simp only [Int.natCast_add, Int.natCast_mul, Int.cast_ofNat_Int]; omega) | decide) only [k_FN_blindMove_1, k_FN_blindMove_2, k_FN_blindMove_3, k_FN_blindMove_5, k_FN_blindMove_7, k_FN_blindMove_8, k_FN_blindMove_10, x_aload, x_getf, w_goto, w_fall, w_iadd, w_iconst, w_if, w_icmp, x_iload, w_imul, x_istore, zadd_eq, zmul_eq, gf_32_2, gf_2_0, gf_2_1, gf_2_3, gf_2_5, at_33, ao_33, w_nret r_FN_blindMove, q_eq, q_ne, q_lt, q_ge, q_gt, q_le, g_I, g_L, g_R, g_V, t_0, t_I, t_R, t_U, t_L, t_s, List.getElem?_cons_zero, List.getElem?_cons_succ, Nat.reduceAdd, zif10, zif01b, zib, if_pos, if_neg, ↓reduceIte, not_true_eq_false, not_false_eq_true, Bool.true_eq_false, Bool.false_eq_true, Classical.not_not, eq_self, and_self, and_true, true_and, Int.reduceEq, Int.reduceLE, Int.reduceLT, Int.reduceNeg, Option.toList, List.cons_append, List.nil_append, zup_s, zup_n, zst_s, zup_zs, zup_zn, decide_true, decide_false, c_Ne_hasState hC, c1, c_Ne_hasPlayer hC, c3, c4, c_Fo_isOfGroup hkk, c2', c_Fo_group, g4, c_has, c5, c_Ne_leastMoves hN hC hH (show p < 4 by omega), c6']
  refine c_La_refresh hN hC hL hlt hF hFC hT hI (by omega) (Nat.le_of_ble_eq_true rfl) ?_
  rintro _ M1 ⟨rfl, hk, hT1, hv15, hv5, hv6, hW⟩
  have hout : zOutC S P n mv tg lt kd lf rt gp M M1 := zOutC_of ⟨hk, hv15⟩ hT1 hv5 hv6 hW
  have hC1 : zNetC S P mv tg M1 := zNetC_k hC (hk 3 (by decide)) (hk 4 (by decide)) (hk 7 (by decide))
  have hFC1 : zFormC n kd lf rt gp M1 := zFormC_k hFC (by rw [hk 10 (by decide)]) (hk 11 (by decide)) (hk 12 (by decide)) (hk 13 (by decide)) (hk 14 (by decide))
  have hH1 : zHpC hp M1 := fun p s a b => by rw [hk 9 (by decide)]; exact hH p s a b
  simp (disch := first | omega | exact Nat.le_of_ble_eq_true rfl | assumption | (simp only [Int.natCast_add, Int.natCast_mul, Int.cast_ofNat_Int]; omega) | decide) only [x_aload, x_getf, w_goto, w_fall, w_iadd, w_iconst, w_if, w_icmp, x_iload, w_imul, x_istore, zadd_eq, zmul_eq, gf_32_2, gf_2_0, gf_2_1, gf_2_3, gf_2_5, at_33, ao_33, w_nret r_FN_blindMove, q_eq, q_ne, q_lt, q_ge, q_gt, q_le, g_I, g_L, g_R, g_V, t_0, t_I, t_R, t_U, t_L, t_s, List.getElem?_cons_zero, List.getElem?_cons_succ, Nat.reduceAdd, zif10, zif01b, zib, if_pos, if_neg, ↓reduceIte, not_true_eq_false, not_false_eq_true, Bool.true_eq_false, Bool.false_eq_true, Classical.not_not, eq_self, and_self, and_true, true_and, Int.reduceEq, Int.reduceLE, Int.reduceLT, Int.reduceNeg, Option.toList, List.cons_append, List.nil_append, zup_s, zup_n, zst_s, zup_zs, zup_zn, decide_true, decide_false]
  refine c_FN_findRow (s := s) hN hC1 hF hFC1 hH1 hhp hW c2 (by omega) (by omega) (Nat.le_of_ble_eq_true rfl) ?_
  rintro _ M2 ⟨rfl, hk2, hrow⟩
  have hout2 := zOutC_kp hk2 (by decide) hout
  rcases zSkA_v (S := S) (P := P) (mv := mv) (tg := tg) (hp := hp) (g := zbit (gp 0 : Int)) (kd := kd 0) (one := zHp mv tg P lt kd lf rt gp (lf 0)) (two := zHp mv tg P lt kd lf rt gp (rt 0)) (F := zFt P hp (zbit (gp 0 : Int)) s) with e | e | e
  · rw [if_neg (by rw [e]; decide), if_pos e] at hans
    subst hans
    simp (disch := first | omega | exact Nat.le_of_ble_eq_true rfl | assumption | (simp only [Int.natCast_add, Int.natCast_mul, Int.cast_ofNat_Int]; omega) | decide) only [k_FN_blindMove_12, k_FN_blindMove_13, x_aload, x_getf, w_goto, w_fall, w_iadd, w_iconst, w_if, w_icmp, x_iload, w_imul, x_istore, zadd_eq, zmul_eq, gf_32_2, gf_2_0, gf_2_1, gf_2_3, gf_2_5, at_33, ao_33, w_nret r_FN_blindMove, q_eq, q_ne, q_lt, q_ge, q_gt, q_le, g_I, g_L, g_R, g_V, t_0, t_I, t_R, t_U, t_L, t_s, List.getElem?_cons_zero, List.getElem?_cons_succ, Nat.reduceAdd, zif10, zif01b, zib, if_pos, if_neg, ↓reduceIte, not_true_eq_false, not_false_eq_true, Bool.true_eq_false, Bool.false_eq_true, Classical.not_not, eq_self, and_self, and_true, true_and, Int.reduceEq, Int.reduceLE, Int.reduceLT, Int.reduceNeg, Option.toList, List.cons_append, List.nil_append, zup_s, zup_n, zst_s, zup_zs, zup_zn, decide_true, decide_false, e]
    exact hout2
  · rw [if_pos e] at hans
    have hv := hrow e p q (by omega) (by omega)
    simp (disch := first | omega | exact Nat.le_of_ble_eq_true rfl | assumption | (simp only [Int.natCast_add, Int.natCast_mul, Int.cast_ofNat_Int]; omega) | decide) only [k_FN_blindMove_11, k_FN_blindMove_13, x_aload, x_getf, w_goto, w_fall, w_iadd, w_iconst, w_if, w_icmp, x_iload, w_imul, x_istore, zadd_eq, zmul_eq, gf_32_2, gf_2_0, gf_2_1, gf_2_3, gf_2_5, at_33, ao_33, w_nret r_FN_blindMove, q_eq, q_ne, q_lt, q_ge, q_gt, q_le, g_I, g_L, g_R, g_V, t_0, t_I, t_R, t_U, t_L, t_s, List.getElem?_cons_zero, List.getElem?_cons_succ, Nat.reduceAdd, zif10, zif01b, zib, if_pos, if_neg, ↓reduceIte, not_true_eq_false, not_false_eq_true, Bool.true_eq_false, Bool.false_eq_true, Classical.not_not, eq_self, and_self, and_true, true_and, Int.reduceEq, Int.reduceLE, Int.reduceLT, Int.reduceNeg, Option.toList, List.cons_append, List.nil_append, zup_s, zup_n, zst_s, zup_zs, zup_zn, decide_true, decide_false, e, at_33, hv, hans]
    exact hout2
  · rw [if_neg (by rw [e]; decide), if_neg (by rw [e]; decide)] at hans
    subst hans
    simp (disch := first | omega | exact Nat.le_of_ble_eq_true rfl | assumption | (simp only [Int.natCast_add, Int.natCast_mul, Int.cast_ofNat_Int]; omega) | decide) only [k_FN_blindMove_12, k_FN_blindMove_13, x_aload, x_getf, w_goto, w_fall, w_iadd, w_iconst, w_if, w_icmp, x_iload, w_imul, x_istore, zadd_eq, zmul_eq, gf_32_2, gf_2_0, gf_2_1, gf_2_3, gf_2_5, at_33, ao_33, w_nret r_FN_blindMove, q_eq, q_ne, q_lt, q_ge, q_gt, q_le, g_I, g_L, g_R, g_V, t_0, t_I, t_R, t_U, t_L, t_s, List.getElem?_cons_zero, List.getElem?_cons_succ, Nat.reduceAdd, zif10, zif01b, zib, if_pos, if_neg, ↓reduceIte, not_true_eq_false, not_false_eq_true, Bool.true_eq_false, Bool.false_eq_true, Classical.not_not, eq_self, and_self, and_true, true_and, Int.reduceEq, Int.reduceLE, Int.reduceLT, Int.reduceNeg, Option.toList, List.cons_append, List.nil_append, zup_s, zup_n, zst_s, zup_zs, zup_zn, decide_true, decide_false, e]
    exact hout2
theorem c_FN_blindMove {d mi o b9 : Nat} {es : List zEnt} {L st : List zMV} {Q : Option zMV → (Nat → Int → Int) → Prop} {x y h : Int} (hN : zNet S P mv tg) (hC : zNetC S P mv tg M) (hL : zLetC lt M) (hlt : ∀ s, lt s < 256) (hF : zForm P n kd lf rt gp) (hFC : zFormC n kd lf rt gp M) (hT : zTabI S P mv tg M) (hI : zLawI S P n mv tg lt kd lf rt gp M) (hH : zHpC hp M) (hhp : ∀ p s, hp p s < 12) (hd : 7 + 1 ≤ d) (hc : zcats st ≤ 8) (hpost : ∀ r M', (r = some (zI (zBmA S P mv tg hp lt kd lf rt gp x y h)) ∧ zOutC S P n mv tg lt kd lf rt gp M M') → zW (zSH Ln) d mi es L (r.toList ++ st) M' Q) : zW (zSH Ln) d mi ((.invokevirtual o, 144, b9) :: es) L (zI h :: zI y :: zI x :: zR 2 :: st) M Q :=
  w_callv (ps := [zI x, zI y, zI h]) (by omega) rfl rfl (by omega) (by exact sh_2 Ln) hc (Nat.le_of_ble_eq_true rfl) (F_FN_blindMove hN hC hL hlt hF hFC hT hI hH hhp (by omega)) hpost
theorem F_FN_walked {d : Nat} {k : Int} {tr : Nat → Nat} (hn : n ≤ 41) (hTr : zTrC n tr M) (hd : 2 ≤ d) : zF (zSH Ln) d i_FN_walked [zR 2, zI k] M fun r M' => r = some (zI (if 0 ≤ k ∧ k < n then (tr k.toNat : Int) else -1)) ∧ M' = M := by
  rw [zF_en k_FN_walked_0 (L := [zR 2, zI k]) rfl]
  simp (disch := first | omega | exact Nat.le_of_ble_eq_true rfl | assumption | (simp only [Int.natCast_add, Int.natCast_mul, Int.cast_ofNat_Int]; omega) | decide) only [x_aload, x_getf, x_iload, gf_2_4, w_nret r_FN_walked, q_eq, q_ne, q_lt, q_ge, q_gt, q_le, g_I, g_L, g_R, g_V, t_0, t_I, t_R, t_U, t_L, t_s, List.getElem?_cons_zero, List.getElem?_cons_succ, Nat.reduceAdd, zif10, zif01b, zib, if_pos, if_neg, ↓reduceIte, not_true_eq_false, not_false_eq_true, Bool.true_eq_false, Bool.false_eq_true, Classical.not_not, eq_self, and_self, and_true, true_and, Int.reduceEq, Int.reduceLE, Int.reduceLT, Int.reduceNeg, Option.toList, List.cons_append, List.nil_append, zup_s, zup_n, zst_s, zup_zs, zup_zn, decide_true, decide_false, c_Pl_behind hn hTr]
theorem c_FN_walked {d mi o b9 : Nat} {es : List zEnt} {L st : List zMV} {Q : Option zMV → (Nat → Int → Int) → Prop} {k : Int} {tr : Nat → Nat} (hn : n ≤ 41) (hTr : zTrC n tr M) (hd : 2 + 1 ≤ d) (hc : zcats st ≤ 8) : zW (zSH Ln) d mi ((.invokevirtual o, 142, b9) :: es) L (zI k :: zR 2 :: st) M Q = zW (zSH Ln) d mi es L (zI (if 0 ≤ k ∧ k < n then (tr k.toNat : Int) else -1) :: st) (M) Q :=
  c_virt (ps := [zI k]) (by omega) rfl rfl (by omega) (by exact sh_2 Ln) hc (Nat.le_of_ble_eq_true rfl) (F_FN_walked hn hTr (by omega))
end FC
