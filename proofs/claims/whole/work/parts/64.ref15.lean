/-! the reference: blind -/
theorem zst_sw {M : Nat → Int → Int} {k k2 : Nat} {D A D' : Int → Int} (h : k ≠ k2) : zst (zst (zst M k D) k2 A) k D' = zst (zst M k D') k2 A := by
  funext a
  by_cases h1 : a = k
  · subst h1; simp [zst, h]
  · simp [zst, h1]
section RE
variable {Ln S P n : Nat} {mv tg hp : Nat → Nat → Nat} {lt kd lf rt gp : Nat → Nat} {M : Nat → Int → Int}
/-- what looking for a row answers -/
def zSkA (S P : Nat) (mv tg hp : Nat → Nat → Nat) (g : Nat → Bool) (kd : Nat) (one two F : Nat → Bool) : Int := if 5000 < zcap (zBb S P mv hp g) 48 then -5 else if zSk S P mv tg hp g kd one two F < zcnt (zBm S P mv hp g) zall1 48 then 1 else 0
set_option maxHeartbeats 20000000 in
theorem F_Md_seeks {d : Nat} {s0 : Nat} {one two : Nat → Bool} (hN : zNet S P mv tg) (hR : zNetR S P mv tg M) (hL : zLetR lt M) (hlt : ∀ s, lt s < 256) (hF : zForm P n kd lf rt gp) (hFR : zFormR n kd lf rt gp M) (hH : zHpR hp M) (hhp : ∀ p s, hp p s < 12) (h5 : 5 ≤ kd 0) (hs : s0 < S) (h1 : zHp mv tg P lt kd lf rt gp (lf 0) = one) (h2 : zHp mv tg P lt kd lf rt gp (rt 0) = two) (hd : 8 ≤ d) : zF (zSH Ln) d i_Md_seeks [zR 48, zI (s0 : Int)] M fun r M' => r = some (zI (zSkA S P mv tg hp (zbit (gp 0 : Int)) (kd 0) one two (zFt P hp (zbit (gp 0 : Int)) s0))) ∧ zKp [48, 67, 68, 76, 77, 78, 79, 80] M M' ∧ (∀ i : Int, i ≠ 41 → M' 48 i = M 48 i) ∧ (zSkA S P mv tg hp (zbit (gp 0 : Int)) (kd 0) one two (zFt P hp (zbit (gp 0 : Int)) s0) = 1 → zLay (zBb S P mv hp (zbit (gp 0 : Int))) 48 M' ∧ ∀ p h : Nat, p < 4 → h < 12 → 0 < zBb S P mv hp (zbit (gp 0 : Int)) (p * 12 + h) → M' 79 (zix (zBb S P mv hp (zbit (gp 0 : Int))) (p * 12 + h) : Int) = zRow (zBm S P mv hp (zbit (gp 0 : Int))) (zSk S P mv tg hp (zbit (gp 0 : Int)) (kd 0) one two (zFt P hp (zbit (gp 0 : Int)) s0)) p h) := by
  rw [zF_en k_Md_seeks_0 (L := [zR 48, zI (s0 : Int), zU, zU, zU]) rfl]
  have hn := hF.1
  have hS := hN.2.1
  have hm := hN.2.2.2.2.1
  obtain ⟨f1, f2, f3, f4, f5⟩ := hF.2.2 0 hn
  have f3 := f3 (by omega)
  have g4 := (hFR.2.1 0 hn).2.2.2 h5
  simp only [show ((0 : Nat) : Int) = 0 from rfl] at g4
  have hb3 : ∀ i, zBb S P mv hp (zbit (gp 0 : Int)) i ≤ 3 := fun i => by
    unfold zBb; split
    · exact zlm_le hm _ _ _
    · omega
  have hbm : zBm S P mv hp (zbit (gp 0 : Int)) = fun i => max (zBb S P mv hp (zbit (gp 0 : Int)) i) 1 := rfl
  have hskd : zSk S P mv tg hp (zbit (gp 0 : Int)) (kd 0) one two (zFt P hp (zbit (gp 0 : Int)) s0) = zfst (zcnt (zBm S P mv hp (zbit (gp 0 : Int))) zall1 48) fun k => zsb S (zFt P hp (zbit (gp 0 : Int)) s0) (zDo S (kd 0) (zN P mv tg hp (zbit (gp 0 : Int)) (zRow (zBm S P mv hp (zbit (gp 0 : Int))) k)) one two) := rfl
  generalize hans : zSkA S P mv tg hp (zbit (gp 0 : Int)) (kd 0) one two (zFt P hp (zbit (gp 0 : Int)) s0) = ans
  unfold zSkA at hans
  simp (disch := first | omega | exact Nat.le_of_ble_eq_true rfl | assumption | (simp only [Int.natCast_add, Int.natCast_mul, Int.cast_ofNat_Int]; omega) | decide) only [x_aload, w_goto, w_fall, w_iand, w_iconst, w_if, w_icmp, x_iload, x_istore, w_ixor, w_nret r_Md_seeks, q_eq, q_ne, q_lt, q_ge, q_gt, q_le, g_I, g_L, g_R, g_V, t_0, t_I, t_R, t_U, t_L, t_s, List.getElem?_cons_zero, List.getElem?_cons_succ, Nat.reduceAdd, zif10, zif01b, zib, if_pos, if_neg, ↓reduceIte, not_true_eq_false, not_false_eq_true, Bool.true_eq_false, Bool.false_eq_true, Classical.not_not, eq_self, and_self, and_true, true_and, Int.reduceEq, Int.reduceLE, Int.reduceLT, Int.reduceNeg, Option.toList, List.cons_append, List.nil_append, zup_s, zup_n, zst_s, zup_zs, zup_zn, decide_true, decide_false]
  refine c_Md_lays hN hR hH g4 (by omega) (Nat.le_of_ble_eq_true rfl) ?_
  rintro _ M1 ⟨rfl, hk1, h48, hlay, hz⟩
  by_cases c1 : 5000 < zcap (zBb S P mv hp (zbit (gp 0 : Int))) 48
  · have ha : ans = -5 := by rw [← hans, if_pos c1]
    simp (disch := first | omega | exact Nat.le_of_ble_eq_true rfl | assumption | (simp only [Int.natCast_add, Int.natCast_mul, Int.cast_ofNat_Int]; omega) | decide) only [k_Md_seeks_1, x_aload, w_goto, w_fall, w_iand, w_iconst, w_if, w_icmp, x_iload, x_istore, w_ixor, w_nret r_Md_seeks, q_eq, q_ne, q_lt, q_ge, q_gt, q_le, g_I, g_L, g_R, g_V, t_0, t_I, t_R, t_U, t_L, t_s, List.getElem?_cons_zero, List.getElem?_cons_succ, Nat.reduceAdd, zif10, zif01b, zib, if_pos, if_neg, ↓reduceIte, not_true_eq_false, not_false_eq_true, Bool.true_eq_false, Bool.false_eq_true, Classical.not_not, eq_self, and_self, and_true, true_and, Int.reduceEq, Int.reduceLE, Int.reduceLT, Int.reduceNeg, Option.toList, List.cons_append, List.nil_append, zup_s, zup_n, zst_s, zup_zs, zup_zn, decide_true, decide_false, ha]
    exact ⟨zKp_mo hk1 (by decide), h48, fun h => h.elim⟩
  rw [if_neg c1] at hans
  have hcap : zcnt (zBm S P mv hp (zbit (gp 0 : Int))) zall1 48 ≤ 5000 := by
    have := zcap_eq (zBb S P mv hp (zbit (gp 0 : Int))) 48
    rw [hbm]; omega
  have hb : ∀ i, 1 ≤ zBm S P mv hp (zbit (gp 0 : Int)) i := fun i => by unfold zBm; omega
  have hpos : 0 < zcnt (zBm S P mv hp (zbit (gp 0 : Int))) zall1 48 := by
    have : ∀ k, 0 < zcnt (zBm S P mv hp (zbit (gp 0 : Int))) zall1 k := fun k => by
      induction k with
      | zero => exact Nat.one_pos
      | succ k ih => simp only [zcnt, zall1, if_true]; exact Nat.mul_pos ih (hb k)
    exact this _
  have h0 : ∀ i, zdg (zBm S P mv hp (zbit (gp 0 : Int))) 48 0 i = 0 := fun i => by
    have : ∀ k, zpre (zBm S P mv hp (zbit (gp 0 : Int))) 48 0 k = 0 := fun k => by
      induction k with
      | zero => rfl
      | succ k ih => simp only [zpre, ih, Nat.zero_div]
    unfold zdg; rw [this, Nat.zero_mod]
  have hR1 : zNetR S P mv tg M1 := zNetR_k hR (h48 0 (by decide)) (h48 1 (by decide)) (hk1 49 (by decide)) (hk1 50 (by decide))
  have hL1 : zLetR lt M1 := fun s h => by rw [hk1 52 (by decide)]; exact hL s h
  have hFR1 : zFormR n kd lf rt gp M1 := zFormR_k hFR (h48 10 (by decide)) (hk1 56 (by decide)) (hk1 57 (by decide)) (hk1 58 (by decide)) (hk1 59 (by decide))
  have hH1 : zHpR hp M1 := fun p s a b => by rw [hk1 53 (by decide)]; exact hH p s a b
  have g41 : M1 59 0 = gp 0 := by rw [hk1 59 (by decide)]; exact g4
  simp (disch := first | omega | exact Nat.le_of_ble_eq_true rfl | assumption | (simp only [Int.natCast_add, Int.natCast_mul, Int.cast_ofNat_Int]; omega) | decide) only [k_Md_seeks_2, x_aload, w_goto, w_fall, w_iand, w_iconst, w_if, w_icmp, x_iload, x_istore, w_ixor, w_nret r_Md_seeks, q_eq, q_ne, q_lt, q_ge, q_gt, q_le, g_I, g_L, g_R, g_V, t_0, t_I, t_R, t_U, t_L, t_s, List.getElem?_cons_zero, List.getElem?_cons_succ, Nat.reduceAdd, zif10, zif01b, zib, if_pos, if_neg, ↓reduceIte, not_true_eq_false, not_false_eq_true, Bool.true_eq_false, Bool.false_eq_true, Classical.not_not, eq_self, and_self, and_true, true_and, Int.reduceEq, Int.reduceLE, Int.reduceLT, Int.reduceNeg, Option.toList, List.cons_append, List.nil_append, zup_s, zup_n, zst_s, zup_zs, zup_zn, decide_true, decide_false]
  refine c_Md_tell hN hR1 hL1 hlt hF hFR1 (by omega) (Nat.le_of_ble_eq_true rfl) ?_
  rintro _ _ ⟨rfl, H, R, rfl, hLaw⟩
  have hW := hLaw.1
  generalize hM2 : zst (zst M1 67 H) 68 R = M2 at hW
  have hk2 : zKp [48, 67, 68, 76, 77, 78, 79, 80] M M2 := by rw [← hM2]; exact zKp_st (by decide) (zKp_st (by decide) (zKp_mo hk1 (by decide)))
  have h482 : ∀ i : Int, i ≠ 41 → M2 48 i = M 48 i := by rw [← hM2]; exact h48
  have hR2 : ∀ D A, zNetR S P mv tg (zst (zst M2 79 D) 80 A) := fun _ _ => by rw [← hM2]; exact hR1
  have hF2 : ∀ D A, zFormR n kd lf rt gp (zst (zst M2 79 D) 80 A) := fun _ _ => by rw [← hM2]; exact hFR1
  have hH2 : ∀ D A, zHpR hp (zst (zst M2 79 D) 80 A) := fun _ _ => by rw [← hM2]; exact hH1
  have hg2 : ∀ D A, zst (zst M2 79 D) 80 A 59 0 = gp 0 := fun _ _ => by rw [← hM2]; exact g41
  have hL2 : ∀ D A, zLay (zBb S P mv hp (zbit (gp 0 : Int))) 48 (zst (zst M2 79 D) 80 A) := fun _ _ => by rw [← hM2]; exact hlay
  have ho1 : ∀ D A, zst (zst M2 79 D) 80 A 67 (lf 0 : Int) = zset S one := fun _ _ => by rw [← h1]; exact hW (lf 0) f3.2
  have ho2 : ∀ D A, ztwo (kd 0) = true → zst (zst M2 79 D) 80 A 67 (rt 0 : Int) = zset S two := fun _ _ h => by rw [← h2]; exact hW (rt 0) (f4 h).2
  have hz2 : ∀ j : Nat, j < 48 → 0 < zBb S P mv hp (zbit (gp 0 : Int)) j → M2 79 (zix (zBb S P mv hp (zbit (gp 0 : Int))) j : Int) = 0 := by rw [← hM2]; exact hz
  have hR20 : zNetR S P mv tg M2 := by rw [← hM2]; exact hR1
  have hH20 : zHpR hp M2 := by rw [← hM2]; exact hH1
  have hg20 : M2 59 0 = gp 0 := by rw [← hM2]; exact g41
  generalize zHp mv tg P lt kd lf rt gp 0 = whole
  have hw0 := zset_0 S whole
  simp (disch := first | omega | exact Nat.le_of_ble_eq_true rfl | assumption | (simp only [Int.natCast_add, Int.natCast_mul, Int.cast_ofNat_Int]; omega) | decide) only [x_aload, w_goto, w_fall, w_iand, w_iconst, w_if, w_icmp, x_iload, x_istore, w_ixor, w_nret r_Md_seeks, q_eq, q_ne, q_lt, q_ge, q_gt, q_le, g_I, g_L, g_R, g_V, t_0, t_I, t_R, t_U, t_L, t_s, List.getElem?_cons_zero, List.getElem?_cons_succ, Nat.reduceAdd, zif10, zif01b, zib, if_pos, if_neg, ↓reduceIte, not_true_eq_false, not_false_eq_true, Bool.true_eq_false, Bool.false_eq_true, Classical.not_not, eq_self, and_self, and_true, true_and, Int.reduceEq, Int.reduceLE, Int.reduceLT, Int.reduceNeg, Option.toList, List.cons_append, List.nil_append, zup_s, zup_n, zst_s, zup_zs, zup_zn, decide_true, decide_false, c_Md_fits hN hR20 hH20 hg20 hs]
  generalize hFt : zFt P hp (zbit (gp 0 : Int)) s0 = F at hans hskd
  refine zfor (a := 0) (N := 5000) (b := 3) (fun k L0 M0 => ∃ (D : Int → Int) (A : Int → Int), L0 = [zR 48, zI (s0 : Int), zI (zset S whole), zI (zset S F), zI 1] ∧ M0 = zst (zst M2 79 D) 80 A ∧ (k < zcnt (zBm S P mv hp (zbit (gp 0 : Int))) zall1 48 ∧ (∀ j : Nat, j < 48 → 0 < zBb S P mv hp (zbit (gp 0 : Int)) j → D (zix (zBb S P mv hp (zbit (gp 0 : Int))) j : Int) = zdg (zBm S P mv hp (zbit (gp 0 : Int))) 48 k j) ∧ ∀ i, i < k → zsb S F (zDo S (kd 0) (zN P mv tg hp (zbit (gp 0 : Int)) (zRow (zBm S P mv hp (zbit (gp 0 : Int))) i)) one two) = false)) ?_ ?_ ?_ ?_
  · exact Nat.zero_le _
  · refine ⟨M2 79, M2 80, rfl, ?_, hpos, fun j hj hbj => by rw [h0]; exact hz2 j hj hbj, fun i hi => by omega⟩
    rw [zst_id]; exact (zst_id M2 80).symm
  · rintro k _ _ _ hk ⟨D, A, rfl, rfl, hlt2, hD, hno⟩ ih
    have hok := zRow_ok (S := S) (P := P) hm hhp (zbit (gp 0 : Int)) k
    rw [k_Md_seeks_3]
    simp (disch := first | omega | exact Nat.le_of_ble_eq_true rfl | assumption | (simp only [Int.natCast_add, Int.natCast_mul, Int.cast_ofNat_Int]; omega) | decide) only [k_Md_seeks_4, x_aload, w_goto, w_fall, w_iand, w_iconst, w_if, w_icmp, x_iload, x_istore, w_ixor, w_nret r_Md_seeks, q_eq, q_ne, q_lt, q_ge, q_gt, q_le, g_I, g_L, g_R, g_V, t_0, t_I, t_R, t_U, t_L, t_s, List.getElem?_cons_zero, List.getElem?_cons_succ, Nat.reduceAdd, zif10, zif01b, zib, if_pos, if_neg, ↓reduceIte, not_true_eq_false, not_false_eq_true, Bool.true_eq_false, Bool.false_eq_true, Classical.not_not, eq_self, and_self, and_true, true_and, Int.reduceEq, Int.reduceLE, Int.reduceLT, Int.reduceNeg, Option.toList, List.cons_append, List.nil_append, zup_s, zup_n, zst_s, zup_zs, zup_zn, decide_true, decide_false]
    refine c_Md_links (rw0 := zRow (zBm S P mv hp (zbit (gp 0 : Int))) k) hN (hR2 D A) (hH2 D A) hhp (hg2 D A) (hL2 D A) (fun p h hp4 hh hbj => hD (p * 12 + h) (by omega) hbj) hok (by omega) (Nat.le_of_ble_eq_true rfl) ?_
    rintro _ _ ⟨rfl, A', rfl, hA'⟩
    rw [zst_zst]
    have hE : ∀ s : Nat, s < S → zst (zst M2 79 D) 80 A' 80 (s : Int) = zset S (zN P mv tg hp (zbit (gp 0 : Int)) (zRow (zBm S P mv hp (zbit (gp 0 : Int))) k) s) := fun s hs => by rw [zst_s]; exact hA' s hs
    have hkp : ∀ D A, zKp [48, 67, 68, 76, 77, 78, 79, 80] M (zst (zst M2 79 D) 80 A) := fun D A => zKp_st (by decide) (zKp_st (by decide) hk2)
    cases hst : zsb S F (zDo S (kd 0) (zN P mv tg hp (zbit (gp 0 : Int)) (zRow (zBm S P mv hp (zbit (gp 0 : Int))) k)) one two)
    · have hno' : ∀ i, i < k + 1 → zsb S F (zDo S (kd 0) (zN P mv tg hp (zbit (gp 0 : Int)) (zRow (zBm S P mv hp (zbit (gp 0 : Int))) i)) one two) = false := fun i hi => by
        by_cases e : i = k
        · subst e; exact hst
        · exact hno i (by omega)
      simp (disch := first | omega | exact Nat.le_of_ble_eq_true rfl | assumption | (simp only [Int.natCast_add, Int.natCast_mul, Int.cast_ofNat_Int]; omega) | decide) only [k_Md_seeks_6, x_aload, w_goto, w_fall, w_iand, w_iconst, w_if, w_icmp, x_iload, x_istore, w_ixor, w_nret r_Md_seeks, q_eq, q_ne, q_lt, q_ge, q_gt, q_le, g_I, g_L, g_R, g_V, t_0, t_I, t_R, t_U, t_L, t_s, List.getElem?_cons_zero, List.getElem?_cons_succ, Nat.reduceAdd, zif10, zif01b, zib, if_pos, if_neg, ↓reduceIte, not_true_eq_false, not_false_eq_true, Bool.true_eq_false, Bool.false_eq_true, Classical.not_not, eq_self, and_self, and_true, true_and, Int.reduceEq, Int.reduceLE, Int.reduceLT, Int.reduceNeg, Option.toList, List.cons_append, List.nil_append, zup_s, zup_n, zst_s, zup_zs, zup_zn, decide_true, decide_false, c_Md_does hN (hR2 D A') hF (hF2 D A') h5 (ho1 D A') (ho2 D A') hE, zset_dif, zset_sb, hst]
      refine c_Md_countsUp (b := zBb S P mv hp (zbit (gp 0 : Int))) (k := k) (hL2 D A') hb3 hlt2 hD (by omega) (Nat.le_of_ble_eq_true rfl) ?_
      rintro _ _ ⟨rfl, D', rfl, hD'⟩
      rw [zst_sw (by decide)]
      by_cases hmo : k + 1 < zcnt (fun i => max (zBb S P mv hp (zbit (gp 0 : Int)) i) 1) zall1 48
      · simp (disch := first | omega | exact Nat.le_of_ble_eq_true rfl | assumption | (simp only [Int.natCast_add, Int.natCast_mul, Int.cast_ofNat_Int]; omega) | decide) only [x_aload, w_goto, w_fall, w_iand, w_iconst, w_if, w_icmp, x_iload, x_istore, w_ixor, w_nret r_Md_seeks, q_eq, q_ne, q_lt, q_ge, q_gt, q_le, g_I, g_L, g_R, g_V, t_0, t_I, t_R, t_U, t_L, t_s, List.getElem?_cons_zero, List.getElem?_cons_succ, Nat.reduceAdd, zif10, zif01b, zib, if_pos, if_neg, ↓reduceIte, not_true_eq_false, not_false_eq_true, Bool.true_eq_false, Bool.false_eq_true, Classical.not_not, eq_self, and_self, and_true, true_and, Int.reduceEq, Int.reduceLE, Int.reduceLT, Int.reduceNeg, Option.toList, List.cons_append, List.nil_append, zup_s, zup_n, zst_s, zup_zs, zup_zn, decide_true, decide_false, hmo]
        exact ih _ _ ⟨D', A', rfl, rfl, hmo, hD' hmo, hno'⟩
      · have hf : zSk S P mv tg hp (zbit (gp 0 : Int)) (kd 0) one two F = zcnt (zBm S P mv hp (zbit (gp 0 : Int))) zall1 48 := by
          rw [hskd]
          exact zfst_none fun i hi => hno' i (by rw [hbm] at hi; omega)
        have ha : ans = 0 := by rw [← hans, hf, if_neg (Nat.lt_irrefl _)]
        simp (disch := first | omega | exact Nat.le_of_ble_eq_true rfl | assumption | (simp only [Int.natCast_add, Int.natCast_mul, Int.cast_ofNat_Int]; omega) | decide) only [x_aload, w_goto, w_fall, w_iand, w_iconst, w_if, w_icmp, x_iload, x_istore, w_ixor, w_nret r_Md_seeks, q_eq, q_ne, q_lt, q_ge, q_gt, q_le, g_I, g_L, g_R, g_V, t_0, t_I, t_R, t_U, t_L, t_s, List.getElem?_cons_zero, List.getElem?_cons_succ, Nat.reduceAdd, zif10, zif01b, zib, if_pos, if_neg, ↓reduceIte, not_true_eq_false, not_false_eq_true, Bool.true_eq_false, Bool.false_eq_true, Classical.not_not, eq_self, and_self, and_true, true_and, Int.reduceEq, Int.reduceLE, Int.reduceLT, Int.reduceNeg, Option.toList, List.cons_append, List.nil_append, zup_s, zup_n, zst_s, zup_zs, zup_zn, decide_true, decide_false, hmo]
        rw [k_Md_seeks_3]
        simp (disch := first | omega | exact Nat.le_of_ble_eq_true rfl | assumption | (simp only [Int.natCast_add, Int.natCast_mul, Int.cast_ofNat_Int]; omega) | decide) only [k_Md_seeks_7, k_Md_seeks_9, k_Md_seeks_10, x_aload, w_goto, w_fall, w_iand, w_iconst, w_if, w_icmp, x_iload, x_istore, w_ixor, w_nret r_Md_seeks, q_eq, q_ne, q_lt, q_ge, q_gt, q_le, g_I, g_L, g_R, g_V, t_0, t_I, t_R, t_U, t_L, t_s, List.getElem?_cons_zero, List.getElem?_cons_succ, Nat.reduceAdd, zif10, zif01b, zib, if_pos, if_neg, ↓reduceIte, not_true_eq_false, not_false_eq_true, Bool.true_eq_false, Bool.false_eq_true, Classical.not_not, eq_self, and_self, and_true, true_and, Int.reduceEq, Int.reduceLE, Int.reduceLT, Int.reduceNeg, Option.toList, List.cons_append, List.nil_append, zup_s, zup_n, zst_s, zup_zs, zup_zn, decide_true, decide_false, ha]
        exact ⟨hkp D' A', h482, fun h => h.elim⟩
    · have hf : zSk S P mv tg hp (zbit (gp 0 : Int)) (kd 0) one two F = k := by rw [hskd]; exact zfst_is hlt2 hst hno
      have ha : ans = 1 := by rw [← hans, hf, if_pos hlt2]
      simp (disch := first | omega | exact Nat.le_of_ble_eq_true rfl | assumption | (simp only [Int.natCast_add, Int.natCast_mul, Int.cast_ofNat_Int]; omega) | decide) only [k_Md_seeks_5, x_aload, w_goto, w_fall, w_iand, w_iconst, w_if, w_icmp, x_iload, x_istore, w_ixor, w_nret r_Md_seeks, q_eq, q_ne, q_lt, q_ge, q_gt, q_le, g_I, g_L, g_R, g_V, t_0, t_I, t_R, t_U, t_L, t_s, List.getElem?_cons_zero, List.getElem?_cons_succ, Nat.reduceAdd, zif10, zif01b, zib, if_pos, if_neg, ↓reduceIte, not_true_eq_false, not_false_eq_true, Bool.true_eq_false, Bool.false_eq_true, Classical.not_not, eq_self, and_self, and_true, true_and, Int.reduceEq, Int.reduceLE, Int.reduceLT, Int.reduceNeg, Option.toList, List.cons_append, List.nil_append, zup_s, zup_n, zst_s, zup_zs, zup_zn, decide_true, decide_false, c_Md_does hN (hR2 D A') hF (hF2 D A') h5 (ho1 D A') (ho2 D A') hE, zset_dif, zset_sb, hst, ha]
      rw [hf]
      exact ⟨hkp D A', h482, fun _ => ⟨hL2 D A', fun p h hp4 hh hbj => hD (p * 12 + h) (by omega) hbj⟩⟩
  · rintro _ _ ⟨D, A, rfl, rfl, hlt2, hD, hno⟩
    omega
theorem c_Md_seeks {d mi o b9 : Nat} {es : List zEnt} {L st : List zMV} {Q : Option zMV → (Nat → Int → Int) → Prop} {s0 : Nat} {one two : Nat → Bool} (hN : zNet S P mv tg) (hR : zNetR S P mv tg M) (hL : zLetR lt M) (hlt : ∀ s, lt s < 256) (hF : zForm P n kd lf rt gp) (hFR : zFormR n kd lf rt gp M) (hH : zHpR hp M) (hhp : ∀ p s, hp p s < 12) (h5 : 5 ≤ kd 0) (hs : s0 < S) (h1 : zHp mv tg P lt kd lf rt gp (lf 0) = one) (h2 : zHp mv tg P lt kd lf rt gp (rt 0) = two) (hd : 8 + 1 ≤ d) (hc : zcats st ≤ 8) (hpost : ∀ r M', (r = some (zI (zSkA S P mv tg hp (zbit (gp 0 : Int)) (kd 0) one two (zFt P hp (zbit (gp 0 : Int)) s0))) ∧ zKp [48, 67, 68, 76, 77, 78, 79, 80] M M' ∧ (∀ i : Int, i ≠ 41 → M' 48 i = M 48 i) ∧ (zSkA S P mv tg hp (zbit (gp 0 : Int)) (kd 0) one two (zFt P hp (zbit (gp 0 : Int)) s0) = 1 → zLay (zBb S P mv hp (zbit (gp 0 : Int))) 48 M' ∧ ∀ p h : Nat, p < 4 → h < 12 → 0 < zBb S P mv hp (zbit (gp 0 : Int)) (p * 12 + h) → M' 79 (zix (zBb S P mv hp (zbit (gp 0 : Int))) (p * 12 + h) : Int) = zRow (zBm S P mv hp (zbit (gp 0 : Int))) (zSk S P mv tg hp (zbit (gp 0 : Int)) (kd 0) one two (zFt P hp (zbit (gp 0 : Int)) s0)) p h)) → zW (zSH Ln) d mi es L (r.toList ++ st) M' Q) : zW (zSH Ln) d mi ((.invokevirtual o, 230, b9) :: es) L (zI (s0 : Int) :: zR 48 :: st) M Q :=
  w_callv (ps := [zI (s0 : Int)]) (by omega) rfl rfl (by omega) (by exact sh_48 Ln) hc (Nat.le_of_ble_eq_true rfl) (F_Md_seeks hN hR hL hlt hF hFR hH hhp h5 hs h1 h2 (by omega)) hpost
end RE
