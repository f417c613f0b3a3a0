/-! the reference: the toll, turn by turn -/
section RE
variable {Ln S P n : Nat} {mv tg : Nat → Nat → Nat} {lt kd lf rt gp : Nat → Nat} {pr : Nat → Nat → Nat → Nat} {M : Nat → Int → Int}
theorem zTo_same {na : Nat → Nat} {c : Nat → Nat → Nat} {E : Nat → Nat → Nat → Bool} {r0 ok : Nat → Bool} {k : Nat} (h : ∀ t, t < S → zTo S na c E r0 ok (k + 1) t = zTo S na c E r0 ok k t) : ∀ s, s < S → zTo S na c E r0 ok k s = zTo S na c E r0 ok S s := by
  have step : ∀ j t, t < S → zTo S na c E r0 ok (k + j) t = zTo S na c E r0 ok k t := by
    intro j
    induction j with
    | zero => intro t _; rfl
    | succ j ih =>
      intro t ht
      rw [← h t ht]
      have e1 : zTo S na c E r0 ok (k + (j + 1)) t = zPh S na c E r0 ok (zTo S na c E r0 ok (k + j)) t := rfl
      have e2 : zTo S na c E r0 ok (k + 1) t = zPh S na c E r0 ok (zTo S na c E r0 ok k) t := rfl
      rw [e1, e2]
      unfold zPh
      have e : ∀ a, zmx S (E t a) (zTo S na c E r0 ok (k + j)) = zmx S (E t a) (zTo S na c E r0 ok k) := fun a => zmx_congr fun u hu _ => ih u hu
      simp only [e]
  intro s hs
  rcases Nat.lt_or_ge k S with h2 | h2
  · have := step (S - k) s hs
    rw [show k + (S - k) = S by omega] at this
    exact this.symm
  · exact zTo_st h2 hs
theorem zUn_no {C : (Nat → Bool) → Nat → Bool} {A B : Nat → Bool} {s : Nat} (hA : A s = false) : ∀ i, zUn C A B i s = B s
  | 0 => rfl
  | i + 1 => by
    show (zUn C A B i s || ((A s && !zUn C A B i s) && C (zUn C A B i) s)) = B s
    rw [zUn_no hA i, hA]; simp
set_option maxHeartbeats 20000000 in
theorem F_Md_toll {d : Nat} {x : Int} (hN : zNet S P mv tg) (hR : zNetR S P mv tg M) (hL : zLetR lt M) (hlt : ∀ s, lt s < 256) (hF : zForm P n kd lf rt gp) (hFR : zFormR n kd lf rt gp M) (hQ : zPrR pr M) (hpr : ∀ s p a, pr s p a ≤ 9) (hd : 8 ≤ d) : zF (zSH Ln) d i_Md_toll [zR 48, zI x] M fun r M' => r = some (zI (zTlA S P mv tg pr lt kd lf rt gp x)) ∧ zKp [67, 68, 69, 70] M M' := by
  rw [zF_en k_Md_toll_0 (L := [zR 48, zI x, zU, zU, zU, zU, zU, zU, zU, zU]) rfl]
  have hn := hF.1
  have hS := hN.2.1
  have hP4 := hN.2.2.2.1
  obtain ⟨f1, f2, f3, f4, f5⟩ := hF.2.2 0 hn
  obtain ⟨g1, g2, g3, g4⟩ := hFR.2.1 0 hn
  simp only [show ((0 : Nat) : Int) = 0 from rfl] at g1 g2 g3 g4
  generalize hans : zTlA S P mv tg pr lt kd lf rt gp x = ans
  unfold zTlA at hans
  by_cases c1 : 0 ≤ x ∧ x < S
  rotate_left
  · have ha : ans = -1 := by rw [← hans, if_neg c1]
    simp (disch := first | omega | exact Nat.le_of_ble_eq_true rfl | assumption | (simp only [Int.natCast_add, Int.natCast_mul, Int.cast_ofNat_Int]; omega) | decide) only [k_Md_toll_1, x_aload, x_getf, w_goto, w_fall, w_iand, w_iconst, w_if, w_icmp, x_iinc, x_iload, w_ishr, x_istore, zadd_eq, gf_48_0, gf_48_11, gf_48_12, gf_48_14, gf_48_27, gf_48_28, gf_48_29, gf_48_30, ia_56, sa_56, ia_57, sa_57, ia_59, sa_59, ia_67, sa_67, ia_68, sa_68, ia_69, sa_69, ia_70, sa_70, w_nret r_Md_toll, q_eq, q_ne, q_lt, q_ge, q_gt, q_le, g_I, g_L, g_R, g_V, t_0, t_I, t_R, t_U, t_L, t_s, List.getElem?_cons_zero, List.getElem?_cons_succ, Nat.reduceAdd, zif10, zif01b, zib, if_pos, if_neg, ↓reduceIte, not_true_eq_false, not_false_eq_true, Bool.true_eq_false, Bool.false_eq_true, Classical.not_not, eq_self, and_self, and_true, true_and, Int.reduceEq, Int.reduceLE, Int.reduceLT, Int.reduceNeg, Option.toList, List.cons_append, List.nil_append, zup_s, zup_n, zst_s, zup_zs, zup_zn, decide_true, decide_false, c_Md_isState hN hR, c1, ha]
    exact zKp_rf _ _
  rw [if_pos c1] at hans
  obtain ⟨s0, rfl⟩ : ∃ s : Nat, x = (s : Int) := ⟨x.toNat, by omega⟩
  by_cases c2 : kd 0 = 7 ∨ kd 0 = 8
  rotate_left
  · have ha : ans = -2 := by rw [← hans, if_neg c2]
    have h1 : ¬ M 56 0 = 7 := by
      rw [g1]; unfold zkr; split
      · omega
      · split <;> omega
    have h2 : ¬ M 56 0 = 9 := by
      rw [g1]; unfold zkr; split
      · omega
      · split <;> omega
    simp (disch := first | omega | exact Nat.le_of_ble_eq_true rfl | assumption | (simp only [Int.natCast_add, Int.natCast_mul, Int.cast_ofNat_Int]; omega) | decide) only [k_Md_toll_2, k_Md_toll_3, k_Md_toll_4, x_aload, x_getf, w_goto, w_fall, w_iand, w_iconst, w_if, w_icmp, x_iinc, x_iload, w_ishr, x_istore, zadd_eq, gf_48_0, gf_48_11, gf_48_12, gf_48_14, gf_48_27, gf_48_28, gf_48_29, gf_48_30, ia_56, sa_56, ia_57, sa_57, ia_59, sa_59, ia_67, sa_67, ia_68, sa_68, ia_69, sa_69, ia_70, sa_70, w_nret r_Md_toll, q_eq, q_ne, q_lt, q_ge, q_gt, q_le, g_I, g_L, g_R, g_V, t_0, t_I, t_R, t_U, t_L, t_s, List.getElem?_cons_zero, List.getElem?_cons_succ, Nat.reduceAdd, zif10, zif01b, zib, if_pos, if_neg, ↓reduceIte, not_true_eq_false, not_false_eq_true, Bool.true_eq_false, Bool.false_eq_true, Classical.not_not, eq_self, and_self, and_true, true_and, Int.reduceEq, Int.reduceLE, Int.reduceLT, Int.reduceNeg, Option.toList, List.cons_append, List.nil_append, zup_s, zup_n, zst_s, zup_zs, zup_zn, decide_true, decide_false, c_Md_isState hN hR, c1, h1, h2, ha]
    exact zKp_rf _ _
  rw [if_pos c2, Int.toNat_natCast] at hans
  have f3 := f3 (by omega)
  have g2 := g2 (by omega)
  have g4 := g4 (by omega)
  -- what the rounds are of
  generalize hgC : zCn mv tg P (zbit (gp 0 : Int)) = C
  have hCg : zCg S C := by rw [← hgC]; exact zcan_Cg hN _
  generalize hA : zJA (kd 0) (zHp mv tg P lt kd lf rt gp (lf 0)) = A
  generalize hB : zJB C (kd 0) (zHp mv tg P lt kd lf rt gp (lf 0)) (zHp mv tg P lt kd lf rt gp (rt 0)) = B
  have hW : zHp mv tg P lt kd lf rt gp 0 = zUn C A B 12 := by
    rw [zHp_eq hF hn, hgC, ← hA, ← hB]
    rcases c2 with e | e <;> rw [e] <;> simp [zJ, zJA, zJB]
  have hQd : ∀ s, zRd mv tg P lt kd lf rt gp s = zrd C A B s := fun s => by unfold zRd; rw [hgC, hA, hB]
  have hQf : (fun s => decide (zRd mv tg P lt kd lf rt gp s = 0)) = fun s => decide (zrd C A B s = 0) := by funext s; rw [hQd]
  rw [hQf, hW] at hans
  generalize hr0 : (fun s => decide (zrd C A B s = 0)) = r0 at hans
  have hr0s : ∀ s, r0 s = true ↔ zrd C A B s = 0 := fun s => by rw [← hr0]; simp
  have hTeq : ∀ k s, s < S → zTo S (fun s => zcnt (mv s) (zbit (gp 0 : Int)) P) (fun s a => zsum (mv s) (pr s) (zbit (gp 0 : Int)) P a) (fun s a => zend (mv s) (tg s) (zbit (gp 0 : Int)) P a) r0 A k s = zTl S P mv tg pr (zbit (gp 0 : Int)) r0 (zUn C A B 12) k s := by
    rw [← hgC]
    refine zTo_ok hN (fun s hs h => ?_) (fun s hs h => ?_)
    · rw [hgC]; exact (zrd_iff hs).mpr (by rw [(hr0s s).mp h]; omega)
    · rw [hgC] at h
      cases e : A s with
      | true => exact Or.inr rfl
      | false =>
        refine Or.inl ((hr0s s).mpr ?_)
        rw [zUn_no e] at h
        exact zfst_is (n := 13) (by omega) (f := fun i => zUn C A B i s) h (fun i hi => by omega)
  rw [← hTeq S s0 (by omega)] at hans
  generalize hT : zTo S (fun s => zcnt (mv s) (zbit (gp 0 : Int)) P) (fun s a => zsum (mv s) (pr s) (zbit (gp 0 : Int)) P a) (fun s a => zend (mv s) (tg s) (zbit (gp 0 : Int)) P a) r0 A = T at hans
  have hTs : ∀ k s, T (k + 1) s = zPh S (fun s => zcnt (mv s) (zbit (gp 0 : Int)) P) (fun s a => zsum (mv s) (pr s) (zbit (gp 0 : Int)) P a) (fun s a => zend (mv s) (tg s) (zbit (gp 0 : Int)) P a) r0 A (T k) s := fun k s => by rw [← hT]; rfl
  have hT0 : ∀ s, T 0 s = if r0 s = true then 0 else 1000000 := fun s => by rw [← hT]; rfl
  have hdn : ∀ k s, T (k + 1) s ≤ T k s := fun k s => by rw [← hT]; exact zTo_dn k s
  have hfar : ∀ k s, T k s ≤ 1000000 := fun k s => by
    cases k with
    | zero => rw [hT0]; split <;> omega
    | succ k => rw [hTs]; exact zPh_far _ _
  have hsm : ∀ k s, T k s < 1000000 → T k s ≤ 36 * k := fun k s h => by
    rw [← hT] at h ⊢
    exact zTo_small (fun s a => by have := zsum_le (m := mv s) (hpr s) (zbit (gp 0 : Int)) P a; omega) k s h
  have hsame : ∀ k, (∀ t, t < S → T (k + 1) t = T k t) → ∀ s, s < S → T k s = T S s := fun k h s hs => by
    rw [← hT] at h ⊢; exact zTo_same h s hs
  have hstS : ∀ t, t < S → T 13 t = T 12 t := fun t ht => by
    rw [← hT, zTo_st (by omega : S ≤ 13) ht, zTo_st (by omega : S ≤ 12) ht]
  have hreach : ∀ i, i ≤ 12 → ∀ s, s < S → zUn C A B i s = true → T i s ≤ 36 * i := by
    intro i
    induction i with
    | zero =>
      intro _ s hs h
      have : r0 s = true := (hr0s s).mpr (zfst_is (n := 13) (by omega) (f := fun i => zUn C A B i s) h (fun i hi => by omega))
      rw [hT0, if_pos this]; omega
    | succ i ih =>
      intro hi s hs h
      have h : (zUn C A B i s || ((A s && !zUn C A B i s) && C (zUn C A B i) s)) = true := h
      by_cases hu : zUn C A B i s = true
      · have := ih (by omega) s hs hu
        have := hdn i s
        omega
      · have huf : zUn C A B i s = false := by simpa using hu
        rw [huf, Bool.false_or, Bool.and_eq_true, Bool.and_eq_true] at h
        have hc := h.2
        rw [← hgC] at hc
        have hlt := of_decide_eq_true hc
        have hin := zfst_yes _ _ hlt
        rw [hgC] at hin
        rw [hTs]
        unfold zPh
        split
        · omega
        · rw [if_pos h.1.1]
          have h4 := zsum_le (m := mv s) (hpr s) (zbit (gp 0 : Int)) P (zfst (zcnt (mv s) (zbit (gp 0 : Int)) P) (zinto (mv s) (tg s) (zbit (gp 0 : Int)) P (zUn C A B i)))
          have h5 := zmx_le S (zend (mv s) (tg s) (zbit (gp 0 : Int)) P (zfst (zcnt (mv s) (zbit (gp 0 : Int)) P) (zinto (mv s) (tg s) (zbit (gp 0 : Int)) P (zUn C A B i)))) (T i) (36 * i) fun t ht hte => ih (by omega) t ht ((zinto_end (zNet_t hN hs) (hN.2.2.2.2.1 s)).mp hin t ht hte)
          rw [hgC] at hlt
          exact Nat.le_trans (zmn_le _ _ _ hlt) (Nat.le_trans (Nat.add_le_add h4 h5) (by omega))
  have fin : ∀ (H R F G : Int → Int) (v3 v4 v5 v6 v7 v8 v9 : zMV), F (s0 : Int) = zt (T S s0) → zW (zSH Ln) d i_Md_toll (zblk i_Md_toll 42) [zR 48, zI (s0 : Int), zI (zset S (zUn C A B 12)), v3, v4, v5, v6, v7, v8, v9] [] (zst (zst (zst (zst M 67 H) 68 R) 69 F) 70 G) fun r M' => r = some (zI ans) ∧ zKp [67, 68, 69, 70] M M' := by
    intro H R F G v3 v4 v5 v6 v7 v8 v9 hFs
    have hk : zKp [67, 68, 69, 70] M (zst (zst (zst (zst M 67 H) 68 R) 69 F) 70 G) := zKp_st (by decide) (zKp_st (by decide) (zKp_st (by decide) (zKp_st (by decide) (zKp_rf _ _))))
    rw [k_Md_toll_42]
    cases hb : zUn C A B 12 s0
    · have ha : ans = -4 := by rw [← hans, hb, if_neg (by decide)]
      simp (disch := first | omega | exact Nat.le_of_ble_eq_true rfl | assumption | (simp only [Int.natCast_add, Int.natCast_mul, Int.cast_ofNat_Int]; omega) | decide) only [k_Md_toll_44, k_Md_toll_45, x_aload, x_getf, w_goto, w_fall, w_iand, w_iconst, w_if, w_icmp, x_iinc, x_iload, w_ishr, x_istore, zadd_eq, gf_48_0, gf_48_11, gf_48_12, gf_48_14, gf_48_27, gf_48_28, gf_48_29, gf_48_30, ia_56, sa_56, ia_57, sa_57, ia_59, sa_59, ia_67, sa_67, ia_68, sa_68, ia_69, sa_69, ia_70, sa_70, w_nret r_Md_toll, q_eq, q_ne, q_lt, q_ge, q_gt, q_le, g_I, g_L, g_R, g_V, t_0, t_I, t_R, t_U, t_L, t_s, List.getElem?_cons_zero, List.getElem?_cons_succ, Nat.reduceAdd, zif10, zif01b, zib, if_pos, if_neg, ↓reduceIte, not_true_eq_false, not_false_eq_true, Bool.true_eq_false, Bool.false_eq_true, Classical.not_not, eq_self, and_self, and_true, true_and, Int.reduceEq, Int.reduceLE, Int.reduceLT, Int.reduceNeg, Option.toList, List.cons_append, List.nil_append, zup_s, zup_n, zst_s, zup_zs, zup_zn, decide_true, decide_false, zset_has, hb, ha]
      exact hk
    · have hlt : T S s0 < 1000000 := by
        rcases Nat.lt_or_ge (T S s0) 1000000 with h | h
        · exact h
        · exfalso
          have h2 := hreach 12 (by omega) s0 (by omega) hb
          have h3 : T 12 s0 = T S s0 := by rw [← hT]; exact zTo_st hS (by omega)
          omega
      have ha : ans = zt (T S s0) := by rw [← hans, hb, if_pos rfl, zt, if_pos hlt]
      simp (disch := first | omega | exact Nat.le_of_ble_eq_true rfl | assumption | (simp only [Int.natCast_add, Int.natCast_mul, Int.cast_ofNat_Int]; omega) | decide) only [k_Md_toll_43, k_Md_toll_45, x_aload, x_getf, w_goto, w_fall, w_iand, w_iconst, w_if, w_icmp, x_iinc, x_iload, w_ishr, x_istore, zadd_eq, gf_48_0, gf_48_11, gf_48_12, gf_48_14, gf_48_27, gf_48_28, gf_48_29, gf_48_30, ia_56, sa_56, ia_57, sa_57, ia_59, sa_59, ia_67, sa_67, ia_68, sa_68, ia_69, sa_69, ia_70, sa_70, w_nret r_Md_toll, q_eq, q_ne, q_lt, q_ge, q_gt, q_le, g_I, g_L, g_R, g_V, t_0, t_I, t_R, t_U, t_L, t_s, List.getElem?_cons_zero, List.getElem?_cons_succ, Nat.reduceAdd, zif10, zif01b, zib, if_pos, if_neg, ↓reduceIte, not_true_eq_false, not_false_eq_true, Bool.true_eq_false, Bool.false_eq_true, Classical.not_not, eq_self, and_self, and_true, true_and, Int.reduceEq, Int.reduceLE, Int.reduceLT, Int.reduceNeg, Option.toList, List.cons_append, List.nil_append, zup_s, zup_n, zst_s, zup_zs, zup_zn, decide_true, decide_false, zset_has, hb, zst_n, zst_s, hFs, ha]
      exact hk
  have walk : zW (zSH Ln) d i_Md_toll (zblk i_Md_toll 5) [zR 48, zI (s0 : Int), zU, zU, zU, zU, zU, zU, zU, zU] [] M fun r M' => r = some (zI ans) ∧ zKp [67, 68, 69, 70] M M' := by
    rw [k_Md_toll_5]
    simp (disch := first | omega | exact Nat.le_of_ble_eq_true rfl | assumption | (simp only [Int.natCast_add, Int.natCast_mul, Int.cast_ofNat_Int]; omega) | decide) only [x_aload, x_getf, w_goto, w_fall, w_iand, w_iconst, w_if, w_icmp, x_iinc, x_iload, w_ishr, x_istore, zadd_eq, gf_48_0, gf_48_11, gf_48_12, gf_48_14, gf_48_27, gf_48_28, gf_48_29, gf_48_30, ia_56, sa_56, ia_57, sa_57, ia_59, sa_59, ia_67, sa_67, ia_68, sa_68, ia_69, sa_69, ia_70, sa_70, w_nret r_Md_toll, q_eq, q_ne, q_lt, q_ge, q_gt, q_le, g_I, g_L, g_R, g_V, t_0, t_I, t_R, t_U, t_L, t_s, List.getElem?_cons_zero, List.getElem?_cons_succ, Nat.reduceAdd, zif10, zif01b, zib, if_pos, if_neg, ↓reduceIte, not_true_eq_false, not_false_eq_true, Bool.true_eq_false, Bool.false_eq_true, Classical.not_not, eq_self, and_self, and_true, true_and, Int.reduceEq, Int.reduceLE, Int.reduceLT, Int.reduceNeg, Option.toList, List.cons_append, List.nil_append, zup_s, zup_n, zst_s, zup_zs, zup_zn, decide_true, decide_false]
    refine c_Md_tell hN hR hL hlt hF hFR (by omega) (Nat.le_of_ble_eq_true rfl) ?_
    rintro _ _ ⟨rfl, H, R, rfl, hLaw⟩
    have hRs : ∀ s : Nat, s < S → R (s : Int) = zneg4 (zrd C A B s) := fun s hs => by
      have := hLaw.2 (by omega) s hs
      rw [hQd] at this; exact this
    have hH1 : H (lf 0 : Int) = zset S (zHp mv tg P lt kd lf rt gp (lf 0)) := hLaw.1 (lf 0) f3.2
    have hlf := f3
    have hn24 := hF.2.1
    rw [hW]
    -- the turns
    have turns : ∀ v4 v5 v6 v7 v8 v9 : zMV, zW (zSH Ln) d i_Md_toll (zblk i_Md_toll 8) [zR 48, zI (s0 : Int), zI (zset S (zUn C A B 12)), zU, zU, zU, zU, zU, zU, zU] [zI (zset S A)] (zst (zst M 67 H) 68 R) fun r M' => r = some (zI ans) ∧ zKp [67, 68, 69, 70] M M' := by
      intro v4 v5 v6 v7 v8 v9
      generalize hM1 : zst (zst M 67 H) 68 R = M1
      have hk1 : zKp [67, 68, 69, 70] M M1 := by rw [← hM1]; exact zKp_st (by decide) (zKp_st (by decide) (zKp_rf _ _))
      have hR1 : ∀ F G, zNetR S P mv tg (zst (zst M1 69 F) 70 G) := fun F G => by rw [← hM1]; exact hR
      have hQ1 : ∀ F G, zPrR pr (zst (zst M1 69 F) 70 G) := fun F G => by rw [← hM1]; exact hQ
      have hg1 : ∀ F G, zst (zst M1 69 F) 70 G 59 0 = gp 0 := fun F G => by rw [← hM1]; exact g4
      have hst0 : ∀ F G, zst (zst M1 69 F) 70 G 48 0 = S := fun F G => (hR1 F G).1
      have hM68 : ∀ s : Nat, s < S → M1 68 (s : Int) = zneg4 (zrd C A B s) := fun s hs => by rw [← hM1, zst_s]; exact hRs s hs
      have hz0 : ∀ s : Nat, s < S → (zneg4 (zrd C A B s) = 0 ↔ r0 s = true) := fun s hs => by
        rw [hr0s]; unfold zneg4; split <;> omega
      have h480 : M1 48 0 = S := by rw [← hM1]; exact hR.1
      rw [k_Md_toll_8]
      simp (disch := first | omega | exact Nat.le_of_ble_eq_true rfl | assumption | (simp only [Int.natCast_add, Int.natCast_mul, Int.cast_ofNat_Int]; omega) | decide) only [x_aload, x_getf, w_goto, w_fall, w_iand, w_iconst, w_if, w_icmp, x_iinc, x_iload, w_ishr, x_istore, zadd_eq, gf_48_0, gf_48_11, gf_48_12, gf_48_14, gf_48_27, gf_48_28, gf_48_29, gf_48_30, ia_56, sa_56, ia_57, sa_57, ia_59, sa_59, ia_67, sa_67, ia_68, sa_68, ia_69, sa_69, ia_70, sa_70, w_nret r_Md_toll, q_eq, q_ne, q_lt, q_ge, q_gt, q_le, g_I, g_L, g_R, g_V, t_0, t_I, t_R, t_U, t_L, t_s, List.getElem?_cons_zero, List.getElem?_cons_succ, Nat.reduceAdd, zif10, zif01b, zib, if_pos, if_neg, ↓reduceIte, not_true_eq_false, not_false_eq_true, Bool.true_eq_false, Bool.false_eq_true, Classical.not_not, eq_self, and_self, and_true, true_and, Int.reduceEq, Int.reduceLE, Int.reduceLT, Int.reduceNeg, Option.toList, List.cons_append, List.nil_append, zup_s, zup_n, zst_s, zup_zs, zup_zn, decide_true, decide_false]
      refine zfor (a := 0) (N := S) (b := 9) (fun p L0 M0 => ∃ (F : Int → Int), L0 = [zR 48, zI (s0 : Int), zI (zset S (zUn C A B 12)), zI (zset S A), zI (p : Int), zU, zU, zU, zU, zU] ∧ M0 = zst M1 69 F ∧ ∀ t : Nat, t < p → F (t : Int) = zt (T 0 t)) ?_ ?_ ?_ ?_
      · exact Nat.zero_le _
      · exact ⟨M1 69, rfl, (zst_id _ _).symm, fun t ht => by omega⟩
      · rintro p _ _ _ hp ⟨F, rfl, rfl, hF1⟩ ih
        have h68 := hM68 p hp
        have nx : ∀ v : Int, v = zt (T 0 p) → ∀ t : Nat, t < p + 1 → zf F (p : Int) v (t : Int) = zt (T 0 t) := fun v hv t ht => by
          by_cases e : t = p
          · subst e; rw [zf_s, hv]
          · rw [zf_n (by omega)]; exact hF1 t (by omega)
        rw [k_Md_toll_9]
        by_cases hz : zneg4 (zrd C A B p) = 0
        · simp (disch := first | omega | exact Nat.le_of_ble_eq_true rfl | assumption | (simp only [Int.natCast_add, Int.natCast_mul, Int.cast_ofNat_Int]; omega) | decide) only [k_Md_toll_10, k_Md_toll_11, k_Md_toll_13, x_aload, x_getf, w_goto, w_fall, w_iand, w_iconst, w_if, w_icmp, x_iinc, x_iload, w_ishr, x_istore, zadd_eq, gf_48_0, gf_48_11, gf_48_12, gf_48_14, gf_48_27, gf_48_28, gf_48_29, gf_48_30, ia_56, sa_56, ia_57, sa_57, ia_59, sa_59, ia_67, sa_67, ia_68, sa_68, ia_69, sa_69, ia_70, sa_70, w_nret r_Md_toll, q_eq, q_ne, q_lt, q_ge, q_gt, q_le, g_I, g_L, g_R, g_V, t_0, t_I, t_R, t_U, t_L, t_s, List.getElem?_cons_zero, List.getElem?_cons_succ, Nat.reduceAdd, zif10, zif01b, zib, if_pos, if_neg, ↓reduceIte, not_true_eq_false, not_false_eq_true, Bool.true_eq_false, Bool.false_eq_true, Classical.not_not, eq_self, and_self, and_true, true_and, Int.reduceEq, Int.reduceLE, Int.reduceLT, Int.reduceNeg, Option.toList, List.cons_append, List.nil_append, zup_s, zup_n, zst_s, zup_zs, zup_zn, decide_true, decide_false, zst_n, h480, h68, hz]
          exact ih _ _ ⟨_, rfl, rfl, nx 0 (by rw [hT0, if_pos ((hz0 p hp).mp hz)]; rfl)⟩
        · simp (disch := first | omega | exact Nat.le_of_ble_eq_true rfl | assumption | (simp only [Int.natCast_add, Int.natCast_mul, Int.cast_ofNat_Int]; omega) | decide) only [k_Md_toll_10, k_Md_toll_12, k_Md_toll_13, x_aload, x_getf, w_goto, w_fall, w_iand, w_iconst, w_if, w_icmp, x_iinc, x_iload, w_ishr, x_istore, zadd_eq, gf_48_0, gf_48_11, gf_48_12, gf_48_14, gf_48_27, gf_48_28, gf_48_29, gf_48_30, ia_56, sa_56, ia_57, sa_57, ia_59, sa_59, ia_67, sa_67, ia_68, sa_68, ia_69, sa_69, ia_70, sa_70, w_nret r_Md_toll, q_eq, q_ne, q_lt, q_ge, q_gt, q_le, g_I, g_L, g_R, g_V, t_0, t_I, t_R, t_U, t_L, t_s, List.getElem?_cons_zero, List.getElem?_cons_succ, Nat.reduceAdd, zif10, zif01b, zib, if_pos, if_neg, ↓reduceIte, not_true_eq_false, not_false_eq_true, Bool.true_eq_false, Bool.false_eq_true, Classical.not_not, eq_self, and_self, and_true, true_and, Int.reduceEq, Int.reduceLE, Int.reduceLT, Int.reduceNeg, Option.toList, List.cons_append, List.nil_append, zup_s, zup_n, zst_s, zup_zs, zup_zn, decide_true, decide_false, zst_n, h480, h68, hz]
          exact ih _ _ ⟨_, rfl, rfl, nx (-1) (by rw [hT0, if_neg (fun z => hz ((hz0 p hp).mpr z))]; rfl)⟩
      · rintro _ _ ⟨F, rfl, rfl, hF1⟩
        rw [k_Md_toll_9]
        simp (disch := first | omega | exact Nat.le_of_ble_eq_true rfl | assumption | (simp only [Int.natCast_add, Int.natCast_mul, Int.cast_ofNat_Int]; omega) | decide) only [k_Md_toll_14, x_aload, x_getf, w_goto, w_fall, w_iand, w_iconst, w_if, w_icmp, x_iinc, x_iload, w_ishr, x_istore, zadd_eq, gf_48_0, gf_48_11, gf_48_12, gf_48_14, gf_48_27, gf_48_28, gf_48_29, gf_48_30, ia_56, sa_56, ia_57, sa_57, ia_59, sa_59, ia_67, sa_67, ia_68, sa_68, ia_69, sa_69, ia_70, sa_70, w_nret r_Md_toll, q_eq, q_ne, q_lt, q_ge, q_gt, q_le, g_I, g_L, g_R, g_V, t_0, t_I, t_R, t_U, t_L, t_s, List.getElem?_cons_zero, List.getElem?_cons_succ, Nat.reduceAdd, zif10, zif01b, zib, if_pos, if_neg, ↓reduceIte, not_true_eq_false, not_false_eq_true, Bool.true_eq_false, Bool.false_eq_true, Classical.not_not, eq_self, and_self, and_true, true_and, Int.reduceEq, Int.reduceLE, Int.reduceLT, Int.reduceNeg, Option.toList, List.cons_append, List.nil_append, zup_s, zup_n, zst_s, zup_zs, zup_zn, decide_true, decide_false, zst_n, h480]
        refine zfor (a := 0) (N := 14) (b := 15) (fun k L0 M0 => ∃ (F : Int → Int) (G : Int → Int) (w5 : zMV) (w6 : zMV) (w7 : zMV) (w8 : zMV) (w9 : zMV), L0 = [zR 48, zI (s0 : Int), zI (zset S (zUn C A B 12)), zI (zset S A), zI 1, w5, w6, w7, w8, w9] ∧ M0 = zst (zst M1 69 F) 70 G ∧ (∀ t : Nat, t < S → F (t : Int) = zt (T k t)) ∧ ∀ j, j < k → ∃ t, t < S ∧ ¬ T (j + 1) t = T j t) ?_ ?_ ?_ ?_
        · exact Nat.zero_le _
        · exact ⟨F, M1 70, _, _, _, _, _, rfl, (zst_id (zst M1 69 F) 70).symm, hF1, fun j hj => by omega⟩
        · rintro k _ _ _ hk ⟨F, G, w5, w6, w7, w8, w9, rfl, rfl, hFk, hne⟩ ih
          have hk12 : k ≤ 12 := by
            rcases Nat.lt_or_ge 12 k with h | h
            · obtain ⟨t, ht, h2⟩ := hne 12 h
              exact absurd (hstS t ht) h2
            · exact h
          have hbk : ∀ t, t < S → T k t < 1000000 → T k t ≤ 1000 := fun t _ h => by have := hsm k t h; omega
          rw [k_Md_toll_15]
          simp (disch := first | omega | exact Nat.le_of_ble_eq_true rfl | assumption | (simp only [Int.natCast_add, Int.natCast_mul, Int.cast_ofNat_Int]; omega) | decide) only [k_Md_toll_16, x_aload, x_getf, w_goto, w_fall, w_iand, w_iconst, w_if, w_icmp, x_iinc, x_iload, w_ishr, x_istore, zadd_eq, gf_48_0, gf_48_11, gf_48_12, gf_48_14, gf_48_27, gf_48_28, gf_48_29, gf_48_30, ia_56, sa_56, ia_57, sa_57, ia_59, sa_59, ia_67, sa_67, ia_68, sa_68, ia_69, sa_69, ia_70, sa_70, w_nret r_Md_toll, q_eq, q_ne, q_lt, q_ge, q_gt, q_le, g_I, g_L, g_R, g_V, t_0, t_I, t_R, t_U, t_L, t_s, List.getElem?_cons_zero, List.getElem?_cons_succ, Nat.reduceAdd, zif10, zif01b, zib, if_pos, if_neg, ↓reduceIte, not_true_eq_false, not_false_eq_true, Bool.true_eq_false, Bool.false_eq_true, Classical.not_not, eq_self, and_self, and_true, true_and, Int.reduceEq, Int.reduceLE, Int.reduceLT, Int.reduceNeg, Option.toList, List.cons_append, List.nil_append, zup_s, zup_n, zst_s, zup_zs, zup_zn, decide_true, decide_false]
          refine zfor (a := 0) (N := S) (b := 17) (fun s L0 M0 => ∃ (G : Int → Int) (mf : Nat) (w6 : zMV) (w7 : zMV) (w8 : zMV) (w9 : zMV), L0 = [zR 48, zI (s0 : Int), zI (zset S (zUn C A B 12)), zI (zset S A), zI (mf : Int), zI (s : Int), w6, w7, w8, w9] ∧ M0 = zst (zst M1 69 F) 70 G ∧ mf ≤ 1 ∧ (∀ t : Nat, t < s → G (t : Int) = zt (T (k + 1) t)) ∧ (mf = 0 → ∀ t, t < s → T (k + 1) t = T k t) ∧ (mf = 1 → ∃ t, t < S ∧ ¬ T (k + 1) t = T k t)) ?_ ?_ ?_ ?_
          · exact Nat.zero_le _
          · exact ⟨G, 0, _, _, _, _, rfl, rfl, by omega, fun t ht => by omega, fun _ t ht => by omega, fun h => by omega⟩
          · rintro s _ _ _ hs ⟨G, mf, w6, w7, w8, w9, rfl, rfl, hmf, hG, hm0, hm1⟩ ih2
            have h68 := hM68 s hs
            have hFs := hFk s hs
            have hTk := hTs k s
            have hmm := hN.2.2.2.2.1 s
            have h81g := zcnt_81 hmm (zbit (gp 0 : Int)) hP4
            have e0 : r0 s = true → ∀ j, T j s = 0 := fun h j => by
              cases j with
              | zero => rw [hT0, if_pos h]
              | succ j => rw [hTs]; unfold zPh; rw [if_pos h]
            have e1 : ¬ r0 s = true → ¬ A s = true → ∀ j, T j s = 1000000 := fun h h2 j => by
              cases j with
              | zero => rw [hT0, if_neg h]
              | succ j => rw [hTs]; unfold zPh; rw [if_neg h, if_neg h2]
            have e2 : ¬ r0 s = true → A s = true → T (k + 1) s = zmn (zcnt (mv s) (zbit (gp 0 : Int)) P) (fun a => zsum (mv s) (pr s) (zbit (gp 0 : Int)) P a + zmx S (zend (mv s) (tg s) (zbit (gp 0 : Int)) P a) (T k)) := fun h h2 => by rw [hTs]; unfold zPh; rw [if_neg h, if_pos h2]
            have inner : ∀ (nn : Nat), (nn = 0 ∧ T (k + 1) s = T k s) ∨ (nn = zcnt (mv s) (zbit (gp 0 : Int)) P ∧ T (k + 1) s = zmn nn (fun a => zsum (mv s) (pr s) (zbit (gp 0 : Int)) P a + zmx S (zend (mv s) (tg s) (zbit (gp 0 : Int)) P a) (T k))) → zW (zSH Ln) d i_Md_toll (zblk i_Md_toll 22) [zR 48, zI (s0 : Int), zI (zset S (zUn C A B 12)), zI (zset S A), zI (mf : Int), zI (s : Int), w6, w7, w8, w9] [zI (nn : Int)] (zst (zst M1 69 F) 70 (zf G (s : Int) (zt (T k s)))) fun r M' => r = some (zI ans) ∧ zKp [67, 68, 69, 70] M M' := by
              intro nn hnn
              rw [k_Md_toll_22]
              simp (disch := first | omega | exact Nat.le_of_ble_eq_true rfl | assumption | (simp only [Int.natCast_add, Int.natCast_mul, Int.cast_ofNat_Int]; omega) | decide) only [x_aload, x_getf, w_goto, w_fall, w_iand, w_iconst, w_if, w_icmp, x_iinc, x_iload, w_ishr, x_istore, zadd_eq, gf_48_0, gf_48_11, gf_48_12, gf_48_14, gf_48_27, gf_48_28, gf_48_29, gf_48_30, ia_56, sa_56, ia_57, sa_57, ia_59, sa_59, ia_67, sa_67, ia_68, sa_68, ia_69, sa_69, ia_70, sa_70, w_nret r_Md_toll, q_eq, q_ne, q_lt, q_ge, q_gt, q_le, g_I, g_L, g_R, g_V, t_0, t_I, t_R, t_U, t_L, t_s, List.getElem?_cons_zero, List.getElem?_cons_succ, Nat.reduceAdd, zif10, zif01b, zib, if_pos, if_neg, ↓reduceIte, not_true_eq_false, not_false_eq_true, Bool.true_eq_false, Bool.false_eq_true, Classical.not_not, eq_self, and_self, and_true, true_and, Int.reduceEq, Int.reduceLE, Int.reduceLT, Int.reduceNeg, Option.toList, List.cons_append, List.nil_append, zup_s, zup_n, zst_s, zup_zs, zup_zn, decide_true, decide_false]
              refine zfor (a := 0) (N := nn) (b := 23) (fun a L0 M0 => ∃ (G' : Int → Int) (mg : Nat) (m : Nat) (w8 : zMV) (w9 : zMV), L0 = [zR 48, zI (s0 : Int), zI (zset S (zUn C A B 12)), zI (zset S A), zI (mg : Int), zI (s : Int), zI (nn : Int), zI (a : Int), w8, w9] ∧ M0 = zst (zst M1 69 F) 70 G' ∧ G' (s : Int) = zt m ∧ m = min (T k s) (zmn a (fun a => zsum (mv s) (pr s) (zbit (gp 0 : Int)) P a + zmx S (zend (mv s) (tg s) (zbit (gp 0 : Int)) P a) (T k))) ∧ mg ≤ 1 ∧ (∀ t : Nat, t < s → G' (t : Int) = zt (T (k + 1) t)) ∧ (mg = 0 → (∀ t, t < s → T (k + 1) t = T k t) ∧ m = T k s) ∧ (mg = 1 → ∃ t, t < S ∧ ¬ T (k + 1) t = T k t)) ?_ ?_ ?_ ?_
              · exact Nat.zero_le _
              · refine ⟨_, mf, T k s, _, _, rfl, rfl, zf_s _ _ _, ?_, hmf, fun t ht => ?_, fun h => ⟨hm0 h, rfl⟩, hm1⟩
                · have := hfar k s
                  show _ = min (T k s) 1000000
                  omega
                · rw [zf_n (by omega)]; exact hG t ht
              · rintro a _ _ _ ha ⟨G', mg, m, w8, w9, rfl, rfl, hGs, hmin, hmg, hGt, hg0, hg1'⟩ ih4
                have hnn2 : nn = zcnt (mv s) (zbit (gp 0 : Int)) P ∧ T (k + 1) s = zmn nn (fun a => zsum (mv s) (pr s) (zbit (gp 0 : Int)) P a + zmx S (zend (mv s) (tg s) (zbit (gp 0 : Int)) P a) (T k)) := by
                  rcases hnn with h | h
                  · omega
                  · exact h
                have hV1 : ∀ t : Nat, t < S → zst (zst M1 69 F) 70 G' 69 (t : Int) = zt (T k t) := hFk
                have hmle : m ≤ T k s := by omega
                have hfk := hfar k s
                have hsuc : zmn (a + 1) (fun a => zsum (mv s) (pr s) (zbit (gp 0 : Int)) P a + zmx S (zend (mv s) (tg s) (zbit (gp 0 : Int)) P a) (T k)) = min (zmn a (fun a => zsum (mv s) (pr s) (zbit (gp 0 : Int)) P a + zmx S (zend (mv s) (tg s) (zbit (gp 0 : Int)) P a) (T k))) (zsum (mv s) (pr s) (zbit (gp 0 : Int)) P a + zmx S (zend (mv s) (tg s) (zbit (gp 0 : Int)) P a) (T k)) := rfl
                have hle := zmn_le nn (fun a => zsum (mv s) (pr s) (zbit (gp 0 : Int)) P a + zmx S (zend (mv s) (tg s) (zbit (gp 0 : Int)) P a) (T k)) a ha
                have ha2 : a < 2147483648 := by omega
                generalize hva : zsum (mv s) (pr s) (zbit (gp 0 : Int)) P a + zmx S (zend (mv s) (tg s) (zbit (gp 0 : Int)) P a) (T k) = va at hsuc hle
                rw [← hnn2.2] at hle
                rw [k_Md_toll_23]
                by_cases hl : va < m
                · have hzv : zt va = va := by rw [zt, if_pos (by omega)]
                  have hne1 : ∃ t, t < S ∧ ¬ T (k + 1) t = T k t := ⟨s, hs, by omega⟩
                  have done : zW (zSH Ln) d i_Md_toll (zblk i_Md_toll 23) [zR 48, zI (s0 : Int), zI (zset S (zUn C A B 12)), zI (zset S A), zI 1, zI (s : Int), zI (nn : Int), zI ((a : Int) + 1), zI (va : Int), zI 1] [] (zst (zst M1 69 F) 70 (zf G' (s : Int) (va : Int))) fun r M' => r = some (zI ans) ∧ zKp [67, 68, 69, 70] M M' := by
                    refine ih4 _ _ ⟨_, 1, va, _, _, rfl, rfl, by rw [zf_s, hzv], by clear hg1' hm1 hne hg0 hm0; rw [hsuc]; omega, by omega, fun t ht => ?_, fun h => by omega, fun _ => hne1⟩
                    rw [zf_n (by omega)]; exact hGt t ht
                  by_cases hmF : m < 1000000
                  · rw [zt, if_pos hmF] at hGs
                    by_cases hb0 : mg = 0
                    · have hb0' : (mg : Int) = 0 := by omega
                      simp (disch := first | omega | exact Nat.le_of_ble_eq_true rfl | assumption | (simp only [Int.natCast_add, Int.natCast_mul, Int.cast_ofNat_Int]; omega) | decide) only [k_Md_toll_24, k_Md_toll_25, k_Md_toll_26, k_Md_toll_27, k_Md_toll_29, k_Md_toll_30, k_Md_toll_32, k_Md_toll_33, k_Md_toll_34, k_Md_toll_36, x_aload, x_getf, w_goto, w_fall, w_iand, w_iconst, w_if, w_icmp, x_iinc, x_iload, w_ishr, x_istore, zadd_eq, gf_48_0, gf_48_11, gf_48_12, gf_48_14, gf_48_27, gf_48_28, gf_48_29, gf_48_30, ia_56, sa_56, ia_57, sa_57, ia_59, sa_59, ia_67, sa_67, ia_68, sa_68, ia_69, sa_69, ia_70, sa_70, w_nret r_Md_toll, q_eq, q_ne, q_lt, q_ge, q_gt, q_le, g_I, g_L, g_R, g_V, t_0, t_I, t_R, t_U, t_L, t_s, List.getElem?_cons_zero, List.getElem?_cons_succ, Nat.reduceAdd, zif10, zif01b, zib, if_pos, if_neg, ↓reduceIte, not_true_eq_false, not_false_eq_true, Bool.true_eq_false, Bool.false_eq_true, Classical.not_not, eq_self, and_self, and_true, true_and, Int.reduceEq, Int.reduceLE, Int.reduceLT, Int.reduceNeg, Option.toList, List.cons_append, List.nil_append, zup_s, zup_n, zst_s, zup_zs, zup_zn, decide_true, decide_false, c_Md_tollBy hN (hR1 _ _) (hQ1 _ _) hpr (hg1 _ _) hV1 hbk hs ha2, hva, hzv, zst_n, zst_s, hGs, hb0']
                      exact done
                    · have hb0' : ¬ (mg : Int) = 0 := by omega
                      simp (disch := first | omega | exact Nat.le_of_ble_eq_true rfl | assumption | (simp only [Int.natCast_add, Int.natCast_mul, Int.cast_ofNat_Int]; omega) | decide) only [k_Md_toll_24, k_Md_toll_25, k_Md_toll_26, k_Md_toll_27, k_Md_toll_29, k_Md_toll_30, k_Md_toll_32, k_Md_toll_33, k_Md_toll_34, k_Md_toll_36, x_aload, x_getf, w_goto, w_fall, w_iand, w_iconst, w_if, w_icmp, x_iinc, x_iload, w_ishr, x_istore, zadd_eq, gf_48_0, gf_48_11, gf_48_12, gf_48_14, gf_48_27, gf_48_28, gf_48_29, gf_48_30, ia_56, sa_56, ia_57, sa_57, ia_59, sa_59, ia_67, sa_67, ia_68, sa_68, ia_69, sa_69, ia_70, sa_70, w_nret r_Md_toll, q_eq, q_ne, q_lt, q_ge, q_gt, q_le, g_I, g_L, g_R, g_V, t_0, t_I, t_R, t_U, t_L, t_s, List.getElem?_cons_zero, List.getElem?_cons_succ, Nat.reduceAdd, zif10, zif01b, zib, if_pos, if_neg, ↓reduceIte, not_true_eq_false, not_false_eq_true, Bool.true_eq_false, Bool.false_eq_true, Classical.not_not, eq_self, and_self, and_true, true_and, Int.reduceEq, Int.reduceLE, Int.reduceLT, Int.reduceNeg, Option.toList, List.cons_append, List.nil_append, zup_s, zup_n, zst_s, zup_zs, zup_zn, decide_true, decide_false, c_Md_tollBy hN (hR1 _ _) (hQ1 _ _) hpr (hg1 _ _) hV1 hbk hs ha2, hva, hzv, zst_n, zst_s, hGs, hb0']
                      exact done
                  · rw [zt, if_neg hmF] at hGs
                    by_cases hb0 : mg = 0
                    · have hb0' : (mg : Int) = 0 := by omega
                      simp (disch := first | omega | exact Nat.le_of_ble_eq_true rfl | assumption | (simp only [Int.natCast_add, Int.natCast_mul, Int.cast_ofNat_Int]; omega) | decide) only [k_Md_toll_24, k_Md_toll_25, k_Md_toll_27, k_Md_toll_29, k_Md_toll_30, k_Md_toll_32, k_Md_toll_33, k_Md_toll_34, k_Md_toll_36, x_aload, x_getf, w_goto, w_fall, w_iand, w_iconst, w_if, w_icmp, x_iinc, x_iload, w_ishr, x_istore, zadd_eq, gf_48_0, gf_48_11, gf_48_12, gf_48_14, gf_48_27, gf_48_28, gf_48_29, gf_48_30, ia_56, sa_56, ia_57, sa_57, ia_59, sa_59, ia_67, sa_67, ia_68, sa_68, ia_69, sa_69, ia_70, sa_70, w_nret r_Md_toll, q_eq, q_ne, q_lt, q_ge, q_gt, q_le, g_I, g_L, g_R, g_V, t_0, t_I, t_R, t_U, t_L, t_s, List.getElem?_cons_zero, List.getElem?_cons_succ, Nat.reduceAdd, zif10, zif01b, zib, if_pos, if_neg, ↓reduceIte, not_true_eq_false, not_false_eq_true, Bool.true_eq_false, Bool.false_eq_true, Classical.not_not, eq_self, and_self, and_true, true_and, Int.reduceEq, Int.reduceLE, Int.reduceLT, Int.reduceNeg, Option.toList, List.cons_append, List.nil_append, zup_s, zup_n, zst_s, zup_zs, zup_zn, decide_true, decide_false, c_Md_tollBy hN (hR1 _ _) (hQ1 _ _) hpr (hg1 _ _) hV1 hbk hs ha2, hva, hzv, zst_n, zst_s, hGs, hb0']
                      exact done
                    · have hb0' : ¬ (mg : Int) = 0 := by omega
                      simp (disch := first | omega | exact Nat.le_of_ble_eq_true rfl | assumption | (simp only [Int.natCast_add, Int.natCast_mul, Int.cast_ofNat_Int]; omega) | decide) only [k_Md_toll_24, k_Md_toll_25, k_Md_toll_27, k_Md_toll_29, k_Md_toll_30, k_Md_toll_32, k_Md_toll_33, k_Md_toll_34, k_Md_toll_36, x_aload, x_getf, w_goto, w_fall, w_iand, w_iconst, w_if, w_icmp, x_iinc, x_iload, w_ishr, x_istore, zadd_eq, gf_48_0, gf_48_11, gf_48_12, gf_48_14, gf_48_27, gf_48_28, gf_48_29, gf_48_30, ia_56, sa_56, ia_57, sa_57, ia_59, sa_59, ia_67, sa_67, ia_68, sa_68, ia_69, sa_69, ia_70, sa_70, w_nret r_Md_toll, q_eq, q_ne, q_lt, q_ge, q_gt, q_le, g_I, g_L, g_R, g_V, t_0, t_I, t_R, t_U, t_L, t_s, List.getElem?_cons_zero, List.getElem?_cons_succ, Nat.reduceAdd, zif10, zif01b, zib, if_pos, if_neg, ↓reduceIte, not_true_eq_false, not_false_eq_true, Bool.true_eq_false, Bool.false_eq_true, Classical.not_not, eq_self, and_self, and_true, true_and, Int.reduceEq, Int.reduceLE, Int.reduceLT, Int.reduceNeg, Option.toList, List.cons_append, List.nil_append, zup_s, zup_n, zst_s, zup_zs, zup_zn, decide_true, decide_false, c_Md_tollBy hN (hR1 _ _) (hQ1 _ _) hpr (hg1 _ _) hV1 hbk hs ha2, hva, hzv, zst_n, zst_s, hGs, hb0']
                      exact done
                · have done : zW (zSH Ln) d i_Md_toll (zblk i_Md_toll 23) [zR 48, zI (s0 : Int), zI (zset S (zUn C A B 12)), zI (zset S A), zI (mg : Int), zI (s : Int), zI (nn : Int), zI ((a : Int) + 1), zI (zt va), zI 0] [] (zst (zst M1 69 F) 70 (zf G' (s : Int) (zt m))) fun r M' => r = some (zI ans) ∧ zKp [67, 68, 69, 70] M M' := by
                    refine ih4 _ _ ⟨_, mg, m, _, _, rfl, rfl, zf_s _ _ _, by clear hg1' hm1 hne hg0 hm0; rw [hsuc]; omega, hmg, fun t ht => ?_, hg0, hg1'⟩
                    rw [zf_n (by omega)]; exact hGt t ht
                  by_cases hvF : va < 1000000
                  · have hzv : zt va = va := by rw [zt, if_pos hvF]
                    have hzm : zt m = m := by rw [zt, if_pos (by omega)]
                    rw [hzv, hzm] at done
                    rw [hzm] at hGs
                    by_cases hb0 : mg = 0
                    · subst hb0
                      simp (disch := first | omega | exact Nat.le_of_ble_eq_true rfl | assumption | (simp only [Int.natCast_add, Int.natCast_mul, Int.cast_ofNat_Int]; omega) | decide) only [k_Md_toll_24, k_Md_toll_25, k_Md_toll_26, k_Md_toll_28, k_Md_toll_29, k_Md_toll_31, k_Md_toll_32, k_Md_toll_33, k_Md_toll_35, k_Md_toll_36, x_aload, x_getf, w_goto, w_fall, w_iand, w_iconst, w_if, w_icmp, x_iinc, x_iload, w_ishr, x_istore, zadd_eq, gf_48_0, gf_48_11, gf_48_12, gf_48_14, gf_48_27, gf_48_28, gf_48_29, gf_48_30, ia_56, sa_56, ia_57, sa_57, ia_59, sa_59, ia_67, sa_67, ia_68, sa_68, ia_69, sa_69, ia_70, sa_70, w_nret r_Md_toll, q_eq, q_ne, q_lt, q_ge, q_gt, q_le, g_I, g_L, g_R, g_V, t_0, t_I, t_R, t_U, t_L, t_s, List.getElem?_cons_zero, List.getElem?_cons_succ, Nat.reduceAdd, zif10, zif01b, zib, if_pos, if_neg, ↓reduceIte, not_true_eq_false, not_false_eq_true, Bool.true_eq_false, Bool.false_eq_true, Classical.not_not, eq_self, and_self, and_true, true_and, Int.reduceEq, Int.reduceLE, Int.reduceLT, Int.reduceNeg, Option.toList, List.cons_append, List.nil_append, zup_s, zup_n, zst_s, zup_zs, zup_zn, decide_true, decide_false, c_Md_tollBy hN (hR1 _ _) (hQ1 _ _) hpr (hg1 _ _) hV1 hbk hs ha2, hva, hzv, zst_n, zst_s, hGs, show ((0 : Nat) : Int) = 0 from rfl]
                      exact done
                    · have hb1 : mg = 1 := by omega
                      subst hb1
                      simp (disch := first | omega | exact Nat.le_of_ble_eq_true rfl | assumption | (simp only [Int.natCast_add, Int.natCast_mul, Int.cast_ofNat_Int]; omega) | decide) only [k_Md_toll_24, k_Md_toll_25, k_Md_toll_26, k_Md_toll_28, k_Md_toll_29, k_Md_toll_31, k_Md_toll_32, k_Md_toll_34, k_Md_toll_36, x_aload, x_getf, w_goto, w_fall, w_iand, w_iconst, w_if, w_icmp, x_iinc, x_iload, w_ishr, x_istore, zadd_eq, gf_48_0, gf_48_11, gf_48_12, gf_48_14, gf_48_27, gf_48_28, gf_48_29, gf_48_30, ia_56, sa_56, ia_57, sa_57, ia_59, sa_59, ia_67, sa_67, ia_68, sa_68, ia_69, sa_69, ia_70, sa_70, w_nret r_Md_toll, q_eq, q_ne, q_lt, q_ge, q_gt, q_le, g_I, g_L, g_R, g_V, t_0, t_I, t_R, t_U, t_L, t_s, List.getElem?_cons_zero, List.getElem?_cons_succ, Nat.reduceAdd, zif10, zif01b, zib, if_pos, if_neg, ↓reduceIte, not_true_eq_false, not_false_eq_true, Bool.true_eq_false, Bool.false_eq_true, Classical.not_not, eq_self, and_self, and_true, true_and, Int.reduceEq, Int.reduceLE, Int.reduceLT, Int.reduceNeg, Option.toList, List.cons_append, List.nil_append, zup_s, zup_n, zst_s, zup_zs, zup_zn, decide_true, decide_false, c_Md_tollBy hN (hR1 _ _) (hQ1 _ _) hpr (hg1 _ _) hV1 hbk hs ha2, hva, hzv, zst_n, zst_s, hGs, show ((1 : Nat) : Int) = 1 from rfl]
                      exact done
                  · have hzv : zt va = -1 := by rw [zt, if_neg hvF]
                    rw [hzv] at done
                    by_cases hb0 : mg = 0
                    · subst hb0
                      simp (disch := first | omega | exact Nat.le_of_ble_eq_true rfl | assumption | (simp only [Int.natCast_add, Int.natCast_mul, Int.cast_ofNat_Int]; omega) | decide) only [k_Md_toll_24, k_Md_toll_28, k_Md_toll_29, k_Md_toll_31, k_Md_toll_32, k_Md_toll_33, k_Md_toll_35, k_Md_toll_36, x_aload, x_getf, w_goto, w_fall, w_iand, w_iconst, w_if, w_icmp, x_iinc, x_iload, w_ishr, x_istore, zadd_eq, gf_48_0, gf_48_11, gf_48_12, gf_48_14, gf_48_27, gf_48_28, gf_48_29, gf_48_30, ia_56, sa_56, ia_57, sa_57, ia_59, sa_59, ia_67, sa_67, ia_68, sa_68, ia_69, sa_69, ia_70, sa_70, w_nret r_Md_toll, q_eq, q_ne, q_lt, q_ge, q_gt, q_le, g_I, g_L, g_R, g_V, t_0, t_I, t_R, t_U, t_L, t_s, List.getElem?_cons_zero, List.getElem?_cons_succ, Nat.reduceAdd, zif10, zif01b, zib, if_pos, if_neg, ↓reduceIte, not_true_eq_false, not_false_eq_true, Bool.true_eq_false, Bool.false_eq_true, Classical.not_not, eq_self, and_self, and_true, true_and, Int.reduceEq, Int.reduceLE, Int.reduceLT, Int.reduceNeg, Option.toList, List.cons_append, List.nil_append, zup_s, zup_n, zst_s, zup_zs, zup_zn, decide_true, decide_false, c_Md_tollBy hN (hR1 _ _) (hQ1 _ _) hpr (hg1 _ _) hV1 hbk hs ha2, hva, hzv, zst_n, zst_s, hGs, show ((0 : Nat) : Int) = 0 from rfl]
                      exact done
                    · have hb1 : mg = 1 := by omega
                      subst hb1
                      simp (disch := first | omega | exact Nat.le_of_ble_eq_true rfl | assumption | (simp only [Int.natCast_add, Int.natCast_mul, Int.cast_ofNat_Int]; omega) | decide) only [k_Md_toll_24, k_Md_toll_28, k_Md_toll_29, k_Md_toll_31, k_Md_toll_32, k_Md_toll_34, k_Md_toll_36, x_aload, x_getf, w_goto, w_fall, w_iand, w_iconst, w_if, w_icmp, x_iinc, x_iload, w_ishr, x_istore, zadd_eq, gf_48_0, gf_48_11, gf_48_12, gf_48_14, gf_48_27, gf_48_28, gf_48_29, gf_48_30, ia_56, sa_56, ia_57, sa_57, ia_59, sa_59, ia_67, sa_67, ia_68, sa_68, ia_69, sa_69, ia_70, sa_70, w_nret r_Md_toll, q_eq, q_ne, q_lt, q_ge, q_gt, q_le, g_I, g_L, g_R, g_V, t_0, t_I, t_R, t_U, t_L, t_s, List.getElem?_cons_zero, List.getElem?_cons_succ, Nat.reduceAdd, zif10, zif01b, zib, if_pos, if_neg, ↓reduceIte, not_true_eq_false, not_false_eq_true, Bool.true_eq_false, Bool.false_eq_true, Classical.not_not, eq_self, and_self, and_true, true_and, Int.reduceEq, Int.reduceLE, Int.reduceLT, Int.reduceNeg, Option.toList, List.cons_append, List.nil_append, zup_s, zup_n, zst_s, zup_zs, zup_zn, decide_true, decide_false, c_Md_tollBy hN (hR1 _ _) (hQ1 _ _) hpr (hg1 _ _) hV1 hbk hs ha2, hva, hzv, zst_n, zst_s, hGs, show ((1 : Nat) : Int) = 1 from rfl]
                      exact done
              · rintro _ _ ⟨G', mg, m, w8, w9, rfl, rfl, hGs, hmin, hmg, hGt, hg0, hg1'⟩
                have hd1 := hdn k s
                have hf1 := hfar (k + 1) s
                have hmT : m = T (k + 1) s := by
                  rcases hnn with ⟨h, h2⟩ | ⟨h, h2⟩
                  · subst h
                    have hmin : m = min (T k s) 1000000 := hmin
                    omega
                  · rw [← h2] at hmin
                    rw [hmin]
                    exact Nat.min_eq_right hd1
                rw [k_Md_toll_23]
                simp (disch := first | omega | exact Nat.le_of_ble_eq_true rfl | assumption | (simp only [Int.natCast_add, Int.natCast_mul, Int.cast_ofNat_Int]; omega) | decide) only [k_Md_toll_37, x_aload, x_getf, w_goto, w_fall, w_iand, w_iconst, w_if, w_icmp, x_iinc, x_iload, w_ishr, x_istore, zadd_eq, gf_48_0, gf_48_11, gf_48_12, gf_48_14, gf_48_27, gf_48_28, gf_48_29, gf_48_30, ia_56, sa_56, ia_57, sa_57, ia_59, sa_59, ia_67, sa_67, ia_68, sa_68, ia_69, sa_69, ia_70, sa_70, w_nret r_Md_toll, q_eq, q_ne, q_lt, q_ge, q_gt, q_le, g_I, g_L, g_R, g_V, t_0, t_I, t_R, t_U, t_L, t_s, List.getElem?_cons_zero, List.getElem?_cons_succ, Nat.reduceAdd, zif10, zif01b, zib, if_pos, if_neg, ↓reduceIte, not_true_eq_false, not_false_eq_true, Bool.true_eq_false, Bool.false_eq_true, Classical.not_not, eq_self, and_self, and_true, true_and, Int.reduceEq, Int.reduceLE, Int.reduceLT, Int.reduceNeg, Option.toList, List.cons_append, List.nil_append, zup_s, zup_n, zst_s, zup_zs, zup_zn, decide_true, decide_false]
                refine ih2 _ _ ⟨G', mg, _, _, _, _, rfl, rfl, hmg, fun t ht => ?_, fun h t ht => ?_, hg1'⟩
                · by_cases e : t = s
                  · subst e; rw [hGs, hmT]
                  · exact hGt t (by omega)
                · by_cases e : t = s
                  · subst e; rw [← hmT]; exact (hg0 h).2
                  · exact (hg0 h).1 t (by omega)
            rw [k_Md_toll_17]
            by_cases hz : zneg4 (zrd C A B s) = 0
            · have hr := (hz0 s hs).mp hz
              have := inner 0 (Or.inl ⟨rfl, by rw [e0 hr, e0 hr]⟩)
              simp (disch := first | omega | exact Nat.le_of_ble_eq_true rfl | assumption | (simp only [Int.natCast_add, Int.natCast_mul, Int.cast_ofNat_Int]; omega) | decide) only [k_Md_toll_18, k_Md_toll_21, x_aload, x_getf, w_goto, w_fall, w_iand, w_iconst, w_if, w_icmp, x_iinc, x_iload, w_ishr, x_istore, zadd_eq, gf_48_0, gf_48_11, gf_48_12, gf_48_14, gf_48_27, gf_48_28, gf_48_29, gf_48_30, ia_56, sa_56, ia_57, sa_57, ia_59, sa_59, ia_67, sa_67, ia_68, sa_68, ia_69, sa_69, ia_70, sa_70, w_nret r_Md_toll, q_eq, q_ne, q_lt, q_ge, q_gt, q_le, g_I, g_L, g_R, g_V, t_0, t_I, t_R, t_U, t_L, t_s, List.getElem?_cons_zero, List.getElem?_cons_succ, Nat.reduceAdd, zif10, zif01b, zib, if_pos, if_neg, ↓reduceIte, not_true_eq_false, not_false_eq_true, Bool.true_eq_false, Bool.false_eq_true, Classical.not_not, eq_self, and_self, and_true, true_and, Int.reduceEq, Int.reduceLE, Int.reduceLT, Int.reduceNeg, Option.toList, List.cons_append, List.nil_append, zup_s, zup_n, zst_s, zup_zs, zup_zn, decide_true, decide_false, hst0, zst_n, zst_s, hFs, h68, hz]
              exact this
            · have hr : ¬ r0 s = true := fun z => hz ((hz0 s hs).mpr z)
              cases hA2 : A s
              · have := inner 0 (Or.inl ⟨rfl, by rw [e1 hr (by rw [hA2]; decide), e1 hr (by rw [hA2]; decide)]⟩)
                simp (disch := first | omega | exact Nat.le_of_ble_eq_true rfl | assumption | (simp only [Int.natCast_add, Int.natCast_mul, Int.cast_ofNat_Int]; omega) | decide) only [k_Md_toll_18, k_Md_toll_19, k_Md_toll_21, x_aload, x_getf, w_goto, w_fall, w_iand, w_iconst, w_if, w_icmp, x_iinc, x_iload, w_ishr, x_istore, zadd_eq, gf_48_0, gf_48_11, gf_48_12, gf_48_14, gf_48_27, gf_48_28, gf_48_29, gf_48_30, ia_56, sa_56, ia_57, sa_57, ia_59, sa_59, ia_67, sa_67, ia_68, sa_68, ia_69, sa_69, ia_70, sa_70, w_nret r_Md_toll, q_eq, q_ne, q_lt, q_ge, q_gt, q_le, g_I, g_L, g_R, g_V, t_0, t_I, t_R, t_U, t_L, t_s, List.getElem?_cons_zero, List.getElem?_cons_succ, Nat.reduceAdd, zif10, zif01b, zib, if_pos, if_neg, ↓reduceIte, not_true_eq_false, not_false_eq_true, Bool.true_eq_false, Bool.false_eq_true, Classical.not_not, eq_self, and_self, and_true, true_and, Int.reduceEq, Int.reduceLE, Int.reduceLT, Int.reduceNeg, Option.toList, List.cons_append, List.nil_append, zup_s, zup_n, zst_s, zup_zs, zup_zn, decide_true, decide_false, hst0, zst_n, zst_s, hFs, h68, hz, zset_has, hA2]
                exact this
              · have := inner _ (Or.inr ⟨rfl, e2 hr hA2⟩)
                simp (disch := first | omega | exact Nat.le_of_ble_eq_true rfl | assumption | (simp only [Int.natCast_add, Int.natCast_mul, Int.cast_ofNat_Int]; omega) | decide) only [k_Md_toll_18, k_Md_toll_19, k_Md_toll_20, x_aload, x_getf, w_goto, w_fall, w_iand, w_iconst, w_if, w_icmp, x_iinc, x_iload, w_ishr, x_istore, zadd_eq, gf_48_0, gf_48_11, gf_48_12, gf_48_14, gf_48_27, gf_48_28, gf_48_29, gf_48_30, ia_56, sa_56, ia_57, sa_57, ia_59, sa_59, ia_67, sa_67, ia_68, sa_68, ia_69, sa_69, ia_70, sa_70, w_nret r_Md_toll, q_eq, q_ne, q_lt, q_ge, q_gt, q_le, g_I, g_L, g_R, g_V, t_0, t_I, t_R, t_U, t_L, t_s, List.getElem?_cons_zero, List.getElem?_cons_succ, Nat.reduceAdd, zif10, zif01b, zib, if_pos, if_neg, ↓reduceIte, not_true_eq_false, not_false_eq_true, Bool.true_eq_false, Bool.false_eq_true, Classical.not_not, eq_self, and_self, and_true, true_and, Int.reduceEq, Int.reduceLE, Int.reduceLT, Int.reduceNeg, Option.toList, List.cons_append, List.nil_append, zup_s, zup_n, zst_s, zup_zs, zup_zn, decide_true, decide_false, hst0, zst_n, zst_s, hFs, h68, hz, zset_has, hA2, hg1, c_Md_jointOf hN (hR1 _ _)]
                exact this
          · rintro _ _ ⟨G, mf, w6, w7, w8, w9, rfl, rfl, hmf, hG, hm0, hm1⟩
            rw [k_Md_toll_17]
            simp (disch := first | omega | exact Nat.le_of_ble_eq_true rfl | assumption | (simp only [Int.natCast_add, Int.natCast_mul, Int.cast_ofNat_Int]; omega) | decide) only [k_Md_toll_38, x_aload, x_getf, w_goto, w_fall, w_iand, w_iconst, w_if, w_icmp, x_iinc, x_iload, w_ishr, x_istore, zadd_eq, gf_48_0, gf_48_11, gf_48_12, gf_48_14, gf_48_27, gf_48_28, gf_48_29, gf_48_30, ia_56, sa_56, ia_57, sa_57, ia_59, sa_59, ia_67, sa_67, ia_68, sa_68, ia_69, sa_69, ia_70, sa_70, w_nret r_Md_toll, q_eq, q_ne, q_lt, q_ge, q_gt, q_le, g_I, g_L, g_R, g_V, t_0, t_I, t_R, t_U, t_L, t_s, List.getElem?_cons_zero, List.getElem?_cons_succ, Nat.reduceAdd, zif10, zif01b, zib, if_pos, if_neg, ↓reduceIte, not_true_eq_false, not_false_eq_true, Bool.true_eq_false, Bool.false_eq_true, Classical.not_not, eq_self, and_self, and_true, true_and, Int.reduceEq, Int.reduceLE, Int.reduceLT, Int.reduceNeg, Option.toList, List.cons_append, List.nil_append, zup_s, zup_n, zst_s, zup_zs, zup_zn, decide_true, decide_false, hst0]
            refine zfor (a := 0) (N := S) (b := 39) (fun p L0 M0 => ∃ (F' : Int → Int), L0 = [zR 48, zI (s0 : Int), zI (zset S (zUn C A B 12)), zI (zset S A), zI (mf : Int), zI (p : Int), w6, w7, w8, w9] ∧ M0 = zst (zst M1 69 F') 70 G ∧ ∀ t : Nat, t < p → F' (t : Int) = zt (T (k + 1) t)) ?_ ?_ ?_ ?_
            · exact Nat.zero_le _
            · exact ⟨F, rfl, rfl, fun t ht => by omega⟩
            · rintro p _ _ _ hp ⟨F', rfl, rfl, hF'⟩ ih3
              have hGp := hG p hp
              rw [k_Md_toll_39]
              simp (disch := first | omega | exact Nat.le_of_ble_eq_true rfl | assumption | (simp only [Int.natCast_add, Int.natCast_mul, Int.cast_ofNat_Int]; omega) | decide) only [k_Md_toll_40, x_aload, x_getf, w_goto, w_fall, w_iand, w_iconst, w_if, w_icmp, x_iinc, x_iload, w_ishr, x_istore, zadd_eq, gf_48_0, gf_48_11, gf_48_12, gf_48_14, gf_48_27, gf_48_28, gf_48_29, gf_48_30, ia_56, sa_56, ia_57, sa_57, ia_59, sa_59, ia_67, sa_67, ia_68, sa_68, ia_69, sa_69, ia_70, sa_70, w_nret r_Md_toll, q_eq, q_ne, q_lt, q_ge, q_gt, q_le, g_I, g_L, g_R, g_V, t_0, t_I, t_R, t_U, t_L, t_s, List.getElem?_cons_zero, List.getElem?_cons_succ, Nat.reduceAdd, zif10, zif01b, zib, if_pos, if_neg, ↓reduceIte, not_true_eq_false, not_false_eq_true, Bool.true_eq_false, Bool.false_eq_true, Classical.not_not, eq_self, and_self, and_true, true_and, Int.reduceEq, Int.reduceLE, Int.reduceLT, Int.reduceNeg, Option.toList, List.cons_append, List.nil_append, zup_s, zup_n, zst_s, zup_zs, zup_zn, decide_true, decide_false, hst0, zst_s, zst_n, hGp]
              refine ih3 _ _ ⟨_, rfl, rfl, fun t ht => ?_⟩
              by_cases e : t = p
              · subst e; rw [zf_s]
              · rw [zf_n (by omega)]; exact hF' t (by omega)
            · rintro _ _ ⟨F', rfl, rfl, hF'⟩
              rw [k_Md_toll_39]
              simp (disch := first | omega | exact Nat.le_of_ble_eq_true rfl | assumption | (simp only [Int.natCast_add, Int.natCast_mul, Int.cast_ofNat_Int]; omega) | decide) only [k_Md_toll_41, x_aload, x_getf, w_goto, w_fall, w_iand, w_iconst, w_if, w_icmp, x_iinc, x_iload, w_ishr, x_istore, zadd_eq, gf_48_0, gf_48_11, gf_48_12, gf_48_14, gf_48_27, gf_48_28, gf_48_29, gf_48_30, ia_56, sa_56, ia_57, sa_57, ia_59, sa_59, ia_67, sa_67, ia_68, sa_68, ia_69, sa_69, ia_70, sa_70, w_nret r_Md_toll, q_eq, q_ne, q_lt, q_ge, q_gt, q_le, g_I, g_L, g_R, g_V, t_0, t_I, t_R, t_U, t_L, t_s, List.getElem?_cons_zero, List.getElem?_cons_succ, Nat.reduceAdd, zif10, zif01b, zib, if_pos, if_neg, ↓reduceIte, not_true_eq_false, not_false_eq_true, Bool.true_eq_false, Bool.false_eq_true, Classical.not_not, eq_self, and_self, and_true, true_and, Int.reduceEq, Int.reduceLE, Int.reduceLT, Int.reduceNeg, Option.toList, List.cons_append, List.nil_append, zup_s, zup_n, zst_s, zup_zs, zup_zn, decide_true, decide_false, hst0]
              by_cases h0 : mf = 0
              · have hs1 := hsame k (fun t ht => hm0 h0 t ht)
                have hs2 := hm0 h0 s0 (by omega)
                rw [k_Md_toll_15]
                simp (disch := first | omega | exact Nat.le_of_ble_eq_true rfl | assumption | (simp only [Int.natCast_add, Int.natCast_mul, Int.cast_ofNat_Int]; omega) | decide) only [x_aload, x_getf, w_goto, w_fall, w_iand, w_iconst, w_if, w_icmp, x_iinc, x_iload, w_ishr, x_istore, zadd_eq, gf_48_0, gf_48_11, gf_48_12, gf_48_14, gf_48_27, gf_48_28, gf_48_29, gf_48_30, ia_56, sa_56, ia_57, sa_57, ia_59, sa_59, ia_67, sa_67, ia_68, sa_68, ia_69, sa_69, ia_70, sa_70, w_nret r_Md_toll, q_eq, q_ne, q_lt, q_ge, q_gt, q_le, g_I, g_L, g_R, g_V, t_0, t_I, t_R, t_U, t_L, t_s, List.getElem?_cons_zero, List.getElem?_cons_succ, Nat.reduceAdd, zif10, zif01b, zib, if_pos, if_neg, ↓reduceIte, not_true_eq_false, not_false_eq_true, Bool.true_eq_false, Bool.false_eq_true, Classical.not_not, eq_self, and_self, and_true, true_and, Int.reduceEq, Int.reduceLE, Int.reduceLT, Int.reduceNeg, Option.toList, List.cons_append, List.nil_append, zup_s, zup_n, zst_s, zup_zs, zup_zn, decide_true, decide_false, h0, show ((0 : Nat) : Int) = 0 from rfl]
                rw [← hM1]
                exact fin H R F' G _ _ _ _ _ _ _ (by rw [hF' s0 (by omega), hs2, hs1 s0 (by omega)])
              · have h1 : mf = 1 := by omega
                subst h1
                exact ih _ _ ⟨F', G, _, _, _, _, _, rfl, rfl, hF', fun j hj => by
                  by_cases e : j = k
                  · subst e; exact hm1 rfl
                  · exact hne j (by omega)⟩
        · rintro _ _ ⟨F, G, w5, w6, w7, w8, w9, rfl, rfl, hFk, hne⟩
          obtain ⟨t, ht, h2⟩ := hne 12 (by omega)
          exact absurd (hstS t ht) h2
    rcases c2 with e | e
    · have g1 : M 56 0 = 7 := by rw [g1, e]; rfl
      have hAe : A = fun _ => true := by rw [← hA, e]; simp [zJA]
      have := turns zU zU zU zU zU zU
      rw [hAe] at this
      simp (disch := first | omega | exact Nat.le_of_ble_eq_true rfl | assumption | (simp only [Int.natCast_add, Int.natCast_mul, Int.cast_ofNat_Int]; omega) | decide) only [k_Md_toll_6, x_aload, x_getf, w_goto, w_fall, w_iand, w_iconst, w_if, w_icmp, x_iinc, x_iload, w_ishr, x_istore, zadd_eq, gf_48_0, gf_48_11, gf_48_12, gf_48_14, gf_48_27, gf_48_28, gf_48_29, gf_48_30, ia_56, sa_56, ia_57, sa_57, ia_59, sa_59, ia_67, sa_67, ia_68, sa_68, ia_69, sa_69, ia_70, sa_70, w_nret r_Md_toll, q_eq, q_ne, q_lt, q_ge, q_gt, q_le, g_I, g_L, g_R, g_V, t_0, t_I, t_R, t_U, t_L, t_s, List.getElem?_cons_zero, List.getElem?_cons_succ, Nat.reduceAdd, zif10, zif01b, zib, if_pos, if_neg, ↓reduceIte, not_true_eq_false, not_false_eq_true, Bool.true_eq_false, Bool.false_eq_true, Classical.not_not, eq_self, and_self, and_true, true_and, Int.reduceEq, Int.reduceLE, Int.reduceLT, Int.reduceNeg, Option.toList, List.cons_append, List.nil_append, zup_s, zup_n, zst_s, zup_zs, zup_zn, decide_true, decide_false, zst_n, g1, c_Md_whole hN (show zNetR S P mv tg (zst (zst M 67 H) 68 R) from hR)]
      rw [hAe]
      exact this
    · have g1 : M 56 0 = 9 := by rw [g1, e]; rfl
      have hAe : A = zHp mv tg P lt kd lf rt gp (lf 0) := by rw [← hA, e]; simp [zJA]
      have := turns zU zU zU zU zU zU
      simp (disch := first | omega | exact Nat.le_of_ble_eq_true rfl | assumption | (simp only [Int.natCast_add, Int.natCast_mul, Int.cast_ofNat_Int]; omega) | decide) only [k_Md_toll_7, x_aload, x_getf, w_goto, w_fall, w_iand, w_iconst, w_if, w_icmp, x_iinc, x_iload, w_ishr, x_istore, zadd_eq, gf_48_0, gf_48_11, gf_48_12, gf_48_14, gf_48_27, gf_48_28, gf_48_29, gf_48_30, ia_56, sa_56, ia_57, sa_57, ia_59, sa_59, ia_67, sa_67, ia_68, sa_68, ia_69, sa_69, ia_70, sa_70, w_nret r_Md_toll, q_eq, q_ne, q_lt, q_ge, q_gt, q_le, g_I, g_L, g_R, g_V, t_0, t_I, t_R, t_U, t_L, t_s, List.getElem?_cons_zero, List.getElem?_cons_succ, Nat.reduceAdd, zif10, zif01b, zib, if_pos, if_neg, ↓reduceIte, not_true_eq_false, not_false_eq_true, Bool.true_eq_false, Bool.false_eq_true, Classical.not_not, eq_self, and_self, and_true, true_and, Int.reduceEq, Int.reduceLE, Int.reduceLT, Int.reduceNeg, Option.toList, List.cons_append, List.nil_append, zup_s, zup_n, zst_s, zup_zs, zup_zn, decide_true, decide_false, zst_n, zst_s, g1, g2, hH1]
      rw [hAe] at this
      rw [hAe]
      exact this
  rcases c2 with e | e
  · have g1 : M 56 0 = 7 := by rw [g1, e]; rfl
    simp (disch := first | omega | exact Nat.le_of_ble_eq_true rfl | assumption | (simp only [Int.natCast_add, Int.natCast_mul, Int.cast_ofNat_Int]; omega) | decide) only [k_Md_toll_2, x_aload, x_getf, w_goto, w_fall, w_iand, w_iconst, w_if, w_icmp, x_iinc, x_iload, w_ishr, x_istore, zadd_eq, gf_48_0, gf_48_11, gf_48_12, gf_48_14, gf_48_27, gf_48_28, gf_48_29, gf_48_30, ia_56, sa_56, ia_57, sa_57, ia_59, sa_59, ia_67, sa_67, ia_68, sa_68, ia_69, sa_69, ia_70, sa_70, w_nret r_Md_toll, q_eq, q_ne, q_lt, q_ge, q_gt, q_le, g_I, g_L, g_R, g_V, t_0, t_I, t_R, t_U, t_L, t_s, List.getElem?_cons_zero, List.getElem?_cons_succ, Nat.reduceAdd, zif10, zif01b, zib, if_pos, if_neg, ↓reduceIte, not_true_eq_false, not_false_eq_true, Bool.true_eq_false, Bool.false_eq_true, Classical.not_not, eq_self, and_self, and_true, true_and, Int.reduceEq, Int.reduceLE, Int.reduceLT, Int.reduceNeg, Option.toList, List.cons_append, List.nil_append, zup_s, zup_n, zst_s, zup_zs, zup_zn, decide_true, decide_false, c_Md_isState hN hR, c1, g1]
    exact walk
  · have g1 : M 56 0 = 9 := by rw [g1, e]; rfl
    simp (disch := first | omega | exact Nat.le_of_ble_eq_true rfl | assumption | (simp only [Int.natCast_add, Int.natCast_mul, Int.cast_ofNat_Int]; omega) | decide) only [k_Md_toll_2, k_Md_toll_3, x_aload, x_getf, w_goto, w_fall, w_iand, w_iconst, w_if, w_icmp, x_iinc, x_iload, w_ishr, x_istore, zadd_eq, gf_48_0, gf_48_11, gf_48_12, gf_48_14, gf_48_27, gf_48_28, gf_48_29, gf_48_30, ia_56, sa_56, ia_57, sa_57, ia_59, sa_59, ia_67, sa_67, ia_68, sa_68, ia_69, sa_69, ia_70, sa_70, w_nret r_Md_toll, q_eq, q_ne, q_lt, q_ge, q_gt, q_le, g_I, g_L, g_R, g_V, t_0, t_I, t_R, t_U, t_L, t_s, List.getElem?_cons_zero, List.getElem?_cons_succ, Nat.reduceAdd, zif10, zif01b, zib, if_pos, if_neg, ↓reduceIte, not_true_eq_false, not_false_eq_true, Bool.true_eq_false, Bool.false_eq_true, Classical.not_not, eq_self, and_self, and_true, true_and, Int.reduceEq, Int.reduceLE, Int.reduceLT, Int.reduceNeg, Option.toList, List.cons_append, List.nil_append, zup_s, zup_n, zst_s, zup_zs, zup_zn, decide_true, decide_false, c_Md_isState hN hR, c1, g1]
    exact walk
theorem c_Md_toll {d mi o b9 : Nat} {es : List zEnt} {L st : List zMV} {Q : Option zMV → (Nat → Int → Int) → Prop} {x : Int} (hN : zNet S P mv tg) (hR : zNetR S P mv tg M) (hL : zLetR lt M) (hlt : ∀ s, lt s < 256) (hF : zForm P n kd lf rt gp) (hFR : zFormR n kd lf rt gp M) (hQ : zPrR pr M) (hpr : ∀ s p a, pr s p a ≤ 9) (hd : 8 + 1 ≤ d) (hc : zcats st ≤ 8) (hpost : ∀ r M', (r = some (zI (zTlA S P mv tg pr lt kd lf rt gp x)) ∧ zKp [67, 68, 69, 70] M M') → zW (zSH Ln) d mi es L (r.toList ++ st) M' Q) : zW (zSH Ln) d mi ((.invokevirtual o, 214, b9) :: es) L (zI x :: zR 48 :: st) M Q :=
  w_callv (ps := [zI x]) (by omega) rfl rfl (by omega) (by exact sh_48 Ln) hc (Nat.le_of_ble_eq_true rfl) (F_Md_toll hN hR hL hlt hF hFR hQ hpr (by omega)) hpost
end RE
