/-! the reference: rows of moves, one by one -/
section RE
variable {Ln S P n : Nat} {mv tg hp : Nat → Nat → Nat} {M : Nat → Int → Int} {g : Int} {b : Nat → Nat} {N : Nat → Nat → Bool}
theorem F_Md_digitOf {d : Nat} {p h : Nat} (hL : zLay b 48 M) (hp4 : p < 4) (hh : h < 12) (hb : 0 < b (p * 12 + h)) (hd : 0 ≤ d) : zF (zSH Ln) d i_Md_digitOf [zR 48, zI (p : Int), zI (h : Int)] M fun r M' => r = some (zI (zix b (p * 12 + h) : Int)) ∧ M' = M := by
  rw [zF_en k_Md_digitOf_0 (L := [zR 48, zI (p : Int), zI (h : Int), zU]) rfl]
  have h41 := hL.1
  have hlt := zix_lt b (show p * 12 + h < 48 by omega) hb
  have hle := zix_le b 48
  simp (disch := first | omega | exact Nat.le_of_ble_eq_true rfl | assumption | (simp only [Int.natCast_add, Int.natCast_mul, Int.cast_ofNat_Int]; omega) | decide) only [x_aload, x_getf, w_goto, w_fall, w_iconst, w_icmp, x_iinc, x_iload, x_istore, zadd_eq, gf_48_37, gf_48_38, gf_48_41, ia_76, ia_77, w_nret r_Md_digitOf, q_eq, q_ne, q_lt, q_ge, q_gt, q_le, g_I, g_L, g_R, g_V, t_0, t_I, t_R, t_U, t_L, t_s, List.getElem?_cons_zero, List.getElem?_cons_succ, Nat.reduceAdd, zif10, zif01b, zib, if_pos, if_neg, ↓reduceIte, not_true_eq_false, not_false_eq_true, Bool.true_eq_false, Bool.false_eq_true, Classical.not_not, eq_self, and_self, and_true, true_and, Int.reduceEq, Int.reduceLE, Int.reduceLT, Int.reduceNeg, Option.toList, List.cons_append, List.nil_append, zup_s, zup_n, zst_s, zup_zs, zup_zn, decide_true, decide_false]
  refine zfor (a := 0) (N := (zix b (p * 12 + h))) (b := 1) (fun c L0 M0 => L0 = [zR 48, zI (p : Int), zI (h : Int), zI (c : Int)] ∧ M0 = M) ?_ ?_ ?_ ?_
  · exact Nat.zero_le _
  · exact ⟨rfl, rfl⟩
  · rintro c _ M _ hc ⟨rfl, rfl⟩ ih
    obtain ⟨j, h1, h2, h3⟩ := zix_surj b 48 c (by omega)
    obtain ⟨e1, e2, e3⟩ := hL.2 j h1 h2
    rw [h3] at e1 e2
    have hj : ¬ j = p * 12 + h := fun e => by subst e; omega
    rw [k_Md_digitOf_1]
    by_cases h4 : j / 12 = p
    · have h5 : ¬ ((j % 12 : Nat) : Int) = (h : Int) := by omega
      have h4' : ((j / 12 : Nat) : Int) = (p : Int) := by omega
      rw [h4'] at e1
      simp (disch := first | omega | exact Nat.le_of_ble_eq_true rfl | assumption | (simp only [Int.natCast_add, Int.natCast_mul, Int.cast_ofNat_Int]; omega) | decide) only [k_Md_digitOf_2, k_Md_digitOf_3, k_Md_digitOf_5, x_aload, x_getf, w_goto, w_fall, w_iconst, w_icmp, x_iinc, x_iload, x_istore, zadd_eq, gf_48_37, gf_48_38, gf_48_41, ia_76, ia_77, w_nret r_Md_digitOf, q_eq, q_ne, q_lt, q_ge, q_gt, q_le, g_I, g_L, g_R, g_V, t_0, t_I, t_R, t_U, t_L, t_s, List.getElem?_cons_zero, List.getElem?_cons_succ, Nat.reduceAdd, zif10, zif01b, zib, if_pos, if_neg, ↓reduceIte, not_true_eq_false, not_false_eq_true, Bool.true_eq_false, Bool.false_eq_true, Classical.not_not, eq_self, and_self, and_true, true_and, Int.reduceEq, Int.reduceLE, Int.reduceLT, Int.reduceNeg, Option.toList, List.cons_append, List.nil_append, zup_s, zup_n, zst_s, zup_zs, zup_zn, decide_true, decide_false, h41, e1, e2, h5]
      exact ih _ _ ⟨rfl, rfl⟩
    · have h5 : ¬ ((j / 12 : Nat) : Int) = (p : Int) := by omega
      simp (disch := first | omega | exact Nat.le_of_ble_eq_true rfl | assumption | (simp only [Int.natCast_add, Int.natCast_mul, Int.cast_ofNat_Int]; omega) | decide) only [k_Md_digitOf_2, k_Md_digitOf_5, x_aload, x_getf, w_goto, w_fall, w_iconst, w_icmp, x_iinc, x_iload, x_istore, zadd_eq, gf_48_37, gf_48_38, gf_48_41, ia_76, ia_77, w_nret r_Md_digitOf, q_eq, q_ne, q_lt, q_ge, q_gt, q_le, g_I, g_L, g_R, g_V, t_0, t_I, t_R, t_U, t_L, t_s, List.getElem?_cons_zero, List.getElem?_cons_succ, Nat.reduceAdd, zif10, zif01b, zib, if_pos, if_neg, ↓reduceIte, not_true_eq_false, not_false_eq_true, Bool.true_eq_false, Bool.false_eq_true, Classical.not_not, eq_self, and_self, and_true, true_and, Int.reduceEq, Int.reduceLE, Int.reduceLT, Int.reduceNeg, Option.toList, List.cons_append, List.nil_append, zup_s, zup_n, zst_s, zup_zs, zup_zn, decide_true, decide_false, h41, e1, h5]
      exact ih _ _ ⟨rfl, rfl⟩
  · rintro _ M ⟨rfl, rfl⟩
    obtain ⟨e1, e2, e3⟩ := hL.2 (p * 12 + h) (by omega) hb
    rw [show (p * 12 + h) / 12 = p by omega] at e1
    rw [show (p * 12 + h) % 12 = h by omega] at e2
    rw [k_Md_digitOf_1]
    simp (disch := first | omega | exact Nat.le_of_ble_eq_true rfl | assumption | (simp only [Int.natCast_add, Int.natCast_mul, Int.cast_ofNat_Int]; omega) | decide) only [k_Md_digitOf_2, k_Md_digitOf_3, k_Md_digitOf_4, x_aload, x_getf, w_goto, w_fall, w_iconst, w_icmp, x_iinc, x_iload, x_istore, zadd_eq, gf_48_37, gf_48_38, gf_48_41, ia_76, ia_77, w_nret r_Md_digitOf, q_eq, q_ne, q_lt, q_ge, q_gt, q_le, g_I, g_L, g_R, g_V, t_0, t_I, t_R, t_U, t_L, t_s, List.getElem?_cons_zero, List.getElem?_cons_succ, Nat.reduceAdd, zif10, zif01b, zib, if_pos, if_neg, ↓reduceIte, not_true_eq_false, not_false_eq_true, Bool.true_eq_false, Bool.false_eq_true, Classical.not_not, eq_self, and_self, and_true, true_and, Int.reduceEq, Int.reduceLE, Int.reduceLT, Int.reduceNeg, Option.toList, List.cons_append, List.nil_append, zup_s, zup_n, zst_s, zup_zs, zup_zn, decide_true, decide_false, h41, e1, e2]
theorem c_Md_digitOf {d mi o b9 : Nat} {es : List zEnt} {L st : List zMV} {Q : Option zMV → (Nat → Int → Int) → Prop} {p h : Nat} (hL : zLay b 48 M) (hp4 : p < 4) (hh : h < 12) (hb : 0 < b (p * 12 + h)) (hd : 0 + 1 ≤ d) (hc : zcats st ≤ 8) : zW (zSH Ln) d mi ((.invokevirtual o, 223, b9) :: es) L (zI (h : Int) :: zI (p : Int) :: zR 48 :: st) M Q = zW (zSH Ln) d mi es L (zI (zix b (p * 12 + h) : Int) :: st) (M) Q :=
  c_virt (ps := [zI (p : Int), zI (h : Int)]) (by omega) rfl rfl (by omega) (by exact sh_48 Ln) hc (Nat.le_of_ble_eq_true rfl) (F_Md_digitOf hL hp4 hh hb (by omega))
theorem F_Md_countsUp {d : Nat} {k : Nat} (hL : zLay b 48 M) (hb3 : ∀ i, b i ≤ 3) (hn : k < zcnt (fun i => max (b i) 1) zall1 48) (hT : ∀ j : Nat, j < 48 → 0 < b j → M 79 (zix b j : Int) = zdg (fun i => max (b i) 1) 48 k j) (hd : 0 ≤ d) : zF (zSH Ln) d i_Md_countsUp [zR 48] M fun r M' => r = some (zI (if k + 1 < zcnt (fun i => max (b i) 1) zall1 48 then 1 else 0)) ∧ ∃ F, M' = zst M 79 F ∧ (k + 1 < zcnt (fun i => max (b i) 1) zall1 48 → ∀ j : Nat, j < 48 → 0 < b j → F (zix b j : Int) = zdg (fun i => max (b i) 1) 48 (k + 1) j) := by
  rw [zF_en k_Md_countsUp_0 (L := [zR 48, zU]) rfl]
  have hb : ∀ i, 1 ≤ (fun i => max (b i) 1) i := fun i => by show 1 ≤ max (b i) 1; omega
  have h41 := hL.1
  have hle := zix_le b 48
  have down : ∀ q' q, q' ≤ q → q ≤ 48 → (∀ i, q' ≤ i → i < q → b i = 0) → zcry (fun i => max (b i) 1) 48 k q → zcry (fun i => max (b i) 1) 48 k q' := by
    intro q' q
    induction q with
    | zero => intro h1 _ _ h; have : q' = 0 := by omega
              subst this; exact h
    | succ q ih =>
      intro h1 h2 h3 h4
      by_cases e : q' = q + 1
      · subst e; exact h4
      · refine ih (by omega) (by omega) (fun i h5 h6 => h3 i h5 (by omega)) (zcry_on hb (by omega) h4 ?_)
        show ¬ _ < max (b q) 1
        rw [h3 q (by omega) (by omega)]
        show ¬ _ + 1 < 1
        omega
  simp (disch := first | omega | exact Nat.le_of_ble_eq_true rfl | assumption | (simp only [Int.natCast_add, Int.natCast_mul, Int.cast_ofNat_Int]; omega) | decide) only [x_aload, w_dup2, x_getf, w_goto, w_fall, w_iadd, w_iconst, w_if, w_icmp, x_iinc, x_iload, x_istore, w_isub, zadd_eq, zsub_eq, gf_48_39, gf_48_40, gf_48_41, ia_78, sa_78, ia_79, sa_79, w_bret r_Md_countsUp, q_eq, q_ne, q_lt, q_ge, q_gt, q_le, g_I, g_L, g_R, g_V, t_0, t_I, t_R, t_U, t_L, t_s, List.getElem?_cons_zero, List.getElem?_cons_succ, Nat.reduceAdd, zif10, zif01b, zib, if_pos, if_neg, ↓reduceIte, not_true_eq_false, not_false_eq_true, Bool.true_eq_false, Bool.false_eq_true, Classical.not_not, eq_self, and_self, and_true, true_and, Int.reduceEq, Int.reduceLE, Int.reduceLT, Int.reduceNeg, Option.toList, List.cons_append, List.nil_append, zup_s, zup_n, zst_s, zup_zs, zup_zn, decide_true, decide_false, h41]
  refine zford (N := (zix b 48)) (b := 1) (fun c L0 M0 => ∃ (F : Int → Int), L0 = [zR 48, zI ((c : Int) - 1)] ∧ M0 = zst M 79 F ∧ (∃ q, q ≤ 48 ∧ zix b q = c ∧ zcry (fun i => max (b i) 1) 48 k q ∧ (∀ j : Nat, j < q → 0 < b j → F (zix b j : Int) = zdg (fun i => max (b i) 1) 48 k j) ∧ ∀ j : Nat, q ≤ j → j < 48 → 0 < b j → F (zix b j : Int) = 0)) ?_ ?_ ?_
  · exact ⟨M 79, rfl, (zst_id _ _).symm, 48, Nat.le_refl _, rfl, zcry_0 _ _ _, hT, fun j h1 h2 => by omega⟩
  · rintro c _ _ hc ⟨F, rfl, rfl, q, hq, hqc, hcr, hF1, hF2⟩ ih
    obtain ⟨j, h1, h2, h3, h4⟩ := zix_pred b q c hqc
    have hcj := down (j + 1) q (by omega) hq (fun i h5 h6 => h4 i (by omega) h6) hcr
    have hFj := hF1 j h1 h2
    obtain ⟨e1, e2, e3⟩ := hL.2 j (by omega) h2
    rw [h3] at hFj e3
    have hd3 := zdg_lt hb 48 k j
    have hbj := hb3 j
    have hmx : max (b j) 1 = b j := by omega
    have hd3 : zdg (fun i => max (b i) 1) 48 k j < b j := by rw [← hmx]; exact hd3
    rw [k_Md_countsUp_1]
    by_cases hd : zdg (fun i => max (b i) 1) 48 k j + 1 < b j
    · have hup := zcry_up hb (show j < 48 by omega) hcj (by show _ < max (b j) 1; omega)
      have hmo := zcry_more hb (show j < 48 by omega) hcj (by show _ < max (b j) 1; omega) hn
      simp (disch := first | omega | exact Nat.le_of_ble_eq_true rfl | assumption | (simp only [Int.natCast_add, Int.natCast_mul, Int.cast_ofNat_Int]; omega) | decide) only [k_Md_countsUp_2, k_Md_countsUp_4, k_Md_countsUp_5, k_Md_countsUp_6, k_Md_countsUp_7, k_Md_countsUp_9, x_aload, w_dup2, x_getf, w_goto, w_fall, w_iadd, w_iconst, w_if, w_icmp, x_iinc, x_iload, x_istore, w_isub, zadd_eq, zsub_eq, gf_48_39, gf_48_40, gf_48_41, ia_78, sa_78, ia_79, sa_79, w_bret r_Md_countsUp, q_eq, q_ne, q_lt, q_ge, q_gt, q_le, g_I, g_L, g_R, g_V, t_0, t_I, t_R, t_U, t_L, t_s, List.getElem?_cons_zero, List.getElem?_cons_succ, Nat.reduceAdd, zif10, zif01b, zib, if_pos, if_neg, ↓reduceIte, not_true_eq_false, not_false_eq_true, Bool.true_eq_false, Bool.false_eq_true, Classical.not_not, eq_self, and_self, and_true, true_and, Int.reduceEq, Int.reduceLE, Int.reduceLT, Int.reduceNeg, Option.toList, List.cons_append, List.nil_append, zup_s, zup_n, zst_s, zup_zs, zup_zn, decide_true, decide_false, show ((c + 1 : Nat) : Int) - 1 = (c : Int) by omega, zst_n, zst_s, hFj, e3, hmo]
      refine ⟨_, rfl, fun _ i hi hbi => ?_⟩
      by_cases e : i = j
      · subst e; rw [h3, zf_s, hup.1]; simp
      · have hne : ¬ (zix b i : Int) = (c : Int) := fun z => e (zix_inj b hbi h2 (by omega))
        rw [zf_n hne]
        rcases Nat.lt_or_ge i j with h | h
        · rw [hF1 i (by omega) hbi, hup.2 i h]
        · have h5 : q ≤ i := by
            rcases Nat.lt_or_ge i q with h6 | h6
            · have := h4 i (by omega) h6; omega
            · exact h6
          rw [hF2 i h5 hi hbi, hcj.2 i (by omega) hi]; rfl
    · have hon := zcry_on hb (show j < 48 by omega) hcj (by show ¬ _ < max (b j) 1; omega)
      simp (disch := first | omega | exact Nat.le_of_ble_eq_true rfl | assumption | (simp only [Int.natCast_add, Int.natCast_mul, Int.cast_ofNat_Int]; omega) | decide) only [k_Md_countsUp_2, k_Md_countsUp_3, x_aload, w_dup2, x_getf, w_goto, w_fall, w_iadd, w_iconst, w_if, w_icmp, x_iinc, x_iload, x_istore, w_isub, zadd_eq, zsub_eq, gf_48_39, gf_48_40, gf_48_41, ia_78, sa_78, ia_79, sa_79, w_bret r_Md_countsUp, q_eq, q_ne, q_lt, q_ge, q_gt, q_le, g_I, g_L, g_R, g_V, t_0, t_I, t_R, t_U, t_L, t_s, List.getElem?_cons_zero, List.getElem?_cons_succ, Nat.reduceAdd, zif10, zif01b, zib, if_pos, if_neg, ↓reduceIte, not_true_eq_false, not_false_eq_true, Bool.true_eq_false, Bool.false_eq_true, Classical.not_not, eq_self, and_self, and_true, true_and, Int.reduceEq, Int.reduceLE, Int.reduceLT, Int.reduceNeg, Option.toList, List.cons_append, List.nil_append, zup_s, zup_n, zst_s, zup_zs, zup_zn, decide_true, decide_false, show ((c + 1 : Nat) : Int) - 1 = (c : Int) by omega, zst_n, zst_s, hFj, e3]
      refine ih _ _ ⟨_, rfl, rfl, j, by omega, h3, hon, fun i hi hbi => ?_, fun i h5 h6 hbi => ?_⟩
      · have hne : ¬ (zix b i : Int) = (c : Int) := fun z => by have := zix_inj b hbi h2 (by omega); omega
        rw [zf_n hne]; exact hF1 i (by omega) hbi
      · by_cases e : i = j
        · subst e; rw [h3, zf_s]
        · have hne : ¬ (zix b i : Int) = (c : Int) := fun z => e (zix_inj b hbi h2 (by omega))
          rw [zf_n hne]
          have h7 : q ≤ i := by
            rcases Nat.lt_or_ge i q with h8 | h8
            · have := h4 i (by omega) h8; omega
            · exact h8
          exact hF2 i h7 h6 hbi
  · rintro _ _ ⟨F, rfl, rfl, q, hq, hqc, hcr, hF1, hF2⟩
    have h0 := down 0 q (by omega) hq (fun i h5 h6 => by
      rcases Nat.eq_zero_or_pos (b i) with h7 | h7
      · exact h7
      · have := zix_lt b h6 h7; omega) hcr
    have he := zcry_end hb hn h0
    have hno : ¬ k + 1 < zcnt (fun i => max (b i) 1) zall1 48 := by omega
    rw [k_Md_countsUp_1]
    simp (disch := first | omega | exact Nat.le_of_ble_eq_true rfl | assumption | (simp only [Int.natCast_add, Int.natCast_mul, Int.cast_ofNat_Int]; omega) | decide) only [k_Md_countsUp_4, k_Md_countsUp_6, k_Md_countsUp_8, k_Md_countsUp_9, x_aload, w_dup2, x_getf, w_goto, w_fall, w_iadd, w_iconst, w_if, w_icmp, x_iinc, x_iload, x_istore, w_isub, zadd_eq, zsub_eq, gf_48_39, gf_48_40, gf_48_41, ia_78, sa_78, ia_79, sa_79, w_bret r_Md_countsUp, q_eq, q_ne, q_lt, q_ge, q_gt, q_le, g_I, g_L, g_R, g_V, t_0, t_I, t_R, t_U, t_L, t_s, List.getElem?_cons_zero, List.getElem?_cons_succ, Nat.reduceAdd, zif10, zif01b, zib, if_pos, if_neg, ↓reduceIte, not_true_eq_false, not_false_eq_true, Bool.true_eq_false, Bool.false_eq_true, Classical.not_not, eq_self, and_self, and_true, true_and, Int.reduceEq, Int.reduceLE, Int.reduceLT, Int.reduceNeg, Option.toList, List.cons_append, List.nil_append, zup_s, zup_n, zst_s, zup_zs, zup_zn, decide_true, decide_false, hno]
    exact ⟨F, rfl, fun h => h.elim⟩
theorem c_Md_countsUp {d mi o b9 : Nat} {es : List zEnt} {L st : List zMV} {Q : Option zMV → (Nat → Int → Int) → Prop} {k : Nat} (hL : zLay b 48 M) (hb3 : ∀ i, b i ≤ 3) (hn : k < zcnt (fun i => max (b i) 1) zall1 48) (hT : ∀ j : Nat, j < 48 → 0 < b j → M 79 (zix b j : Int) = zdg (fun i => max (b i) 1) 48 k j) (hd : 0 + 1 ≤ d) (hc : zcats st ≤ 8) (hpost : ∀ r M', (r = some (zI (if k + 1 < zcnt (fun i => max (b i) 1) zall1 48 then 1 else 0)) ∧ ∃ F, M' = zst M 79 F ∧ (k + 1 < zcnt (fun i => max (b i) 1) zall1 48 → ∀ j : Nat, j < 48 → 0 < b j → F (zix b j : Int) = zdg (fun i => max (b i) 1) 48 (k + 1) j)) → zW (zSH Ln) d mi es L (r.toList ++ st) M' Q) : zW (zSH Ln) d mi ((.invokevirtual o, 224, b9) :: es) L (zR 48 :: st) M Q :=
  w_callv (ps := []) (by omega) rfl rfl (by omega) (by exact sh_48 Ln) hc (Nat.le_of_ble_eq_true rfl) (F_Md_countsUp hL hb3 hn hT (by omega)) hpost
theorem F_Md_surely {d : Nat} {W X : Nat → Bool} (hS : S ≤ 12) (hR : zNetR S P mv tg M) (hE : ∀ s : Nat, s < S → M 80 (s : Int) = zset S (N s)) (hd : 0 ≤ d) : zF (zSH Ln) d i_Md_surely [zR 48, zI (zset S W), zI (zset S X)] M fun r M' => r = some (zI (zset S (zSu S N W X 12))) ∧ M' = M := by
  rw [zF_en k_Md_surely_0 (L := [zR 48, zI (zset S W), zI (zset S X), zU, zU, zU]) rfl]
  have hz0 := zset_0 S X
  simp (disch := first | omega | exact Nat.le_of_ble_eq_true rfl | assumption | (simp only [Int.natCast_add, Int.natCast_mul, Int.cast_ofNat_Int]; omega) | decide) only [x_aload, x_getf, w_goto, w_fall, w_iand, w_iconst, w_if, w_icmp, x_iinc, x_iload, w_ior, w_ishl, w_ishr, x_istore, w_ixor, zadd_eq, gf_48_0, gf_48_42, ia_80, w_nret r_Md_surely, q_eq, q_ne, q_lt, q_ge, q_gt, q_le, g_I, g_L, g_R, g_V, t_0, t_I, t_R, t_U, t_L, t_s, List.getElem?_cons_zero, List.getElem?_cons_succ, Nat.reduceAdd, zif10, zif01b, zib, if_pos, if_neg, ↓reduceIte, not_true_eq_false, not_false_eq_true, Bool.true_eq_false, Bool.false_eq_true, Classical.not_not, eq_self, and_self, and_true, true_and, Int.reduceEq, Int.reduceLE, Int.reduceLT, Int.reduceNeg, Option.toList, List.cons_append, List.nil_append, zup_s, zup_n, zst_s, zup_zs, zup_zn, decide_true, decide_false]
  refine zfor (a := 0) (N := 14) (b := 1) (fun i L0 M0 => ∃ (w : Int) (v5 : zMV), L0 = [zR 48, zI (zset S W), zI (zset S X), zI (zset S (zSu S N W X i)), zI w, v5] ∧ M0 = M ∧ ((¬ zset S (zSu S N W X i) = w) ∧ ∀ j, j < i → ¬ zeqS S (zSu S N W X (j + 1)) (zSu S N W X j))) ?_ ?_ ?_ ?_
  · exact Nat.zero_le _
  · exact ⟨-1, zU, rfl, rfl, fun h => by have h : zset S X = -1 := h; omega, fun j hj => by omega⟩
  · rintro i _ M _ hi ⟨w, v5, rfl, rfl, hw, hne⟩ ih
    have hi12 : i ≤ 12 := by
      rcases Nat.lt_or_ge 12 i with h | h
      · exact absurd (zSu_stay 12 13 (Or.inr hS) (by omega)) (hne 12 h)
      · exact h
    have hsu : zSu S N W X (i + 1) = fun s => zSu S N W X i s || (W s && zsb S (N s) (zSu S N W X i)) := rfl
    generalize hY : zSu S N W X i = Y at hw hsu ⊢
    rw [k_Md_surely_1]
    simp (disch := first | omega | exact Nat.le_of_ble_eq_true rfl | assumption | (simp only [Int.natCast_add, Int.natCast_mul, Int.cast_ofNat_Int]; omega) | decide) only [k_Md_surely_2, x_aload, x_getf, w_goto, w_fall, w_iand, w_iconst, w_if, w_icmp, x_iinc, x_iload, w_ior, w_ishl, w_ishr, x_istore, w_ixor, zadd_eq, gf_48_0, gf_48_42, ia_80, w_nret r_Md_surely, q_eq, q_ne, q_lt, q_ge, q_gt, q_le, g_I, g_L, g_R, g_V, t_0, t_I, t_R, t_U, t_L, t_s, List.getElem?_cons_zero, List.getElem?_cons_succ, Nat.reduceAdd, zif10, zif01b, zib, if_pos, if_neg, ↓reduceIte, not_true_eq_false, not_false_eq_true, Bool.true_eq_false, Bool.false_eq_true, Classical.not_not, eq_self, and_self, and_true, true_and, Int.reduceEq, Int.reduceLE, Int.reduceLT, Int.reduceNeg, Option.toList, List.cons_append, List.nil_append, zup_s, zup_n, zst_s, zup_zs, zup_zn, decide_true, decide_false, hw]
    refine zfor (a := 0) (N := S) (b := 3) (fun t L0 M0 => L0 = [zR 48, zI (zset S W), zI (zset S X), zI (zset S fun s => Y s || (decide (s < t) && (W s && zsb S (N s) Y))), zI (zset S Y), zI (t : Int)] ∧ M0 = M) ?_ ?_ ?_ ?_
    · exact Nat.zero_le _
    · exact ⟨by simp, rfl⟩
    · rintro t _ M _ ht ⟨rfl, rfl⟩ ih2
      have he := hE t ht
      have nx : ∀ v : Bool, v = (W t && zsb S (N t) Y) → (zset S fun s => Y s || (decide (s < t + 1) && (W s && zsb S (N s) Y))) = zset S fun s => (Y s || (decide (s < t) && (W s && zsb S (N s) Y))) || (v && decide (s = t)) := by
        intro v hv
        refine zset_cong fun i hi => ?_
        by_cases e : i = t
        · subst e; simp [hv]
        · simp [e, show (i < t + 1) ↔ (i < t) by omega]
      rw [k_Md_surely_3]
      cases hw2 : W t
      · simp (disch := first | omega | exact Nat.le_of_ble_eq_true rfl | assumption | (simp only [Int.natCast_add, Int.natCast_mul, Int.cast_ofNat_Int]; omega) | decide) only [k_Md_surely_4, k_Md_surely_7, k_Md_surely_8, x_aload, x_getf, w_goto, w_fall, w_iand, w_iconst, w_if, w_icmp, x_iinc, x_iload, w_ior, w_ishl, w_ishr, x_istore, w_ixor, zadd_eq, gf_48_0, gf_48_42, ia_80, w_nret r_Md_surely, q_eq, q_ne, q_lt, q_ge, q_gt, q_le, g_I, g_L, g_R, g_V, t_0, t_I, t_R, t_U, t_L, t_s, List.getElem?_cons_zero, List.getElem?_cons_succ, Nat.reduceAdd, zif10, zif01b, zib, if_pos, if_neg, ↓reduceIte, not_true_eq_false, not_false_eq_true, Bool.true_eq_false, Bool.false_eq_true, Classical.not_not, eq_self, and_self, and_true, true_and, Int.reduceEq, Int.reduceLE, Int.reduceLT, Int.reduceNeg, Option.toList, List.cons_append, List.nil_append, zup_s, zup_n, zst_s, zup_zs, zup_zn, decide_true, decide_false, hR.1, zset_has, hw2, zor_z]
        refine ih2 _ _ ⟨?_, rfl⟩
        rw [nx false (by rw [hw2]; rfl)]
        simp
      · cases hsb : zsb S (N t) Y
        · simp (disch := first | omega | exact Nat.le_of_ble_eq_true rfl | assumption | (simp only [Int.natCast_add, Int.natCast_mul, Int.cast_ofNat_Int]; omega) | decide) only [k_Md_surely_4, k_Md_surely_5, k_Md_surely_7, k_Md_surely_8, x_aload, x_getf, w_goto, w_fall, w_iand, w_iconst, w_if, w_icmp, x_iinc, x_iload, w_ior, w_ishl, w_ishr, x_istore, w_ixor, zadd_eq, gf_48_0, gf_48_42, ia_80, w_nret r_Md_surely, q_eq, q_ne, q_lt, q_ge, q_gt, q_le, g_I, g_L, g_R, g_V, t_0, t_I, t_R, t_U, t_L, t_s, List.getElem?_cons_zero, List.getElem?_cons_succ, Nat.reduceAdd, zif10, zif01b, zib, if_pos, if_neg, ↓reduceIte, not_true_eq_false, not_false_eq_true, Bool.true_eq_false, Bool.false_eq_true, Classical.not_not, eq_self, and_self, and_true, true_and, Int.reduceEq, Int.reduceLE, Int.reduceLT, Int.reduceNeg, Option.toList, List.cons_append, List.nil_append, zup_s, zup_n, zst_s, zup_zs, zup_zn, decide_true, decide_false, hR.1, zset_has, hw2, he, zset_dif, zset_sb, hsb, zor_z]
          refine ih2 _ _ ⟨?_, rfl⟩
          rw [nx false (by rw [hsb, Bool.and_false])]
          simp
        · simp (disch := first | omega | exact Nat.le_of_ble_eq_true rfl | assumption | (simp only [Int.natCast_add, Int.natCast_mul, Int.cast_ofNat_Int]; omega) | decide) only [k_Md_surely_4, k_Md_surely_5, k_Md_surely_6, k_Md_surely_8, x_aload, x_getf, w_goto, w_fall, w_iand, w_iconst, w_if, w_icmp, x_iinc, x_iload, w_ior, w_ishl, w_ishr, x_istore, w_ixor, zadd_eq, gf_48_0, gf_48_42, ia_80, w_nret r_Md_surely, q_eq, q_ne, q_lt, q_ge, q_gt, q_le, g_I, g_L, g_R, g_V, t_0, t_I, t_R, t_U, t_L, t_s, List.getElem?_cons_zero, List.getElem?_cons_succ, Nat.reduceAdd, zif10, zif01b, zib, if_pos, if_neg, ↓reduceIte, not_true_eq_false, not_false_eq_true, Bool.true_eq_false, Bool.false_eq_true, Classical.not_not, eq_self, and_self, and_true, true_and, Int.reduceEq, Int.reduceLE, Int.reduceLT, Int.reduceNeg, Option.toList, List.cons_append, List.nil_append, zup_s, zup_n, zst_s, zup_zs, zup_zn, decide_true, decide_false, hR.1, zset_has, hw2, he, zset_dif, zset_sb, hsb, zset_up]
          refine ih2 _ _ ⟨?_, rfl⟩
          rw [nx true (by rw [hsb, hw2]; rfl)]
          simp
    · rintro _ M ⟨rfl, rfl⟩
      have e1 : (zset S fun s => Y s || (decide (s < S) && (W s && zsb S (N s) Y))) = zset S (zSu S N W X (i + 1)) := by rw [hsu]; exact zset_cong fun i hi => by simp [hi]
      rw [k_Md_surely_3]
      simp (disch := first | omega | exact Nat.le_of_ble_eq_true rfl | assumption | (simp only [Int.natCast_add, Int.natCast_mul, Int.cast_ofNat_Int]; omega) | decide) only [k_Md_surely_9, x_aload, x_getf, w_goto, w_fall, w_iand, w_iconst, w_if, w_icmp, x_iinc, x_iload, w_ior, w_ishl, w_ishr, x_istore, w_ixor, zadd_eq, gf_48_0, gf_48_42, ia_80, w_nret r_Md_surely, q_eq, q_ne, q_lt, q_ge, q_gt, q_le, g_I, g_L, g_R, g_V, t_0, t_I, t_R, t_U, t_L, t_s, List.getElem?_cons_zero, List.getElem?_cons_succ, Nat.reduceAdd, zif10, zif01b, zib, if_pos, if_neg, ↓reduceIte, not_true_eq_false, not_false_eq_true, Bool.true_eq_false, Bool.false_eq_true, Classical.not_not, eq_self, and_self, and_true, true_and, Int.reduceEq, Int.reduceLE, Int.reduceLT, Int.reduceNeg, Option.toList, List.cons_append, List.nil_append, zup_s, zup_n, zst_s, zup_zs, zup_zn, decide_true, decide_false, hR.1, e1]
      by_cases he : zeqS S (zSu S N W X (i + 1)) (zSu S N W X i)
      · have e2 := zset_cong he
        have e3 := zSu_stay i 12 (Or.inl he) hi12
        rw [hY] at e2 e3
        rw [k_Md_surely_1]
        simp (disch := first | omega | exact Nat.le_of_ble_eq_true rfl | assumption | (simp only [Int.natCast_add, Int.natCast_mul, Int.cast_ofNat_Int]; omega) | decide) only [k_Md_surely_10, x_aload, x_getf, w_goto, w_fall, w_iand, w_iconst, w_if, w_icmp, x_iinc, x_iload, w_ior, w_ishl, w_ishr, x_istore, w_ixor, zadd_eq, gf_48_0, gf_48_42, ia_80, w_nret r_Md_surely, q_eq, q_ne, q_lt, q_ge, q_gt, q_le, g_I, g_L, g_R, g_V, t_0, t_I, t_R, t_U, t_L, t_s, List.getElem?_cons_zero, List.getElem?_cons_succ, Nat.reduceAdd, zif10, zif01b, zib, if_pos, if_neg, ↓reduceIte, not_true_eq_false, not_false_eq_true, Bool.true_eq_false, Bool.false_eq_true, Classical.not_not, eq_self, and_self, and_true, true_and, Int.reduceEq, Int.reduceLE, Int.reduceLT, Int.reduceNeg, Option.toList, List.cons_append, List.nil_append, zup_s, zup_n, zst_s, zup_zs, zup_zn, decide_true, decide_false, e2]
        rw [zset_cong e3]
      · rw [← hY]
        exact ih _ _ ⟨_, _, rfl, rfl, fun z => he ((zset_iff (by omega)).mp z), fun j hj => by
          by_cases e : j = i
          · subst e; exact he
          · exact hne j (by omega)⟩
  · rintro _ M ⟨w, v5, rfl, rfl, hw, hne⟩
    exact absurd (zSu_stay 12 13 (Or.inr hS) (by omega)) (hne 12 (by omega))
theorem c_Md_surely {d mi o b9 : Nat} {es : List zEnt} {L st : List zMV} {Q : Option zMV → (Nat → Int → Int) → Prop} {W X : Nat → Bool} (hS : S ≤ 12) (hR : zNetR S P mv tg M) (hE : ∀ s : Nat, s < S → M 80 (s : Int) = zset S (N s)) (hd : 0 + 1 ≤ d) (hc : zcats st ≤ 8) : zW (zSH Ln) d mi ((.invokevirtual o, 226, b9) :: es) L (zI (zset S X) :: zI (zset S W) :: zR 48 :: st) M Q = zW (zSH Ln) d mi es L (zI (zset S (zSu S N W X 12)) :: st) (M) Q :=
  c_virt (ps := [zI (zset S W), zI (zset S X)]) (by omega) rfl rfl (by omega) (by exact sh_48 Ln) hc (Nat.le_of_ble_eq_true rfl) (F_Md_surely hS hR hE (by omega))
end RE
