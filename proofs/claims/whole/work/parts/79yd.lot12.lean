/-! chances: the reference's face -/
theorem zlc_ne {v : Int} (h : v ≠ 0) : ¬ zlcmp v 0 = 0 := by
  unfold zlcmp
  by_cases c : v < 0
  · rw [if_pos c]; omega
  · rw [if_neg c, if_neg h]; omega
section RE
variable {Ln S P n : Nat} {mv tg ch : Nat → Nat → Nat} {lt kd lf rt gp : Nat → Nat} {M : Nat → Int → Int} {lo : Int} {A : Nat → Nat → Int}
theorem zlmul_b {x y : Int} (hx : -531441 ≤ x ∧ x ≤ 531441) (hy : -531441 ≤ y ∧ y ≤ 531441) : zlmul x y = x * y ∧ -1000000000000 ≤ x * y ∧ x * y ≤ 1000000000000 := by
  have := zB6_mul (x := x) (y := y) ⟨by omega, by omega⟩ ⟨by omega, by omega⟩
  exact ⟨zlmul_eq (by omega) (by omega), this⟩
set_option maxHeartbeats 20000000 in
theorem F_Md_solve {d : Nat} (hS : S ≤ 12) (hS0 : M 48 0 = S) (h0 : zSg S A []) (hz : ∀ i j, i < S → S ≤ j → j < 12 → A i j = 0) (hA : ∀ i j : Nat, i < S → j < 13 → M 81 (13 * (i : Int) + j) = A i j) (hd : 2 ≤ d) : zF (zSH Ln) d i_Md_solve [zR 48] M fun r M' => r = none ∧ ∃ F, M' = zst M 81 F ∧ ∀ i : Nat, i < S → zRw A S i fun j => F (13 * (i : Int) + j) := by
  rw [zF_en k_Md_solve_0 (L := [zR 48, zU, zU, zU, zU, zU, zU, zU, zU, zU, zU]) rfl]
  simp (disch := first | omega | exact Nat.le_of_ble_eq_true rfl | assumption | (simp only [Int.natCast_add, Int.natCast_mul, Int.cast_ofNat_Int]; omega) | decide) only [x_aload, x_getf, w_goto, w_fall, w_iadd, w_iconst, w_if, w_icmp, x_iinc, x_iload, w_imul, x_istore, w_lcmp, w_ldiv, x_lload, w_lmul, x_lstore2, List.length_cons, List.length_nil, List.set_cons_succ, List.set_cons_zero, Nat.reduceLT, Nat.zero_add, w_lsub, w_sipush, zadd_eq, zmul_eq, gf_48_0, gf_48_43, ia_81, sa_81, w_vret r_Md_solve, q_eq, q_ne, q_lt, q_ge, q_gt, q_le, g_I, g_L, g_R, g_V, t_0, t_I, t_R, t_U, t_L, t_s, List.getElem?_cons_zero, List.getElem?_cons_succ, Nat.reduceAdd, zif10, zif01b, zib, if_pos, if_neg, ↓reduceIte, not_true_eq_false, not_false_eq_true, Bool.true_eq_false, Bool.false_eq_true, Classical.not_not, eq_self, and_self, and_true, true_and, Int.reduceEq, Int.reduceLE, Int.reduceLT, Int.reduceNeg, Option.toList, List.cons_append, List.nil_append, zup_s, zup_n, zst_s, zup_zs, zup_zn, decide_true, decide_false]
  refine zfor (a := 0) (N := S) (b := 1) (fun k L0 M0 => ∃ (F : Int → Int) (v2 v3 v4 v5 v6 v7 v8 v9 v10 : zMV), L0 = [zR 48, zI (k : Int), v2, v3, v4, v5, v6, v7, v8, v9, v10] ∧ M0 = zst M 81 F ∧ (∀ i : Nat, i < S → zRw A k i fun j => F (13 * (i : Int) + j))) ?_ ?_ ?_ ?_
  · exact Nat.zero_le _
  · refine ⟨M 81, zU, zU, zU, zU, zU, zU, zU, zU, zU, rfl, (zst_id _ _).symm, fun i hi => ⟨⟨1, 1, by omega, by omega, fun j hj => ?_⟩, fun j hj => ?_⟩⟩
    · show _ * M 81 (13 * (i : Int) + j) = _ * A i j
      rw [hA i j hi hj]
    · show _ ≤ M 81 (13 * (i : Int) + j) ∧ M 81 (13 * (i : Int) + j) ≤ _
      rw [hA i j hi hj]
      have := zD_bd h0 hS hz (T := []) ⟨List.nodup_nil, fun x h => by simp at h⟩ hi (by simp) j hj
      exact this
  · rintro k _ _ _ hk ⟨F, v2, v3, v4, v5, v6, v7, v8, v9, v10, rfl, rfl, hF⟩ ih
    have e0 : zst M 81 F 48 0 = (S : Int) := hS0
    have hkT : k ∉ zUp k := fun z => by have := zUp_mem.mp z; omega
    have hkS : zSta S (zUp k) := zUp_sta (by omega)
    -- the pivot is there
    have hpiv : F (13 * (k : Int) + k) ≠ 0 := fun e => by
      obtain ⟨⟨al, be, ha, hb, hr⟩, _⟩ := hF k hk
      have h1 := hr k (by omega)
      rw [List.erase_of_not_mem hkT] at h1
      have h1 : (al : Int) * F (13 * (k : Int) + k) = (be : Int) * zD A (zUp k) k k := h1
      rw [e, Int.mul_zero] at h1
      have h2 := Int.mul_pos (show (0 : Int) < (be : Int) by omega) (zSg_dia (zEvI_all h0 S _ hkS (zSta_le hkS)).2.2 hk hkT)
      omega
    have hlc : ¬ zlcmp (F (13 * (k : Int) + k)) 0 = 0 := zlc_ne hpiv
    have hkb : ∀ j : Nat, j < 13 → -531441 ≤ F (13 * (k : Int) + j) ∧ F (13 * (k : Int) + j) ≤ 531441 := (hF k hk).2
    rw [k_Md_solve_1]
    simp (disch := first | omega | exact Nat.le_of_ble_eq_true rfl | assumption | (simp only [Int.natCast_add, Int.natCast_mul, Int.cast_ofNat_Int]; omega) | decide) only [k_Md_solve_2, x_aload, x_getf, w_goto, w_fall, w_iadd, w_iconst, w_if, w_icmp, x_iinc, x_iload, w_imul, x_istore, w_lcmp, w_ldiv, x_lload, w_lmul, x_lstore2, List.length_cons, List.length_nil, List.set_cons_succ, List.set_cons_zero, Nat.reduceLT, Nat.zero_add, w_lsub, w_sipush, zadd_eq, zmul_eq, gf_48_0, gf_48_43, ia_81, sa_81, w_vret r_Md_solve, q_eq, q_ne, q_lt, q_ge, q_gt, q_le, g_I, g_L, g_R, g_V, t_0, t_I, t_R, t_U, t_L, t_s, List.getElem?_cons_zero, List.getElem?_cons_succ, Nat.reduceAdd, zif10, zif01b, zib, if_pos, if_neg, ↓reduceIte, not_true_eq_false, not_false_eq_true, Bool.true_eq_false, Bool.false_eq_true, Classical.not_not, eq_self, and_self, and_true, true_and, Int.reduceEq, Int.reduceLE, Int.reduceLT, Int.reduceNeg, Option.toList, List.cons_append, List.nil_append, zup_s, zup_n, zst_s, zup_zs, zup_zn, decide_true, decide_false, e0]
    rw [k_Md_solve_3]
    simp (disch := first | omega | exact Nat.le_of_ble_eq_true rfl | assumption | (simp only [Int.natCast_add, Int.natCast_mul, Int.cast_ofNat_Int]; omega) | decide) only [k_Md_solve_5, x_aload, x_getf, w_goto, w_fall, w_iadd, w_iconst, w_if, w_icmp, x_iinc, x_iload, w_imul, x_istore, w_lcmp, w_ldiv, x_lload, w_lmul, x_lstore2, List.length_cons, List.length_nil, List.set_cons_succ, List.set_cons_zero, Nat.reduceLT, Nat.zero_add, w_lsub, w_sipush, zadd_eq, zmul_eq, gf_48_0, gf_48_43, ia_81, sa_81, w_vret r_Md_solve, q_eq, q_ne, q_lt, q_ge, q_gt, q_le, g_I, g_L, g_R, g_V, t_0, t_I, t_R, t_U, t_L, t_s, List.getElem?_cons_zero, List.getElem?_cons_succ, Nat.reduceAdd, zif10, zif01b, zib, if_pos, if_neg, ↓reduceIte, not_true_eq_false, not_false_eq_true, Bool.true_eq_false, Bool.false_eq_true, Classical.not_not, eq_self, and_self, and_true, true_and, Int.reduceEq, Int.reduceLE, Int.reduceLT, Int.reduceNeg, Option.toList, List.cons_append, List.nil_append, zup_s, zup_n, zst_s, zup_zs, zup_zn, decide_true, decide_false, zst_s, hlc, c_Md_swap]
    refine zfor (a := 0) (N := S) (b := 6) (fun i L0 M0 => ∃ (F2 : Int → Int) (v4 v5 v6 v7 v8 v9 v10 : zMV), L0 = [zR 48, zI (k : Int), zI (k : Int), zI (i : Int), v4, v5, v6, v7, v8, v9, v10] ∧ M0 = zst M 81 F2 ∧ ((∀ u : Nat, u < S → u = k ∨ i ≤ u → ∀ j : Nat, j < 13 → F2 (13 * (u : Int) + j) = F (13 * (u : Int) + j)) ∧ ∀ u : Nat, u < i → zRw A (k + 1) u fun j => F2 (13 * (u : Int) + j))) ?_ ?_ ?_ ?_
    · exact Nat.zero_le _
    · exact ⟨F, v4, v5, v6, v7, v8, v9, v10, rfl, rfl, fun u _ _ j _ => rfl, fun u hu => by omega⟩
    · rintro i _ _ _ hi ⟨F2, v4, v5, v6, v7, v8, v9, v10, rfl, rfl, g1, g2⟩ ih2
      have e02 : zst M 81 F2 48 0 = (S : Int) := hS0
      have next : ∀ (F3 : Int → Int) (w4 w5 w6 w7 w8 w9 w10 : zMV), (∀ x : Int, x < 13 * (i : Int) ∨ 13 * (i : Int) + 13 ≤ x → F3 x = F2 x) → (i = k → F3 = F2) → (zRw A (k + 1) i fun j => F3 (13 * (i : Int) + j)) → zW (zSH Ln) d i_Md_solve (zblk i_Md_solve 13) [zR 48, zI (k : Int), zI (k : Int), zI (i : Int), w4, w5, w6, w7, w8, w9, w10] [] (zst M 81 F3) fun r M' => r = none ∧ ∃ F, M' = zst M 81 F ∧ ∀ i : Nat, i < S → zRw A S i fun j => F (13 * (i : Int) + j) := by
        intro F3 w4 w5 w6 w7 w8 w9 w10 h1 h2 h3
        rw [k_Md_solve_13]
        simp (disch := first | omega | exact Nat.le_of_ble_eq_true rfl | assumption | (simp only [Int.natCast_add, Int.natCast_mul, Int.cast_ofNat_Int]; omega) | decide) only [x_aload, x_getf, w_goto, w_fall, w_iadd, w_iconst, w_if, w_icmp, x_iinc, x_iload, w_imul, x_istore, w_lcmp, w_ldiv, x_lload, w_lmul, x_lstore2, List.length_cons, List.length_nil, List.set_cons_succ, List.set_cons_zero, Nat.reduceLT, Nat.zero_add, w_lsub, w_sipush, zadd_eq, zmul_eq, gf_48_0, gf_48_43, ia_81, sa_81, w_vret r_Md_solve, q_eq, q_ne, q_lt, q_ge, q_gt, q_le, g_I, g_L, g_R, g_V, t_0, t_I, t_R, t_U, t_L, t_s, List.getElem?_cons_zero, List.getElem?_cons_succ, Nat.reduceAdd, zif10, zif01b, zib, if_pos, if_neg, ↓reduceIte, not_true_eq_false, not_false_eq_true, Bool.true_eq_false, Bool.false_eq_true, Classical.not_not, eq_self, and_self, and_true, true_and, Int.reduceEq, Int.reduceLE, Int.reduceLT, Int.reduceNeg, Option.toList, List.cons_append, List.nil_append, zup_s, zup_n, zst_s, zup_zs, zup_zn, decide_true, decide_false]
        refine ih2 _ _ ⟨F3, _, _, _, _, _, _, _, rfl, rfl, fun u hu hku j hj => ?_, fun u hu => ?_⟩
        · by_cases e : u = i
          · have hik : i = k := by omega
            rw [h2 hik]; exact g1 u hu (by omega) j hj
          · rw [h1 _ (by omega)]; exact g1 u hu (by omega) j hj
        · by_cases e : u = i
          · subst e; exact h3
          · have := g2 u (by omega)
            obtain ⟨⟨al, be, ha, hb, hr⟩, hbd⟩ := this
            refine ⟨⟨al, be, ha, hb, fun j hj => ?_⟩, fun j hj => ?_⟩
            · show (al : Int) * F3 _ = _
              rw [h1 _ (by omega)]; exact hr j hj
            · show _ ≤ F3 _ ∧ F3 _ ≤ _
              rw [h1 _ (by omega)]; exact hbd j hj
      by_cases hik : i = k
      · subst hik
        rw [k_Md_solve_6]
        simp (disch := first | omega | exact Nat.le_of_ble_eq_true rfl | assumption | (simp only [Int.natCast_add, Int.natCast_mul, Int.cast_ofNat_Int]; omega) | decide) only [k_Md_solve_7, x_aload, x_getf, w_goto, w_fall, w_iadd, w_iconst, w_if, w_icmp, x_iinc, x_iload, w_imul, x_istore, w_lcmp, w_ldiv, x_lload, w_lmul, x_lstore2, List.length_cons, List.length_nil, List.set_cons_succ, List.set_cons_zero, Nat.reduceLT, Nat.zero_add, w_lsub, w_sipush, zadd_eq, zmul_eq, gf_48_0, gf_48_43, ia_81, sa_81, w_vret r_Md_solve, q_eq, q_ne, q_lt, q_ge, q_gt, q_le, g_I, g_L, g_R, g_V, t_0, t_I, t_R, t_U, t_L, t_s, List.getElem?_cons_zero, List.getElem?_cons_succ, Nat.reduceAdd, zif10, zif01b, zib, if_pos, if_neg, ↓reduceIte, not_true_eq_false, not_false_eq_true, Bool.true_eq_false, Bool.false_eq_true, Classical.not_not, eq_self, and_self, and_true, true_and, Int.reduceEq, Int.reduceLE, Int.reduceLT, Int.reduceNeg, Option.toList, List.cons_append, List.nil_append, zup_s, zup_n, zst_s, zup_zs, zup_zn, decide_true, decide_false, e02]
        refine next F2 _ _ _ _ _ _ _ (fun x _ => rfl) (fun _ => rfl) ?_
        obtain ⟨⟨al, be, ha, hb, hr⟩, hbd⟩ := hF i hi
        have er : (zUp (i + 1)).erase i = zUp i := by show (i :: zUp i).erase i = _; rw [List.erase_cons_head]
        refine ⟨⟨al, be, ha, hb, fun j hj => ?_⟩, fun j hj => ?_⟩
        · have := hr j hj
          rw [List.erase_of_not_mem hkT] at this
          rw [er]
          show (al : Int) * F2 _ = _
          rw [g1 i hi (Or.inl rfl) j hj]; exact this
        · show _ ≤ F2 _ ∧ F2 _ ≤ _
          rw [g1 i hi (Or.inl rfl) j hj]; exact hbd j hj
      have hik' : ¬ (i : Int) = (k : Int) := by omega
      have hfi : zRw A k i fun j => F2 (13 * (i : Int) + j) := by
        obtain ⟨⟨al, be, ha, hb, hr⟩, hbd⟩ := hF i hi
        refine ⟨⟨al, be, ha, hb, fun j hj => ?_⟩, fun j hj => ?_⟩
        · show (al : Int) * F2 _ = _
          rw [g1 i hi (Or.inr (Nat.le_refl i)) j hj]; exact hr j hj
        · show _ ≤ F2 _ ∧ F2 _ ≤ _
          rw [g1 i hi (Or.inr (Nat.le_refl i)) j hj]; exact hbd j hj
      have hpk : ∀ j : Nat, j < 13 → F2 (13 * (k : Int) + j) = F (13 * (k : Int) + j) := fun j hj => g1 k hk (Or.inl rfl) j hj
      by_cases hz0 : F2 (13 * (i : Int) + k) = 0
      · have hlc0 : zlcmp (F2 (13 * (i : Int) + k)) 0 = 0 := by rw [hz0]; rfl
        rw [k_Md_solve_6]
        simp (disch := first | omega | exact Nat.le_of_ble_eq_true rfl | assumption | (simp only [Int.natCast_add, Int.natCast_mul, Int.cast_ofNat_Int]; omega) | decide) only [k_Md_solve_7, k_Md_solve_8, x_aload, x_getf, w_goto, w_fall, w_iadd, w_iconst, w_if, w_icmp, x_iinc, x_iload, w_imul, x_istore, w_lcmp, w_ldiv, x_lload, w_lmul, x_lstore2, List.length_cons, List.length_nil, List.set_cons_succ, List.set_cons_zero, Nat.reduceLT, Nat.zero_add, w_lsub, w_sipush, zadd_eq, zmul_eq, gf_48_0, gf_48_43, ia_81, sa_81, w_vret r_Md_solve, q_eq, q_ne, q_lt, q_ge, q_gt, q_le, g_I, g_L, g_R, g_V, t_0, t_I, t_R, t_U, t_L, t_s, List.getElem?_cons_zero, List.getElem?_cons_succ, Nat.reduceAdd, zif10, zif01b, zib, if_pos, if_neg, ↓reduceIte, not_true_eq_false, not_false_eq_true, Bool.true_eq_false, Bool.false_eq_true, Classical.not_not, eq_self, and_self, and_true, true_and, Int.reduceEq, Int.reduceLE, Int.reduceLT, Int.reduceNeg, Option.toList, List.cons_append, List.nil_append, zup_s, zup_n, zst_s, zup_zs, zup_zn, decide_true, decide_false, e02, hik', zst_s, hlc0]
        exact next F2 _ _ _ _ _ _ _ (fun x _ => rfl) (fun _ => rfl) (zRw_sk h0 hi hk hik hS hfi hz0)
      have hlc1 : ¬ zlcmp (F2 (13 * (i : Int) + k)) 0 = 0 := zlc_ne hz0
      have bi : ∀ j : Nat, j < 13 → -531441 ≤ F2 (13 * (i : Int) + j) ∧ F2 (13 * (i : Int) + j) ≤ 531441 := hfi.2
      have bk : ∀ j : Nat, j < 13 → -531441 ≤ F2 (13 * (k : Int) + j) ∧ F2 (13 * (k : Int) + j) ≤ 531441 := fun j hj => by rw [hpk j hj]; exact hkb j hj
      have bik := bi k (by omega)
      have bkk := bk k (by omega)
      have hpiv2 : F2 (13 * (k : Int) + k) ≠ 0 := by rw [hpk k (by omega)]; exact hpiv
      generalize hga : F2 (13 * (i : Int) + k) = fa at *
      generalize hgb : F2 (13 * (k : Int) + k) = fb at *
      have hg1 : 0 < Nat.gcd fa.natAbs fb.natAbs := Nat.gcd_pos_of_pos_left _ (by omega)
      have hgle : Nat.gcd fa.natAbs fb.natAbs ≤ 531441 := Nat.le_trans (Nat.gcd_le_left _ (by omega)) (by omega)
      have hq : ∀ v : Int, Nat.gcd fa.natAbs fb.natAbs ∣ v.natAbs → ∃ u : Int, v = u * (Nat.gcd fa.natAbs fb.natAbs : Int) := fun v hv => by
        obtain ⟨u, hu⟩ := hv
        rcases Int.natAbs_eq v with h | h
        · exact ⟨u, by rw [h, hu, Int.natCast_mul, Int.mul_comm]⟩
        · exact ⟨-u, by rw [h, hu, Int.natCast_mul, Int.neg_mul, Int.mul_comm]⟩
      obtain ⟨x, hx⟩ := hq fb (Nat.gcd_dvd_right _ _)
      obtain ⟨y, hy⟩ := hq fa (Nat.gcd_dvd_left _ _)
      have hcm : ∀ {d2 mi o b9 : Nat} {es : List zEnt} {L st : List zMV} {Q2 : Option zMV → (Nat → Int → Int) → Prop}, 0 + 1 ≤ d2 → zcats st ≤ 8 → zW (zSH Ln) d2 mi ((.invokestatic o, 237, b9) :: es) L (zL fb :: zL fa :: st) (zst M 81 F2) Q2 = zW (zSH Ln) d2 mi es L (zL ((Nat.gcd fa.natAbs fb.natAbs : Nat) : Int) :: st) (zst M 81 F2) Q2 := fun h1 h2 => c_Md_common (by omega) (by omega) h1 h2
      generalize Nat.gcd fa.natAbs fb.natAbs = g at *
      have hg0 : ¬ (g : Int) = 0 := by omega
      have sm : ∀ u v : Int, v = u * (g : Int) → -531441 ≤ v ∧ v ≤ 531441 → -531441 ≤ u ∧ u ≤ 531441 := fun u v h1 h2 => by
        have h3 : u.natAbs ≤ v.natAbs := by
          rw [h1, Int.natAbs_mul, Int.natAbs_natCast]
          exact Nat.le_mul_of_pos_right _ hg1
        omega
      have bx := sm x fb hx bkk
      have byy := sm y fa hy bik
      have dx : zldiv fb (g : Int) = x := by rw [hx]; exact zldiv_ex hg0 ⟨by rw [← hx]; omega, by rw [← hx]; omega⟩ ⟨by omega, by omega⟩ ⟨by omega, by omega⟩
      have dy : zldiv fa (g : Int) = y := by rw [hy]; exact zldiv_ex hg0 ⟨by rw [← hy]; omega, by rw [← hy]; omega⟩ ⟨by omega, by omega⟩ ⟨by omega, by omega⟩
      rw [k_Md_solve_6]
      simp (disch := first | omega | exact Nat.le_of_ble_eq_true rfl | assumption | (simp only [Int.natCast_add, Int.natCast_mul, Int.cast_ofNat_Int]; omega) | decide) only [k_Md_solve_7, k_Md_solve_8, k_Md_solve_9, x_aload, x_getf, w_goto, w_fall, w_iadd, w_iconst, w_if, w_icmp, x_iinc, x_iload, w_imul, x_istore, w_lcmp, w_ldiv, x_lload, w_lmul, x_lstore2, List.length_cons, List.length_nil, List.set_cons_succ, List.set_cons_zero, Nat.reduceLT, Nat.zero_add, w_lsub, w_sipush, zadd_eq, zmul_eq, gf_48_0, gf_48_43, ia_81, sa_81, w_vret r_Md_solve, q_eq, q_ne, q_lt, q_ge, q_gt, q_le, g_I, g_L, g_R, g_V, t_0, t_I, t_R, t_U, t_L, t_s, List.getElem?_cons_zero, List.getElem?_cons_succ, Nat.reduceAdd, zif10, zif01b, zib, if_pos, if_neg, ↓reduceIte, not_true_eq_false, not_false_eq_true, Bool.true_eq_false, Bool.false_eq_true, Classical.not_not, eq_self, and_self, and_true, true_and, Int.reduceEq, Int.reduceLE, Int.reduceLT, Int.reduceNeg, Option.toList, List.cons_append, List.nil_append, zup_s, zup_n, zst_s, zup_zs, zup_zn, decide_true, decide_false, e02, hik', zst_s, hga, hgb, hlc1, hcm, dx, dy, w_ldiv hg0]
      refine zfor (a := 0) (N := 13) (b := 10) (fun c L0 M0 => ∃ (F3 : Int → Int), L0 = [zR 48, zI (k : Int), zI (k : Int), zI (i : Int), zL (g : Int), zU, zL x, zU, zL y, zU, zI (c : Int)] ∧ M0 = zst M 81 F3 ∧ ((∀ u : Nat, u < c → F3 (13 * (i : Int) + u) = F2 (13 * (i : Int) + u) * x - F2 (13 * (k : Int) + u) * y) ∧ (∀ u : Nat, c ≤ u → u < 13 → F3 (13 * (i : Int) + u) = F2 (13 * (i : Int) + u)) ∧ ∀ z : Int, z < 13 * (i : Int) ∨ 13 * (i : Int) + 13 ≤ z → F3 z = F2 z)) ?_ ?_ ?_ ?_
      · exact Nat.zero_le _
      · exact ⟨F2, rfl, rfl, fun u hu => by omega, fun u _ _ => rfl, fun z _ => rfl⟩
      · rintro c _ _ _ hc ⟨F3, rfl, rfl, k1, k2, k3⟩ ih3
        have f1 := k2 c (Nat.le_refl c) hc
        have f2 := k3 (13 * (k : Int) + c) (by omega)
        have m1 := zlmul_b (bi c hc) bx
        have m2 := zlmul_b (bk c hc) byy
        have ms : zlsub (F2 (13 * (i : Int) + c) * x) (F2 (13 * (k : Int) + c) * y) = F2 (13 * (i : Int) + c) * x - F2 (13 * (k : Int) + c) * y := zlsub_eq (by omega) (by omega)
        rw [k_Md_solve_10]
        simp (disch := first | omega | exact Nat.le_of_ble_eq_true rfl | assumption | (simp only [Int.natCast_add, Int.natCast_mul, Int.cast_ofNat_Int]; omega) | decide) only [k_Md_solve_11, x_aload, x_getf, w_goto, w_fall, w_iadd, w_iconst, w_if, w_icmp, x_iinc, x_iload, w_imul, x_istore, w_lcmp, w_ldiv, x_lload, w_lmul, x_lstore2, List.length_cons, List.length_nil, List.set_cons_succ, List.set_cons_zero, Nat.reduceLT, Nat.zero_add, w_lsub, w_sipush, zadd_eq, zmul_eq, gf_48_0, gf_48_43, ia_81, sa_81, w_vret r_Md_solve, q_eq, q_ne, q_lt, q_ge, q_gt, q_le, g_I, g_L, g_R, g_V, t_0, t_I, t_R, t_U, t_L, t_s, List.getElem?_cons_zero, List.getElem?_cons_succ, Nat.reduceAdd, zif10, zif01b, zib, if_pos, if_neg, ↓reduceIte, not_true_eq_false, not_false_eq_true, Bool.true_eq_false, Bool.false_eq_true, Classical.not_not, eq_self, and_self, and_true, true_and, Int.reduceEq, Int.reduceLE, Int.reduceLT, Int.reduceNeg, Option.toList, List.cons_append, List.nil_append, zup_s, zup_n, zst_s, zup_zs, zup_zn, decide_true, decide_false, zst_s, f1, f2, m1.1, m2.1, ms]
        refine ih3 _ _ ⟨_, rfl, rfl, fun u hu => ?_, fun u a b => ?_, fun z hz => ?_⟩
        · by_cases e : u = c
          · subst e; rw [zf_s]
          · rw [zf_n (by omega)]; exact k1 u (by omega)
        · rw [zf_n (by omega)]; exact k2 u (by omega) b
        · rw [zf_n (by omega)]; exact k3 z hz
      · rintro _ _ ⟨F3, rfl, rfl, k1, k2, k3⟩
        have hst := fun f2 h2 => zRw_st (f := fun j => F2 (13 * (i : Int) + j)) (p := fun j => F2 (13 * (k : Int) + j)) (N := fun j => F3 (13 * (i : Int) + j)) (f2 := f2) (x := x) (y := y) (g := g) h0 hS hz hi hk hik hfi (by
          obtain ⟨⟨al, be, ha, hb, hr⟩, hbd⟩ := hF k hk
          refine ⟨⟨al, be, ha, hb, fun j hj => ?_⟩, fun j hj => ?_⟩
          · show (al : Int) * F2 _ = _
            rw [hpk j hj]; exact hr j hj
          · exact bk j hj) hg1 (hgb.trans hx) (hga.trans hy) (fun j hj => k1 j hj) h2
        have hne : ∃ c : Nat, c < 13 ∧ F3 (13 * (i : Int) + c) ≠ 0 := by
          -- the same row, whatever it is made of
          refine Classical.byContradiction fun hno => ?_
          have hall : ∀ c : Nat, c < 13 → F3 (13 * (i : Int) + c) = 0 := fun c hc => Classical.byContradiction fun h => hno ⟨c, hc, h⟩
          have h3 := (hst (fun _ => 0) (fun j hj => by rw [Int.zero_mul]; exact (hall j hj).symm)).1
          obtain ⟨c, hc, h4⟩ := h3
          exact h4 (hall c hc)
        rw [k_Md_solve_10]
        simp (disch := first | omega | exact Nat.le_of_ble_eq_true rfl | assumption | (simp only [Int.natCast_add, Int.natCast_mul, Int.cast_ofNat_Int]; omega) | decide) only [k_Md_solve_12, x_aload, x_getf, w_goto, w_fall, w_iadd, w_iconst, w_if, w_icmp, x_iinc, x_iload, w_imul, x_istore, w_lcmp, w_ldiv, x_lload, w_lmul, x_lstore2, List.length_cons, List.length_nil, List.set_cons_succ, List.set_cons_zero, Nat.reduceLT, Nat.zero_add, w_lsub, w_sipush, zadd_eq, zmul_eq, gf_48_0, gf_48_43, ia_81, sa_81, w_vret r_Md_solve, q_eq, q_ne, q_lt, q_ge, q_gt, q_le, g_I, g_L, g_R, g_V, t_0, t_I, t_R, t_U, t_L, t_s, List.getElem?_cons_zero, List.getElem?_cons_succ, Nat.reduceAdd, zif10, zif01b, zib, if_pos, if_neg, ↓reduceIte, not_true_eq_false, not_false_eq_true, Bool.true_eq_false, Bool.false_eq_true, Classical.not_not, eq_self, and_self, and_true, true_and, Int.reduceEq, Int.reduceLE, Int.reduceLT, Int.reduceNeg, Option.toList, List.cons_append, List.nil_append, zup_s, zup_n, zst_s, zup_zs, zup_zn, decide_true, decide_false]
        refine c_Md_shorten (rq := i) (f := fun c => F3 (13 * (i : Int) + c)) (by omega) (fun c hc => rfl) (fun c hc => ?_) (by
          obtain ⟨c, hc, h⟩ := hne
          exact ⟨c, hc, h⟩) (by omega) (Nat.le_of_ble_eq_true rfl) ?_
        · have m1 := zlmul_b (bi c hc) bx
          have m2 := zlmul_b (bk c hc) byy
          rw [k1 c hc]
          omega
        rintro _ _ ⟨rfl, F4, rfl, q1, q2⟩
        rw [zst_s] at q2
        rw [zst_zst]
        simp (disch := first | omega | exact Nat.le_of_ble_eq_true rfl | assumption | (simp only [Int.natCast_add, Int.natCast_mul, Int.cast_ofNat_Int]; omega) | decide) only [x_aload, x_getf, w_goto, w_fall, w_iadd, w_iconst, w_if, w_icmp, x_iinc, x_iload, w_imul, x_istore, w_lcmp, w_ldiv, x_lload, w_lmul, x_lstore2, List.length_cons, List.length_nil, List.set_cons_succ, List.set_cons_zero, Nat.reduceLT, Nat.zero_add, w_lsub, w_sipush, zadd_eq, zmul_eq, gf_48_0, gf_48_43, ia_81, sa_81, w_vret r_Md_solve, q_eq, q_ne, q_lt, q_ge, q_gt, q_le, g_I, g_L, g_R, g_V, t_0, t_I, t_R, t_U, t_L, t_s, List.getElem?_cons_zero, List.getElem?_cons_succ, Nat.reduceAdd, zif10, zif01b, zib, if_pos, if_neg, ↓reduceIte, not_true_eq_false, not_false_eq_true, Bool.true_eq_false, Bool.false_eq_true, Classical.not_not, eq_self, and_self, and_true, true_and, Int.reduceEq, Int.reduceLE, Int.reduceLT, Int.reduceNeg, Option.toList, List.cons_append, List.nil_append, zup_s, zup_n, zst_s, zup_zs, zup_zn, decide_true, decide_false]
        exact next F4 _ _ _ _ _ _ _ (fun z hz => by rw [q2 z hz]; exact k3 z hz) (fun e => absurd e hik) (hst (fun j => F4 (13 * (i : Int) + j)) q1).2
    · rintro _ _ ⟨F2, v4, v5, v6, v7, v8, v9, v10, rfl, rfl, g1, g2⟩
      have e02 : zst M 81 F2 48 0 = (S : Int) := hS0
      rw [k_Md_solve_6]
      simp (disch := first | omega | exact Nat.le_of_ble_eq_true rfl | assumption | (simp only [Int.natCast_add, Int.natCast_mul, Int.cast_ofNat_Int]; omega) | decide) only [k_Md_solve_14, x_aload, x_getf, w_goto, w_fall, w_iadd, w_iconst, w_if, w_icmp, x_iinc, x_iload, w_imul, x_istore, w_lcmp, w_ldiv, x_lload, w_lmul, x_lstore2, List.length_cons, List.length_nil, List.set_cons_succ, List.set_cons_zero, Nat.reduceLT, Nat.zero_add, w_lsub, w_sipush, zadd_eq, zmul_eq, gf_48_0, gf_48_43, ia_81, sa_81, w_vret r_Md_solve, q_eq, q_ne, q_lt, q_ge, q_gt, q_le, g_I, g_L, g_R, g_V, t_0, t_I, t_R, t_U, t_L, t_s, List.getElem?_cons_zero, List.getElem?_cons_succ, Nat.reduceAdd, zif10, zif01b, zib, if_pos, if_neg, ↓reduceIte, not_true_eq_false, not_false_eq_true, Bool.true_eq_false, Bool.false_eq_true, Classical.not_not, eq_self, and_self, and_true, true_and, Int.reduceEq, Int.reduceLE, Int.reduceLT, Int.reduceNeg, Option.toList, List.cons_append, List.nil_append, zup_s, zup_n, zst_s, zup_zs, zup_zn, decide_true, decide_false, e02]
      exact ih _ _ ⟨F2, _, _, _, _, _, _, _, _, _, rfl, rfl, g2⟩
  · rintro _ _ ⟨F, v2, v3, v4, v5, v6, v7, v8, v9, v10, rfl, rfl, hF⟩
    have e0 : zst M 81 F 48 0 = (S : Int) := hS0
    rw [k_Md_solve_1]
    simp (disch := first | omega | exact Nat.le_of_ble_eq_true rfl | assumption | (simp only [Int.natCast_add, Int.natCast_mul, Int.cast_ofNat_Int]; omega) | decide) only [k_Md_solve_15, x_aload, x_getf, w_goto, w_fall, w_iadd, w_iconst, w_if, w_icmp, x_iinc, x_iload, w_imul, x_istore, w_lcmp, w_ldiv, x_lload, w_lmul, x_lstore2, List.length_cons, List.length_nil, List.set_cons_succ, List.set_cons_zero, Nat.reduceLT, Nat.zero_add, w_lsub, w_sipush, zadd_eq, zmul_eq, gf_48_0, gf_48_43, ia_81, sa_81, w_vret r_Md_solve, q_eq, q_ne, q_lt, q_ge, q_gt, q_le, g_I, g_L, g_R, g_V, t_0, t_I, t_R, t_U, t_L, t_s, List.getElem?_cons_zero, List.getElem?_cons_succ, Nat.reduceAdd, zif10, zif01b, zib, if_pos, if_neg, ↓reduceIte, not_true_eq_false, not_false_eq_true, Bool.true_eq_false, Bool.false_eq_true, Classical.not_not, eq_self, and_self, and_true, true_and, Int.reduceEq, Int.reduceLE, Int.reduceLT, Int.reduceNeg, Option.toList, List.cons_append, List.nil_append, zup_s, zup_n, zst_s, zup_zs, zup_zn, decide_true, decide_false, e0]
    exact ⟨F, rfl, hF⟩
theorem c_Md_solve {d mi o b9 : Nat} {es : List zEnt} {L st : List zMV} {Q : Option zMV → (Nat → Int → Int) → Prop} (hS : S ≤ 12) (hS0 : M 48 0 = S) (h0 : zSg S A []) (hz : ∀ i j, i < S → S ≤ j → j < 12 → A i j = 0) (hA : ∀ i j : Nat, i < S → j < 13 → M 81 (13 * (i : Int) + j) = A i j) (hd : 2 + 1 ≤ d) (hc : zcats st ≤ 8) (hpost : ∀ r M', (r = none ∧ ∃ F, M' = zst M 81 F ∧ ∀ i : Nat, i < S → zRw A S i fun j => F (13 * (i : Int) + j)) → zW (zSH Ln) d mi es L (r.toList ++ st) M' Q) : zW (zSH Ln) d mi ((.invokevirtual o, 242, b9) :: es) L (zR 48 :: st) M Q :=
  w_callv (ps := []) (by omega) rfl rfl (by omega) (by exact sh_48 Ln) hc (Nat.le_of_ble_eq_true rfl) (F_Md_solve hS hS0 h0 hz hA (by omega)) hpost
end RE
