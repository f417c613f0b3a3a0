/-! rows of moves: does, all rows; the class -/
theorem zset_sb {S : Nat} (hS : S ≤ 30) {A B : Nat → Bool} : (zset S (fun i => A i && !B i) = 0) = (zsb S A B = true) := by
  rw [eq_iff_iff, zset_eq0 hS, zsb_iff]
  constructor
  · intro h s hs h2
    have := h s hs
    rw [h2, Bool.true_and, Bool.not_eq_false'] at this
    exact this
  · intro h s hs
    cases e : A s with
    | false => rfl
    | true => rw [h s hs e]; rfl
section BL
variable {Ln S P : Nat} {mv tg hp rw0 : Nat → Nat → Nat} {M : Nat → Int → Int} {gi : Int} {N : Nat → Nat → Bool}
theorem F_Bl_endsOfAll {d : Nat} {F : Nat → Bool} (hS : S ≤ 12) (hC : zNetC S P mv tg M) (hE : ∀ s : Nat, s < S → F s = true → M 35 (s : Int) = zset S (N s)) (hd : 1 ≤ d) : zF (zSH Ln) d i_Bl_endsOfAll [zR 32, zI (zset S F)] M fun r M' => r = some (zI (zset S fun t => zan S fun s => F s && N s t)) ∧ M' = M := by
  rw [zF_en k_Bl_endsOfAll_0 (L := [zR 32, zI (zset S F), zU, zU]) rfl]
  simp (disch := first | omega | exact Nat.le_of_ble_eq_true rfl | assumption | (simp only [Int.natCast_add, Int.natCast_mul, Int.cast_ofNat_Int]; omega) | decide) only [x_aload, x_getf, w_goto, w_fall, w_iconst, w_if, w_icmp, x_iinc, x_iload, w_ior, x_istore, zadd_eq, gf_32_0, gf_32_4, gf_3_0, at_35, ao_35, w_nret r_Bl_endsOfAll, q_eq, q_ne, q_lt, q_ge, q_gt, q_le, g_I, g_L, g_R, g_V, t_0, t_I, t_R, t_U, t_L, t_s, List.getElem?_cons_zero, List.getElem?_cons_succ, Nat.reduceAdd, zif10, zif01b, zib, if_pos, if_neg, reduceIte, not_true_eq_false, not_false_eq_true, Bool.true_eq_false, Bool.false_eq_true, Classical.not_not, eq_self, and_self, and_true, true_and, Int.reduceEq, Int.reduceLE, Int.reduceLT, Int.reduceNeg, Option.toList, List.cons_append, List.nil_append, zup_s, zup_n, zst_s, zup_zs, zup_zn, decide_true, decide_false]
  refine zfor (a := 0) (N := S) (b := 1) (fun p L0 M0 => L0 = [zR 32, zI (zset S F), zI (zset S fun t => zan p fun s => F s && N s t), zI (p : Int)] ∧ M0 = M) ?_ ?_ ?_ ?_
  · exact Nat.zero_le _
  · exact ⟨by simp [zan, zset_none], rfl⟩
  · rintro p _ M _ hp ⟨rfl, rfl⟩ ih
    rw [k_Bl_endsOfAll_1]
    cases hf : F p
    · simp (disch := first | omega | exact Nat.le_of_ble_eq_true rfl | assumption | (simp only [Int.natCast_add, Int.natCast_mul, Int.cast_ofNat_Int]; omega) | decide) only [k_Bl_endsOfAll_2, k_Bl_endsOfAll_4, x_aload, x_getf, w_goto, w_fall, w_iconst, w_if, w_icmp, x_iinc, x_iload, w_ior, x_istore, zadd_eq, gf_32_0, gf_32_4, gf_3_0, at_35, ao_35, w_nret r_Bl_endsOfAll, q_eq, q_ne, q_lt, q_ge, q_gt, q_le, g_I, g_L, g_R, g_V, t_0, t_I, t_R, t_U, t_L, t_s, List.getElem?_cons_zero, List.getElem?_cons_succ, Nat.reduceAdd, zif10, zif01b, zib, if_pos, if_neg, reduceIte, not_true_eq_false, not_false_eq_true, Bool.true_eq_false, Bool.false_eq_true, Classical.not_not, eq_self, and_self, and_true, true_and, Int.reduceEq, Int.reduceLE, Int.reduceLT, Int.reduceNeg, Option.toList, List.cons_append, List.nil_append, zup_s, zup_n, zst_s, zup_zs, zup_zn, decide_true, decide_false, hC.1, c_hasS, hf]
      refine ih _ _ ⟨?_, rfl⟩
      simp [zan, hf]
    · have he := hE p hp hf
      simp (disch := first | omega | exact Nat.le_of_ble_eq_true rfl | assumption | (simp only [Int.natCast_add, Int.natCast_mul, Int.cast_ofNat_Int]; omega) | decide) only [k_Bl_endsOfAll_2, k_Bl_endsOfAll_3, k_Bl_endsOfAll_4, x_aload, x_getf, w_goto, w_fall, w_iconst, w_if, w_icmp, x_iinc, x_iload, w_ior, x_istore, zadd_eq, gf_32_0, gf_32_4, gf_3_0, at_35, ao_35, w_nret r_Bl_endsOfAll, q_eq, q_ne, q_lt, q_ge, q_gt, q_le, g_I, g_L, g_R, g_V, t_0, t_I, t_R, t_U, t_L, t_s, List.getElem?_cons_zero, List.getElem?_cons_succ, Nat.reduceAdd, zif10, zif01b, zib, if_pos, if_neg, reduceIte, not_true_eq_false, not_false_eq_true, Bool.true_eq_false, Bool.false_eq_true, Classical.not_not, eq_self, and_self, and_true, true_and, Int.reduceEq, Int.reduceLE, Int.reduceLT, Int.reduceNeg, Option.toList, List.cons_append, List.nil_append, zup_s, zup_n, zst_s, zup_zs, zup_zn, decide_true, decide_false, hC.1, c_hasS, hf, he, zset_or]
      refine ih _ _ ⟨?_, rfl⟩
      simp [zan, hf]
  · rintro _ M ⟨rfl, rfl⟩
    rw [k_Bl_endsOfAll_1]
    simp (disch := first | omega | exact Nat.le_of_ble_eq_true rfl | assumption | (simp only [Int.natCast_add, Int.natCast_mul, Int.cast_ofNat_Int]; omega) | decide) only [k_Bl_endsOfAll_5, x_aload, x_getf, w_goto, w_fall, w_iconst, w_if, w_icmp, x_iinc, x_iload, w_ior, x_istore, zadd_eq, gf_32_0, gf_32_4, gf_3_0, at_35, ao_35, w_nret r_Bl_endsOfAll, q_eq, q_ne, q_lt, q_ge, q_gt, q_le, g_I, g_L, g_R, g_V, t_0, t_I, t_R, t_U, t_L, t_s, List.getElem?_cons_zero, List.getElem?_cons_succ, Nat.reduceAdd, zif10, zif01b, zib, if_pos, if_neg, reduceIte, not_true_eq_false, not_false_eq_true, Bool.true_eq_false, Bool.false_eq_true, Classical.not_not, eq_self, and_self, and_true, true_and, Int.reduceEq, Int.reduceLE, Int.reduceLT, Int.reduceNeg, Option.toList, List.cons_append, List.nil_append, zup_s, zup_n, zst_s, zup_zs, zup_zn, decide_true, decide_false, hC.1]
theorem c_Bl_endsOfAll {d mi o b9 : Nat} {es : List zEnt} {L st : List zMV} {Q : Option zMV → (Nat → Int → Int) → Prop} {F : Nat → Bool} (hS : S ≤ 12) (hC : zNetC S P mv tg M) (hE : ∀ s : Nat, s < S → F s = true → M 35 (s : Int) = zset S (N s)) (hd : 1 + 1 ≤ d) (hc : zcats st ≤ 8) : zW (zSH Ln) d mi ((.invokevirtual o, 9, b9) :: es) L (zI (zset S F) :: zR 32 :: st) M Q = zW (zSH Ln) d mi es L (zI (zset S fun t => zan S fun s => F s && N s t) :: st) (M) Q :=
  c_virt (ps := [zI (zset S F)]) (by omega) rfl rfl (by omega) (by exact sh_32 Ln) hc (Nat.le_of_ble_eq_true rfl) (F_Bl_endsOfAll hS hC hE (by omega))
theorem F_Bl_sure {d : Nat} {W X : Nat → Bool} (hS : S ≤ 12) (hC : zNetC S P mv tg M) (hE : ∀ s : Nat, s < S → W s = true → M 35 (s : Int) = zset S (N s)) (hd : 1 ≤ d) : zF (zSH Ln) d i_Bl_sure [zR 32, zI (zset S W), zI (zset S X)] M fun r M' => r = some (zI (zset S (zSu S N W X 12))) ∧ M' = M := by
  rw [zF_en k_Bl_sure_0 (L := [zR 32, zI (zset S W), zI (zset S X), zU, zU, zU]) rfl]
  simp (disch := first | omega | exact Nat.le_of_ble_eq_true rfl | assumption | (simp only [Int.natCast_add, Int.natCast_mul, Int.cast_ofNat_Int]; omega) | decide) only [x_aload, x_getf, w_goto, w_fall, w_iand, w_iconst, w_if, w_icmp, x_iinc, x_iload, w_ior, w_ishl, x_istore, w_ixor, zadd_eq, gf_32_0, gf_32_4, gf_3_0, at_35, ao_35, w_nret r_Bl_sure, q_eq, q_ne, q_lt, q_ge, q_gt, q_le, g_I, g_L, g_R, g_V, t_0, t_I, t_R, t_U, t_L, t_s, List.getElem?_cons_zero, List.getElem?_cons_succ, Nat.reduceAdd, zif10, zif01b, zib, if_pos, if_neg, reduceIte, not_true_eq_false, not_false_eq_true, Bool.true_eq_false, Bool.false_eq_true, Classical.not_not, eq_self, and_self, and_true, true_and, Int.reduceEq, Int.reduceLE, Int.reduceLT, Int.reduceNeg, Option.toList, List.cons_append, List.nil_append, zup_s, zup_n, zst_s, zup_zs, zup_zn, decide_true, decide_false]
  refine zfor (a := 0) (N := 12) (b := 1) (fun t L0 M0 => ∃ (Y : Nat → Bool) (v5 : zMV), L0 = [zR 32, zI (zset S W), zI (zset S X), zI (zset S Y), zI (t : Int), v5] ∧ M0 = M ∧ zleS S (zSu S N W X t) Y ∧ zleS S Y (zSu S N W X 12)) ?_ ?_ ?_ ?_
  · exact Nat.zero_le _
  · exact ⟨X, zU, rfl, rfl, fun _ _ h => h, zSu_in 12⟩
  · rintro t _ M _ ht ⟨Y, v5, rfl, rfl, i1, i2⟩ ih
    rw [k_Bl_sure_1]
    simp (disch := first | omega | exact Nat.le_of_ble_eq_true rfl | assumption | (simp only [Int.natCast_add, Int.natCast_mul, Int.cast_ofNat_Int]; omega) | decide) only [k_Bl_sure_2, x_aload, x_getf, w_goto, w_fall, w_iand, w_iconst, w_if, w_icmp, x_iinc, x_iload, w_ior, w_ishl, x_istore, w_ixor, zadd_eq, gf_32_0, gf_32_4, gf_3_0, at_35, ao_35, w_nret r_Bl_sure, q_eq, q_ne, q_lt, q_ge, q_gt, q_le, g_I, g_L, g_R, g_V, t_0, t_I, t_R, t_U, t_L, t_s, List.getElem?_cons_zero, List.getElem?_cons_succ, Nat.reduceAdd, zif10, zif01b, zib, if_pos, if_neg, reduceIte, not_true_eq_false, not_false_eq_true, Bool.true_eq_false, Bool.false_eq_true, Classical.not_not, eq_self, and_self, and_true, true_and, Int.reduceEq, Int.reduceLE, Int.reduceLT, Int.reduceNeg, Option.toList, List.cons_append, List.nil_append, zup_s, zup_n, zst_s, zup_zs, zup_zn, decide_true, decide_false]
    refine zfor (a := 0) (N := S) (b := 3) (fun p L0 M0 => ∃ (Z : Nat → Bool), L0 = [zR 32, zI (zset S W), zI (zset S X), zI (zset S Z), zI (t : Int), zI (p : Int)] ∧ M0 = M ∧ zleS S (zSu S N W X t) Z ∧ zleS S Z (zSu S N W X 12) ∧ ∀ s, s < p → zSu S N W X (t + 1) s = true → Z s = true) ?_ ?_ ?_ ?_
    · exact Nat.zero_le _
    · exact ⟨Y, rfl, rfl, i1, i2, fun s hs => by omega⟩
    · rintro p _ M _ hp ⟨Z, rfl, rfl, j1, j2, j3⟩ ih2
      have nxt : ∀ Z' : Nat → Bool, zleS S Z Z' → (W p = true → zleS S (N p) Z → Z' p = true) → ∀ s, s < p + 1 → zSu S N W X (t + 1) s = true → Z' s = true := by
        intro Z' h1 h2 s hs h
        by_cases e : s = p
        · subst e
          have h : (zSu S N W X t s || (W s && zsb S (N s) (zSu S N W X t))) = true := h
          rw [Bool.or_eq_true, Bool.and_eq_true] at h
          rcases h with h | h
          · exact h1 s hp (j1 s hp h)
          · exact h2 h.1 fun u hu h3 => j1 u hu (zsb_iff.mp h.2 u hu h3)
        · exact h1 s (by omega) (j3 s (by omega) h)
      rw [k_Bl_sure_3]
      cases hw : W p
      · simp (disch := first | omega | exact Nat.le_of_ble_eq_true rfl | assumption | (simp only [Int.natCast_add, Int.natCast_mul, Int.cast_ofNat_Int]; omega) | decide) only [k_Bl_sure_4, k_Bl_sure_7, x_aload, x_getf, w_goto, w_fall, w_iand, w_iconst, w_if, w_icmp, x_iinc, x_iload, w_ior, w_ishl, x_istore, w_ixor, zadd_eq, gf_32_0, gf_32_4, gf_3_0, at_35, ao_35, w_nret r_Bl_sure, q_eq, q_ne, q_lt, q_ge, q_gt, q_le, g_I, g_L, g_R, g_V, t_0, t_I, t_R, t_U, t_L, t_s, List.getElem?_cons_zero, List.getElem?_cons_succ, Nat.reduceAdd, zif10, zif01b, zib, if_pos, if_neg, reduceIte, not_true_eq_false, not_false_eq_true, Bool.true_eq_false, Bool.false_eq_true, Classical.not_not, eq_self, and_self, and_true, true_and, Int.reduceEq, Int.reduceLE, Int.reduceLT, Int.reduceNeg, Option.toList, List.cons_append, List.nil_append, zup_s, zup_n, zst_s, zup_zs, zup_zn, decide_true, decide_false, hC.1, c_hasS, hw]
        exact ih2 _ _ ⟨Z, rfl, rfl, j1, j2, nxt Z (fun _ _ h => h) (fun h => by rw [hw] at h; cases h)⟩
      · have he := hE p hp hw
        cases hsb : zsb S (N p) Z
        · simp (disch := first | omega | exact Nat.le_of_ble_eq_true rfl | assumption | (simp only [Int.natCast_add, Int.natCast_mul, Int.cast_ofNat_Int]; omega) | decide) only [k_Bl_sure_4, k_Bl_sure_5, k_Bl_sure_7, x_aload, x_getf, w_goto, w_fall, w_iand, w_iconst, w_if, w_icmp, x_iinc, x_iload, w_ior, w_ishl, x_istore, w_ixor, zadd_eq, gf_32_0, gf_32_4, gf_3_0, at_35, ao_35, w_nret r_Bl_sure, q_eq, q_ne, q_lt, q_ge, q_gt, q_le, g_I, g_L, g_R, g_V, t_0, t_I, t_R, t_U, t_L, t_s, List.getElem?_cons_zero, List.getElem?_cons_succ, Nat.reduceAdd, zif10, zif01b, zib, if_pos, if_neg, reduceIte, not_true_eq_false, not_false_eq_true, Bool.true_eq_false, Bool.false_eq_true, Classical.not_not, eq_self, and_self, and_true, true_and, Int.reduceEq, Int.reduceLE, Int.reduceLT, Int.reduceNeg, Option.toList, List.cons_append, List.nil_append, zup_s, zup_n, zst_s, zup_zs, zup_zn, decide_true, decide_false, hC.1, c_hasS, hw, he, zset_dif, zset_sb, hsb]
          exact ih2 _ _ ⟨Z, rfl, rfl, j1, j2, nxt Z (fun _ _ h => h) (fun _ h => by rw [zsb_iff.mpr h] at hsb; cases hsb)⟩
        · simp (disch := first | omega | exact Nat.le_of_ble_eq_true rfl | assumption | (simp only [Int.natCast_add, Int.natCast_mul, Int.cast_ofNat_Int]; omega) | decide) only [k_Bl_sure_4, k_Bl_sure_5, k_Bl_sure_6, k_Bl_sure_7, x_aload, x_getf, w_goto, w_fall, w_iand, w_iconst, w_if, w_icmp, x_iinc, x_iload, w_ior, w_ishl, x_istore, w_ixor, zadd_eq, gf_32_0, gf_32_4, gf_3_0, at_35, ao_35, w_nret r_Bl_sure, q_eq, q_ne, q_lt, q_ge, q_gt, q_le, g_I, g_L, g_R, g_V, t_0, t_I, t_R, t_U, t_L, t_s, List.getElem?_cons_zero, List.getElem?_cons_succ, Nat.reduceAdd, zif10, zif01b, zib, if_pos, if_neg, reduceIte, not_true_eq_false, not_false_eq_true, Bool.true_eq_false, Bool.false_eq_true, Classical.not_not, eq_self, and_self, and_true, true_and, Int.reduceEq, Int.reduceLE, Int.reduceLT, Int.reduceNeg, Option.toList, List.cons_append, List.nil_append, zup_s, zup_n, zst_s, zup_zs, zup_zn, decide_true, decide_false, hC.1, c_hasS, hw, he, zset_dif, zset_sb, hsb, zset_up]
          refine ih2 _ _ ⟨_, rfl, rfl, fun s hs h => by simp [j1 s hs h], fun s hs h => ?_, nxt _ (fun s _ h => by simp [h]) (fun _ _ => by simp)⟩
          simp only [Bool.or_eq_true] at h
          rcases h with h | h
          · exact j2 s hs h
          · have := of_decide_eq_true h
            subst this
            exact zSu_fix hS hs hw fun u hu h3 => j2 u hu (zsb_iff.mp hsb u hu h3)
    · rintro _ M ⟨Z, rfl, rfl, j1, j2, j3⟩
      rw [k_Bl_sure_3]
      simp (disch := first | omega | exact Nat.le_of_ble_eq_true rfl | assumption | (simp only [Int.natCast_add, Int.natCast_mul, Int.cast_ofNat_Int]; omega) | decide) only [k_Bl_sure_8, x_aload, x_getf, w_goto, w_fall, w_iand, w_iconst, w_if, w_icmp, x_iinc, x_iload, w_ior, w_ishl, x_istore, w_ixor, zadd_eq, gf_32_0, gf_32_4, gf_3_0, at_35, ao_35, w_nret r_Bl_sure, q_eq, q_ne, q_lt, q_ge, q_gt, q_le, g_I, g_L, g_R, g_V, t_0, t_I, t_R, t_U, t_L, t_s, List.getElem?_cons_zero, List.getElem?_cons_succ, Nat.reduceAdd, zif10, zif01b, zib, if_pos, if_neg, reduceIte, not_true_eq_false, not_false_eq_true, Bool.true_eq_false, Bool.false_eq_true, Classical.not_not, eq_self, and_self, and_true, true_and, Int.reduceEq, Int.reduceLE, Int.reduceLT, Int.reduceNeg, Option.toList, List.cons_append, List.nil_append, zup_s, zup_n, zst_s, zup_zs, zup_zn, decide_true, decide_false, hC.1]
      exact ih _ _ ⟨Z, _, rfl, rfl, fun s hs h => j3 s hs h, j2⟩
  · rintro _ M ⟨Y, v5, rfl, rfl, i1, i2⟩
    have e := zeqS_of i2 i1
    rw [k_Bl_sure_1]
    simp (disch := first | omega | exact Nat.le_of_ble_eq_true rfl | assumption | (simp only [Int.natCast_add, Int.natCast_mul, Int.cast_ofNat_Int]; omega) | decide) only [k_Bl_sure_9, x_aload, x_getf, w_goto, w_fall, w_iand, w_iconst, w_if, w_icmp, x_iinc, x_iload, w_ior, w_ishl, x_istore, w_ixor, zadd_eq, gf_32_0, gf_32_4, gf_3_0, at_35, ao_35, w_nret r_Bl_sure, q_eq, q_ne, q_lt, q_ge, q_gt, q_le, g_I, g_L, g_R, g_V, t_0, t_I, t_R, t_U, t_L, t_s, List.getElem?_cons_zero, List.getElem?_cons_succ, Nat.reduceAdd, zif10, zif01b, zib, if_pos, if_neg, reduceIte, not_true_eq_false, not_false_eq_true, Bool.true_eq_false, Bool.false_eq_true, Classical.not_not, eq_self, and_self, and_true, true_and, Int.reduceEq, Int.reduceLE, Int.reduceLT, Int.reduceNeg, Option.toList, List.cons_append, List.nil_append, zup_s, zup_n, zst_s, zup_zs, zup_zn, decide_true, decide_false]
    rw [zset_cong e]
theorem c_Bl_sure {d mi o b9 : Nat} {es : List zEnt} {L st : List zMV} {Q : Option zMV → (Nat → Int → Int) → Prop} {W X : Nat → Bool} (hS : S ≤ 12) (hC : zNetC S P mv tg M) (hE : ∀ s : Nat, s < S → W s = true → M 35 (s : Int) = zset S (N s)) (hd : 1 + 1 ≤ d) (hc : zcats st ≤ 8) : zW (zSH Ln) d mi ((.invokevirtual o, 11, b9) :: es) L (zI (zset S X) :: zI (zset S W) :: zR 32 :: st) M Q = zW (zSH Ln) d mi es L (zI (zset S (zSu S N W X 12)) :: st) (M) Q :=
  c_virt (ps := [zI (zset S W), zI (zset S X)]) (by omega) rfl rfl (by omega) (by exact sh_32 Ln) hc (Nat.le_of_ble_eq_true rfl) (F_Bl_sure hS hC hE (by omega))
theorem F_Bl_staying {d : Nat} {X : Nat → Bool} (hS : S ≤ 12) (hC : zNetC S P mv tg M) (hE : ∀ s : Nat, s < S → X s = true → M 35 (s : Int) = zset S (N s)) (hd : 1 ≤ d) : zF (zSH Ln) d i_Bl_staying [zR 32, zI (zset S X)] M fun r M' => r = some (zI (zset S (zSy S N X 12))) ∧ M' = M := by
  rw [zF_en k_Bl_staying_0 (L := [zR 32, zI (zset S X), zU, zU, zU]) rfl]
  simp (disch := first | omega | exact Nat.le_of_ble_eq_true rfl | assumption | (simp only [Int.natCast_add, Int.natCast_mul, Int.cast_ofNat_Int]; omega) | decide) only [x_aload, x_getf, w_goto, w_fall, w_iand, w_iconst, w_if, w_icmp, x_iinc, x_iload, w_ishl, x_istore, w_ixor, zadd_eq, gf_32_0, gf_32_4, gf_3_0, at_35, ao_35, w_nret r_Bl_staying, q_eq, q_ne, q_lt, q_ge, q_gt, q_le, g_I, g_L, g_R, g_V, t_0, t_I, t_R, t_U, t_L, t_s, List.getElem?_cons_zero, List.getElem?_cons_succ, Nat.reduceAdd, zif10, zif01b, zib, if_pos, if_neg, reduceIte, not_true_eq_false, not_false_eq_true, Bool.true_eq_false, Bool.false_eq_true, Classical.not_not, eq_self, and_self, and_true, true_and, Int.reduceEq, Int.reduceLE, Int.reduceLT, Int.reduceNeg, Option.toList, List.cons_append, List.nil_append, zup_s, zup_n, zst_s, zup_zs, zup_zn, decide_true, decide_false]
  refine zfor (a := 0) (N := 12) (b := 1) (fun t L0 M0 => ∃ (Y : Nat → Bool) (v4 : zMV), L0 = [zR 32, zI (zset S X), zI (zset S Y), zI (t : Int), v4] ∧ M0 = M ∧ zleS S Y (zSy S N X t) ∧ zleS S (zSy S N X 12) Y) ?_ ?_ ?_ ?_
  · exact Nat.zero_le _
  · exact ⟨X, zU, rfl, rfl, fun _ _ h => h, zSy_le 12⟩
  · rintro t _ M _ ht ⟨Y, v4, rfl, rfl, i1, i2⟩ ih
    rw [k_Bl_staying_1]
    simp (disch := first | omega | exact Nat.le_of_ble_eq_true rfl | assumption | (simp only [Int.natCast_add, Int.natCast_mul, Int.cast_ofNat_Int]; omega) | decide) only [k_Bl_staying_2, x_aload, x_getf, w_goto, w_fall, w_iand, w_iconst, w_if, w_icmp, x_iinc, x_iload, w_ishl, x_istore, w_ixor, zadd_eq, gf_32_0, gf_32_4, gf_3_0, at_35, ao_35, w_nret r_Bl_staying, q_eq, q_ne, q_lt, q_ge, q_gt, q_le, g_I, g_L, g_R, g_V, t_0, t_I, t_R, t_U, t_L, t_s, List.getElem?_cons_zero, List.getElem?_cons_succ, Nat.reduceAdd, zif10, zif01b, zib, if_pos, if_neg, reduceIte, not_true_eq_false, not_false_eq_true, Bool.true_eq_false, Bool.false_eq_true, Classical.not_not, eq_self, and_self, and_true, true_and, Int.reduceEq, Int.reduceLE, Int.reduceLT, Int.reduceNeg, Option.toList, List.cons_append, List.nil_append, zup_s, zup_n, zst_s, zup_zs, zup_zn, decide_true, decide_false]
    refine zfor (a := 0) (N := S) (b := 3) (fun p L0 M0 => ∃ (Z : Nat → Bool), L0 = [zR 32, zI (zset S X), zI (zset S Z), zI (t : Int), zI (p : Int)] ∧ M0 = M ∧ zleS S Z (zSy S N X t) ∧ zleS S (zSy S N X 12) Z ∧ ∀ s, s < p → Z s = true → zSy S N X (t + 1) s = true) ?_ ?_ ?_ ?_
    · exact Nat.zero_le _
    · exact ⟨Y, rfl, rfl, i1, i2, fun s hs => by omega⟩
    · rintro p _ M _ hp ⟨Z, rfl, rfl, j1, j2, j3⟩ ih2
      have nxt : ∀ Z' : Nat → Bool, zleS S Z' Z → (Z' p = true → ∃ u, u < S ∧ N p u = true ∧ Z u = true) → ∀ s, s < p + 1 → Z' s = true → zSy S N X (t + 1) s = true := by
        intro Z' h1 h2 s hs h
        by_cases e : s = p
        · subst e
          obtain ⟨u, h3, h4, h5⟩ := h2 h
          show (zSy S N X t s && zan S fun u => N s u && zSy S N X t u) = true
          rw [j1 s hp (h1 s hp h), Bool.true_and]
          exact (zan_iff _ _).mpr ⟨u, h3, by rw [h4, j1 u h3 h5]; rfl⟩
        · exact j3 s (by omega) (h1 s (by omega) h)
      rw [k_Bl_staying_3]
      cases hz : Z p
      · simp (disch := first | omega | exact Nat.le_of_ble_eq_true rfl | assumption | (simp only [Int.natCast_add, Int.natCast_mul, Int.cast_ofNat_Int]; omega) | decide) only [k_Bl_staying_4, k_Bl_staying_7, x_aload, x_getf, w_goto, w_fall, w_iand, w_iconst, w_if, w_icmp, x_iinc, x_iload, w_ishl, x_istore, w_ixor, zadd_eq, gf_32_0, gf_32_4, gf_3_0, at_35, ao_35, w_nret r_Bl_staying, q_eq, q_ne, q_lt, q_ge, q_gt, q_le, g_I, g_L, g_R, g_V, t_0, t_I, t_R, t_U, t_L, t_s, List.getElem?_cons_zero, List.getElem?_cons_succ, Nat.reduceAdd, zif10, zif01b, zib, if_pos, if_neg, reduceIte, not_true_eq_false, not_false_eq_true, Bool.true_eq_false, Bool.false_eq_true, Classical.not_not, eq_self, and_self, and_true, true_and, Int.reduceEq, Int.reduceLE, Int.reduceLT, Int.reduceNeg, Option.toList, List.cons_append, List.nil_append, zup_s, zup_n, zst_s, zup_zs, zup_zn, decide_true, decide_false, hC.1, c_hasS, hz]
        exact ih2 _ _ ⟨Z, rfl, rfl, j1, j2, nxt Z (fun _ _ h => h) (fun h => by rw [hz] at h; cases h)⟩
      · have hx : X p = true := zSy_le t p hp (j1 p hp hz)
        have he := hE p hp hx
        cases hsb : zan S fun i => N p i && Z i
        · simp (disch := first | omega | exact Nat.le_of_ble_eq_true rfl | assumption | (simp only [Int.natCast_add, Int.natCast_mul, Int.cast_ofNat_Int]; omega) | decide) only [k_Bl_staying_4, k_Bl_staying_5, k_Bl_staying_6, k_Bl_staying_7, x_aload, x_getf, w_goto, w_fall, w_iand, w_iconst, w_if, w_icmp, x_iinc, x_iload, w_ishl, x_istore, w_ixor, zadd_eq, gf_32_0, gf_32_4, gf_3_0, at_35, ao_35, w_nret r_Bl_staying, q_eq, q_ne, q_lt, q_ge, q_gt, q_le, g_I, g_L, g_R, g_V, t_0, t_I, t_R, t_U, t_L, t_s, List.getElem?_cons_zero, List.getElem?_cons_succ, Nat.reduceAdd, zif10, zif01b, zib, if_pos, if_neg, reduceIte, not_true_eq_false, not_false_eq_true, Bool.true_eq_false, Bool.false_eq_true, Classical.not_not, eq_self, and_self, and_true, true_and, Int.reduceEq, Int.reduceLE, Int.reduceLT, Int.reduceNeg, Option.toList, List.cons_append, List.nil_append, zup_s, zup_n, zst_s, zup_zs, zup_zn, decide_true, decide_false, hC.1, c_hasS, hz, he, zset_and, zset_n0, hsb, zset_one (n := S), zset_dif]
          refine ih2 _ _ ⟨_, rfl, rfl, fun s hs h => j1 s hs (by simp only [Bool.and_eq_true] at h; exact h.1), fun s hs h => ?_, nxt _ (fun s _ h => by simp only [Bool.and_eq_true] at h; exact h.1) (fun h => by simp at h)⟩
          simp only [Bool.and_eq_true, Bool.not_eq_true', decide_eq_false_iff_not]
          refine ⟨j2 s hs h, fun e => ?_⟩
          subst e
          obtain ⟨u, h3, h4, h5⟩ := zSy_fix hS hs h
          have : (zan S fun i => N s i && Z i) = true := (zan_iff _ _).mpr ⟨u, h3, by rw [h4, j2 u h3 h5]; rfl⟩
          rw [hsb] at this; cases this
        · simp (disch := first | omega | exact Nat.le_of_ble_eq_true rfl | assumption | (simp only [Int.natCast_add, Int.natCast_mul, Int.cast_ofNat_Int]; omega) | decide) only [k_Bl_staying_4, k_Bl_staying_5, k_Bl_staying_7, x_aload, x_getf, w_goto, w_fall, w_iand, w_iconst, w_if, w_icmp, x_iinc, x_iload, w_ishl, x_istore, w_ixor, zadd_eq, gf_32_0, gf_32_4, gf_3_0, at_35, ao_35, w_nret r_Bl_staying, q_eq, q_ne, q_lt, q_ge, q_gt, q_le, g_I, g_L, g_R, g_V, t_0, t_I, t_R, t_U, t_L, t_s, List.getElem?_cons_zero, List.getElem?_cons_succ, Nat.reduceAdd, zif10, zif01b, zib, if_pos, if_neg, reduceIte, not_true_eq_false, not_false_eq_true, Bool.true_eq_false, Bool.false_eq_true, Classical.not_not, eq_self, and_self, and_true, true_and, Int.reduceEq, Int.reduceLE, Int.reduceLT, Int.reduceNeg, Option.toList, List.cons_append, List.nil_append, zup_s, zup_n, zst_s, zup_zs, zup_zn, decide_true, decide_false, hC.1, c_hasS, hz, he, zset_and, zset_n0, hsb]
          obtain ⟨u, h3, h4⟩ := (zan_iff _ _).mp hsb
          rw [Bool.and_eq_true] at h4
          exact ih2 _ _ ⟨Z, rfl, rfl, j1, j2, nxt Z (fun _ _ h => h) (fun _ => ⟨u, h3, h4⟩)⟩
    · rintro _ M ⟨Z, rfl, rfl, j1, j2, j3⟩
      rw [k_Bl_staying_3]
      simp (disch := first | omega | exact Nat.le_of_ble_eq_true rfl | assumption | (simp only [Int.natCast_add, Int.natCast_mul, Int.cast_ofNat_Int]; omega) | decide) only [k_Bl_staying_8, x_aload, x_getf, w_goto, w_fall, w_iand, w_iconst, w_if, w_icmp, x_iinc, x_iload, w_ishl, x_istore, w_ixor, zadd_eq, gf_32_0, gf_32_4, gf_3_0, at_35, ao_35, w_nret r_Bl_staying, q_eq, q_ne, q_lt, q_ge, q_gt, q_le, g_I, g_L, g_R, g_V, t_0, t_I, t_R, t_U, t_L, t_s, List.getElem?_cons_zero, List.getElem?_cons_succ, Nat.reduceAdd, zif10, zif01b, zib, if_pos, if_neg, reduceIte, not_true_eq_false, not_false_eq_true, Bool.true_eq_false, Bool.false_eq_true, Classical.not_not, eq_self, and_self, and_true, true_and, Int.reduceEq, Int.reduceLE, Int.reduceLT, Int.reduceNeg, Option.toList, List.cons_append, List.nil_append, zup_s, zup_n, zst_s, zup_zs, zup_zn, decide_true, decide_false, hC.1]
      exact ih _ _ ⟨Z, _, rfl, rfl, fun s hs h => j3 s hs h, j2⟩
  · rintro _ M ⟨Y, v4, rfl, rfl, i1, i2⟩
    have e := zeqS_of i1 i2
    rw [k_Bl_staying_1]
    simp (disch := first | omega | exact Nat.le_of_ble_eq_true rfl | assumption | (simp only [Int.natCast_add, Int.natCast_mul, Int.cast_ofNat_Int]; omega) | decide) only [k_Bl_staying_9, x_aload, x_getf, w_goto, w_fall, w_iand, w_iconst, w_if, w_icmp, x_iinc, x_iload, w_ishl, x_istore, w_ixor, zadd_eq, gf_32_0, gf_32_4, gf_3_0, at_35, ao_35, w_nret r_Bl_staying, q_eq, q_ne, q_lt, q_ge, q_gt, q_le, g_I, g_L, g_R, g_V, t_0, t_I, t_R, t_U, t_L, t_s, List.getElem?_cons_zero, List.getElem?_cons_succ, Nat.reduceAdd, zif10, zif01b, zib, if_pos, if_neg, reduceIte, not_true_eq_false, not_false_eq_true, Bool.true_eq_false, Bool.false_eq_true, Classical.not_not, eq_self, and_self, and_true, true_and, Int.reduceEq, Int.reduceLE, Int.reduceLT, Int.reduceNeg, Option.toList, List.cons_append, List.nil_append, zup_s, zup_n, zst_s, zup_zs, zup_zn, decide_true, decide_false]
    rw [zset_cong e]
theorem c_Bl_staying {d mi o b9 : Nat} {es : List zEnt} {L st : List zMV} {Q : Option zMV → (Nat → Int → Int) → Prop} {X : Nat → Bool} (hS : S ≤ 12) (hC : zNetC S P mv tg M) (hE : ∀ s : Nat, s < S → X s = true → M 35 (s : Int) = zset S (N s)) (hd : 1 + 1 ≤ d) (hc : zcats st ≤ 8) : zW (zSH Ln) d mi ((.invokevirtual o, 10, b9) :: es) L (zI (zset S X) :: zR 32 :: st) M Q = zW (zSH Ln) d mi es L (zI (zset S (zSy S N X 12)) :: st) (M) Q :=
  c_virt (ps := [zI (zset S X)]) (by omega) rfl rfl (by omega) (by exact sh_32 Ln) hc (Nat.le_of_ble_eq_true rfl) (F_Bl_staying hS hC hE (by omega))
end BL
