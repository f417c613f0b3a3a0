/-! rows of moves: the class -/
def zown (m : Nat → Nat) (g : Nat → Bool) (dg : Nat → Nat) : Nat → Nat
  | 0 => 0
  | p + 1 => if g p = true then zown m g dg p * m p + dg p else zown m g dg p
theorem zown_lt {m : Nat → Nat} (hm : zmOK m) {g : Nat → Bool} {dg : Nat → Nat} : ∀ P, (∀ p, p < P → g p = true → dg p < m p) → zown m g dg P < zcnt m g P
  | 0, _ => by simp [zown, zcnt]
  | p + 1, h => by
    have ih := zown_lt hm p fun q hq => h q (by omega)
    unfold zown zcnt
    by_cases hg : g p = true
    · have h2 := h p (by omega) hg
      rw [if_pos hg, if_pos hg]
      calc zown m g dg p * m p + dg p < zown m g dg p * m p + m p := by omega
        _ = (zown m g dg p + 1) * m p := by rw [Nat.add_mul, Nat.one_mul]
        _ ≤ _ := Nat.mul_le_mul_right _ ih
    · rw [if_neg hg, if_neg hg, Nat.mul_one]; exact ih
/-- where a row may lead -/
def zN (P : Nat) (mv tg hp : Nat → Nat → Nat) (g : Nat → Bool) (rw0 : Nat → Nat → Nat) (s : Nat) : Nat → Bool := zend (mv s) (tg s) g P (zown (mv s) g (fun p => rw0 p (hp p s)) P)
def zRwC (rw0 : Nat → Nat → Nat) (M : Nat → Int → Int) : Prop := ∀ p h : Nat, p < 4 → h < 12 → M 33 ((p : Int) * 12 + h) = rw0 p h
def zRwOK (S P : Nat) (mv hp : Nat → Nat → Nat) (g : Nat → Bool) (rw0 : Nat → Nat → Nat) : Prop := ∀ p s, p < P → g p = true → s < S → rw0 p (hp p s) < mv s p
section BL
variable {Ln S P : Nat} {mv tg hp rw0 : Nat → Nat → Nat} {M : Nat → Int → Int} {gi : Int}
theorem F_Bl_endsBy {d : Nat} {s : Nat} (hN : zNet S P mv tg) (hC : zNetC S P mv tg M) (hH : zHpC hp M) (hhp : ∀ p s, hp p s < 12) (hT : zTabC S P mv tg (zbit gi) M) (hg : M 32 5 = gi) (hR : zRwC rw0 M) (hok : zRwOK S P mv hp (zbit gi) rw0) (hs : s < S) (hd : 2 ≤ d) : zF (zSH Ln) d i_Bl_endsBy [zR 32, zI (s : Int)] M fun r M' => r = some (zI (zset S (zN P mv tg hp (zbit gi) rw0 s))) ∧ M' = M := by
  rw [zF_en k_Bl_endsBy_0 (L := [zR 32, zI (s : Int), zU, zU, zU]) rfl]
  have hS := hN.2.1
  have hP := hN.2.2.2.1
  have hm := hN.2.2.2.2.1 s
  simp (disch := first | omega | exact Nat.le_of_ble_eq_true rfl | assumption | (simp only [Int.natCast_add, Int.natCast_mul, Int.cast_ofNat_Int]; omega) | decide) only [x_aload, x_getf, w_goto, w_fall, w_iadd, w_iconst, w_if, w_icmp, x_iinc, x_iload, w_imul, x_istore, zadd_eq, zmul_eq, gf_32_0, gf_32_1, gf_32_2, gf_32_5, gf_3_1, gf_3_3, gf_3_8, gf_15_1, at_4, ao_4, at_9, ao_9, at_16, ao_16, at_33, ao_33, w_nret r_Bl_endsBy, q_eq, q_ne, q_lt, q_ge, q_gt, q_le, g_I, g_L, g_R, g_V, t_0, t_I, t_R, t_U, t_L, t_s, List.getElem?_cons_zero, List.getElem?_cons_succ, Nat.reduceAdd, zif10, zif01b, zib, if_pos, if_neg, reduceIte, not_true_eq_false, not_false_eq_true, Bool.true_eq_false, Bool.false_eq_true, Classical.not_not, eq_self, and_self, and_true, true_and, Int.reduceEq, Int.reduceLE, Int.reduceLT, Int.reduceNeg, Option.toList, List.cons_append, List.nil_append, zup_s, zup_n, zst_s, zup_zs, zup_zn, decide_true, decide_false]
  refine zfor (a := 0) (N := P) (b := 1) (fun p L0 M0 => ∃ (v4 : zMV), L0 = [zR 32, zI s, zI (zown (mv s) (zbit gi) (fun p => rw0 p (hp p s)) p : Int), zI (p : Int), v4] ∧ M0 = M) ?_ ?_ ?_ ?_
  · exact Nat.zero_le _
  · exact ⟨zU, rfl, rfl⟩
  · rintro p _ M _ hp2 ⟨v4, rfl, rfl⟩ ih
    have hlt := zown_lt hm (g := zbit gi) (dg := fun p => rw0 p (hp p s)) p fun q hq hq2 => hok q s (by omega) hq2 hs
    have h81 := zcnt_81 hm (zbit gi) (show p ≤ 4 by omega)
    have hmp := hm p
    have h9 := hH p s (by omega) (by omega)
    have hh := hhp p s
    have h33 := hR p (hp p s) (by omega) hh
    have h4 := hC.2.2.1 s p (by omega) (by omega)
    rw [k_Bl_endsBy_1]
    cases hb : zbit gi p
    · simp (disch := first | omega | exact Nat.le_of_ble_eq_true rfl | assumption | (simp only [Int.natCast_add, Int.natCast_mul, Int.cast_ofNat_Int]; omega) | decide) only [k_Bl_endsBy_2, k_Bl_endsBy_4, x_aload, x_getf, w_goto, w_fall, w_iadd, w_iconst, w_if, w_icmp, x_iinc, x_iload, w_imul, x_istore, zadd_eq, zmul_eq, gf_32_0, gf_32_1, gf_32_2, gf_32_5, gf_3_1, gf_3_3, gf_3_8, gf_15_1, at_4, ao_4, at_9, ao_9, at_16, ao_16, at_33, ao_33, w_nret r_Bl_endsBy, q_eq, q_ne, q_lt, q_ge, q_gt, q_le, g_I, g_L, g_R, g_V, t_0, t_I, t_R, t_U, t_L, t_s, List.getElem?_cons_zero, List.getElem?_cons_succ, Nat.reduceAdd, zif10, zif01b, zib, if_pos, if_neg, reduceIte, not_true_eq_false, not_false_eq_true, Bool.true_eq_false, Bool.false_eq_true, Classical.not_not, eq_self, and_self, and_true, true_and, Int.reduceEq, Int.reduceLE, Int.reduceLT, Int.reduceNeg, Option.toList, List.cons_append, List.nil_append, zup_s, zup_n, zst_s, zup_zs, zup_zn, decide_true, decide_false, hC.2.1, hg, c_has, hb]
      refine ih _ _ ⟨v4, ?_, rfl⟩
      rw [zown, if_neg (by rw [hb]; decide)]; rfl
    · have hrk := hok p s hp2 hb hs
      have hmul : zown (mv s) (zbit gi) (fun p => rw0 p (hp p s)) p * mv s p ≤ 81 * 3 := Nat.mul_le_mul (by omega) hmp.2
      generalize hzo : zown (mv s) (zbit gi) (fun p => rw0 p (hp p s)) p = zo at hlt hmul ih ⊢
      generalize hrw : rw0 p (hp p s) = rr at h33 hrk
      have ez : zmul (zo : Int) (mv s p : Int) = ((zo * mv s p : Nat) : Int) := zmul_nat (by omega)
      generalize hmm : zo * mv s p = zm at hmul ez
      simp (disch := first | omega | exact Nat.le_of_ble_eq_true rfl | assumption | (simp only [Int.natCast_add, Int.natCast_mul, Int.cast_ofNat_Int]; omega) | decide) only [k_Bl_endsBy_2, k_Bl_endsBy_3, k_Bl_endsBy_4, x_aload, x_getf, w_goto, w_fall, w_iadd, w_iconst, w_if, w_icmp, x_iinc, x_iload, w_imul, x_istore, zadd_eq, zmul_eq, gf_32_0, gf_32_1, gf_32_2, gf_32_5, gf_3_1, gf_3_3, gf_3_8, gf_15_1, at_4, ao_4, at_9, ao_9, at_16, ao_16, at_33, ao_33, w_nret r_Bl_endsBy, q_eq, q_ne, q_lt, q_ge, q_gt, q_le, g_I, g_L, g_R, g_V, t_0, t_I, t_R, t_U, t_L, t_s, List.getElem?_cons_zero, List.getElem?_cons_succ, Nat.reduceAdd, zif10, zif01b, zib, if_pos, if_neg, reduceIte, not_true_eq_false, not_false_eq_true, Bool.true_eq_false, Bool.false_eq_true, Classical.not_not, eq_self, and_self, and_true, true_and, Int.reduceEq, Int.reduceLE, Int.reduceLT, Int.reduceNeg, Option.toList, List.cons_append, List.nil_append, zup_s, zup_n, zst_s, zup_zs, zup_zn, decide_true, decide_false, hC.2.1, hg, c_has, hb, gf_3_8, gf_3_3, at_9, h9, h33, at_4, h4, ez]
      refine ih _ _ ⟨zI (rr : Int), ?_, rfl⟩
      rw [zown, if_pos hb, hzo, hrw]; simp
  · rintro _ M ⟨v4, rfl, rfl⟩
    have hlt := zown_lt hm (g := zbit gi) (dg := fun p => rw0 p (hp p s)) P fun q hq hq2 => hok q s hq hq2 hs
    have h81 := zcnt_81 hm (zbit gi) hP
    have h16 := hT.2 s _ hs hlt
    rw [k_Bl_endsBy_1]
    simp (disch := first | omega | exact Nat.le_of_ble_eq_true rfl | assumption | (simp only [Int.natCast_add, Int.natCast_mul, Int.cast_ofNat_Int]; omega) | decide) only [k_Bl_endsBy_5, x_aload, x_getf, w_goto, w_fall, w_iadd, w_iconst, w_if, w_icmp, x_iinc, x_iload, w_imul, x_istore, zadd_eq, zmul_eq, gf_32_0, gf_32_1, gf_32_2, gf_32_5, gf_3_1, gf_3_3, gf_3_8, gf_15_1, at_4, ao_4, at_9, ao_9, at_16, ao_16, at_33, ao_33, w_nret r_Bl_endsBy, q_eq, q_ne, q_lt, q_ge, q_gt, q_le, g_I, g_L, g_R, g_V, t_0, t_I, t_R, t_U, t_L, t_s, List.getElem?_cons_zero, List.getElem?_cons_succ, Nat.reduceAdd, zif10, zif01b, zib, if_pos, if_neg, reduceIte, not_true_eq_false, not_false_eq_true, Bool.true_eq_false, Bool.false_eq_true, Classical.not_not, eq_self, and_self, and_true, true_and, Int.reduceEq, Int.reduceLE, Int.reduceLT, Int.reduceNeg, Option.toList, List.cons_append, List.nil_append, zup_s, zup_n, zst_s, zup_zs, zup_zn, decide_true, decide_false, hC.2.1, gf_15_1, at_16, h16]
    rfl
theorem c_Bl_endsBy {d mi o b9 : Nat} {es : List zEnt} {L st : List zMV} {Q : Option zMV → (Nat → Int → Int) → Prop} {s : Nat} (hN : zNet S P mv tg) (hC : zNetC S P mv tg M) (hH : zHpC hp M) (hhp : ∀ p s, hp p s < 12) (hT : zTabC S P mv tg (zbit gi) M) (hg : M 32 5 = gi) (hR : zRwC rw0 M) (hok : zRwOK S P mv hp (zbit gi) rw0) (hs : s < S) (hd : 2 + 1 ≤ d) (hc : zcats st ≤ 8) : zW (zSH Ln) d mi ((.invokevirtual o, 8, b9) :: es) L (zI (s : Int) :: zR 32 :: st) M Q = zW (zSH Ln) d mi es L (zI (zset S (zN P mv tg hp (zbit gi) rw0 s)) :: st) (M) Q :=
  c_virt (ps := [zI (s : Int)]) (by omega) rfl rfl (by omega) (by exact sh_32 Ln) hc (Nat.le_of_ble_eq_true rfl) (F_Bl_endsBy hN hC hH hhp hT hg hR hok hs (by omega))
theorem F_Bl_spread {d : Nat} {F : Nat → Bool} (hN : zNet S P mv tg) (hC : zNetC S P mv tg M) (hH : zHpC hp M) (hhp : ∀ p s, hp p s < 12) (hT : zTabC S P mv tg (zbit gi) M) (hg : M 32 5 = gi) (hR : zRwC rw0 M) (hok : zRwOK S P mv hp (zbit gi) rw0) (hd : 3 ≤ d) : zF (zSH Ln) d i_Bl_spread [zR 32, zI (zset S F)] M fun r M' => r = some (zI (zset S (zRc S (zN P mv tg hp (zbit gi) rw0) F 12))) ∧ ∃ E, M' = zst M 35 E ∧ ∀ s : Nat, s < S → zRc S (zN P mv tg hp (zbit gi) rw0) F 12 s = true → E (s : Int) = zset S (zN P mv tg hp (zbit gi) rw0 s) := by
  rw [zF_en k_Bl_spread_0 (L := [zR 32, zI (zset S F), zU, zU, zU, zU, zU]) rfl]
  have hS := hN.2.1
  have hC1 : ∀ E, zNetC S P mv tg (zst M 35 E) := fun _ => hC
  have hH1 : ∀ E, zHpC hp (zst M 35 E) := fun _ => hH
  have hT1 : ∀ E, zTabC S P mv tg (zbit gi) (zst M 35 E) := fun _ => hT
  have hg1 : ∀ E, zst M 35 E 32 5 = gi := fun _ => hg
  have hR1 : ∀ E, zRwC rw0 (zst M 35 E) := fun _ => hR
  generalize hNN : zN P mv tg hp (zbit gi) rw0 = N
  have fin : ∀ (met : Nat → Bool) (E : Int → Int) (v3 v4 v5 v6 : zMV), zleS S F met → zclo S N met → zleS S met (zRc S N F 12) → (∀ x : Nat, x < S → met x = true → E (x : Int) = zset S (N x)) → zW (zSH Ln) d i_Bl_spread (zblk i_Bl_spread 4) [zR 32, zI (zset S F), zI (zset S met), v3, v4, v5, v6] [] (zst M 35 E) fun r M' => r = some (zI (zset S (zRc S N F 12))) ∧ ∃ E, M' = zst M 35 E ∧ ∀ s : Nat, s < S → zRc S N F 12 s = true → E (s : Int) = zset S (N s) := by
    intro met E v3 v4 v5 v6 h1 h2 h3 h4
    have he := zRc_is hS h1 h2 h3
    rw [k_Bl_spread_4]
    simp (disch := first | omega | exact Nat.le_of_ble_eq_true rfl | assumption | (simp only [Int.natCast_add, Int.natCast_mul, Int.cast_ofNat_Int]; omega) | decide) only [x_aload, x_getf, w_goto, w_fall, w_iand, w_iconst, w_if, w_icmp, x_iinc, x_iload, w_ior, w_ishl, x_istore, w_ixor, zadd_eq, gf_32_4, pu_35, w_nret r_Bl_spread, q_eq, q_ne, q_lt, q_ge, q_gt, q_le, g_I, g_L, g_R, g_V, t_0, t_I, t_R, t_U, t_L, t_s, List.getElem?_cons_zero, List.getElem?_cons_succ, Nat.reduceAdd, zif10, zif01b, zib, if_pos, if_neg, reduceIte, not_true_eq_false, not_false_eq_true, Bool.true_eq_false, Bool.false_eq_true, Classical.not_not, eq_self, and_self, and_true, true_and, Int.reduceEq, Int.reduceLE, Int.reduceLT, Int.reduceNeg, Option.toList, List.cons_append, List.nil_append, zup_s, zup_n, zst_s, zup_zs, zup_zn, decide_true, decide_false]
    exact ⟨by rw [zset_cong he], E, rfl, fun s hs h => h4 s hs (by rw [he s hs]; exact h)⟩
  simp (disch := first | omega | exact Nat.le_of_ble_eq_true rfl | assumption | (simp only [Int.natCast_add, Int.natCast_mul, Int.cast_ofNat_Int]; omega) | decide) only [x_aload, x_getf, w_goto, w_fall, w_iand, w_iconst, w_if, w_icmp, x_iinc, x_iload, w_ior, w_ishl, x_istore, w_ixor, zadd_eq, gf_32_4, pu_35, w_nret r_Bl_spread, q_eq, q_ne, q_lt, q_ge, q_gt, q_le, g_I, g_L, g_R, g_V, t_0, t_I, t_R, t_U, t_L, t_s, List.getElem?_cons_zero, List.getElem?_cons_succ, Nat.reduceAdd, zif10, zif01b, zib, if_pos, if_neg, reduceIte, not_true_eq_false, not_false_eq_true, Bool.true_eq_false, Bool.false_eq_true, Classical.not_not, eq_self, and_self, and_true, true_and, Int.reduceEq, Int.reduceLE, Int.reduceLT, Int.reduceNeg, Option.toList, List.cons_append, List.nil_append, zup_s, zup_n, zst_s, zup_zs, zup_zn, decide_true, decide_false]
  refine zfor (a := 0) (N := 12) (b := 1) (fun t L0 M0 => ∃ (met : Nat → Bool) (opn : Nat → Bool) (E : Int → Int) (v5 : zMV) (v6 : zMV), L0 = [zR 32, zI (zset S F), zI (zset S met), zI (zset S opn), zI (t : Int), v5, v6] ∧ M0 = zst M 35 E ∧ zleS S F met ∧ zleS S opn met ∧ (∀ x y, x < S → y < S → met x = true → opn x = false → N x y = true → met y = true) ∧ zleS S met (zRc S N F 12) ∧ t ≤ zcard S (fun x => met x && !opn x) ∧ ∀ x : Nat, x < S → met x = true → opn x = false → E (x : Int) = zset S (N x)) ?_ ?_ ?_ ?_
  · exact Nat.zero_le _
  · exact ⟨F, F, M 35, zU, zU, rfl, (zst_id _ _).symm, fun _ _ h => h, fun _ _ h => h, fun x y _ _ h1 h2 _ => Bool.noConfusion (h1.symm.trans h2), zRc_in 12, Nat.zero_le _, fun x _ h1 h2 => Bool.noConfusion (h1.symm.trans h2)⟩
  · rintro t _ _ _ ht ⟨met, opn, E, v5, v6, rfl, rfl, i1, i2, i3, i4, i5, i6⟩ ih
    rw [k_Bl_spread_1]
    by_cases hz : zset S opn = 0
    · have h0 := (zset_eq0 (by omega)).mp hz
      simp (disch := first | omega | exact Nat.le_of_ble_eq_true rfl | assumption | (simp only [Int.natCast_add, Int.natCast_mul, Int.cast_ofNat_Int]; omega) | decide) only [k_Bl_spread_2, x_aload, x_getf, w_goto, w_fall, w_iand, w_iconst, w_if, w_icmp, x_iinc, x_iload, w_ior, w_ishl, x_istore, w_ixor, zadd_eq, gf_32_4, pu_35, w_nret r_Bl_spread, q_eq, q_ne, q_lt, q_ge, q_gt, q_le, g_I, g_L, g_R, g_V, t_0, t_I, t_R, t_U, t_L, t_s, List.getElem?_cons_zero, List.getElem?_cons_succ, Nat.reduceAdd, zif10, zif01b, zib, if_pos, if_neg, reduceIte, not_true_eq_false, not_false_eq_true, Bool.true_eq_false, Bool.false_eq_true, Classical.not_not, eq_self, and_self, and_true, true_and, Int.reduceEq, Int.reduceLE, Int.reduceLT, Int.reduceNeg, Option.toList, List.cons_append, List.nil_append, zup_s, zup_n, zst_s, zup_zs, zup_zn, decide_true, decide_false, hz]
      exact fin met E _ _ _ _ i1 (fun x y hx hy h1 h2 => i3 x y hx hy h1 (h0 x hx) h2) i4 (fun x hx h1 => i6 x hx h1 (h0 x hx))
    · have hx0 : zfst S opn < S := by
        rcases Nat.lt_or_ge (zfst S opn) S with h3 | h3
        · exact h3
        · exact absurd ((zset_eq0 (by omega)).mpr fun i hi => zfst_no S opn i (by omega)) hz
      have hox := zfst_yes S opn hx0
      generalize hx : zfst S opn = x0 at hx0 hox
      have hmx := i2 x0 hx0 hox
      have hpc : zcard S (fun x => met x && !opn x) + 1 ≤ zcard S (fun x => (met x && !opn x) || decide (x = x0)) := zcard_up hx0 (by simp [hox])
      have heb := congrFun hNN x0
      simp (disch := first | omega | exact Nat.le_of_ble_eq_true rfl | assumption | (simp only [Int.natCast_add, Int.natCast_mul, Int.cast_ofNat_Int]; omega) | decide) only [k_Bl_spread_2, k_Bl_spread_3, x_aload, x_getf, w_goto, w_fall, w_iand, w_iconst, w_if, w_icmp, x_iinc, x_iload, w_ior, w_ishl, x_istore, w_ixor, zadd_eq, gf_32_4, pu_35, w_nret r_Bl_spread, q_eq, q_ne, q_lt, q_ge, q_gt, q_le, g_I, g_L, g_R, g_V, t_0, t_I, t_R, t_U, t_L, t_s, List.getElem?_cons_zero, List.getElem?_cons_succ, Nat.reduceAdd, zif10, zif01b, zib, if_pos, if_neg, reduceIte, not_true_eq_false, not_false_eq_true, Bool.true_eq_false, Bool.false_eq_true, Classical.not_not, eq_self, and_self, and_true, true_and, Int.reduceEq, Int.reduceLE, Int.reduceLT, Int.reduceNeg, Option.toList, List.cons_append, List.nil_append, zup_s, zup_n, zst_s, zup_zs, zup_zn, decide_true, decide_false, hz, c_FN_lowest hS hz, hx, zset_one (n := S), zset_dif, c_Bl_endsBy hN (hC1 _) (hH1 _) hhp (hT1 _) (hg1 _) (hR1 _) hok hx0, heb, zset_or]
      have hcd : zcard S (fun x => (met x || N x0 x) && !(opn x && !decide (x = x0) || N x0 x && !met x)) = zcard S (fun x => (met x && !opn x) || decide (x = x0)) := by
        have : zeqS S (fun x => (met x || N x0 x) && !(opn x && !decide (x = x0) || N x0 x && !met x)) (fun x => (met x && !opn x) || decide (x = x0)) := fun x hxs => by
          dsimp only
          by_cases e : x = x0
          · subst e; simp [hmx]
          · simp only [e, decide_false, Bool.not_false, Bool.and_true, Bool.or_false]
            have h2 := i2 x hxs
            cases h3 : met x <;> cases h4 : opn x <;> cases h5 : N x0 x <;> simp [h3, h4] at h2 ⊢
        exact Nat.le_antisymm (zcard_mono _ this.le) (zcard_mono _ this.sy.le)
      refine ih _ _ ⟨_, _, _, _, _, rfl, rfl, fun j hj h => ?_, fun j hj h => ?_, fun x y h1 h2 h3 h4 h5 => ?_, fun j hj h => ?_, by rw [hcd]; omega, fun x hxs h1 h2 => ?_⟩
      · simp [i1 j hj h]
      · simp only [Bool.or_eq_true, Bool.and_eq_true] at h ⊢
        rcases h with h | h
        · exact Or.inl (i2 j hj h.1)
        · exact Or.inr h.1
      · simp only [Bool.or_eq_true, Bool.or_eq_false_iff, Bool.and_eq_false_iff, Bool.not_eq_false'] at h3 h4 ⊢
        by_cases e : x = x0
        · subst e; exact Or.inr h5
        · have hmet : met x = true := by
            rcases h3 with h3 | h3
            · exact h3
            · rcases h4.2 with h6 | h6
              · rw [h3] at h6; cases h6
              · exact h6
          refine Or.inl (i3 x y h1 h2 hmet ?_ h5)
          rcases h4.1 with h6 | h6
          · exact h6
          · exact absurd (of_decide_eq_true h6) e
      · simp only [Bool.or_eq_true] at h
        rcases h with h | h
        · exact i4 j hj h
        · exact zRc_cl hS x0 j hx0 hj (i4 x0 hx0 hmx) h
      · by_cases e : x = x0
        · subst e; rw [zf_s]
        · rw [zf_n (by omega)]
          simp only [Bool.or_eq_true, Bool.or_eq_false_iff, Bool.and_eq_false_iff, Bool.not_eq_false'] at h1 h2
          have hmet : met x = true := by
            rcases h1 with h3 | h3
            · exact h3
            · rcases h2.2 with h6 | h6
              · rw [h3] at h6; cases h6
              · exact h6
          refine i6 x hxs hmet ?_
          rcases h2.1 with h6 | h6
          · exact h6
          · exact absurd (of_decide_eq_true h6) e
  · rintro _ _ ⟨met, opn, E, v5, v6, rfl, rfl, i1, i2, i3, i4, i5, i6⟩
    have hall := zcard_eq S (f := fun x => met x && !opn x) (g := fun _ => true) (fun _ _ _ => rfl) (Nat.le_trans (zcard_le S _) (by omega))
    have h0 : ∀ x, x < S → opn x = false := fun x hx => by
      have := hall x hx
      simp only [Bool.and_eq_true, Bool.not_eq_true'] at this
      exact this.2
    rw [k_Bl_spread_1]
    simp (disch := first | omega | exact Nat.le_of_ble_eq_true rfl | assumption | (simp only [Int.natCast_add, Int.natCast_mul, Int.cast_ofNat_Int]; omega) | decide) only [x_aload, x_getf, w_goto, w_fall, w_iand, w_iconst, w_if, w_icmp, x_iinc, x_iload, w_ior, w_ishl, x_istore, w_ixor, zadd_eq, gf_32_4, pu_35, w_nret r_Bl_spread, q_eq, q_ne, q_lt, q_ge, q_gt, q_le, g_I, g_L, g_R, g_V, t_0, t_I, t_R, t_U, t_L, t_s, List.getElem?_cons_zero, List.getElem?_cons_succ, Nat.reduceAdd, zif10, zif01b, zib, if_pos, if_neg, reduceIte, not_true_eq_false, not_false_eq_true, Bool.true_eq_false, Bool.false_eq_true, Classical.not_not, eq_self, and_self, and_true, true_and, Int.reduceEq, Int.reduceLE, Int.reduceLT, Int.reduceNeg, Option.toList, List.cons_append, List.nil_append, zup_s, zup_n, zst_s, zup_zs, zup_zn, decide_true, decide_false]
    exact fin met E _ _ _ _ i1 (fun x y hx hy h1 h2 => i3 x y hx hy h1 (h0 x hx) h2) i4 (fun x hx h1 => i6 x hx h1 (h0 x hx))
theorem c_Bl_spread {d mi o b9 : Nat} {es : List zEnt} {L st : List zMV} {Q : Option zMV → (Nat → Int → Int) → Prop} {F : Nat → Bool} (hN : zNet S P mv tg) (hC : zNetC S P mv tg M) (hH : zHpC hp M) (hhp : ∀ p s, hp p s < 12) (hT : zTabC S P mv tg (zbit gi) M) (hg : M 32 5 = gi) (hR : zRwC rw0 M) (hok : zRwOK S P mv hp (zbit gi) rw0) (hd : 3 + 1 ≤ d) (hc : zcats st ≤ 8) (hpost : ∀ r M', (r = some (zI (zset S (zRc S (zN P mv tg hp (zbit gi) rw0) F 12))) ∧ ∃ E, M' = zst M 35 E ∧ ∀ s : Nat, s < S → zRc S (zN P mv tg hp (zbit gi) rw0) F 12 s = true → E (s : Int) = zset S (zN P mv tg hp (zbit gi) rw0 s)) → zW (zSH Ln) d mi es L (r.toList ++ st) M' Q) : zW (zSH Ln) d mi ((.invokevirtual o, 7, b9) :: es) L (zI (zset S F) :: zR 32 :: st) M Q :=
  w_callv (ps := [zI (zset S F)]) (by omega) rfl rfl (by omega) (by exact sh_32 Ln) hc (Nat.le_of_ble_eq_true rfl) (F_Bl_spread hN hC hH hhp hT hg hR hok (by omega)) hpost
end BL
