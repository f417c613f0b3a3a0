/-! stable plans: the class -/
/-- the plans by number: player 0 first, state by state -/
def zPb (S : Nat) (mv : Nat → Nat → Nat) (i : Nat) : Nat := mv (i % S) (i / S)
def zPk (S P : Nat) (mv : Nat → Nat → Nat) (n s p : Nat) : Nat := if s < S ∧ p < P then zdg (zPb S mv) (P * S) n (p * S + s) else 0
def zPt (S P : Nat) (mv : Nat → Nat → Nat) : Nat := zcnt (zPb S mv) zall1 (P * S)
theorem zPk_lt {S P : Nat} {mv : Nat → Nat → Nat} (hm : ∀ s, zmOK (mv s)) (n s p : Nat) : zPk S P mv n s p < mv s p := by
  unfold zPk
  split
  · next h =>
    have := zdg_lt (b := zPb S mv) (fun i => (hm _ _).1) (P * S) n (p * S + s)
    have e := zdm (c := p) h.1
    unfold zPb at this
    rw [e.1, e.2] at this
    exact this
  · exact (hm s p).1
/-- the first plans that are stable; how many there are: none -/
def zStf (S P : Nat) (mv tg : Nat → Nat → Nat) (gl : Nat → Nat → Bool) (s : Nat) : Nat := zfst (zPt S P mv) fun n => zStb S P mv tg (zPk S P mv n) gl s
section GO
variable {Ln S P : Nat} {mv tg ch : Nat → Nat → Nat} {gl : Nat → Nat → Bool} {M : Nat → Int → Int}

theorem F_Go_isStable5 {d : Nat} {s : Nat} (hN : zNet S P mv tg) (hC : zNetC S P mv tg M) (hG : zGlC S P gl M) (hK : zPkC 5 ch M) (hch : ∀ s p, ch s p < mv s p) (hs : s < S) (hd : 4 ≤ d) : zF (zSH Ln) d i_Go_isStable [zR 41, zR 5, zI (s : Int)] M fun r M' => r = some (zI (if zStb S P mv tg ch gl s = true then 1 else 0)) ∧ M' = M := by
  rw [zF_en k_Go_isStable_0 (L := [zR 41, zR 5, zI (s : Int), zU, zU]) rfl]
  have hS := hN.2.1
  have hP := hN.2.2.2.1
  simp (disch := first | omega | exact Nat.le_of_ble_eq_true rfl | assumption | (simp only [Int.natCast_add, Int.natCast_mul, Int.cast_ofNat_Int]; omega) | decide) only [x_aload, x_getf, w_goto, w_fall, w_iconst, w_if, w_icmp, x_iinc, x_iload, x_istore, zadd_eq, gf_41_0, gf_41_1, gf_3_1, at_42, ao_42, w_bret r_Go_isStable, q_eq, q_ne, q_lt, q_ge, q_gt, q_le, g_I, g_L, g_R, g_V, t_0, t_I, t_R, t_U, t_L, t_s, List.getElem?_cons_zero, List.getElem?_cons_succ, Nat.reduceAdd, zif10, zif01b, zib, if_pos, if_neg, reduceIte, not_true_eq_false, not_false_eq_true, Bool.true_eq_false, Bool.false_eq_true, Classical.not_not, eq_self, and_self, and_true, true_and, Int.reduceEq, Int.reduceLE, Int.reduceLT, Int.reduceNeg, Option.toList, List.cons_append, List.nil_append, zup_s, zup_n, zst_s, zup_zs, zup_zn, decide_true, decide_false, c_Go_passed5 hN hC hK hch hs, c_Go_meeting hN hC hG]
  refine zfor (a := 0) (N := P) (b := 1) (fun p L0 M0 => L0 = [zR 41, zR 5, zI s, zI (zset P fun p => zan S fun t => gl p t && zWy (zNy mv tg P ch) s t), zI (p : Int)] ∧ M0 = M ∧ ∀ q, q < p → (zCon S P mv tg ch gl s q || !zCld S P mv tg ch gl s q) = true) ?_ ?_ ?_ ?_
  · exact Nat.zero_le _
  · exact ⟨rfl, rfl, fun q hq => by omega⟩
  · rintro p _ M _ hp ⟨rfl, rfl, h1⟩ ih
    have hg := hG p hp
    have nxt : (zCon S P mv tg ch gl s p || !zCld S P mv tg ch gl s p) = true → ∀ q, q < p + 1 → (zCon S P mv tg ch gl s q || !zCld S P mv tg ch gl s q) = true := fun h q hq => by
      by_cases e : q = p
      · subst e; exact h
      · exact h1 q (by omega)
    rw [k_Go_isStable_1]
    cases hc : zCon S P mv tg ch gl s p
    · have hc' : (zan S fun t => gl p t && zWy (zNy mv tg P ch) s t) = false := hc
      cases hz : zCld S P mv tg ch gl s p
      · have go : zW (zSH Ln) d i_Go_isStable (zblk i_Go_isStable 6) [zR 41, zR 5, zI s, zI (zset P fun p => zan S fun t => gl p t && zWy (zNy mv tg P ch) s t), zI (p : Int)] [] M fun r M' => r = some (zI (if zStb S P mv tg ch gl s = true then 1 else 0)) ∧ M' = M := by
          rw [k_Go_isStable_6]
          simp (disch := first | omega | exact Nat.le_of_ble_eq_true rfl | assumption | (simp only [Int.natCast_add, Int.natCast_mul, Int.cast_ofNat_Int]; omega) | decide) only [x_aload, x_getf, w_goto, w_fall, w_iconst, w_if, w_icmp, x_iinc, x_iload, x_istore, zadd_eq, gf_41_0, gf_41_1, gf_3_1, at_42, ao_42, w_bret r_Go_isStable, q_eq, q_ne, q_lt, q_ge, q_gt, q_le, g_I, g_L, g_R, g_V, t_0, t_I, t_R, t_U, t_L, t_s, List.getElem?_cons_zero, List.getElem?_cons_succ, Nat.reduceAdd, zif10, zif01b, zib, if_pos, if_neg, reduceIte, not_true_eq_false, not_false_eq_true, Bool.true_eq_false, Bool.false_eq_true, Classical.not_not, eq_self, and_self, and_true, true_and, Int.reduceEq, Int.reduceLE, Int.reduceLT, Int.reduceNeg, Option.toList, List.cons_append, List.nil_append, zup_s, zup_n, zst_s, zup_zs, zup_zn, decide_true, decide_false]
          exact ih _ _ ⟨rfl, rfl, nxt (by rw [hc, hz]; rfl)⟩
        by_cases h0 : zset S (gl p) = 0
        · simp (disch := first | omega | exact Nat.le_of_ble_eq_true rfl | assumption | (simp only [Int.natCast_add, Int.natCast_mul, Int.cast_ofNat_Int]; omega) | decide) only [k_Go_isStable_2, k_Go_isStable_3, x_aload, x_getf, w_goto, w_fall, w_iconst, w_if, w_icmp, x_iinc, x_iload, x_istore, zadd_eq, gf_41_0, gf_41_1, gf_3_1, at_42, ao_42, w_bret r_Go_isStable, q_eq, q_ne, q_lt, q_ge, q_gt, q_le, g_I, g_L, g_R, g_V, t_0, t_I, t_R, t_U, t_L, t_s, List.getElem?_cons_zero, List.getElem?_cons_succ, Nat.reduceAdd, zif10, zif01b, zib, if_pos, if_neg, reduceIte, not_true_eq_false, not_false_eq_true, Bool.true_eq_false, Bool.false_eq_true, Classical.not_not, eq_self, and_self, and_true, true_and, Int.reduceEq, Int.reduceLE, Int.reduceLT, Int.reduceNeg, Option.toList, List.cons_append, List.nil_append, zup_s, zup_n, zst_s, zup_zs, zup_zn, decide_true, decide_false, hC.2.1, c_hasS, hc', hg, h0]
          exact go
        · simp (disch := first | omega | exact Nat.le_of_ble_eq_true rfl | assumption | (simp only [Int.natCast_add, Int.natCast_mul, Int.cast_ofNat_Int]; omega) | decide) only [k_Go_isStable_2, k_Go_isStable_3, k_Go_isStable_4, x_aload, x_getf, w_goto, w_fall, w_iconst, w_if, w_icmp, x_iinc, x_iload, x_istore, zadd_eq, gf_41_0, gf_41_1, gf_3_1, at_42, ao_42, w_bret r_Go_isStable, q_eq, q_ne, q_lt, q_ge, q_gt, q_le, g_I, g_L, g_R, g_V, t_0, t_I, t_R, t_U, t_L, t_s, List.getElem?_cons_zero, List.getElem?_cons_succ, Nat.reduceAdd, zif10, zif01b, zib, if_pos, if_neg, reduceIte, not_true_eq_false, not_false_eq_true, Bool.true_eq_false, Bool.false_eq_true, Classical.not_not, eq_self, and_self, and_true, true_and, Int.reduceEq, Int.reduceLE, Int.reduceLT, Int.reduceNeg, Option.toList, List.cons_append, List.nil_append, zup_s, zup_n, zst_s, zup_zs, zup_zn, decide_true, decide_false, hC.2.1, c_hasS, hc', hg, h0, c_Go_couldMeet5 hN hC hG hK hch hs hp, hz]
          exact go
      · have h0 : ¬ zset S (gl p) = 0 := fun h => by
          have h2 := (zset_eq0 (by omega)).mp h
          obtain ⟨t, h3, h4⟩ := (zan_iff _ _).mp hz
          rw [Bool.and_eq_true] at h4
          rw [h2 t h3] at h4
          cases h4.2
        have hst : ¬ zStb S P mv tg ch gl s = true := fun h => by
          have := (zfa_iff _ _).mp h p hp
          rw [hc, hz] at this
          cases this
        simp (disch := first | omega | exact Nat.le_of_ble_eq_true rfl | assumption | (simp only [Int.natCast_add, Int.natCast_mul, Int.cast_ofNat_Int]; omega) | decide) only [k_Go_isStable_2, k_Go_isStable_3, k_Go_isStable_4, k_Go_isStable_5, x_aload, x_getf, w_goto, w_fall, w_iconst, w_if, w_icmp, x_iinc, x_iload, x_istore, zadd_eq, gf_41_0, gf_41_1, gf_3_1, at_42, ao_42, w_bret r_Go_isStable, q_eq, q_ne, q_lt, q_ge, q_gt, q_le, g_I, g_L, g_R, g_V, t_0, t_I, t_R, t_U, t_L, t_s, List.getElem?_cons_zero, List.getElem?_cons_succ, Nat.reduceAdd, zif10, zif01b, zib, if_pos, if_neg, reduceIte, not_true_eq_false, not_false_eq_true, Bool.true_eq_false, Bool.false_eq_true, Classical.not_not, eq_self, and_self, and_true, true_and, Int.reduceEq, Int.reduceLE, Int.reduceLT, Int.reduceNeg, Option.toList, List.cons_append, List.nil_append, zup_s, zup_n, zst_s, zup_zs, zup_zn, decide_true, decide_false, hC.2.1, c_hasS, hc', hg, h0, c_Go_couldMeet5 hN hC hG hK hch hs hp, hz, hst]
    · have hc' : (zan S fun t => gl p t && zWy (zNy mv tg P ch) s t) = true := hc
      simp (disch := first | omega | exact Nat.le_of_ble_eq_true rfl | assumption | (simp only [Int.natCast_add, Int.natCast_mul, Int.cast_ofNat_Int]; omega) | decide) only [k_Go_isStable_2, k_Go_isStable_6, x_aload, x_getf, w_goto, w_fall, w_iconst, w_if, w_icmp, x_iinc, x_iload, x_istore, zadd_eq, gf_41_0, gf_41_1, gf_3_1, at_42, ao_42, w_bret r_Go_isStable, q_eq, q_ne, q_lt, q_ge, q_gt, q_le, g_I, g_L, g_R, g_V, t_0, t_I, t_R, t_U, t_L, t_s, List.getElem?_cons_zero, List.getElem?_cons_succ, Nat.reduceAdd, zif10, zif01b, zib, if_pos, if_neg, reduceIte, not_true_eq_false, not_false_eq_true, Bool.true_eq_false, Bool.false_eq_true, Classical.not_not, eq_self, and_self, and_true, true_and, Int.reduceEq, Int.reduceLE, Int.reduceLT, Int.reduceNeg, Option.toList, List.cons_append, List.nil_append, zup_s, zup_n, zst_s, zup_zs, zup_zn, decide_true, decide_false, hC.2.1, c_hasS, hc']
      exact ih _ _ ⟨rfl, rfl, nxt (by rw [hc]; rfl)⟩
  · rintro _ M ⟨rfl, rfl, h1⟩
    have hst : zStb S P mv tg ch gl s = true := (zfa_iff _ _).mpr h1
    rw [k_Go_isStable_1]
    simp (disch := first | omega | exact Nat.le_of_ble_eq_true rfl | assumption | (simp only [Int.natCast_add, Int.natCast_mul, Int.cast_ofNat_Int]; omega) | decide) only [k_Go_isStable_7, x_aload, x_getf, w_goto, w_fall, w_iconst, w_if, w_icmp, x_iinc, x_iload, x_istore, zadd_eq, gf_41_0, gf_41_1, gf_3_1, at_42, ao_42, w_bret r_Go_isStable, q_eq, q_ne, q_lt, q_ge, q_gt, q_le, g_I, g_L, g_R, g_V, t_0, t_I, t_R, t_U, t_L, t_s, List.getElem?_cons_zero, List.getElem?_cons_succ, Nat.reduceAdd, zif10, zif01b, zib, if_pos, if_neg, reduceIte, not_true_eq_false, not_false_eq_true, Bool.true_eq_false, Bool.false_eq_true, Classical.not_not, eq_self, and_self, and_true, true_and, Int.reduceEq, Int.reduceLE, Int.reduceLT, Int.reduceNeg, Option.toList, List.cons_append, List.nil_append, zup_s, zup_n, zst_s, zup_zs, zup_zn, decide_true, decide_false, hC.2.1, hst]
theorem c_Go_isStable5 {d mi o b9 : Nat} {es : List zEnt} {L st : List zMV} {Q : Option zMV → (Nat → Int → Int) → Prop} {s : Nat} (hN : zNet S P mv tg) (hC : zNetC S P mv tg M) (hG : zGlC S P gl M) (hK : zPkC 5 ch M) (hch : ∀ s p, ch s p < mv s p) (hs : s < S) (hd : 4 + 1 ≤ d) (hc : zcats st ≤ 8) : zW (zSH Ln) d mi ((.invokevirtual o, 30, b9) :: es) L (zI (s : Int) :: zR 5 :: zR 41 :: st) M Q = zW (zSH Ln) d mi es L (zI (if zStb S P mv tg ch gl s = true then 1 else 0) :: st) (M) Q :=
  c_virt (ps := [zR 5, zI (s : Int)]) (by omega) rfl rfl (by omega) (by exact sh_41 Ln) hc (Nat.le_of_ble_eq_true rfl) (F_Go_isStable5 hN hC hG hK hch hs (by omega))

theorem F_Go_isStable43 {d : Nat} {s : Nat} (hN : zNet S P mv tg) (hC : zNetC S P mv tg M) (hG : zGlC S P gl M) (hK : zPkC 43 ch M) (hch : ∀ s p, ch s p < mv s p) (hs : s < S) (hd : 4 ≤ d) : zF (zSH Ln) d i_Go_isStable [zR 41, zR 43, zI (s : Int)] M fun r M' => r = some (zI (if zStb S P mv tg ch gl s = true then 1 else 0)) ∧ M' = M := by
  rw [zF_en k_Go_isStable_0 (L := [zR 41, zR 43, zI (s : Int), zU, zU]) rfl]
  have hS := hN.2.1
  have hP := hN.2.2.2.1
  simp (disch := first | omega | exact Nat.le_of_ble_eq_true rfl | assumption | (simp only [Int.natCast_add, Int.natCast_mul, Int.cast_ofNat_Int]; omega) | decide) only [x_aload, x_getf, w_goto, w_fall, w_iconst, w_if, w_icmp, x_iinc, x_iload, x_istore, zadd_eq, gf_41_0, gf_41_1, gf_3_1, at_42, ao_42, w_bret r_Go_isStable, q_eq, q_ne, q_lt, q_ge, q_gt, q_le, g_I, g_L, g_R, g_V, t_0, t_I, t_R, t_U, t_L, t_s, List.getElem?_cons_zero, List.getElem?_cons_succ, Nat.reduceAdd, zif10, zif01b, zib, if_pos, if_neg, reduceIte, not_true_eq_false, not_false_eq_true, Bool.true_eq_false, Bool.false_eq_true, Classical.not_not, eq_self, and_self, and_true, true_and, Int.reduceEq, Int.reduceLE, Int.reduceLT, Int.reduceNeg, Option.toList, List.cons_append, List.nil_append, zup_s, zup_n, zst_s, zup_zs, zup_zn, decide_true, decide_false, c_Go_passed43 hN hC hK hch hs, c_Go_meeting hN hC hG]
  refine zfor (a := 0) (N := P) (b := 1) (fun p L0 M0 => L0 = [zR 41, zR 43, zI s, zI (zset P fun p => zan S fun t => gl p t && zWy (zNy mv tg P ch) s t), zI (p : Int)] ∧ M0 = M ∧ ∀ q, q < p → (zCon S P mv tg ch gl s q || !zCld S P mv tg ch gl s q) = true) ?_ ?_ ?_ ?_
  · exact Nat.zero_le _
  · exact ⟨rfl, rfl, fun q hq => by omega⟩
  · rintro p _ M _ hp ⟨rfl, rfl, h1⟩ ih
    have hg := hG p hp
    have nxt : (zCon S P mv tg ch gl s p || !zCld S P mv tg ch gl s p) = true → ∀ q, q < p + 1 → (zCon S P mv tg ch gl s q || !zCld S P mv tg ch gl s q) = true := fun h q hq => by
      by_cases e : q = p
      · subst e; exact h
      · exact h1 q (by omega)
    rw [k_Go_isStable_1]
    cases hc : zCon S P mv tg ch gl s p
    · have hc' : (zan S fun t => gl p t && zWy (zNy mv tg P ch) s t) = false := hc
      cases hz : zCld S P mv tg ch gl s p
      · have go : zW (zSH Ln) d i_Go_isStable (zblk i_Go_isStable 6) [zR 41, zR 43, zI s, zI (zset P fun p => zan S fun t => gl p t && zWy (zNy mv tg P ch) s t), zI (p : Int)] [] M fun r M' => r = some (zI (if zStb S P mv tg ch gl s = true then 1 else 0)) ∧ M' = M := by
          rw [k_Go_isStable_6]
          simp (disch := first | omega | exact Nat.le_of_ble_eq_true rfl | assumption | (simp only [Int.natCast_add, Int.natCast_mul, Int.cast_ofNat_Int]; omega) | decide) only [x_aload, x_getf, w_goto, w_fall, w_iconst, w_if, w_icmp, x_iinc, x_iload, x_istore, zadd_eq, gf_41_0, gf_41_1, gf_3_1, at_42, ao_42, w_bret r_Go_isStable, q_eq, q_ne, q_lt, q_ge, q_gt, q_le, g_I, g_L, g_R, g_V, t_0, t_I, t_R, t_U, t_L, t_s, List.getElem?_cons_zero, List.getElem?_cons_succ, Nat.reduceAdd, zif10, zif01b, zib, if_pos, if_neg, reduceIte, not_true_eq_false, not_false_eq_true, Bool.true_eq_false, Bool.false_eq_true, Classical.not_not, eq_self, and_self, and_true, true_and, Int.reduceEq, Int.reduceLE, Int.reduceLT, Int.reduceNeg, Option.toList, List.cons_append, List.nil_append, zup_s, zup_n, zst_s, zup_zs, zup_zn, decide_true, decide_false]
          exact ih _ _ ⟨rfl, rfl, nxt (by rw [hc, hz]; rfl)⟩
        by_cases h0 : zset S (gl p) = 0
        · simp (disch := first | omega | exact Nat.le_of_ble_eq_true rfl | assumption | (simp only [Int.natCast_add, Int.natCast_mul, Int.cast_ofNat_Int]; omega) | decide) only [k_Go_isStable_2, k_Go_isStable_3, x_aload, x_getf, w_goto, w_fall, w_iconst, w_if, w_icmp, x_iinc, x_iload, x_istore, zadd_eq, gf_41_0, gf_41_1, gf_3_1, at_42, ao_42, w_bret r_Go_isStable, q_eq, q_ne, q_lt, q_ge, q_gt, q_le, g_I, g_L, g_R, g_V, t_0, t_I, t_R, t_U, t_L, t_s, List.getElem?_cons_zero, List.getElem?_cons_succ, Nat.reduceAdd, zif10, zif01b, zib, if_pos, if_neg, reduceIte, not_true_eq_false, not_false_eq_true, Bool.true_eq_false, Bool.false_eq_true, Classical.not_not, eq_self, and_self, and_true, true_and, Int.reduceEq, Int.reduceLE, Int.reduceLT, Int.reduceNeg, Option.toList, List.cons_append, List.nil_append, zup_s, zup_n, zst_s, zup_zs, zup_zn, decide_true, decide_false, hC.2.1, c_hasS, hc', hg, h0]
          exact go
        · simp (disch := first | omega | exact Nat.le_of_ble_eq_true rfl | assumption | (simp only [Int.natCast_add, Int.natCast_mul, Int.cast_ofNat_Int]; omega) | decide) only [k_Go_isStable_2, k_Go_isStable_3, k_Go_isStable_4, x_aload, x_getf, w_goto, w_fall, w_iconst, w_if, w_icmp, x_iinc, x_iload, x_istore, zadd_eq, gf_41_0, gf_41_1, gf_3_1, at_42, ao_42, w_bret r_Go_isStable, q_eq, q_ne, q_lt, q_ge, q_gt, q_le, g_I, g_L, g_R, g_V, t_0, t_I, t_R, t_U, t_L, t_s, List.getElem?_cons_zero, List.getElem?_cons_succ, Nat.reduceAdd, zif10, zif01b, zib, if_pos, if_neg, reduceIte, not_true_eq_false, not_false_eq_true, Bool.true_eq_false, Bool.false_eq_true, Classical.not_not, eq_self, and_self, and_true, true_and, Int.reduceEq, Int.reduceLE, Int.reduceLT, Int.reduceNeg, Option.toList, List.cons_append, List.nil_append, zup_s, zup_n, zst_s, zup_zs, zup_zn, decide_true, decide_false, hC.2.1, c_hasS, hc', hg, h0, c_Go_couldMeet43 hN hC hG hK hch hs hp, hz]
          exact go
      · have h0 : ¬ zset S (gl p) = 0 := fun h => by
          have h2 := (zset_eq0 (by omega)).mp h
          obtain ⟨t, h3, h4⟩ := (zan_iff _ _).mp hz
          rw [Bool.and_eq_true] at h4
          rw [h2 t h3] at h4
          cases h4.2
        have hst : ¬ zStb S P mv tg ch gl s = true := fun h => by
          have := (zfa_iff _ _).mp h p hp
          rw [hc, hz] at this
          cases this
        simp (disch := first | omega | exact Nat.le_of_ble_eq_true rfl | assumption | (simp only [Int.natCast_add, Int.natCast_mul, Int.cast_ofNat_Int]; omega) | decide) only [k_Go_isStable_2, k_Go_isStable_3, k_Go_isStable_4, k_Go_isStable_5, x_aload, x_getf, w_goto, w_fall, w_iconst, w_if, w_icmp, x_iinc, x_iload, x_istore, zadd_eq, gf_41_0, gf_41_1, gf_3_1, at_42, ao_42, w_bret r_Go_isStable, q_eq, q_ne, q_lt, q_ge, q_gt, q_le, g_I, g_L, g_R, g_V, t_0, t_I, t_R, t_U, t_L, t_s, List.getElem?_cons_zero, List.getElem?_cons_succ, Nat.reduceAdd, zif10, zif01b, zib, if_pos, if_neg, reduceIte, not_true_eq_false, not_false_eq_true, Bool.true_eq_false, Bool.false_eq_true, Classical.not_not, eq_self, and_self, and_true, true_and, Int.reduceEq, Int.reduceLE, Int.reduceLT, Int.reduceNeg, Option.toList, List.cons_append, List.nil_append, zup_s, zup_n, zst_s, zup_zs, zup_zn, decide_true, decide_false, hC.2.1, c_hasS, hc', hg, h0, c_Go_couldMeet43 hN hC hG hK hch hs hp, hz, hst]
    · have hc' : (zan S fun t => gl p t && zWy (zNy mv tg P ch) s t) = true := hc
      simp (disch := first | omega | exact Nat.le_of_ble_eq_true rfl | assumption | (simp only [Int.natCast_add, Int.natCast_mul, Int.cast_ofNat_Int]; omega) | decide) only [k_Go_isStable_2, k_Go_isStable_6, x_aload, x_getf, w_goto, w_fall, w_iconst, w_if, w_icmp, x_iinc, x_iload, x_istore, zadd_eq, gf_41_0, gf_41_1, gf_3_1, at_42, ao_42, w_bret r_Go_isStable, q_eq, q_ne, q_lt, q_ge, q_gt, q_le, g_I, g_L, g_R, g_V, t_0, t_I, t_R, t_U, t_L, t_s, List.getElem?_cons_zero, List.getElem?_cons_succ, Nat.reduceAdd, zif10, zif01b, zib, if_pos, if_neg, reduceIte, not_true_eq_false, not_false_eq_true, Bool.true_eq_false, Bool.false_eq_true, Classical.not_not, eq_self, and_self, and_true, true_and, Int.reduceEq, Int.reduceLE, Int.reduceLT, Int.reduceNeg, Option.toList, List.cons_append, List.nil_append, zup_s, zup_n, zst_s, zup_zs, zup_zn, decide_true, decide_false, hC.2.1, c_hasS, hc']
      exact ih _ _ ⟨rfl, rfl, nxt (by rw [hc]; rfl)⟩
  · rintro _ M ⟨rfl, rfl, h1⟩
    have hst : zStb S P mv tg ch gl s = true := (zfa_iff _ _).mpr h1
    rw [k_Go_isStable_1]
    simp (disch := first | omega | exact Nat.le_of_ble_eq_true rfl | assumption | (simp only [Int.natCast_add, Int.natCast_mul, Int.cast_ofNat_Int]; omega) | decide) only [k_Go_isStable_7, x_aload, x_getf, w_goto, w_fall, w_iconst, w_if, w_icmp, x_iinc, x_iload, x_istore, zadd_eq, gf_41_0, gf_41_1, gf_3_1, at_42, ao_42, w_bret r_Go_isStable, q_eq, q_ne, q_lt, q_ge, q_gt, q_le, g_I, g_L, g_R, g_V, t_0, t_I, t_R, t_U, t_L, t_s, List.getElem?_cons_zero, List.getElem?_cons_succ, Nat.reduceAdd, zif10, zif01b, zib, if_pos, if_neg, reduceIte, not_true_eq_false, not_false_eq_true, Bool.true_eq_false, Bool.false_eq_true, Classical.not_not, eq_self, and_self, and_true, true_and, Int.reduceEq, Int.reduceLE, Int.reduceLT, Int.reduceNeg, Option.toList, List.cons_append, List.nil_append, zup_s, zup_n, zst_s, zup_zs, zup_zn, decide_true, decide_false, hC.2.1, hst]
theorem c_Go_isStable43 {d mi o b9 : Nat} {es : List zEnt} {L st : List zMV} {Q : Option zMV → (Nat → Int → Int) → Prop} {s : Nat} (hN : zNet S P mv tg) (hC : zNetC S P mv tg M) (hG : zGlC S P gl M) (hK : zPkC 43 ch M) (hch : ∀ s p, ch s p < mv s p) (hs : s < S) (hd : 4 + 1 ≤ d) (hc : zcats st ≤ 8) : zW (zSH Ln) d mi ((.invokevirtual o, 30, b9) :: es) L (zI (s : Int) :: zR 43 :: zR 41 :: st) M Q = zW (zSH Ln) d mi es L (zI (if zStb S P mv tg ch gl s = true then 1 else 0) :: st) (M) Q :=
  c_virt (ps := [zR 43, zI (s : Int)]) (by omega) rfl rfl (by omega) (by exact sh_41 Ln) hc (Nat.le_of_ble_eq_true rfl) (F_Go_isStable43 hN hC hG hK hch hs (by omega))

/-- the plans that are tried -/
def zTrd (S P : Nat) (mv : Nat → Nat → Nat) (n : Nat) (F : Int → Int) : Prop := ∀ s p : Nat, s < 12 → p < 4 → F ((s : Int) * 4 + p) = zPk S P mv n s p
theorem F_Go_advance {d : Nat} {n : Nat} (hN : zNet S P mv tg) (hC : zNetC S P mv tg M) (hn : n < zPt S P mv) (hT : zTrd S P mv n (M 43)) (hd : 2 ≤ d) : zF (zSH Ln) d i_Go_advance [zR 41] M fun r M' => r = some (zI (if n + 1 < zPt S P mv then 1 else 0)) ∧ ∃ F, M' = zst M 43 F ∧ (n + 1 < zPt S P mv → zTrd S P mv (n + 1) F) := by
  rw [zF_en k_Go_advance_0 (L := [zR 41, zU, zU, zU]) rfl]
  have hS := hN.2.1
  have hP := hN.2.2.2.1
  have hm := hN.2.2.2.2.1
  have hb : ∀ i, 1 ≤ zPb S mv i := fun i => (hm _ _).1
  have hC1 : ∀ F, zNetC S P mv tg (zst M 43 F) := fun _ => hC
  have hle : ∀ p q : Nat, p < q → p * S + S ≤ q * S := fun p q h => by
    have := Nat.mul_le_mul_right S (show p + 1 ≤ q by omega)
    rw [Nat.add_mul, Nat.one_mul] at this
    exact this
  simp (disch := first | omega | exact Nat.le_of_ble_eq_true rfl | assumption | (simp only [Int.natCast_add, Int.natCast_mul, Int.cast_ofNat_Int]; omega) | decide) only [x_aload, x_getf, w_goto, w_fall, w_iadd, w_iconst, w_if, w_icmp, x_iinc, x_iload, w_imul, x_istore, w_isub, zadd_eq, zsub_eq, zmul_eq, gf_41_0, gf_41_2, gf_3_0, gf_3_1, at_43, ao_43, pu_43, w_bret r_Go_advance, q_eq, q_ne, q_lt, q_ge, q_gt, q_le, g_I, g_L, g_R, g_V, t_0, t_I, t_R, t_U, t_L, t_s, List.getElem?_cons_zero, List.getElem?_cons_succ, Nat.reduceAdd, zif10, zif01b, zib, if_pos, if_neg, reduceIte, not_true_eq_false, not_false_eq_true, Bool.true_eq_false, Bool.false_eq_true, Classical.not_not, eq_self, and_self, and_true, true_and, Int.reduceEq, Int.reduceLE, Int.reduceLT, Int.reduceNeg, Option.toList, List.cons_append, List.nil_append, zup_s, zup_n, zst_s, zup_zs, zup_zn, decide_true, decide_false, hC.2.1]
  refine zford (N := P) (b := 1) (fun p L0 M0 => ∃ (F : Int → Int) (v2 : zMV) (v3 : zMV), L0 = [zR 41, zI ((p : Int) - 1), v2, v3] ∧ M0 = zst M 43 F ∧ zcry (zPb S mv) (P * S) n (p * S) ∧ ∀ s q : Nat, s < 12 → q < 4 → F ((s : Int) * 4 + q) = if q < p then zPk S P mv n s q else 0) ?_ ?_ ?_
  · refine ⟨M 43, zU, zU, rfl, (zst_id _ _).symm, zcry_0 _ _ _, fun s q hs hq => ?_⟩
    rw [hT s q hs hq]
    by_cases e : q < P
    · rw [if_pos e]
    · rw [if_neg e]; unfold zPk; rw [if_neg (fun z => e z.2)]
  · rintro p _ _ hp ⟨F, v2, v3, rfl, rfl, hc, hF⟩ ih
    have hpP := hle p P hp
    rw [k_Go_advance_1]
    simp (disch := first | omega | exact Nat.le_of_ble_eq_true rfl | assumption | (simp only [Int.natCast_add, Int.natCast_mul, Int.cast_ofNat_Int]; omega) | decide) only [k_Go_advance_2, x_aload, x_getf, w_goto, w_fall, w_iadd, w_iconst, w_if, w_icmp, x_iinc, x_iload, w_imul, x_istore, w_isub, zadd_eq, zsub_eq, zmul_eq, gf_41_0, gf_41_2, gf_3_0, gf_3_1, at_43, ao_43, pu_43, w_bret r_Go_advance, q_eq, q_ne, q_lt, q_ge, q_gt, q_le, g_I, g_L, g_R, g_V, t_0, t_I, t_R, t_U, t_L, t_s, List.getElem?_cons_zero, List.getElem?_cons_succ, Nat.reduceAdd, zif10, zif01b, zib, if_pos, if_neg, reduceIte, not_true_eq_false, not_false_eq_true, Bool.true_eq_false, Bool.false_eq_true, Classical.not_not, eq_self, and_self, and_true, true_and, Int.reduceEq, Int.reduceLE, Int.reduceLT, Int.reduceNeg, Option.toList, List.cons_append, List.nil_append, zup_s, zup_n, zst_s, zup_zs, zup_zn, decide_true, decide_false, zst_n, hC.1, show ((p + 1 : Nat) : Int) - 1 = (p : Int) by omega]
    refine zford (N := S) (b := 3) (fun s L0 M0 => ∃ (F : Int → Int) (v3 : zMV), L0 = [zR 41, zI (p : Int), zI ((s : Int) - 1), v3] ∧ M0 = zst M 43 F ∧ zcry (zPb S mv) (P * S) n (p * S + s) ∧ ∀ t q : Nat, t < 12 → q < 4 → F ((t : Int) * 4 + q) = if q < p ∨ q = p ∧ t < s then zPk S P mv n t q else 0) ?_ ?_ ?_
    · refine ⟨F, v3, rfl, rfl, by rw [Nat.add_mul, Nat.one_mul] at hc; exact hc, fun t q ht hq => ?_⟩
      rw [hF t q ht hq]
      by_cases e : q < p + 1
      · rw [if_pos e]
        by_cases e2 : q < p ∨ q = p ∧ t < S
        · rw [if_pos e2]
        · rw [if_neg e2]; unfold zPk; rw [if_neg (fun z => by omega)]
      · rw [if_neg e, if_neg (by omega)]
    · rintro s _ _ hs ⟨F, v3, rfl, rfl, hc, hF⟩ ih2
      have hFs := hF s p (by omega) (by omega)
      rw [if_pos (by omega)] at hFs
      have hdg : zPk S P mv n s p = zdg (zPb S mv) (P * S) n (p * S + s) := by unfold zPk; rw [if_pos ⟨hs, hp⟩]
      have hbb : zPb S mv (p * S + s) = mv s p := by have e := zdm (c := p) hs; unfold zPb; rw [e.1, e.2]
      have hlt := zPk_lt hm n s p (S := S) (P := P)
      have hm3 := hm s p
      have hq : p * S + s < P * S := by omega
      rw [k_Go_advance_3]
      by_cases hd : zPk S P mv n s p + 1 < mv s p
      · have hup := zcry_up hb hq hc (by rw [hbb, ← hdg]; exact hd)
        have hmo : n + 1 < zPt S P mv := zcry_more hb hq hc (by rw [hbb, ← hdg]; exact hd) hn
        simp (disch := first | omega | exact Nat.le_of_ble_eq_true rfl | assumption | (simp only [Int.natCast_add, Int.natCast_mul, Int.cast_ofNat_Int]; omega) | decide) only [k_Go_advance_4, k_Go_advance_5, x_aload, x_getf, w_goto, w_fall, w_iadd, w_iconst, w_if, w_icmp, x_iinc, x_iload, w_imul, x_istore, w_isub, zadd_eq, zsub_eq, zmul_eq, gf_41_0, gf_41_2, gf_3_0, gf_3_1, at_43, ao_43, pu_43, w_bret r_Go_advance, q_eq, q_ne, q_lt, q_ge, q_gt, q_le, g_I, g_L, g_R, g_V, t_0, t_I, t_R, t_U, t_L, t_s, List.getElem?_cons_zero, List.getElem?_cons_succ, Nat.reduceAdd, zif10, zif01b, zib, if_pos, if_neg, reduceIte, not_true_eq_false, not_false_eq_true, Bool.true_eq_false, Bool.false_eq_true, Classical.not_not, eq_self, and_self, and_true, true_and, Int.reduceEq, Int.reduceLE, Int.reduceLT, Int.reduceNeg, Option.toList, List.cons_append, List.nil_append, zup_s, zup_n, zst_s, zup_zs, zup_zn, decide_true, decide_false, show ((s + 1 : Nat) : Int) - 1 = (s : Int) by omega, zst_n, zst_s, hFs, c_Ne_movesOf (hC1 _), hmo]
        refine ⟨_, rfl, fun _ t q ht hq2 => ?_⟩
        by_cases e : t = s ∧ q = p
        · rw [e.1, e.2, zf_s]
          unfold zPk
          rw [if_pos ⟨hs, hp⟩, if_pos ⟨hs, hp⟩, hup.1]
          simp
        · rw [zf_n (by omega), hF t q ht hq2]
          by_cases e2 : q < p ∨ q = p ∧ t < s + 1
          · rw [if_pos e2]
            unfold zPk
            by_cases e3 : t < S ∧ q < P
            · rw [if_pos e3, if_pos e3]
              have : q * S + t < p * S + s := by
                rcases e2 with e2 | e2
                · have := hle q p e2; omega
                · have : q = p := e2.1
                  subst this; omega
              rw [hup.2 _ this]
            · rw [if_neg e3, if_neg e3]
          · rw [if_neg e2]
            unfold zPk
            by_cases e3 : t < S ∧ q < P
            · rw [if_pos e3]
              have h6 : p * S + (s + 1) ≤ q * S + t := by
                by_cases e4 : q = p
                · subst e4; omega
                · have := hle p q (by omega); omega
              have h7 := hle q P e3.2
              rw [hc.2 _ h6 (by omega)]
            · rw [if_neg e3]
      · have hon := zcry_on hb hq hc (by rw [hbb, ← hdg]; exact hd)
        simp (disch := first | omega | exact Nat.le_of_ble_eq_true rfl | assumption | (simp only [Int.natCast_add, Int.natCast_mul, Int.cast_ofNat_Int]; omega) | decide) only [k_Go_advance_4, k_Go_advance_6, x_aload, x_getf, w_goto, w_fall, w_iadd, w_iconst, w_if, w_icmp, x_iinc, x_iload, w_imul, x_istore, w_isub, zadd_eq, zsub_eq, zmul_eq, gf_41_0, gf_41_2, gf_3_0, gf_3_1, at_43, ao_43, pu_43, w_bret r_Go_advance, q_eq, q_ne, q_lt, q_ge, q_gt, q_le, g_I, g_L, g_R, g_V, t_0, t_I, t_R, t_U, t_L, t_s, List.getElem?_cons_zero, List.getElem?_cons_succ, Nat.reduceAdd, zif10, zif01b, zib, if_pos, if_neg, reduceIte, not_true_eq_false, not_false_eq_true, Bool.true_eq_false, Bool.false_eq_true, Classical.not_not, eq_self, and_self, and_true, true_and, Int.reduceEq, Int.reduceLE, Int.reduceLT, Int.reduceNeg, Option.toList, List.cons_append, List.nil_append, zup_s, zup_n, zst_s, zup_zs, zup_zn, decide_true, decide_false, show ((s + 1 : Nat) : Int) - 1 = (s : Int) by omega, zst_n, zst_s, hFs, c_Ne_movesOf (hC1 _)]
        refine ih2 _ _ ⟨_, _, rfl, rfl, hon, fun t q ht hq2 => ?_⟩
        by_cases e : t = s ∧ q = p
        · rw [e.1, e.2, zf_s, if_neg (by omega)]; rfl
        · rw [zf_n (by omega), hF t q ht hq2]
          by_cases e2 : q < p ∨ q = p ∧ t < s
          · rw [if_pos e2, if_pos (by omega)]
          · rw [if_neg e2, if_neg (by omega)]
    · rintro _ _ ⟨F, v3, rfl, rfl, hc, hF⟩
      rw [k_Go_advance_3]
      simp (disch := first | omega | exact Nat.le_of_ble_eq_true rfl | assumption | (simp only [Int.natCast_add, Int.natCast_mul, Int.cast_ofNat_Int]; omega) | decide) only [k_Go_advance_7, x_aload, x_getf, w_goto, w_fall, w_iadd, w_iconst, w_if, w_icmp, x_iinc, x_iload, w_imul, x_istore, w_isub, zadd_eq, zsub_eq, zmul_eq, gf_41_0, gf_41_2, gf_3_0, gf_3_1, at_43, ao_43, pu_43, w_bret r_Go_advance, q_eq, q_ne, q_lt, q_ge, q_gt, q_le, g_I, g_L, g_R, g_V, t_0, t_I, t_R, t_U, t_L, t_s, List.getElem?_cons_zero, List.getElem?_cons_succ, Nat.reduceAdd, zif10, zif01b, zib, if_pos, if_neg, reduceIte, not_true_eq_false, not_false_eq_true, Bool.true_eq_false, Bool.false_eq_true, Classical.not_not, eq_self, and_self, and_true, true_and, Int.reduceEq, Int.reduceLE, Int.reduceLT, Int.reduceNeg, Option.toList, List.cons_append, List.nil_append, zup_s, zup_n, zst_s, zup_zs, zup_zn, decide_true, decide_false]
      refine ih _ _ ⟨F, _, _, rfl, rfl, hc, fun s q hs hq => ?_⟩
      rw [hF s q hs hq]
      by_cases e : q < p
      · rw [if_pos e, if_pos (Or.inl e)]
      · rw [if_neg e, if_neg (by omega)]
  · rintro _ _ ⟨F, v2, v3, rfl, rfl, hc, hF⟩
    rw [Nat.zero_mul] at hc
    have he := zcry_end hb hn hc
    have hno : ¬ n + 1 < zPt S P mv := by unfold zPt; omega
    rw [k_Go_advance_1]
    simp (disch := first | omega | exact Nat.le_of_ble_eq_true rfl | assumption | (simp only [Int.natCast_add, Int.natCast_mul, Int.cast_ofNat_Int]; omega) | decide) only [k_Go_advance_8, x_aload, x_getf, w_goto, w_fall, w_iadd, w_iconst, w_if, w_icmp, x_iinc, x_iload, w_imul, x_istore, w_isub, zadd_eq, zsub_eq, zmul_eq, gf_41_0, gf_41_2, gf_3_0, gf_3_1, at_43, ao_43, pu_43, w_bret r_Go_advance, q_eq, q_ne, q_lt, q_ge, q_gt, q_le, g_I, g_L, g_R, g_V, t_0, t_I, t_R, t_U, t_L, t_s, List.getElem?_cons_zero, List.getElem?_cons_succ, Nat.reduceAdd, zif10, zif01b, zib, if_pos, if_neg, reduceIte, not_true_eq_false, not_false_eq_true, Bool.true_eq_false, Bool.false_eq_true, Classical.not_not, eq_self, and_self, and_true, true_and, Int.reduceEq, Int.reduceLE, Int.reduceLT, Int.reduceNeg, Option.toList, List.cons_append, List.nil_append, zup_s, zup_n, zst_s, zup_zs, zup_zn, decide_true, decide_false, hno]
    exact ⟨F, rfl, fun h => h.elim⟩
theorem c_Go_advance {d mi o b9 : Nat} {es : List zEnt} {L st : List zMV} {Q : Option zMV → (Nat → Int → Int) → Prop} {n : Nat} (hN : zNet S P mv tg) (hC : zNetC S P mv tg M) (hn : n < zPt S P mv) (hT : zTrd S P mv n (M 43)) (hd : 2 + 1 ≤ d) (hc : zcats st ≤ 8) (hpost : ∀ r M', (r = some (zI (if n + 1 < zPt S P mv then 1 else 0)) ∧ ∃ F, M' = zst M 43 F ∧ (n + 1 < zPt S P mv → zTrd S P mv (n + 1) F)) → zW (zSH Ln) d mi es L (r.toList ++ st) M' Q) : zW (zSH Ln) d mi ((.invokevirtual o, 33, b9) :: es) L (zR 41 :: st) M Q :=
  w_callv (ps := []) (by omega) rfl rfl (by omega) (by exact sh_41 Ln) hc (Nat.le_of_ble_eq_true rfl) (F_Go_advance hN hC hn hT (by omega)) hpost
theorem F_Go_search {d : Nat} {s : Nat} (hN : zNet S P mv tg) (hC : zNetC S P mv tg M) (hG : zGlC S P gl M) (hs : s < S) (hmax : zPt S P mv ≤ 20000) (hd : 5 ≤ d) : zF (zSH Ln) d i_Go_search [zR 41, zI (s : Int)] M fun r M' => r = some (zI (if zStf S P mv tg gl s < zPt S P mv then 1 else 0)) ∧ ∃ F, M' = zst M 43 F ∧ (zStf S P mv tg gl s < zPt S P mv → zTrd S P mv (zStf S P mv tg gl s) F) := by
  rw [zF_en k_Go_search_0 (L := [zR 41, zI (s : Int), zU]) rfl]
  have hS := hN.2.1
  have hP := hN.2.2.2.1
  have hm := hN.2.2.2.2.1
  have hb : ∀ i, 1 ≤ zPb S mv i := fun i => (hm _ _).1
  have hpos : 0 < zPt S P mv := by
    have : ∀ k, 0 < zcnt (zPb S mv) zall1 k := fun k => by
      induction k with
      | zero => exact Nat.one_pos
      | succ k ih => simp only [zcnt, zall1, if_true]; exact Nat.mul_pos ih (hb k)
    exact this _
  have h0 : ∀ i, zdg (zPb S mv) (P * S) 0 i = 0 := fun i => by
    have : ∀ k, zpre (zPb S mv) (P * S) 0 k = 0 := fun k => by
      induction k with
      | zero => rfl
      | succ k ih => simp only [zpre, ih, Nat.zero_div]
    unfold zdg; rw [this, Nat.zero_mod]
  simp (disch := first | omega | exact Nat.le_of_ble_eq_true rfl | assumption | (simp only [Int.natCast_add, Int.natCast_mul, Int.cast_ofNat_Int]; omega) | decide) only [x_aload, x_getf, w_goto, w_fall, w_iconst, w_if, w_icmp, x_iinc, x_iload, x_istore, zadd_eq, gf_41_2, w_bret r_Go_search, q_eq, q_ne, q_lt, q_ge, q_gt, q_le, g_I, g_L, g_R, g_V, t_0, t_I, t_R, t_U, t_L, t_s, List.getElem?_cons_zero, List.getElem?_cons_succ, Nat.reduceAdd, zif10, zif01b, zib, if_pos, if_neg, reduceIte, not_true_eq_false, not_false_eq_true, Bool.true_eq_false, Bool.false_eq_true, Classical.not_not, eq_self, and_self, and_true, true_and, Int.reduceEq, Int.reduceLE, Int.reduceLT, Int.reduceNeg, Option.toList, List.cons_append, List.nil_append, zup_s, zup_n, zst_s, zup_zs, zup_zn, decide_true, decide_false]
  refine c_JA_fill (sh_43 Ln) (by omega) (by omega) (by omega) (Nat.le_of_ble_eq_true rfl) ?_
  rintro _ _ ⟨rfl, rfl⟩
  simp (disch := first | omega | exact Nat.le_of_ble_eq_true rfl | assumption | (simp only [Int.natCast_add, Int.natCast_mul, Int.cast_ofNat_Int]; omega) | decide) only [x_aload, x_getf, w_goto, w_fall, w_iconst, w_if, w_icmp, x_iinc, x_iload, x_istore, zadd_eq, gf_41_2, w_bret r_Go_search, q_eq, q_ne, q_lt, q_ge, q_gt, q_le, g_I, g_L, g_R, g_V, t_0, t_I, t_R, t_U, t_L, t_s, List.getElem?_cons_zero, List.getElem?_cons_succ, Nat.reduceAdd, zif10, zif01b, zib, if_pos, if_neg, reduceIte, not_true_eq_false, not_false_eq_true, Bool.true_eq_false, Bool.false_eq_true, Classical.not_not, eq_self, and_self, and_true, true_and, Int.reduceEq, Int.reduceLE, Int.reduceLT, Int.reduceNeg, Option.toList, List.cons_append, List.nil_append, zup_s, zup_n, zst_s, zup_zs, zup_zn, decide_true, decide_false]
  refine zfor (a := 0) (N := 20000) (b := 1) (fun n L0 M0 => ∃ (F : Int → Int), L0 = [zR 41, zI s, zI (n : Int)] ∧ M0 = zst M 43 F ∧ n < zPt S P mv ∧ zTrd S P mv n F ∧ ∀ i, i < n → zStb S P mv tg (zPk S P mv i) gl s = false) ?_ ?_ ?_ ?_
  · exact Nat.zero_le _
  · refine ⟨_, rfl, rfl, hpos, fun t p ht hp => ?_, fun i hi => by omega⟩
    rw [zrng_in (by omega)]
    unfold zPk
    split
    · rw [h0]; rfl
    · rfl
  · rintro n _ _ _ hn ⟨F, rfl, rfl, hlt, hF, hno⟩ ih
    have hC1 : zNetC S P mv tg (zst M 43 F) := hC
    have hG1 : zGlC S P gl (zst M 43 F) := hG
    have hK1 : zPkC 43 (zPk S P mv n) (zst M 43 F) := hF
    have hch : ∀ s p, zPk S P mv n s p < mv s p := fun s p => zPk_lt hm n s p
    rw [k_Go_search_1]
    cases hst : zStb S P mv tg (zPk S P mv n) gl s
    · simp (disch := first | omega | exact Nat.le_of_ble_eq_true rfl | assumption | (simp only [Int.natCast_add, Int.natCast_mul, Int.cast_ofNat_Int]; omega) | decide) only [k_Go_search_2, k_Go_search_4, x_aload, x_getf, w_goto, w_fall, w_iconst, w_if, w_icmp, x_iinc, x_iload, x_istore, zadd_eq, gf_41_2, w_bret r_Go_search, q_eq, q_ne, q_lt, q_ge, q_gt, q_le, g_I, g_L, g_R, g_V, t_0, t_I, t_R, t_U, t_L, t_s, List.getElem?_cons_zero, List.getElem?_cons_succ, Nat.reduceAdd, zif10, zif01b, zib, if_pos, if_neg, reduceIte, not_true_eq_false, not_false_eq_true, Bool.true_eq_false, Bool.false_eq_true, Classical.not_not, eq_self, and_self, and_true, true_and, Int.reduceEq, Int.reduceLE, Int.reduceLT, Int.reduceNeg, Option.toList, List.cons_append, List.nil_append, zup_s, zup_n, zst_s, zup_zs, zup_zn, decide_true, decide_false, c_Go_isStable43 hN hC1 hG1 hK1 hch hs, hst]
      refine c_Go_advance hN hC1 hlt hF (by omega) (Nat.le_of_ble_eq_true rfl) ?_
      rintro _ _ ⟨rfl, F', rfl, hF'⟩
      have hno' : ∀ i, i < n + 1 → zStb S P mv tg (zPk S P mv i) gl s = false := fun i hi => by
        by_cases e : i = n
        · subst e; exact hst
        · exact hno i (by omega)
      by_cases hmo : n + 1 < zPt S P mv
      · simp (disch := first | omega | exact Nat.le_of_ble_eq_true rfl | assumption | (simp only [Int.natCast_add, Int.natCast_mul, Int.cast_ofNat_Int]; omega) | decide) only [k_Go_search_6, x_aload, x_getf, w_goto, w_fall, w_iconst, w_if, w_icmp, x_iinc, x_iload, x_istore, zadd_eq, gf_41_2, w_bret r_Go_search, q_eq, q_ne, q_lt, q_ge, q_gt, q_le, g_I, g_L, g_R, g_V, t_0, t_I, t_R, t_U, t_L, t_s, List.getElem?_cons_zero, List.getElem?_cons_succ, Nat.reduceAdd, zif10, zif01b, zib, if_pos, if_neg, reduceIte, not_true_eq_false, not_false_eq_true, Bool.true_eq_false, Bool.false_eq_true, Classical.not_not, eq_self, and_self, and_true, true_and, Int.reduceEq, Int.reduceLE, Int.reduceLT, Int.reduceNeg, Option.toList, List.cons_append, List.nil_append, zup_s, zup_n, zst_s, zup_zs, zup_zn, decide_true, decide_false, hmo, zst_zst]
        exact ih _ _ ⟨F', rfl, rfl, hmo, hF' hmo, hno'⟩
      · have hf : zStf S P mv tg gl s = zPt S P mv := zfst_none fun i hi => hno' i (by omega)
        simp (disch := first | omega | exact Nat.le_of_ble_eq_true rfl | assumption | (simp only [Int.natCast_add, Int.natCast_mul, Int.cast_ofNat_Int]; omega) | decide) only [k_Go_search_5, x_aload, x_getf, w_goto, w_fall, w_iconst, w_if, w_icmp, x_iinc, x_iload, x_istore, zadd_eq, gf_41_2, w_bret r_Go_search, q_eq, q_ne, q_lt, q_ge, q_gt, q_le, g_I, g_L, g_R, g_V, t_0, t_I, t_R, t_U, t_L, t_s, List.getElem?_cons_zero, List.getElem?_cons_succ, Nat.reduceAdd, zif10, zif01b, zib, if_pos, if_neg, reduceIte, not_true_eq_false, not_false_eq_true, Bool.true_eq_false, Bool.false_eq_true, Classical.not_not, eq_self, and_self, and_true, true_and, Int.reduceEq, Int.reduceLE, Int.reduceLT, Int.reduceNeg, Option.toList, List.cons_append, List.nil_append, zup_s, zup_n, zst_s, zup_zs, zup_zn, decide_true, decide_false, hmo, zst_zst, hf, Nat.lt_irrefl]
        exact ⟨F', rfl, fun h => h.elim⟩
    · have hf : zStf S P mv tg gl s = n := zfst_is hlt hst hno
      simp (disch := first | omega | exact Nat.le_of_ble_eq_true rfl | assumption | (simp only [Int.natCast_add, Int.natCast_mul, Int.cast_ofNat_Int]; omega) | decide) only [k_Go_search_2, k_Go_search_3, x_aload, x_getf, w_goto, w_fall, w_iconst, w_if, w_icmp, x_iinc, x_iload, x_istore, zadd_eq, gf_41_2, w_bret r_Go_search, q_eq, q_ne, q_lt, q_ge, q_gt, q_le, g_I, g_L, g_R, g_V, t_0, t_I, t_R, t_U, t_L, t_s, List.getElem?_cons_zero, List.getElem?_cons_succ, Nat.reduceAdd, zif10, zif01b, zib, if_pos, if_neg, reduceIte, not_true_eq_false, not_false_eq_true, Bool.true_eq_false, Bool.false_eq_true, Classical.not_not, eq_self, and_self, and_true, true_and, Int.reduceEq, Int.reduceLE, Int.reduceLT, Int.reduceNeg, Option.toList, List.cons_append, List.nil_append, zup_s, zup_n, zst_s, zup_zs, zup_zn, decide_true, decide_false, c_Go_isStable43 hN hC1 hG1 hK1 hch hs, hst, hf, hlt]
      exact ⟨F, rfl, fun _ => hF⟩
  · rintro _ _ ⟨F, rfl, rfl, hlt, hF, hno⟩
    omega
theorem c_Go_search {d mi o b9 : Nat} {es : List zEnt} {L st : List zMV} {Q : Option zMV → (Nat → Int → Int) → Prop} {s : Nat} (hN : zNet S P mv tg) (hC : zNetC S P mv tg M) (hG : zGlC S P gl M) (hs : s < S) (hmax : zPt S P mv ≤ 20000) (hd : 5 + 1 ≤ d) (hc : zcats st ≤ 8) (hpost : ∀ r M', (r = some (zI (if zStf S P mv tg gl s < zPt S P mv then 1 else 0)) ∧ ∃ F, M' = zst M 43 F ∧ (zStf S P mv tg gl s < zPt S P mv → zTrd S P mv (zStf S P mv tg gl s) F)) → zW (zSH Ln) d mi es L (r.toList ++ st) M' Q) : zW (zSH Ln) d mi ((.invokevirtual o, 32, b9) :: es) L (zI (s : Int) :: zR 41 :: st) M Q :=
  w_callv (ps := [zI (s : Int)]) (by omega) rfl rfl (by omega) (by exact sh_41 Ln) hc (Nat.le_of_ble_eq_true rfl) (F_Go_search hN hC hG hs hmax (by omega)) hpost
end GO
