/-! the table of a group: its ends, what a group can force -/
theorem zinto_congr {m t : Nat → Nat} {g : Nat → Bool} {P S a : Nat} {X X' : Nat → Bool} (hm : zmOK m) (ht : ∀ j, j < zcnt m zall1 P → t j < S) (h : ∀ i, i < S → X i = X' i) : zinto m t g P X a = zinto m t g P X' a := zfa_congr fun b _ => h _ (ht _ (zcomb_lt hm g P a b))
theorem zleast_congr {m t : Nat → Nat} {g : Nat → Bool} {P S : Nat} {X X' : Nat → Bool} (hm : zmOK m) (ht : ∀ j, j < zcnt m zall1 P → t j < S) (h : ∀ i, i < S → X i = X' i) : zleast m t g P X = zleast m t g P X' := zfst_congr fun a _ => zinto_congr hm ht h
/-- the group can force X in one step -/
def zcan (m t : Nat → Nat) (g : Nat → Bool) (P : Nat) (X : Nat → Bool) : Bool := decide (zleast m t g P X < zcnt m g P)
theorem zNet_t {S P : Nat} {mv tg : Nat → Nat → Nat} (hN : zNet S P mv tg) {s : Nat} (hs : s < S) : ∀ j, j < zcnt (mv s) zall1 P → tg s j < S := fun j hj => hN.2.2.2.2.2 s j hs (by have := zcnt_81 (hN.2.2.2.2.1 s) zall1 hN.2.2.2.1; omega)
theorem zcan_congr {S P : Nat} {mv tg : Nat → Nat → Nat} (hN : zNet S P mv tg) {s : Nat} (hs : s < S) {g : Nat → Bool} {X X' : Nat → Bool} (h : ∀ i, i < S → X i = X' i) : zcan (mv s) (tg s) g P X = zcan (mv s) (tg s) g P X' := by unfold zcan; rw [zleast_congr (hN.2.2.2.2.1 s) (zNet_t hN hs) h]
theorem zset_difx {n : Nat} (hn : n ≤ 30) (f : Nat → Bool) (x : Int) : zand (zset n f) (zxor x (-1)) = zset n fun i => f i && !zbit x i := by
  refine zext (zand_in _ _) (zset_in hn _) fun i hi => ?_
  rw [zbit_and, zbit_not _ hi, zset_bit hn, zset_bit hn]
  cases decide (i < n) <;> simp
def zTabI (S P : Nat) (mv tg : Nat → Nat → Nat) (M : Nat → Int → Int) : Prop := M 15 5 = M 3 2 → zTabC S P mv tg (zbit (M 15 4)) M
section TB
variable {Ln S P : Nat} {mv tg : Nat → Nat → Nat} {M : Nat → Int → Int}
theorem F_Ta_fill {d : Nat} {s : Nat} {g : Int} (hN : zNet S P mv tg) (hC : zNetC S P mv tg M) (hs : s < S) (hg : M 15 4 = g) (h0 : ∀ a : Nat, a < 81 → M 16 ((s : Int) * 81 + a) = 0) (hd : 3 ≤ d) : zF (zSH Ln) d i_Ta_fill [zR 15, zI (s : Int)] M fun r M' => r = none ∧ ∃ F E, M' = zst (zst (zst M 17 (zf (M 17) s (zcnt (mv s) (zbit g) P))) 18 F) 16 E ∧ (∀ a : Nat, a < zcnt (mv s) (zbit g) P → E ((s : Int) * 81 + a) = zset S (zend (mv s) (tg s) (zbit g) P a)) ∧ ∀ x : Int, x < (s : Int) * 81 ∨ (s : Int) * 81 + 81 ≤ x → E x = M 16 x := by
  rw [zF_en k_Ta_fill_0 (L := [zR 15, zI (s : Int), zU, zU, zU]) rfl]
  have hP4 := hN.2.2.2.1
  have hS := hN.2.1
  have hm := hN.2.2.2.2.1 s
  have h81 := zcnt_81 hm zall1 hP4
  simp (disch := first | omega | exact Nat.le_of_ble_eq_true rfl | assumption | (simp only [Int.natCast_add, Int.natCast_mul, Int.cast_ofNat_Int]; omega) | decide) only [x_aload, x_getf, w_goto, w_fall, w_iadd, w_iconst, w_icmp, x_iinc, x_iload, w_imul, w_ior, w_ishl, x_istore, zadd_eq, zmul_eq, gf_15_0, gf_15_1, gf_15_2, gf_15_3, gf_15_4, at_16, ao_16, pu_16, at_17, ao_17, pu_17, at_18, ao_18, pu_18, w_vret r_Ta_fill, q_eq, q_ne, q_lt, q_ge, q_gt, q_le, g_I, g_L, g_R, g_V, t_0, t_I, t_R, t_U, t_L, t_s, List.getElem?_cons_zero, List.getElem?_cons_succ, Nat.reduceAdd, zif10, zif01b, zib, if_pos, if_neg, reduceIte, not_true_eq_false, not_false_eq_true, Bool.true_eq_false, Bool.false_eq_true, Classical.not_not, eq_self, and_self, and_true, true_and, Int.reduceEq, Int.reduceLE, Int.reduceLT, Int.reduceNeg, Option.toList, List.cons_append, List.nil_append, zup_s, zup_n, zst_s, zup_zs, zup_zn, decide_true, decide_false, hg, c_Ne_ways hN hC, zup_st]
  refine c_Ta_share (M := zst M 17 _) hN hC (by omega) hg (by omega) (Nat.le_of_ble_eq_true rfl) ?_
  rintro _ _ ⟨rfl, F, rfl, hF⟩
  have hC1 : ∀ A B C, zNetC S P mv tg (zst (zst (zst M 17 A) 18 B) 16 C) := fun _ _ _ => hC
  simp (disch := first | omega | exact Nat.le_of_ble_eq_true rfl | assumption | (simp only [Int.natCast_add, Int.natCast_mul, Int.cast_ofNat_Int]; omega) | decide) only [x_aload, x_getf, w_goto, w_fall, w_iadd, w_iconst, w_icmp, x_iinc, x_iload, w_imul, w_ior, w_ishl, x_istore, zadd_eq, zmul_eq, gf_15_0, gf_15_1, gf_15_2, gf_15_3, gf_15_4, at_16, ao_16, pu_16, at_17, ao_17, pu_17, at_18, ao_18, pu_18, w_vret r_Ta_fill, q_eq, q_ne, q_lt, q_ge, q_gt, q_le, g_I, g_L, g_R, g_V, t_0, t_I, t_R, t_U, t_L, t_s, List.getElem?_cons_zero, List.getElem?_cons_succ, Nat.reduceAdd, zif10, zif01b, zib, if_pos, if_neg, reduceIte, not_true_eq_false, not_false_eq_true, Bool.true_eq_false, Bool.false_eq_true, Classical.not_not, eq_self, and_self, and_true, true_and, Int.reduceEq, Int.reduceLE, Int.reduceLT, Int.reduceNeg, Option.toList, List.cons_append, List.nil_append, zup_s, zup_n, zst_s, zup_zs, zup_zn, decide_true, decide_false]
  refine zfor (a := 0) (N := (zcnt (mv s) zall1 P)) (b := 1) (fun p L0 M0 => ∃ E v4, L0 = [zR 15, zI s, zI (zcnt (mv s) zall1 P : Int), zI (p : Int), v4] ∧ M0 = zst (zst (zst M 17 (zf (M 17) s (zcnt (mv s) (zbit g) P))) 18 F) 16 E ∧ (∀ a : Nat, a < 81 → E ((s : Int) * 81 + a) = zset S (fun t => zan p fun i => decide (zshare (mv s) (zbit g) P i = a) && decide (tg s i = t))) ∧ ∀ x : Int, x < (s : Int) * 81 ∨ (s : Int) * 81 + 81 ≤ x → E x = M 16 x) ?_ ?_ ?_ ?_
  · exact Nat.zero_le _
  · refine ⟨M 16, zU, rfl, (zst_id (zst (zst M 17 _) 18 _) 16).symm, fun a ha => ?_, fun x _ => rfl⟩
    rw [h0 a ha]
    exact zset_none.symm
  · rintro p _ _ _ hp ⟨E, v4, rfl, rfl, hE1, hE2⟩ ih
    have hsh := (zcomb_share hm (zbit g) P p hp).1
    have h81g := zcnt_81 hm (zbit g) hP4
    have ht := zNet_t hN hs p hp
    have hj := hF p hp
    have he := hE1 (zshare (mv s) (zbit g) P p) (by omega)
    rw [k_Ta_fill_1]
    simp (disch := first | omega | exact Nat.le_of_ble_eq_true rfl | assumption | (simp only [Int.natCast_add, Int.natCast_mul, Int.cast_ofNat_Int]; omega) | decide) only [k_Ta_fill_2, x_aload, x_getf, w_goto, w_fall, w_iadd, w_iconst, w_icmp, x_iinc, x_iload, w_imul, w_ior, w_ishl, x_istore, zadd_eq, zmul_eq, gf_15_0, gf_15_1, gf_15_2, gf_15_3, gf_15_4, at_16, ao_16, pu_16, at_17, ao_17, pu_17, at_18, ao_18, pu_18, w_vret r_Ta_fill, q_eq, q_ne, q_lt, q_ge, q_gt, q_le, g_I, g_L, g_R, g_V, t_0, t_I, t_R, t_U, t_L, t_s, List.getElem?_cons_zero, List.getElem?_cons_succ, Nat.reduceAdd, zif10, zif01b, zib, if_pos, if_neg, reduceIte, not_true_eq_false, not_false_eq_true, Bool.true_eq_false, Bool.false_eq_true, Classical.not_not, eq_self, and_self, and_true, true_and, Int.reduceEq, Int.reduceLE, Int.reduceLT, Int.reduceNeg, Option.toList, List.cons_append, List.nil_append, zup_s, zup_n, zst_s, zup_zs, zup_zn, decide_true, decide_false, zst_n, hj, he, c_Ne_target (hC1 _ _ _), zset_up]
    refine ih _ _ ⟨_, _, rfl, rfl, fun a ha => ?_, fun x hx => ?_⟩
    · by_cases e : a = zshare (mv s) (zbit g) P p
      · subst e
        rw [zf_s]
        refine zset_cong fun t ht => ?_
        simp only [zan, decide_true, Bool.true_and]
        congr 1
        exact decide_eq_decide.mpr eq_comm
      · rw [zf_n (by omega), hE1 a ha]
        refine zset_cong fun t ht => ?_
        simp [zan, show ¬ zshare (mv s) (zbit g) P p = a from fun z => e z.symm]
    · rw [zf_n (by omega)]; exact hE2 x hx
  · rintro _ _ ⟨E, v4, rfl, rfl, hE1, hE2⟩
    rw [k_Ta_fill_1]
    simp (disch := first | omega | exact Nat.le_of_ble_eq_true rfl | assumption | (simp only [Int.natCast_add, Int.natCast_mul, Int.cast_ofNat_Int]; omega) | decide) only [k_Ta_fill_3, x_aload, x_getf, w_goto, w_fall, w_iadd, w_iconst, w_icmp, x_iinc, x_iload, w_imul, w_ior, w_ishl, x_istore, zadd_eq, zmul_eq, gf_15_0, gf_15_1, gf_15_2, gf_15_3, gf_15_4, at_16, ao_16, pu_16, at_17, ao_17, pu_17, at_18, ao_18, pu_18, w_vret r_Ta_fill, q_eq, q_ne, q_lt, q_ge, q_gt, q_le, g_I, g_L, g_R, g_V, t_0, t_I, t_R, t_U, t_L, t_s, List.getElem?_cons_zero, List.getElem?_cons_succ, Nat.reduceAdd, zif10, zif01b, zib, if_pos, if_neg, reduceIte, not_true_eq_false, not_false_eq_true, Bool.true_eq_false, Bool.false_eq_true, Classical.not_not, eq_self, and_self, and_true, true_and, Int.reduceEq, Int.reduceLE, Int.reduceLT, Int.reduceNeg, Option.toList, List.cons_append, List.nil_append, zup_s, zup_n, zst_s, zup_zs, zup_zn, decide_true, decide_false]
    refine ⟨F, E, rfl, fun a ha => ?_, hE2⟩
    have h81g := zcnt_81 hm (zbit g) hP4
    rw [hE1 a (by omega)]
    exact zset_cong fun t ht => (zend_all hm ha).symm
theorem c_Ta_fill {d mi o b9 : Nat} {es : List zEnt} {L st : List zMV} {Q : Option zMV → (Nat → Int → Int) → Prop} {s : Nat} {g : Int} (hN : zNet S P mv tg) (hC : zNetC S P mv tg M) (hs : s < S) (hg : M 15 4 = g) (h0 : ∀ a : Nat, a < 81 → M 16 ((s : Int) * 81 + a) = 0) (hd : 3 + 1 ≤ d) (hc : zcats st ≤ 8) (hpost : ∀ r M', (r = none ∧ ∃ F E, M' = zst (zst (zst M 17 (zf (M 17) s (zcnt (mv s) (zbit g) P))) 18 F) 16 E ∧ (∀ a : Nat, a < zcnt (mv s) (zbit g) P → E ((s : Int) * 81 + a) = zset S (zend (mv s) (tg s) (zbit g) P a)) ∧ ∀ x : Int, x < (s : Int) * 81 ∨ (s : Int) * 81 + 81 ≤ x → E x = M 16 x) → zW (zSH Ln) d mi es L (r.toList ++ st) M' Q) : zW (zSH Ln) d mi ((.invokevirtual o, 68, b9) :: es) L (zI (s : Int) :: zR 15 :: st) M Q :=
  w_callv (ps := [zI (s : Int)]) (by omega) rfl rfl (by omega) (by exact sh_15 Ln) hc (Nat.le_of_ble_eq_true rfl) (F_Ta_fill hN hC hs hg h0 (by omega)) hpost
theorem F_Ta_prepare {d : Nat} {x : Int} (hN : zNet S P mv tg) (hC : zNetC S P mv tg M) (hT : zTabI S P mv tg M) (hd : 4 ≤ d) : zF (zSH Ln) d i_Ta_prepare [zR 15, zI x] M fun r M' => r = none ∧ zKp [15, 16, 17, 18] M M' ∧ M' 15 4 = x ∧ M' 15 5 = M 3 2 ∧ (∀ k, k < 4 → M' 15 k = M 15 k) ∧ zTabC S P mv tg (zbit x) M' := by
  rw [zF_en k_Ta_prepare_0 (L := [zR 15, zI x, zU]) rfl]
  have hP4 := hN.2.2.2.1
  have hS := hN.2.1
  have hm := hN.2.2.2.2.1
  have fin : ¬ (M 15 4 = x ∧ M 15 5 = M 3 2) → zW (zSH Ln) d i_Ta_prepare (zblk i_Ta_prepare 3) [zR 15, zI x, zU] [] M fun r M' => r = none ∧ zKp [15, 16, 17, 18] M M' ∧ M' 15 4 = x ∧ M' 15 5 = M 3 2 ∧ (∀ k, k < 4 → M' 15 k = M 15 k) ∧ zTabC S P mv tg (zbit x) M' := by
    intro _
    rw [k_Ta_prepare_3]
    simp (disch := first | omega | exact Nat.le_of_ble_eq_true rfl | assumption | (simp only [Int.natCast_add, Int.natCast_mul, Int.cast_ofNat_Int]; omega) | decide) only [x_aload, x_getf, w_goto, w_fall, w_iconst, w_icmp, x_iinc, x_iload, x_istore, zadd_eq, gf_3_0, gf_3_2, gf_15_0, gf_15_1, gf_15_4, gf_15_5, xp_15_4, xp_15_5, w_vret r_Ta_prepare, q_eq, q_ne, q_lt, q_ge, q_gt, q_le, g_I, g_L, g_R, g_V, t_0, t_I, t_R, t_U, t_L, t_s, List.getElem?_cons_zero, List.getElem?_cons_succ, Nat.reduceAdd, zif10, zif01b, zib, if_pos, if_neg, reduceIte, not_true_eq_false, not_false_eq_true, Bool.true_eq_false, Bool.false_eq_true, Classical.not_not, eq_self, and_self, and_true, true_and, Int.reduceEq, Int.reduceLE, Int.reduceLT, Int.reduceNeg, Option.toList, List.cons_append, List.nil_append, zup_s, zup_n, zst_s, zup_zs, zup_zn, decide_true, decide_false, zup_n]
    refine c_JA_fill (sh_16 Ln) (by omega) (by omega) (by omega) (Nat.le_of_ble_eq_true rfl) ?_
    rintro _ _ ⟨rfl, rfl⟩
    simp (disch := first | omega | exact Nat.le_of_ble_eq_true rfl | assumption | (simp only [Int.natCast_add, Int.natCast_mul, Int.cast_ofNat_Int]; omega) | decide) only [x_aload, x_getf, w_goto, w_fall, w_iconst, w_icmp, x_iinc, x_iload, x_istore, zadd_eq, gf_3_0, gf_3_2, gf_15_0, gf_15_1, gf_15_4, gf_15_5, xp_15_4, xp_15_5, w_vret r_Ta_prepare, q_eq, q_ne, q_lt, q_ge, q_gt, q_le, g_I, g_L, g_R, g_V, t_0, t_I, t_R, t_U, t_L, t_s, List.getElem?_cons_zero, List.getElem?_cons_succ, Nat.reduceAdd, zif10, zif01b, zib, if_pos, if_neg, reduceIte, not_true_eq_false, not_false_eq_true, Bool.true_eq_false, Bool.false_eq_true, Classical.not_not, eq_self, and_self, and_true, true_and, Int.reduceEq, Int.reduceLE, Int.reduceLT, Int.reduceNeg, Option.toList, List.cons_append, List.nil_append, zup_s, zup_n, zst_s, zup_zs, zup_zn, decide_true, decide_false]
    refine zfor (a := 0) (N := S) (b := 4) (fun p L0 M0 => ∃ M1, L0 = [zR 15, zI x, zI (p : Int)] ∧ M0 = M1 ∧ zKp [15, 16, 17, 18] M M1 ∧ M1 15 4 = x ∧ M1 15 5 = M 3 2 ∧ (∀ k, k < 4 → M1 15 k = M 15 k) ∧ (∀ s : Nat, s < p → M1 17 (s : Int) = zcnt (mv s) (zbit x) P) ∧ (∀ s a : Nat, s < p → a < zcnt (mv s) (zbit x) P → M1 16 ((s : Int) * 81 + a) = zset S (zend (mv s) (tg s) (zbit x) P a)) ∧ ∀ s a : Nat, p ≤ s → s < S → a < 81 → M1 16 ((s : Int) * 81 + a) = 0) ?_ ?_ ?_ ?_
    · exact Nat.zero_le _
    · refine ⟨_, rfl, rfl, ?_, ?_, ?_, ?_, ?_, ?_, ?_⟩
      · exact zKp_st (by decide) (zKp_up (by decide) (zKp_up (by decide) (zKp_rf _ _)))
      · simp [zst, zup]
      · simp [zst, zup]
      · intro k hk
        simp [zst, zup]
        rw [if_neg (by omega), if_neg (by omega)]
      · intro s hs; omega
      · intro s a hs; omega
      · intro s a _ h1 h2
        rw [zst_s, zrng_in (by omega)]
    · rintro p _ M1 _ hp ⟨_, rfl, rfl, hk, h4, h5, hf, h17, h16, h0⟩ ih
      have hC1 : zNetC S P mv tg M1 := by
        refine ⟨?_, ?_, ?_, ?_⟩
        · rw [hk 3 (by decide)]; exact hC.1
        · rw [hk 3 (by decide)]; exact hC.2.1
        · rw [hk 4 (by decide)]; exact hC.2.2.1
        · rw [hk 7 (by decide)]; exact hC.2.2.2
      rw [k_Ta_prepare_4]
      simp (disch := first | omega | exact Nat.le_of_ble_eq_true rfl | assumption | (simp only [Int.natCast_add, Int.natCast_mul, Int.cast_ofNat_Int]; omega) | decide) only [k_Ta_prepare_5, x_aload, x_getf, w_goto, w_fall, w_iconst, w_icmp, x_iinc, x_iload, x_istore, zadd_eq, gf_3_0, gf_3_2, gf_15_0, gf_15_1, gf_15_4, gf_15_5, xp_15_4, xp_15_5, w_vret r_Ta_prepare, q_eq, q_ne, q_lt, q_ge, q_gt, q_le, g_I, g_L, g_R, g_V, t_0, t_I, t_R, t_U, t_L, t_s, List.getElem?_cons_zero, List.getElem?_cons_succ, Nat.reduceAdd, zif10, zif01b, zib, if_pos, if_neg, reduceIte, not_true_eq_false, not_false_eq_true, Bool.true_eq_false, Bool.false_eq_true, Classical.not_not, eq_self, and_self, and_true, true_and, Int.reduceEq, Int.reduceLE, Int.reduceLT, Int.reduceNeg, Option.toList, List.cons_append, List.nil_append, zup_s, zup_n, zst_s, zup_zs, zup_zn, decide_true, decide_false, hC1.1]
      refine c_Ta_fill hN hC1 hp h4 (fun a ha => h0 p a (Nat.le_refl _) hp ha) (by omega) (Nat.le_of_ble_eq_true rfl) ?_
      rintro _ _ ⟨rfl, F, E, rfl, hE1, hE2⟩
      simp (disch := first | omega | exact Nat.le_of_ble_eq_true rfl | assumption | (simp only [Int.natCast_add, Int.natCast_mul, Int.cast_ofNat_Int]; omega) | decide) only [x_aload, x_getf, w_goto, w_fall, w_iconst, w_icmp, x_iinc, x_iload, x_istore, zadd_eq, gf_3_0, gf_3_2, gf_15_0, gf_15_1, gf_15_4, gf_15_5, xp_15_4, xp_15_5, w_vret r_Ta_prepare, q_eq, q_ne, q_lt, q_ge, q_gt, q_le, g_I, g_L, g_R, g_V, t_0, t_I, t_R, t_U, t_L, t_s, List.getElem?_cons_zero, List.getElem?_cons_succ, Nat.reduceAdd, zif10, zif01b, zib, if_pos, if_neg, reduceIte, not_true_eq_false, not_false_eq_true, Bool.true_eq_false, Bool.false_eq_true, Classical.not_not, eq_self, and_self, and_true, true_and, Int.reduceEq, Int.reduceLE, Int.reduceLT, Int.reduceNeg, Option.toList, List.cons_append, List.nil_append, zup_s, zup_n, zst_s, zup_zs, zup_zn, decide_true, decide_false]
      refine ih _ _ ⟨_, rfl, rfl, ?_, h4, h5, hf, ?_, ?_, ?_⟩
      · exact zKp_st (by decide) (zKp_st (by decide) (zKp_st (by decide) hk))
      · intro s hs
        show zf (M1 17) _ _ _ = _
        by_cases e : s = p
        · subst e; rw [zf_s]
        · rw [zf_n (by omega)]; exact h17 s (by omega)
      · intro s a hs ha
        show E _ = _
        have h81 := zcnt_81 (hm s) (zbit x) hP4
        by_cases e : s = p
        · subst e; exact hE1 a ha
        · rw [hE2 _ (by omega)]; exact h16 s a (by omega) ha
      · intro s a h1 h2 h3
        show E _ = _
        rw [hE2 _ (by omega)]; exact h0 s a (by omega) h2 h3
    · rintro _ M1 ⟨_, rfl, rfl, hk, h4, h5, hf, h17, h16, h0⟩
      rw [k_Ta_prepare_4]
      simp (disch := first | omega | exact Nat.le_of_ble_eq_true rfl | assumption | (simp only [Int.natCast_add, Int.natCast_mul, Int.cast_ofNat_Int]; omega) | decide) only [k_Ta_prepare_6, x_aload, x_getf, w_goto, w_fall, w_iconst, w_icmp, x_iinc, x_iload, x_istore, zadd_eq, gf_3_0, gf_3_2, gf_15_0, gf_15_1, gf_15_4, gf_15_5, xp_15_4, xp_15_5, w_vret r_Ta_prepare, q_eq, q_ne, q_lt, q_ge, q_gt, q_le, g_I, g_L, g_R, g_V, t_0, t_I, t_R, t_U, t_L, t_s, List.getElem?_cons_zero, List.getElem?_cons_succ, Nat.reduceAdd, zif10, zif01b, zib, if_pos, if_neg, reduceIte, not_true_eq_false, not_false_eq_true, Bool.true_eq_false, Bool.false_eq_true, Classical.not_not, eq_self, and_self, and_true, true_and, Int.reduceEq, Int.reduceLE, Int.reduceLT, Int.reduceNeg, Option.toList, List.cons_append, List.nil_append, zup_s, zup_n, zst_s, zup_zs, zup_zn, decide_true, decide_false, show M1 3 0 = (S : Int) by rw [hk 3 (by decide)]; exact hC.1]
      exact ⟨hk, h4, h5, hf, h17, h16⟩
  by_cases h1 : M 15 4 = x
  · by_cases h2 : M 15 5 = M 3 2
    · simp (disch := first | omega | exact Nat.le_of_ble_eq_true rfl | assumption | (simp only [Int.natCast_add, Int.natCast_mul, Int.cast_ofNat_Int]; omega) | decide) only [k_Ta_prepare_1, k_Ta_prepare_2, x_aload, x_getf, w_goto, w_fall, w_iconst, w_icmp, x_iinc, x_iload, x_istore, zadd_eq, gf_3_0, gf_3_2, gf_15_0, gf_15_1, gf_15_4, gf_15_5, xp_15_4, xp_15_5, w_vret r_Ta_prepare, q_eq, q_ne, q_lt, q_ge, q_gt, q_le, g_I, g_L, g_R, g_V, t_0, t_I, t_R, t_U, t_L, t_s, List.getElem?_cons_zero, List.getElem?_cons_succ, Nat.reduceAdd, zif10, zif01b, zib, if_pos, if_neg, reduceIte, not_true_eq_false, not_false_eq_true, Bool.true_eq_false, Bool.false_eq_true, Classical.not_not, eq_self, and_self, and_true, true_and, Int.reduceEq, Int.reduceLE, Int.reduceLT, Int.reduceNeg, Option.toList, List.cons_append, List.nil_append, zup_s, zup_n, zst_s, zup_zs, zup_zn, decide_true, decide_false, h1, h2]
      refine ⟨zKp_rf _ _, fun _ _ => trivial, ?_⟩
      rw [← h1]
      exact hT h2
    · simp (disch := first | omega | exact Nat.le_of_ble_eq_true rfl | assumption | (simp only [Int.natCast_add, Int.natCast_mul, Int.cast_ofNat_Int]; omega) | decide) only [k_Ta_prepare_1, x_aload, x_getf, w_goto, w_fall, w_iconst, w_icmp, x_iinc, x_iload, x_istore, zadd_eq, gf_3_0, gf_3_2, gf_15_0, gf_15_1, gf_15_4, gf_15_5, xp_15_4, xp_15_5, w_vret r_Ta_prepare, q_eq, q_ne, q_lt, q_ge, q_gt, q_le, g_I, g_L, g_R, g_V, t_0, t_I, t_R, t_U, t_L, t_s, List.getElem?_cons_zero, List.getElem?_cons_succ, Nat.reduceAdd, zif10, zif01b, zib, if_pos, if_neg, reduceIte, not_true_eq_false, not_false_eq_true, Bool.true_eq_false, Bool.false_eq_true, Classical.not_not, eq_self, and_self, and_true, true_and, Int.reduceEq, Int.reduceLE, Int.reduceLT, Int.reduceNeg, Option.toList, List.cons_append, List.nil_append, zup_s, zup_n, zst_s, zup_zs, zup_zn, decide_true, decide_false, h1, h2]
      exact fin (fun z => h2 z.2)
  · have h1' : ¬ x = M 15 4 := fun z => h1 z.symm
    simp (disch := first | omega | exact Nat.le_of_ble_eq_true rfl | assumption | (simp only [Int.natCast_add, Int.natCast_mul, Int.cast_ofNat_Int]; omega) | decide) only [x_aload, x_getf, w_goto, w_fall, w_iconst, w_icmp, x_iinc, x_iload, x_istore, zadd_eq, gf_3_0, gf_3_2, gf_15_0, gf_15_1, gf_15_4, gf_15_5, xp_15_4, xp_15_5, w_vret r_Ta_prepare, q_eq, q_ne, q_lt, q_ge, q_gt, q_le, g_I, g_L, g_R, g_V, t_0, t_I, t_R, t_U, t_L, t_s, List.getElem?_cons_zero, List.getElem?_cons_succ, Nat.reduceAdd, zif10, zif01b, zib, if_pos, if_neg, reduceIte, not_true_eq_false, not_false_eq_true, Bool.true_eq_false, Bool.false_eq_true, Classical.not_not, eq_self, and_self, and_true, true_and, Int.reduceEq, Int.reduceLE, Int.reduceLT, Int.reduceNeg, Option.toList, List.cons_append, List.nil_append, zup_s, zup_n, zst_s, zup_zs, zup_zn, decide_true, decide_false, h1']
    exact fin (fun z => h1 z.1)
theorem c_Ta_prepare {d mi o b9 : Nat} {es : List zEnt} {L st : List zMV} {Q : Option zMV → (Nat → Int → Int) → Prop} {x : Int} (hN : zNet S P mv tg) (hC : zNetC S P mv tg M) (hT : zTabI S P mv tg M) (hd : 4 + 1 ≤ d) (hc : zcats st ≤ 8) (hpost : ∀ r M', (r = none ∧ zKp [15, 16, 17, 18] M M' ∧ M' 15 4 = x ∧ M' 15 5 = M 3 2 ∧ (∀ k, k < 4 → M' 15 k = M 15 k) ∧ zTabC S P mv tg (zbit x) M') → zW (zSH Ln) d mi es L (r.toList ++ st) M' Q) : zW (zSH Ln) d mi ((.invokevirtual o, 67, b9) :: es) L (zI x :: zR 15 :: st) M Q :=
  w_callv (ps := [zI x]) (by omega) rfl rfl (by omega) (by exact sh_15 Ln) hc (Nat.le_of_ble_eq_true rfl) (F_Ta_prepare hN hC hT (by omega)) hpost
theorem F_Ta_endsOf {d : Nat} {s a : Nat} {g : Nat → Bool} (hN : zNet S P mv tg) (hT : zTabC S P mv tg g M) (hs : s < S) (ha : a < zcnt (mv s) g P) (hd : 1 ≤ d) : zF (zSH Ln) d i_Ta_endsOf [zR 15, zI (s : Int), zI (a : Int)] M fun r M' => r = some (zI (zset S (zend (mv s) (tg s) g P a))) ∧ M' = M := by
  rw [zF_en k_Ta_endsOf_0 (L := [zR 15, zI (s : Int), zI (a : Int)]) rfl]
  have hS := hN.2.1
  have h81 := zcnt_81 (hN.2.2.2.2.1 s) g hN.2.2.2.1
  have := hT.2 s a hs ha
  simp (disch := first | omega | exact Nat.le_of_ble_eq_true rfl | assumption | (simp only [Int.natCast_add, Int.natCast_mul, Int.cast_ofNat_Int]; omega) | decide) only [x_aload, x_getf, w_iadd, w_iconst, x_iload, w_imul, zadd_eq, zmul_eq, gf_15_1, at_16, ao_16, w_nret r_Ta_endsOf, q_eq, q_ne, q_lt, q_ge, q_gt, q_le, g_I, g_L, g_R, g_V, t_0, t_I, t_R, t_U, t_L, t_s, List.getElem?_cons_zero, List.getElem?_cons_succ, Nat.reduceAdd, zif10, zif01b, zib, if_pos, if_neg, reduceIte, not_true_eq_false, not_false_eq_true, Bool.true_eq_false, Bool.false_eq_true, Classical.not_not, eq_self, and_self, and_true, true_and, Int.reduceEq, Int.reduceLE, Int.reduceLT, Int.reduceNeg, Option.toList, List.cons_append, List.nil_append, zup_s, zup_n, zst_s, zup_zs, zup_zn, decide_true, decide_false, this]
theorem c_Ta_endsOf {d mi o b9 : Nat} {es : List zEnt} {L st : List zMV} {Q : Option zMV → (Nat → Int → Int) → Prop} {s a : Nat} {g : Nat → Bool} (hN : zNet S P mv tg) (hT : zTabC S P mv tg g M) (hs : s < S) (ha : a < zcnt (mv s) g P) (hd : 1 + 1 ≤ d) (hc : zcats st ≤ 8) : zW (zSH Ln) d mi ((.invokevirtual o, 70, b9) :: es) L (zI (a : Int) :: zI (s : Int) :: zR 15 :: st) M Q = zW (zSH Ln) d mi es L (zI (zset S (zend (mv s) (tg s) g P a)) :: st) (M) Q :=
  c_virt (ps := [zI (s : Int), zI (a : Int)]) (by omega) rfl rfl (by omega) (by exact sh_15 Ln) hc (Nat.le_of_ble_eq_true rfl) (F_Ta_endsOf hN hT hs ha (by omega))
theorem F_Ta_leastInto {d : Nat} {s : Nat} {x : Int} {g : Nat → Bool} (hN : zNet S P mv tg) (hT : zTabC S P mv tg g M) (hs : s < S) (hd : 1 ≤ d) : zF (zSH Ln) d i_Ta_leastInto [zR 15, zI (s : Int), zI x] M fun r M' => r = some (zI (if zleast (mv s) (tg s) g P (zbit x) < zcnt (mv s) g P then (zleast (mv s) (tg s) g P (zbit x) : Int) else -1)) ∧ M' = M := by
  rw [zF_en k_Ta_leastInto_0 (L := [zR 15, zI (s : Int), zI x, zU, zU]) rfl]
  have hS := hN.2.1
  have hm := hN.2.2.2.2.1 s
  have h81 := zcnt_81 hm g hN.2.2.2.1
  have h17 := hT.1 s hs
  simp (disch := first | omega | exact Nat.le_of_ble_eq_true rfl | assumption | (simp only [Int.natCast_add, Int.natCast_mul, Int.cast_ofNat_Int]; omega) | decide) only [x_aload, x_getf, w_goto, w_fall, w_iadd, w_iand, w_iconst, w_if, w_icmp, x_iinc, x_iload, w_imul, x_istore, w_ixor, zadd_eq, zmul_eq, gf_15_1, gf_15_2, at_16, ao_16, at_17, ao_17, w_nret r_Ta_leastInto, q_eq, q_ne, q_lt, q_ge, q_gt, q_le, g_I, g_L, g_R, g_V, t_0, t_I, t_R, t_U, t_L, t_s, List.getElem?_cons_zero, List.getElem?_cons_succ, Nat.reduceAdd, zif10, zif01b, zib, if_pos, if_neg, reduceIte, not_true_eq_false, not_false_eq_true, Bool.true_eq_false, Bool.false_eq_true, Classical.not_not, eq_self, and_self, and_true, true_and, Int.reduceEq, Int.reduceLE, Int.reduceLT, Int.reduceNeg, Option.toList, List.cons_append, List.nil_append, zup_s, zup_n, zst_s, zup_zs, zup_zn, decide_true, decide_false, h17]
  refine zfor (a := 0) (N := (zcnt (mv s) g P)) (b := 1) (fun p L0 M0 => L0 = [zR 15, zI s, zI x, zI (zcnt (mv s) g P : Int), zI (p : Int)] ∧ M0 = M ∧ ∀ i, i < p → zinto (mv s) (tg s) g P (zbit x) i = false) ?_ ?_ ?_ ?_
  · exact Nat.zero_le _
  · exact ⟨rfl, rfl, fun i hi => by omega⟩
  · rintro p _ _ _ hp ⟨rfl, rfl, hno⟩ ih
    have h16 := hT.2 s p hs hp
    have key : (zset S (fun i => zend (mv s) (tg s) g P p i && !zbit x i) = 0) ↔ zinto (mv s) (tg s) g P (zbit x) p = true := by
      rw [zset_eq0 (by omega), zinto_end (zNet_t hN hs) hm]
      constructor
      · intro h t ht h2
        have := h t ht
        rw [h2] at this
        simpa using this
      · intro h t ht
        cases h2 : zend (mv s) (tg s) g P p t with
        | false => rfl
        | true => rw [h t ht h2]; rfl
    rw [k_Ta_leastInto_1]
    cases hi : zinto (mv s) (tg s) g P (zbit x) p
    · have k2 : ¬ zset S (fun i => zend (mv s) (tg s) g P p i && !zbit x i) = 0 := fun z => by rw [key.mp z] at hi; cases hi
      simp (disch := first | omega | exact Nat.le_of_ble_eq_true rfl | assumption | (simp only [Int.natCast_add, Int.natCast_mul, Int.cast_ofNat_Int]; omega) | decide) only [k_Ta_leastInto_2, k_Ta_leastInto_4, x_aload, x_getf, w_goto, w_fall, w_iadd, w_iand, w_iconst, w_if, w_icmp, x_iinc, x_iload, w_imul, x_istore, w_ixor, zadd_eq, zmul_eq, gf_15_1, gf_15_2, at_16, ao_16, at_17, ao_17, w_nret r_Ta_leastInto, q_eq, q_ne, q_lt, q_ge, q_gt, q_le, g_I, g_L, g_R, g_V, t_0, t_I, t_R, t_U, t_L, t_s, List.getElem?_cons_zero, List.getElem?_cons_succ, Nat.reduceAdd, zif10, zif01b, zib, if_pos, if_neg, reduceIte, not_true_eq_false, not_false_eq_true, Bool.true_eq_false, Bool.false_eq_true, Classical.not_not, eq_self, and_self, and_true, true_and, Int.reduceEq, Int.reduceLE, Int.reduceLT, Int.reduceNeg, Option.toList, List.cons_append, List.nil_append, zup_s, zup_n, zst_s, zup_zs, zup_zn, decide_true, decide_false, h16, zset_difx, k2]
      refine ih _ _ ⟨rfl, rfl, fun i h2 => ?_⟩
      by_cases e : i = p
      · subst e; exact hi
      · exact hno i (by omega)
    · have k2 := key.mpr hi
      have e : zleast (mv s) (tg s) g P (zbit x) = p := zfst_is hp hi hno
      simp (disch := first | omega | exact Nat.le_of_ble_eq_true rfl | assumption | (simp only [Int.natCast_add, Int.natCast_mul, Int.cast_ofNat_Int]; omega) | decide) only [k_Ta_leastInto_2, k_Ta_leastInto_3, x_aload, x_getf, w_goto, w_fall, w_iadd, w_iand, w_iconst, w_if, w_icmp, x_iinc, x_iload, w_imul, x_istore, w_ixor, zadd_eq, zmul_eq, gf_15_1, gf_15_2, at_16, ao_16, at_17, ao_17, w_nret r_Ta_leastInto, q_eq, q_ne, q_lt, q_ge, q_gt, q_le, g_I, g_L, g_R, g_V, t_0, t_I, t_R, t_U, t_L, t_s, List.getElem?_cons_zero, List.getElem?_cons_succ, Nat.reduceAdd, zif10, zif01b, zib, if_pos, if_neg, reduceIte, not_true_eq_false, not_false_eq_true, Bool.true_eq_false, Bool.false_eq_true, Classical.not_not, eq_self, and_self, and_true, true_and, Int.reduceEq, Int.reduceLE, Int.reduceLT, Int.reduceNeg, Option.toList, List.cons_append, List.nil_append, zup_s, zup_n, zst_s, zup_zs, zup_zn, decide_true, decide_false, h16, zset_difx, k2, e]
  · rintro _ _ ⟨rfl, rfl, hno⟩
    have e : zleast (mv s) (tg s) g P (zbit x) = zcnt (mv s) g P := zfst_none hno
    rw [k_Ta_leastInto_1]
    simp (disch := first | omega | exact Nat.le_of_ble_eq_true rfl | assumption | (simp only [Int.natCast_add, Int.natCast_mul, Int.cast_ofNat_Int]; omega) | decide) only [k_Ta_leastInto_5, x_aload, x_getf, w_goto, w_fall, w_iadd, w_iand, w_iconst, w_if, w_icmp, x_iinc, x_iload, w_imul, x_istore, w_ixor, zadd_eq, zmul_eq, gf_15_1, gf_15_2, at_16, ao_16, at_17, ao_17, w_nret r_Ta_leastInto, q_eq, q_ne, q_lt, q_ge, q_gt, q_le, g_I, g_L, g_R, g_V, t_0, t_I, t_R, t_U, t_L, t_s, List.getElem?_cons_zero, List.getElem?_cons_succ, Nat.reduceAdd, zif10, zif01b, zib, if_pos, if_neg, reduceIte, not_true_eq_false, not_false_eq_true, Bool.true_eq_false, Bool.false_eq_true, Classical.not_not, eq_self, and_self, and_true, true_and, Int.reduceEq, Int.reduceLE, Int.reduceLT, Int.reduceNeg, Option.toList, List.cons_append, List.nil_append, zup_s, zup_n, zst_s, zup_zs, zup_zn, decide_true, decide_false, e, Nat.lt_irrefl]
theorem c_Ta_leastInto {d mi o b9 : Nat} {es : List zEnt} {L st : List zMV} {Q : Option zMV → (Nat → Int → Int) → Prop} {s : Nat} {x : Int} {g : Nat → Bool} (hN : zNet S P mv tg) (hT : zTabC S P mv tg g M) (hs : s < S) (hd : 1 + 1 ≤ d) (hc : zcats st ≤ 8) : zW (zSH Ln) d mi ((.invokevirtual o, 71, b9) :: es) L (zI x :: zI (s : Int) :: zR 15 :: st) M Q = zW (zSH Ln) d mi es L (zI (if zleast (mv s) (tg s) g P (zbit x) < zcnt (mv s) g P then (zleast (mv s) (tg s) g P (zbit x) : Int) else -1) :: st) (M) Q :=
  c_virt (ps := [zI (s : Int), zI x]) (by omega) rfl rfl (by omega) (by exact sh_15 Ln) hc (Nat.le_of_ble_eq_true rfl) (F_Ta_leastInto hN hT hs (by omega))
theorem F_Ta_forcing {d : Nat} {A X g : Nat → Bool} (hN : zNet S P mv tg) (hC : zNetC S P mv tg M) (hT : zTabC S P mv tg g M) (hd : 2 ≤ d) : zF (zSH Ln) d i_Ta_forcing [zR 15, zI (zset S A), zI (zset S X)] M fun r M' => r = some (zI (zset S fun s => A s && zcan (mv s) (tg s) g P X)) ∧ M' = M := by
  rw [zF_en k_Ta_forcing_0 (L := [zR 15, zI (zset S A), zI (zset S X), zU, zU]) rfl]
  have hS := hN.2.1
  simp (disch := first | omega | exact Nat.le_of_ble_eq_true rfl | assumption | (simp only [Int.natCast_add, Int.natCast_mul, Int.cast_ofNat_Int]; omega) | decide) only [x_aload, x_getf, w_goto, w_fall, w_iconst, w_if, w_icmp, x_iinc, x_iload, w_ior, w_ishl, x_istore, zadd_eq, gf_3_0, gf_15_0, w_nret r_Ta_forcing, q_eq, q_ne, q_lt, q_ge, q_gt, q_le, g_I, g_L, g_R, g_V, t_0, t_I, t_R, t_U, t_L, t_s, List.getElem?_cons_zero, List.getElem?_cons_succ, Nat.reduceAdd, zif10, zif01b, zib, if_pos, if_neg, reduceIte, not_true_eq_false, not_false_eq_true, Bool.true_eq_false, Bool.false_eq_true, Classical.not_not, eq_self, and_self, and_true, true_and, Int.reduceEq, Int.reduceLE, Int.reduceLT, Int.reduceNeg, Option.toList, List.cons_append, List.nil_append, zup_s, zup_n, zst_s, zup_zs, zup_zn, decide_true, decide_false]
  refine zfor (a := 0) (N := S) (b := 1) (fun p L0 M0 => L0 = [zR 15, zI (zset S A), zI (zset S X), zI (zset S fun s => decide (s < p) && (A s && zcan (mv s) (tg s) g P X)), zI (p : Int)] ∧ M0 = M) ?_ ?_ ?_ ?_
  · exact Nat.zero_le _
  · exact ⟨by simp [zset_none], rfl⟩
  · rintro p _ _ _ hp ⟨rfl, rfl⟩ ih
    have e : zleast (mv p) (tg p) g P (zbit (zset S X)) = zleast (mv p) (tg p) g P X := zleast_congr (hN.2.2.2.2.1 p) (zNet_t hN hp) fun i hi => by rw [zset_bit (by omega)]; simp [hi]
    have nx : ∀ b : Bool, b = (A p && zcan (mv p) (tg p) g P X) → (zset S fun s => decide (s < p + 1) && (A s && zcan (mv s) (tg s) g P X)) = zset S fun s => (decide (s < p) && (A s && zcan (mv s) (tg s) g P X)) || (b && decide (s = p)) := by
      intro b hb
      refine zset_cong fun i hi => ?_
      by_cases e : i = p
      · subst e; simp [hb]
      · simp [e, show (i < p + 1) ↔ (i < p) by omega]
    rw [k_Ta_forcing_1]
    cases hA : A p
    · simp (disch := first | omega | exact Nat.le_of_ble_eq_true rfl | assumption | (simp only [Int.natCast_add, Int.natCast_mul, Int.cast_ofNat_Int]; omega) | decide) only [k_Ta_forcing_2, k_Ta_forcing_5, x_aload, x_getf, w_goto, w_fall, w_iconst, w_if, w_icmp, x_iinc, x_iload, w_ior, w_ishl, x_istore, zadd_eq, gf_3_0, gf_15_0, w_nret r_Ta_forcing, q_eq, q_ne, q_lt, q_ge, q_gt, q_le, g_I, g_L, g_R, g_V, t_0, t_I, t_R, t_U, t_L, t_s, List.getElem?_cons_zero, List.getElem?_cons_succ, Nat.reduceAdd, zif10, zif01b, zib, if_pos, if_neg, reduceIte, not_true_eq_false, not_false_eq_true, Bool.true_eq_false, Bool.false_eq_true, Classical.not_not, eq_self, and_self, and_true, true_and, Int.reduceEq, Int.reduceLE, Int.reduceLT, Int.reduceNeg, Option.toList, List.cons_append, List.nil_append, zup_s, zup_n, zst_s, zup_zs, zup_zn, decide_true, decide_false, hC.1, c_hasS, hA]
      refine ih _ _ ⟨?_, rfl⟩
      rw [nx false (by rw [hA]; rfl)]
      simp
    · by_cases hz : zleast (mv p) (tg p) g P X < zcnt (mv p) g P
      · simp (disch := first | omega | exact Nat.le_of_ble_eq_true rfl | assumption | (simp only [Int.natCast_add, Int.natCast_mul, Int.cast_ofNat_Int]; omega) | decide) only [k_Ta_forcing_2, k_Ta_forcing_3, k_Ta_forcing_4, k_Ta_forcing_5, x_aload, x_getf, w_goto, w_fall, w_iconst, w_if, w_icmp, x_iinc, x_iload, w_ior, w_ishl, x_istore, zadd_eq, gf_3_0, gf_15_0, w_nret r_Ta_forcing, q_eq, q_ne, q_lt, q_ge, q_gt, q_le, g_I, g_L, g_R, g_V, t_0, t_I, t_R, t_U, t_L, t_s, List.getElem?_cons_zero, List.getElem?_cons_succ, Nat.reduceAdd, zif10, zif01b, zib, if_pos, if_neg, reduceIte, not_true_eq_false, not_false_eq_true, Bool.true_eq_false, Bool.false_eq_true, Classical.not_not, eq_self, and_self, and_true, true_and, Int.reduceEq, Int.reduceLE, Int.reduceLT, Int.reduceNeg, Option.toList, List.cons_append, List.nil_append, zup_s, zup_n, zst_s, zup_zs, zup_zn, decide_true, decide_false, hC.1, c_hasS, hA, c_Ta_leastInto hN hT, e, hz, zset_up]
        refine ih _ _ ⟨?_, rfl⟩
        rw [nx true (by rw [hA]; simp [zcan, hz])]
        simp
      · simp (disch := first | omega | exact Nat.le_of_ble_eq_true rfl | assumption | (simp only [Int.natCast_add, Int.natCast_mul, Int.cast_ofNat_Int]; omega) | decide) only [k_Ta_forcing_2, k_Ta_forcing_3, k_Ta_forcing_5, x_aload, x_getf, w_goto, w_fall, w_iconst, w_if, w_icmp, x_iinc, x_iload, w_ior, w_ishl, x_istore, zadd_eq, gf_3_0, gf_15_0, w_nret r_Ta_forcing, q_eq, q_ne, q_lt, q_ge, q_gt, q_le, g_I, g_L, g_R, g_V, t_0, t_I, t_R, t_U, t_L, t_s, List.getElem?_cons_zero, List.getElem?_cons_succ, Nat.reduceAdd, zif10, zif01b, zib, if_pos, if_neg, reduceIte, not_true_eq_false, not_false_eq_true, Bool.true_eq_false, Bool.false_eq_true, Classical.not_not, eq_self, and_self, and_true, true_and, Int.reduceEq, Int.reduceLE, Int.reduceLT, Int.reduceNeg, Option.toList, List.cons_append, List.nil_append, zup_s, zup_n, zst_s, zup_zs, zup_zn, decide_true, decide_false, hC.1, c_hasS, hA, c_Ta_leastInto hN hT, e, hz]
        refine ih _ _ ⟨?_, rfl⟩
        rw [nx false (by rw [hA]; simp [zcan, hz])]
        simp
  · rintro _ _ ⟨rfl, rfl⟩
    rw [k_Ta_forcing_1]
    simp (disch := first | omega | exact Nat.le_of_ble_eq_true rfl | assumption | (simp only [Int.natCast_add, Int.natCast_mul, Int.cast_ofNat_Int]; omega) | decide) only [k_Ta_forcing_6, x_aload, x_getf, w_goto, w_fall, w_iconst, w_if, w_icmp, x_iinc, x_iload, w_ior, w_ishl, x_istore, zadd_eq, gf_3_0, gf_15_0, w_nret r_Ta_forcing, q_eq, q_ne, q_lt, q_ge, q_gt, q_le, g_I, g_L, g_R, g_V, t_0, t_I, t_R, t_U, t_L, t_s, List.getElem?_cons_zero, List.getElem?_cons_succ, Nat.reduceAdd, zif10, zif01b, zib, if_pos, if_neg, reduceIte, not_true_eq_false, not_false_eq_true, Bool.true_eq_false, Bool.false_eq_true, Classical.not_not, eq_self, and_self, and_true, true_and, Int.reduceEq, Int.reduceLE, Int.reduceLT, Int.reduceNeg, Option.toList, List.cons_append, List.nil_append, zup_s, zup_n, zst_s, zup_zs, zup_zn, decide_true, decide_false, hC.1]
    congr 2
    exact zset_cong fun i hi => by simp [hi]
theorem c_Ta_forcing {d mi o b9 : Nat} {es : List zEnt} {L st : List zMV} {Q : Option zMV → (Nat → Int → Int) → Prop} {A X g : Nat → Bool} (hN : zNet S P mv tg) (hC : zNetC S P mv tg M) (hT : zTabC S P mv tg g M) (hd : 2 + 1 ≤ d) (hc : zcats st ≤ 8) : zW (zSH Ln) d mi ((.invokevirtual o, 72, b9) :: es) L (zI (zset S X) :: zI (zset S A) :: zR 15 :: st) M Q = zW (zSH Ln) d mi es L (zI (zset S fun s => A s && zcan (mv s) (tg s) g P X) :: st) (M) Q :=
  c_virt (ps := [zI (zset S A), zI (zset S X)]) (by omega) rfl rfl (by omega) (by exact sh_15 Ln) hc (Nat.le_of_ble_eq_true rfl) (F_Ta_forcing hN hC hT (by omega))
end TB
