/-! helpers, plans, answers: the class -/
theorem zand_nat {a b : Nat} (ha : a < 2147483648) (hb : b < 2147483648) : zand (a : Int) (b : Int) = ((a &&& b : Nat) : Int) := by
  have h := @Nat.and_le_left a b
  refine zext (zand_in _ _) ⟨by omega, by omega⟩ fun i hi => ?_
  rw [zbit_and, zbit_nat _ hi, zbit_nat _ hi, zbit_nat _ hi, Nat.testBit_and]
theorem zor_nat {a b : Nat} (ha : a < 1073741824) (hb : b < 1073741824) : zor (a : Int) (b : Int) = ((a ||| b : Nat) : Int) := by
  have h : a ||| b < 2 ^ 30 := Nat.or_lt_two_pow (by omega) (by omega)
  refine zext (zor_in _ _) ⟨by omega, by omega⟩ fun i hi => ?_
  rw [zbit_or, zbit_nat _ hi, zbit_nat _ hi, zbit_nat _ hi, Nat.testBit_or]
/-- the sets of players, the fewer first -/
def zhlp (i : Nat) : Nat := [0, 1, 2, 4, 8, 3, 5, 9, 6, 10, 12, 7, 11, 13, 14, 15].getD i 0
theorem zhlp_le : ∀ i, i < 16 → zhlp i ≤ 15 := by decide
def zHok (C : Nat → (Nat → Bool) → Nat → Bool) (P kd lf gp : Nat) (lt : Nat → Nat) (one two : Nat → Bool) (s i : Nat) : Bool := decide (zhlp i < 2 ^ P) && (decide (zhlp i &&& gp = 0) && zJ (C (gp ||| zhlp i)) lt kd lf one two s)
def zHelp (C : Nat → (Nat → Bool) → Nat → Bool) (P kd lf gp : Nat) (lt : Nat → Nat) (one two : Nat → Bool) (s : Nat) : Int := if zfst 16 (zHok C P kd lf gp lt one two s) < 16 then (zhlp (zfst 16 (zHok C P kd lf gp lt one two s)) : Int) else -4
/-- the set that a plan leads into -/
def zAim (kd : Nat) (one whole : Nat → Bool) (R : Nat → Nat) (s : Nat) : Nat → Bool := if kd = 5 then one else if kd = 6 ∨ kd = 9 ∧ R s = 0 then whole else fun t => decide (R t < 13) && decide (R t < R s)
def zPlan (m t : Nat → Nat) (g : Nat → Bool) (P : Nat) (W : Bool) (A : Nat → Bool) : Int := if W = true then (if zleast m t g P A < zcnt m g P then (zleast m t g P A : Int) else -4) else -4
def zAns (m t : Nat → Nat) (g : Nat → Bool) (P : Nat) (X : Nat → Bool) (a : Nat) : Int := if zfst (zcnt m (znot g) P) (fun b => !X (t (zcomb m g P a b))) < zcnt m (znot g) P then (zfst (zcnt m (znot g) P) (fun b => !X (t (zcomb m g P a b))) : Int) else -4
section PL
variable {Ln S P n : Nat} {mv tg : Nat → Nat → Nat} {lt kd lf rt gp : Nat → Nat} {M : Nat → Int → Int}
theorem F_La_ahead {d : Nat} {R : Nat → Nat} {t : Int} (hS : S ≤ 12) (hC : zNetC S P mv tg M) (hR : ∀ s : Nat, s < S → M 21 (s : Int) = zneg1 (R s)) (hd : 1 ≤ d) : zF (zSH Ln) d i_La_ahead [zR 19, zI t] M fun r M' => r = some (zI (zset S fun s => decide (R s < 13) && decide ((R s : Int) < t))) ∧ M' = M := by
  rw [zF_en k_La_ahead_0 (L := [zR 19, zI t, zU, zU]) rfl]
  simp (disch := first | omega | exact Nat.le_of_ble_eq_true rfl | assumption | (simp only [Int.natCast_add, Int.natCast_mul, Int.cast_ofNat_Int]; omega) | decide) only [x_aload, x_getf, w_goto, w_fall, w_iconst, w_if, w_icmp, x_iinc, x_iload, w_ior, w_ishl, x_istore, zadd_eq, gf_19_0, gf_19_4, gf_3_0, at_21, ao_21, w_nret r_La_ahead, q_eq, q_ne, q_lt, q_ge, q_gt, q_le, g_I, g_L, g_R, g_V, t_0, t_I, t_R, t_U, t_L, t_s, List.getElem?_cons_zero, List.getElem?_cons_succ, Nat.reduceAdd, zif10, zif01b, zib, if_pos, if_neg, ↓reduceIte, not_true_eq_false, not_false_eq_true, Bool.true_eq_false, Bool.false_eq_true, Classical.not_not, eq_self, and_self, and_true, true_and, Int.reduceEq, Int.reduceLE, Int.reduceLT, Int.reduceNeg, Option.toList, List.cons_append, List.nil_append, zup_s, zup_n, zst_s, zup_zs, zup_zn, decide_true, decide_false]
  refine zfor (a := 0) (N := S) (b := 1) (fun p L0 M0 => L0 = [zR 19, zI t, zI (zset S fun s => decide (s < p) && (decide (R s < 13) && decide ((R s : Int) < t))), zI (p : Int)] ∧ M0 = M) ?_ ?_ ?_ ?_
  · exact Nat.zero_le _
  · exact ⟨by simp [zset_none], rfl⟩
  · rintro p _ _ _ hp ⟨rfl, rfl⟩ ih
    have nx : ∀ b : Bool, b = (decide (R p < 13) && decide ((R p : Int) < t)) → (zset S fun s => decide (s < p + 1) && (decide (R s < 13) && decide ((R s : Int) < t))) = zset S fun s => (decide (s < p) && (decide (R s < 13) && decide ((R s : Int) < t))) || (b && decide (s = p)) := by
      intro b hb
      refine zset_cong fun i hi => ?_
      by_cases e : i = p
      · subst e; simp [hb]
      · simp [e, show (i < p + 1) ↔ (i < p) by omega]
    have hRp := hR p hp
    rw [k_La_ahead_1]
    by_cases h1 : R p < 13
    · rw [zneg1, if_pos h1] at hRp
      by_cases h2 : (R p : Int) < t
      · simp (disch := first | omega | exact Nat.le_of_ble_eq_true rfl | assumption | (simp only [Int.natCast_add, Int.natCast_mul, Int.cast_ofNat_Int]; omega) | decide) only [k_La_ahead_2, k_La_ahead_3, k_La_ahead_4, k_La_ahead_5, x_aload, x_getf, w_goto, w_fall, w_iconst, w_if, w_icmp, x_iinc, x_iload, w_ior, w_ishl, x_istore, zadd_eq, gf_19_0, gf_19_4, gf_3_0, at_21, ao_21, w_nret r_La_ahead, q_eq, q_ne, q_lt, q_ge, q_gt, q_le, g_I, g_L, g_R, g_V, t_0, t_I, t_R, t_U, t_L, t_s, List.getElem?_cons_zero, List.getElem?_cons_succ, Nat.reduceAdd, zif10, zif01b, zib, if_pos, if_neg, ↓reduceIte, not_true_eq_false, not_false_eq_true, Bool.true_eq_false, Bool.false_eq_true, Classical.not_not, eq_self, and_self, and_true, true_and, Int.reduceEq, Int.reduceLE, Int.reduceLT, Int.reduceNeg, Option.toList, List.cons_append, List.nil_append, zup_s, zup_n, zst_s, zup_zs, zup_zn, decide_true, decide_false, hC.1, hRp, zset_up]
        refine ih _ _ ⟨?_, rfl⟩
        rw [nx true (by simp [h1, h2])]
        simp
      · simp (disch := first | omega | exact Nat.le_of_ble_eq_true rfl | assumption | (simp only [Int.natCast_add, Int.natCast_mul, Int.cast_ofNat_Int]; omega) | decide) only [k_La_ahead_2, k_La_ahead_3, k_La_ahead_5, x_aload, x_getf, w_goto, w_fall, w_iconst, w_if, w_icmp, x_iinc, x_iload, w_ior, w_ishl, x_istore, zadd_eq, gf_19_0, gf_19_4, gf_3_0, at_21, ao_21, w_nret r_La_ahead, q_eq, q_ne, q_lt, q_ge, q_gt, q_le, g_I, g_L, g_R, g_V, t_0, t_I, t_R, t_U, t_L, t_s, List.getElem?_cons_zero, List.getElem?_cons_succ, Nat.reduceAdd, zif10, zif01b, zib, if_pos, if_neg, ↓reduceIte, not_true_eq_false, not_false_eq_true, Bool.true_eq_false, Bool.false_eq_true, Classical.not_not, eq_self, and_self, and_true, true_and, Int.reduceEq, Int.reduceLE, Int.reduceLT, Int.reduceNeg, Option.toList, List.cons_append, List.nil_append, zup_s, zup_n, zst_s, zup_zs, zup_zn, decide_true, decide_false, hC.1, hRp]
        refine ih _ _ ⟨?_, rfl⟩
        rw [nx false (by simp [h1, h2])]
        simp
    · rw [zneg1, if_neg h1] at hRp
      simp (disch := first | omega | exact Nat.le_of_ble_eq_true rfl | assumption | (simp only [Int.natCast_add, Int.natCast_mul, Int.cast_ofNat_Int]; omega) | decide) only [k_La_ahead_2, k_La_ahead_5, x_aload, x_getf, w_goto, w_fall, w_iconst, w_if, w_icmp, x_iinc, x_iload, w_ior, w_ishl, x_istore, zadd_eq, gf_19_0, gf_19_4, gf_3_0, at_21, ao_21, w_nret r_La_ahead, q_eq, q_ne, q_lt, q_ge, q_gt, q_le, g_I, g_L, g_R, g_V, t_0, t_I, t_R, t_U, t_L, t_s, List.getElem?_cons_zero, List.getElem?_cons_succ, Nat.reduceAdd, zif10, zif01b, zib, if_pos, if_neg, ↓reduceIte, not_true_eq_false, not_false_eq_true, Bool.true_eq_false, Bool.false_eq_true, Classical.not_not, eq_self, and_self, and_true, true_and, Int.reduceEq, Int.reduceLE, Int.reduceLT, Int.reduceNeg, Option.toList, List.cons_append, List.nil_append, zup_s, zup_n, zst_s, zup_zs, zup_zn, decide_true, decide_false, hC.1, hRp]
      refine ih _ _ ⟨?_, rfl⟩
      rw [nx false (by simp [h1])]
      simp
  · rintro _ _ ⟨rfl, rfl⟩
    rw [k_La_ahead_1]
    simp (disch := first | omega | exact Nat.le_of_ble_eq_true rfl | assumption | (simp only [Int.natCast_add, Int.natCast_mul, Int.cast_ofNat_Int]; omega) | decide) only [k_La_ahead_6, x_aload, x_getf, w_goto, w_fall, w_iconst, w_if, w_icmp, x_iinc, x_iload, w_ior, w_ishl, x_istore, zadd_eq, gf_19_0, gf_19_4, gf_3_0, at_21, ao_21, w_nret r_La_ahead, q_eq, q_ne, q_lt, q_ge, q_gt, q_le, g_I, g_L, g_R, g_V, t_0, t_I, t_R, t_U, t_L, t_s, List.getElem?_cons_zero, List.getElem?_cons_succ, Nat.reduceAdd, zif10, zif01b, zib, if_pos, if_neg, ↓reduceIte, not_true_eq_false, not_false_eq_true, Bool.true_eq_false, Bool.false_eq_true, Classical.not_not, eq_self, and_self, and_true, true_and, Int.reduceEq, Int.reduceLE, Int.reduceLT, Int.reduceNeg, Option.toList, List.cons_append, List.nil_append, zup_s, zup_n, zst_s, zup_zs, zup_zn, decide_true, decide_false, hC.1]
    congr 2
    exact zset_cong fun i hi => by simp [hi]
theorem c_La_ahead {d mi o b9 : Nat} {es : List zEnt} {L st : List zMV} {Q : Option zMV → (Nat → Int → Int) → Prop} {R : Nat → Nat} {t : Int} (hS : S ≤ 12) (hC : zNetC S P mv tg M) (hR : ∀ s : Nat, s < S → M 21 (s : Int) = zneg1 (R s)) (hd : 1 + 1 ≤ d) (hc : zcats st ≤ 8) : zW (zSH Ln) d mi ((.invokevirtual o, 42, b9) :: es) L (zI t :: zR 19 :: st) M Q = zW (zSH Ln) d mi es L (zI (zset S fun s => decide (R s < 13) && decide ((R s : Int) < t)) :: st) (M) Q :=
  c_virt (ps := [zI t]) (by omega) rfl rfl (by omega) (by exact sh_19 Ln) hc (Nat.le_of_ble_eq_true rfl) (F_La_ahead hS hC hR (by omega))
theorem F_La_fewestMore {d : Nat} {s : Nat} {one two : Nat → Bool} (hN : zNet S P mv tg) (hC : zNetC S P mv tg M) (hL : zLetC lt M) (hlt : ∀ s, lt s < 256) (hF : zForm P n kd lf rt gp) (hFC : zFormC n kd lf rt gp M) (hT : zTabI S P mv tg M) (hH : ∀ i : Nat, i < 16 → M 1 (i : Int) = zhlp i) (h5 : 5 ≤ kd 0) (h1 : M 20 (lf 0 : Int) = zset S one) (h2 : ztwo (kd 0) = true → M 20 (rt 0 : Int) = zset S two) (hs : s < S) (hd : 6 ≤ d) : zF (zSH Ln) d i_La_fewestMore [zR 19, zI (s : Int)] M fun r M' => r = some (zI (zHelp (fun x => zCn mv tg P (zbit (x : Int))) P (kd 0) (lf 0) (gp 0) lt one two s)) ∧ zKp [15, 16, 17, 18, 19, 21] M M' ∧ zTabI S P mv tg M' ∧ zV15 M M' ∧ M' 19 5 = -1 ∧ M' 19 6 = M 19 6 := by
  rw [zF_en k_La_fewestMore_0 (L := [zR 19, zI (s : Int), zU, zU, zU, zU]) rfl]
  have hn := hF.1
  have hS := hN.2.1
  have hP4 := hN.2.2.2.1
  have hg4 := (hFC.2 0 hn).2.2.2 h5
  have hgp := (hF.2.2 0 hn).2.2.2.2 h5
  have h2P : (2 : Nat) ^ P ≤ 16 := Nat.pow_le_pow_right (n := 2) (by omega) hP4
  have hall : zset P (fun _ => true) = ((2 ^ P : Nat) : Int) - 1 := zset_all P
  simp (disch := first | omega | exact Nat.le_of_ble_eq_true rfl | assumption | (simp only [Int.natCast_add, Int.natCast_mul, Int.cast_ofNat_Int]; omega) | decide) only [x_aload, x_getf, w_gets, w_goto, w_fall, w_iand, w_iconst, w_if, w_icmp, x_iinc, x_iload, w_ior, x_istore, zadd_eq, gf_19_0, gf_19_1, gf_19_2, xp_19_5, w_nret r_La_fewestMore, q_eq, q_ne, q_lt, q_ge, q_gt, q_le, g_I, g_L, g_R, g_V, t_0, t_I, t_R, t_U, t_L, t_s, List.getElem?_cons_zero, List.getElem?_cons_succ, Nat.reduceAdd, zif10, zif01b, zib, if_pos, if_neg, ↓reduceIte, not_true_eq_false, not_false_eq_true, Bool.true_eq_false, Bool.false_eq_true, Classical.not_not, eq_self, and_self, and_true, true_and, Int.reduceEq, Int.reduceLE, Int.reduceLT, Int.reduceNeg, Option.toList, List.cons_append, List.nil_append, zup_s, zup_n, zst_s, zup_zs, zup_zn, decide_true, decide_false, c_Fo_group, show M 14 0 = ((gp 0 : Nat) : Int) from hg4]
  refine zfor (a := 0) (N := 16) (b := 1) (fun p L0 M0 => ∃ M1 v5, L0 = [zR 19, zI s, zI (-4), zI (gp 0 : Int), zI (p : Int), v5] ∧ M0 = M1 ∧ (zKp [15, 16, 17, 18, 19, 21] M M1 ∧ zTabI S P mv tg M1 ∧ zV15 M M1 ∧ M1 19 = M 19 ∧ ∀ i, i < p → zHok (fun x => zCn mv tg P (zbit (x : Int))) P (kd 0) (lf 0) (gp 0) lt one two s i = false)) ?_ ?_ ?_ ?_
  · exact Nat.zero_le _
  · exact ⟨_, zU, rfl, rfl, zKp_rf _ _, hT, zV15_rf _, rfl, fun i hi => by omega⟩
  · rintro p _ M1 _ hp ⟨_, v5, rfl, rfl, hk, hT1, hV, h19, hno⟩ ih
    have hC1 : zNetC S P mv tg M1 := zNetC_k hC (hk 3 (by decide)) (hk 4 (by decide)) (hk 7 (by decide))
    have hb := zhlp_le p hp
    have hHp : M1 1 (p : Int) = zhlp p := by rw [hk 1 (by decide)]; exact hH p hp
    have nxt : zHok (fun x => zCn mv tg P (zbit (x : Int))) P (kd 0) (lf 0) (gp 0) lt one two s p = false → ∀ i, i < p + 1 → zHok (fun x => zCn mv tg P (zbit (x : Int))) P (kd 0) (lf 0) (gp 0) lt one two s i = false := fun h i hi => by
      by_cases e : i = p
      · subst e; exact h
      · exact hno i (by omega)
    rw [k_La_fewestMore_1]
    by_cases c1 : zhlp p < 2 ^ P
    · have c1' : (0 : Int) ≤ (zhlp p : Int) ∧ (zhlp p : Int) ≤ zset P fun _ => true := by rw [hall]; omega
      by_cases c2 : zhlp p &&& gp 0 = 0
      · simp (disch := first | omega | exact Nat.le_of_ble_eq_true rfl | assumption | (simp only [Int.natCast_add, Int.natCast_mul, Int.cast_ofNat_Int]; omega) | decide) only [k_La_fewestMore_2, k_La_fewestMore_3, k_La_fewestMore_4, k_La_fewestMore_5, x_aload, x_getf, w_gets, w_goto, w_fall, w_iand, w_iconst, w_if, w_icmp, x_iinc, x_iload, w_ior, x_istore, zadd_eq, gf_19_0, gf_19_1, gf_19_2, xp_19_5, w_nret r_La_fewestMore, q_eq, q_ne, q_lt, q_ge, q_gt, q_le, g_I, g_L, g_R, g_V, t_0, t_I, t_R, t_U, t_L, t_s, List.getElem?_cons_zero, List.getElem?_cons_succ, Nat.reduceAdd, zif10, zif01b, zib, if_pos, if_neg, ↓reduceIte, not_true_eq_false, not_false_eq_true, Bool.true_eq_false, Bool.false_eq_true, Classical.not_not, eq_self, and_self, and_true, true_and, Int.reduceEq, Int.reduceLE, Int.reduceLT, Int.reduceNeg, Option.toList, List.cons_append, List.nil_append, zup_s, zup_n, zst_s, zup_zs, zup_zn, decide_true, decide_false, w_alen (sh_1 Ln), at_1, hHp, c_Ne_hasGroup hN hC1, c1', zand_nat (show zhlp p < 2147483648 by omega) (show gp 0 < 2147483648 by omega), c2, zor_nat (show gp 0 < 1073741824 by omega) (show zhlp p < 1073741824 by omega)]
        refine c_Ta_prepare hN hC1 hT1 (by omega) (Nat.le_of_ble_eq_true rfl) ?_
        rintro _ M2 ⟨rfl, hk2, h6, h7, _, h8⟩
        have hk3 : zKp [15, 16, 17, 18, 19, 21] M M2 := zKp_tr hk (zKp_mo hk2 (by decide))
        have hFC2 : zFormC n kd lf rt gp M2 := zFormC_k hFC (by rw [hk3 10 (by decide)]) (hk3 11 (by decide)) (hk3 12 (by decide)) (hk3 13 (by decide)) (hk3 14 (by decide))
        have hC2 : zNetC S P mv tg M2 := zNetC_k hC1 (hk2 3 (by decide)) (hk2 4 (by decide)) (hk2 7 (by decide))
        have hL2 : zLetC lt M2 := fun s hs => by rw [hk3 8 (by decide)]; exact hL s hs
        simp (disch := first | omega | exact Nat.le_of_ble_eq_true rfl | assumption | (simp only [Int.natCast_add, Int.natCast_mul, Int.cast_ofNat_Int]; omega) | decide) only [x_aload, x_getf, w_gets, w_goto, w_fall, w_iand, w_iconst, w_if, w_icmp, x_iinc, x_iload, w_ior, x_istore, zadd_eq, gf_19_0, gf_19_1, gf_19_2, xp_19_5, w_nret r_La_fewestMore, q_eq, q_ne, q_lt, q_ge, q_gt, q_le, g_I, g_L, g_R, g_V, t_0, t_I, t_R, t_U, t_L, t_s, List.getElem?_cons_zero, List.getElem?_cons_succ, Nat.reduceAdd, zif10, zif01b, zib, if_pos, if_neg, ↓reduceIte, not_true_eq_false, not_false_eq_true, Bool.true_eq_false, Bool.false_eq_true, Classical.not_not, eq_self, and_self, and_true, true_and, Int.reduceEq, Int.reduceLE, Int.reduceLT, Int.reduceNeg, Option.toList, List.cons_append, List.nil_append, zup_s, zup_n, zst_s, zup_zs, zup_zn, decide_true, decide_false]
        refine c_La_judge (k := 0) (g := zbit ((gp 0 ||| zhlp p : Nat) : Int)) (one := one) (two := two) hN hC2 hL2 hlt hF hFC2 (fun _ => h8) hn (fun _ => by rw [hk3 20 (by decide)]; exact h1) (fun h => by rw [hk3 20 (by decide)]; exact h2 h) (by omega) (Nat.le_of_ble_eq_true rfl) ?_
        rintro _ _ ⟨rfl, R, rfl, h3⟩
        have e19 : M2 19 = M1 19 := hk2 19 (by decide)
        have hV2 : zV15 M M2 := Or.inr (by rw [h7, hk 3 (by decide)])
        have fresh : zTabI S P mv tg (zst M2 21 R) := fun _ => by
          show zTabC S P mv tg (zbit (M2 15 4)) _
          rw [h6]; exact h8
        cases hj : zJ (zCn mv tg P (zbit ((gp 0 ||| zhlp p : Nat) : Int))) lt (kd 0) (lf 0) one two s
        · simp (disch := first | omega | exact Nat.le_of_ble_eq_true rfl | assumption | (simp only [Int.natCast_add, Int.natCast_mul, Int.cast_ofNat_Int]; omega) | decide) only [k_La_fewestMore_7, k_La_fewestMore_8, k_La_fewestMore_9, x_aload, x_getf, w_gets, w_goto, w_fall, w_iand, w_iconst, w_if, w_icmp, x_iinc, x_iload, w_ior, x_istore, zadd_eq, gf_19_0, gf_19_1, gf_19_2, xp_19_5, w_nret r_La_fewestMore, q_eq, q_ne, q_lt, q_ge, q_gt, q_le, g_I, g_L, g_R, g_V, t_0, t_I, t_R, t_U, t_L, t_s, List.getElem?_cons_zero, List.getElem?_cons_succ, Nat.reduceAdd, zif10, zif01b, zib, if_pos, if_neg, ↓reduceIte, not_true_eq_false, not_false_eq_true, Bool.true_eq_false, Bool.false_eq_true, Classical.not_not, eq_self, and_self, and_true, true_and, Int.reduceEq, Int.reduceLE, Int.reduceLT, Int.reduceNeg, Option.toList, List.cons_append, List.nil_append, zup_s, zup_n, zst_s, zup_zs, zup_zn, decide_true, decide_false, c_hasS, hj]
          refine ih _ _ ⟨_, _, rfl, rfl, zKp_st (by decide) hk3, fresh, hV2, e19.trans h19, nxt ?_⟩
          simp [zHok, hj]
        · have hok : zHok (fun x => zCn mv tg P (zbit (x : Int))) P (kd 0) (lf 0) (gp 0) lt one two s p = true := by simp [zHok, hj, c1, c2]
          have hf := zfst_is hp hok hno
          simp (disch := first | omega | exact Nat.le_of_ble_eq_true rfl | assumption | (simp only [Int.natCast_add, Int.natCast_mul, Int.cast_ofNat_Int]; omega) | decide) only [k_La_fewestMore_6, k_La_fewestMore_8, k_La_fewestMore_9, x_aload, x_getf, w_gets, w_goto, w_fall, w_iand, w_iconst, w_if, w_icmp, x_iinc, x_iload, w_ior, x_istore, zadd_eq, gf_19_0, gf_19_1, gf_19_2, xp_19_5, w_nret r_La_fewestMore, q_eq, q_ne, q_lt, q_ge, q_gt, q_le, g_I, g_L, g_R, g_V, t_0, t_I, t_R, t_U, t_L, t_s, List.getElem?_cons_zero, List.getElem?_cons_succ, Nat.reduceAdd, zif10, zif01b, zib, if_pos, if_neg, ↓reduceIte, not_true_eq_false, not_false_eq_true, Bool.true_eq_false, Bool.false_eq_true, Classical.not_not, eq_self, and_self, and_true, true_and, Int.reduceEq, Int.reduceLE, Int.reduceLT, Int.reduceNeg, Option.toList, List.cons_append, List.nil_append, zup_s, zup_n, zst_s, zup_zs, zup_zn, decide_true, decide_false, c_hasS, hj]
          rw [k_La_fewestMore_1]
          by_cases hp16 : p + 1 < 16
          · simp (disch := first | omega | exact Nat.le_of_ble_eq_true rfl | assumption | (simp only [Int.natCast_add, Int.natCast_mul, Int.cast_ofNat_Int]; omega) | decide) only [k_La_fewestMore_2, k_La_fewestMore_10, x_aload, x_getf, w_gets, w_goto, w_fall, w_iand, w_iconst, w_if, w_icmp, x_iinc, x_iload, w_ior, x_istore, zadd_eq, gf_19_0, gf_19_1, gf_19_2, xp_19_5, w_nret r_La_fewestMore, q_eq, q_ne, q_lt, q_ge, q_gt, q_le, g_I, g_L, g_R, g_V, t_0, t_I, t_R, t_U, t_L, t_s, List.getElem?_cons_zero, List.getElem?_cons_succ, Nat.reduceAdd, zif10, zif01b, zib, if_pos, if_neg, ↓reduceIte, not_true_eq_false, not_false_eq_true, Bool.true_eq_false, Bool.false_eq_true, Classical.not_not, eq_self, and_self, and_true, true_and, Int.reduceEq, Int.reduceLE, Int.reduceLT, Int.reduceNeg, Option.toList, List.cons_append, List.nil_append, zup_s, zup_n, zst_s, zup_zs, zup_zn, decide_true, decide_false, w_alen (sh_1 Ln), show ¬ ((zhlp p : Int) = -4) by omega]
            refine ⟨?_, zKp_st (by decide) (zKp_up (by decide) hk3), fresh, hV2, ?_, ?_⟩
            · rw [zHelp, hf, if_pos hp]
            · rw [zst_n (by decide), zup_s]
            · rw [zst_n (by decide), zup_d (by decide), e19, h19]
          · simp (disch := first | omega | exact Nat.le_of_ble_eq_true rfl | assumption | (simp only [Int.natCast_add, Int.natCast_mul, Int.cast_ofNat_Int]; omega) | decide) only [k_La_fewestMore_10, x_aload, x_getf, w_gets, w_goto, w_fall, w_iand, w_iconst, w_if, w_icmp, x_iinc, x_iload, w_ior, x_istore, zadd_eq, gf_19_0, gf_19_1, gf_19_2, xp_19_5, w_nret r_La_fewestMore, q_eq, q_ne, q_lt, q_ge, q_gt, q_le, g_I, g_L, g_R, g_V, t_0, t_I, t_R, t_U, t_L, t_s, List.getElem?_cons_zero, List.getElem?_cons_succ, Nat.reduceAdd, zif10, zif01b, zib, if_pos, if_neg, ↓reduceIte, not_true_eq_false, not_false_eq_true, Bool.true_eq_false, Bool.false_eq_true, Classical.not_not, eq_self, and_self, and_true, true_and, Int.reduceEq, Int.reduceLE, Int.reduceLT, Int.reduceNeg, Option.toList, List.cons_append, List.nil_append, zup_s, zup_n, zst_s, zup_zs, zup_zn, decide_true, decide_false, w_alen (sh_1 Ln)]
            refine ⟨?_, zKp_st (by decide) (zKp_up (by decide) hk3), fresh, hV2, ?_, ?_⟩
            · rw [zHelp, hf, if_pos hp]
            · rw [zst_n (by decide), zup_s]
            · rw [zst_n (by decide), zup_d (by decide), e19, h19]
      · have c2' : ¬ ((zhlp p &&& gp 0 : Nat) : Int) = 0 := by omega
        simp (disch := first | omega | exact Nat.le_of_ble_eq_true rfl | assumption | (simp only [Int.natCast_add, Int.natCast_mul, Int.cast_ofNat_Int]; omega) | decide) only [k_La_fewestMore_2, k_La_fewestMore_3, k_La_fewestMore_4, k_La_fewestMore_9, x_aload, x_getf, w_gets, w_goto, w_fall, w_iand, w_iconst, w_if, w_icmp, x_iinc, x_iload, w_ior, x_istore, zadd_eq, gf_19_0, gf_19_1, gf_19_2, xp_19_5, w_nret r_La_fewestMore, q_eq, q_ne, q_lt, q_ge, q_gt, q_le, g_I, g_L, g_R, g_V, t_0, t_I, t_R, t_U, t_L, t_s, List.getElem?_cons_zero, List.getElem?_cons_succ, Nat.reduceAdd, zif10, zif01b, zib, if_pos, if_neg, ↓reduceIte, not_true_eq_false, not_false_eq_true, Bool.true_eq_false, Bool.false_eq_true, Classical.not_not, eq_self, and_self, and_true, true_and, Int.reduceEq, Int.reduceLE, Int.reduceLT, Int.reduceNeg, Option.toList, List.cons_append, List.nil_append, zup_s, zup_n, zst_s, zup_zs, zup_zn, decide_true, decide_false, w_alen (sh_1 Ln), at_1, hHp, c_Ne_hasGroup hN hC1, c1', zand_nat (show zhlp p < 2147483648 by omega) (show gp 0 < 2147483648 by omega), c2']
        refine ih _ _ ⟨_, _, rfl, rfl, hk, hT1, hV, h19, nxt ?_⟩
        simp [zHok, c2]
    · have c1' : ¬ ((0 : Int) ≤ (zhlp p : Int) ∧ (zhlp p : Int) ≤ zset P fun _ => true) := by rw [hall]; omega
      simp (disch := first | omega | exact Nat.le_of_ble_eq_true rfl | assumption | (simp only [Int.natCast_add, Int.natCast_mul, Int.cast_ofNat_Int]; omega) | decide) only [k_La_fewestMore_2, k_La_fewestMore_3, k_La_fewestMore_9, x_aload, x_getf, w_gets, w_goto, w_fall, w_iand, w_iconst, w_if, w_icmp, x_iinc, x_iload, w_ior, x_istore, zadd_eq, gf_19_0, gf_19_1, gf_19_2, xp_19_5, w_nret r_La_fewestMore, q_eq, q_ne, q_lt, q_ge, q_gt, q_le, g_I, g_L, g_R, g_V, t_0, t_I, t_R, t_U, t_L, t_s, List.getElem?_cons_zero, List.getElem?_cons_succ, Nat.reduceAdd, zif10, zif01b, zib, if_pos, if_neg, ↓reduceIte, not_true_eq_false, not_false_eq_true, Bool.true_eq_false, Bool.false_eq_true, Classical.not_not, eq_self, and_self, and_true, true_and, Int.reduceEq, Int.reduceLE, Int.reduceLT, Int.reduceNeg, Option.toList, List.cons_append, List.nil_append, zup_s, zup_n, zst_s, zup_zs, zup_zn, decide_true, decide_false, w_alen (sh_1 Ln), at_1, hHp, c_Ne_hasGroup hN hC1, c1']
      refine ih _ _ ⟨_, _, rfl, rfl, hk, hT1, hV, h19, nxt ?_⟩
      simp [zHok, c1]
  · rintro _ M1 ⟨_, v5, rfl, rfl, hk, hT1, hV, h19, hno⟩
    have hf := zfst_none hno
    rw [k_La_fewestMore_1]
    simp (disch := first | omega | exact Nat.le_of_ble_eq_true rfl | assumption | (simp only [Int.natCast_add, Int.natCast_mul, Int.cast_ofNat_Int]; omega) | decide) only [k_La_fewestMore_10, x_aload, x_getf, w_gets, w_goto, w_fall, w_iand, w_iconst, w_if, w_icmp, x_iinc, x_iload, w_ior, x_istore, zadd_eq, gf_19_0, gf_19_1, gf_19_2, xp_19_5, w_nret r_La_fewestMore, q_eq, q_ne, q_lt, q_ge, q_gt, q_le, g_I, g_L, g_R, g_V, t_0, t_I, t_R, t_U, t_L, t_s, List.getElem?_cons_zero, List.getElem?_cons_succ, Nat.reduceAdd, zif10, zif01b, zib, if_pos, if_neg, ↓reduceIte, not_true_eq_false, not_false_eq_true, Bool.true_eq_false, Bool.false_eq_true, Classical.not_not, eq_self, and_self, and_true, true_and, Int.reduceEq, Int.reduceLE, Int.reduceLT, Int.reduceNeg, Option.toList, List.cons_append, List.nil_append, zup_s, zup_n, zst_s, zup_zs, zup_zn, decide_true, decide_false, w_alen (sh_1 Ln)]
    refine ⟨?_, zKp_up (by decide) hk, hT1, hV, ?_⟩
    · rw [zHelp, hf, if_neg (by decide)]
    · rw [zup_d (by decide), h19]
theorem c_La_fewestMore {d mi o b9 : Nat} {es : List zEnt} {L st : List zMV} {Q : Option zMV → (Nat → Int → Int) → Prop} {s : Nat} {one two : Nat → Bool} (hN : zNet S P mv tg) (hC : zNetC S P mv tg M) (hL : zLetC lt M) (hlt : ∀ s, lt s < 256) (hF : zForm P n kd lf rt gp) (hFC : zFormC n kd lf rt gp M) (hT : zTabI S P mv tg M) (hH : ∀ i : Nat, i < 16 → M 1 (i : Int) = zhlp i) (h5 : 5 ≤ kd 0) (h1 : M 20 (lf 0 : Int) = zset S one) (h2 : ztwo (kd 0) = true → M 20 (rt 0 : Int) = zset S two) (hs : s < S) (hd : 6 + 1 ≤ d) (hc : zcats st ≤ 8) (hpost : ∀ r M', (r = some (zI (zHelp (fun x => zCn mv tg P (zbit (x : Int))) P (kd 0) (lf 0) (gp 0) lt one two s)) ∧ zKp [15, 16, 17, 18, 19, 21] M M' ∧ zTabI S P mv tg M' ∧ zV15 M M' ∧ M' 19 5 = -1 ∧ M' 19 6 = M 19 6) → zW (zSH Ln) d mi es L (r.toList ++ st) M' Q) : zW (zSH Ln) d mi ((.invokevirtual o, 43, b9) :: es) L (zI (s : Int) :: zR 19 :: st) M Q :=
  w_callv (ps := [zI (s : Int)]) (by omega) rfl rfl (by omega) (by exact sh_19 Ln) hc (Nat.le_of_ble_eq_true rfl) (F_La_fewestMore hN hC hL hlt hF hFC hT hH h5 h1 h2 hs (by omega)) hpost
end PL
