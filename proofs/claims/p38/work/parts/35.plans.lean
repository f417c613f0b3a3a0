/-! helpers, plans, answers: the class -/
theorem zor_nat {a b : Nat} (ha : a < 1073741824) (hb : b < 1073741824) : zor (a : Int) (b : Int) = ((a ||| b : Nat) : Int) := by
  have h : a ||| b < 2 ^ 30 := Nat.or_lt_two_pow (by omega) (by omega)
  refine zext (zor_in _ _) ⟨by omega, by omega⟩ fun i hi => ?_
  rw [zbit_or, zbit_nat _ hi, zbit_nat _ hi, zbit_nat _ hi, Nat.testBit_or]
/-- the sets of players, the fewer first -/
def zhlp (i : Nat) : Nat := [0, 1, 2, 4, 8, 3, 5, 9, 6, 10, 12, 7, 11, 13, 14, 15].getD i 0
/-- the set that a plan leads into -/
def zAim (kd : Nat) (one whole : Nat → Bool) (R : Nat → Nat) (s : Nat) : Nat → Bool := if kd = 5 then one else if kd = 6 ∨ kd = 9 ∧ R s = 0 then whole else fun t => decide (R t < 13) && decide (R t < R s)
def zPlan (m t : Nat → Nat) (g : Nat → Bool) (P : Nat) (W : Bool) (A : Nat → Bool) : Int := if W = true then (if zleast m t g P A < zcnt m g P then (zleast m t g P A : Int) else -4) else -4
def zAns (m t : Nat → Nat) (g : Nat → Bool) (P : Nat) (X : Nat → Bool) (a : Nat) : Int := if zfst (zcnt m (znot g) P) (fun b => !X (t (zcomb m g P a b))) < zcnt m (znot g) P then (zfst (zcnt m (znot g) P) (fun b => !X (t (zcomb m g P a b))) : Int) else -4
section PL
variable {Ln S P n : Nat} {mv tg : Nat → Nat → Nat} {lt kd lf rt gp : Nat → Nat} {M : Nat → Int → Int}
theorem F_La_ahead {d : Nat} {R : Nat → Nat} {t : Int} (hS : S ≤ 12) (hC : zNetC S P mv tg M) (hR : ∀ s : Nat, s < S → M 21 (s : Int) = zneg1 (R s)) (hd : 1 ≤ d) : zF (zSH Ln) d i_La_ahead [zR 19, zI t] M fun r M' => r = some (zI (zset S fun s => decide (R s < 13) && decide ((R s : Int) < t))) ∧ M' = M := by
  rw [zF_en k_La_ahead_0 (L := [zR 19, zI t, zU, zU]) rfl]
  simp (disch := first | omega | exact Nat.le_of_ble_eq_true rfl | assumption | (simp only [Int.natCast_add, Int.natCast_mul, Int.cast_ofNat_Int]; omega) | decide) only [x_aload, x_getf, w_goto, w_fall, w_iconst, w_if, w_icmp, x_iinc, x_iload, w_ior, w_ishl, x_istore, zadd_eq, gf_19_0, gf_19_4, gf_3_0, at_21, ao_21, w_nret r_La_ahead, q_eq, q_ne, q_lt, q_ge, q_gt, q_le, g_I, g_L, g_R, g_V, t_0, t_I, t_R, t_U, t_L, t_s, List.getElem?_cons_zero, List.getElem?_cons_succ, Nat.reduceAdd, zif10, zif01b, zib, if_pos, if_neg, ↓reduceIte, not_true_eq_false, not_false_eq_true, Bool.true_eq_false, Bool.false_eq_true, Classical.not_not, eq_self, and_self, and_true, true_and, Int.reduceEq, Int.reduceLE, Int.reduceLT, Int.reduceNeg, Option.toList, List.cons_append, List.nil_append, zup_s, zup_n, zst_s, zup_zs, zup_zn, decide_true, decide_false]
  refine zfor (a := 0) (N := S) (b := 1) (fun p L0 M0 => L0 = [zR 19, zI t, zI (zset S fun s => decide (s < p) && (decide (R s < 13) && decide ((R s : Int) < t))), zI (p : Int)] ∧ M0 = M) ?_ ?_ ?_ ?_
  · exact Nat.zero_le _
  · exact ⟨by simp [zset_none], rfl⟩
  · rintro p _ _ _ hp ⟨rfl, rfl⟩ ih
    have nx : ∀ b : Bool, b = (decide (R p < 13) && decide ((R p : Int) < t)) → (zset S fun s => decide (s < p + 1) && (decide (R s < 13) && decide ((R s : Int) < t))) = zset S fun s => (decide (s < p) && (decide (R s < 13) && decide ((R s : Int) < t))) || (b && decide (s = p)) := by
      intro b hb
      refine zset_cong fun i hi => ?_
      by_cases e : i = p
      · subst e; simp [hb]
      · simp [e, show (i < p + 1) ↔ (i < p) by omega]
    have hRp := hR p hp
    rw [k_La_ahead_1]
    by_cases h1 : R p < 13
    · rw [zneg1, if_pos h1] at hRp
      by_cases h2 : (R p : Int) < t
      · simp (disch := first | omega | exact Nat.le_of_ble_eq_true rfl | assumption | (simp only [Int.natCast_add, Int.natCast_mul, Int.cast_ofNat_Int]; omega) | decide) only [k_La_ahead_2, k_La_ahead_3, k_La_ahead_4, k_La_ahead_5, x_aload, x_getf, w_goto, w_fall, w_iconst, w_if, w_icmp, x_iinc, x_iload, w_ior, w_ishl, x_istore, zadd_eq, gf_19_0, gf_19_4, gf_3_0, at_21, ao_21, w_nret r_La_ahead, q_eq, q_ne, q_lt, q_ge, q_gt, q_le, g_I, g_L, g_R, g_V, t_0, t_I, t_R, t_U, t_L, t_s, List.getElem?_cons_zero, List.getElem?_cons_succ, Nat.reduceAdd, zif10, zif01b, zib, if_pos, if_neg, ↓reduceIte, not_true_eq_false, not_false_eq_true, Bool.true_eq_false, Bool.false_eq_true, Classical.not_not, eq_self, and_self, and_true, true_and, Int.reduceEq, Int.reduceLE, Int.reduceLT, Int.reduceNeg, Option.toList, List.cons_append, List.nil_append, zup_s, zup_n, zst_s, zup_zs, zup_zn, decide_true, decide_false, hC.1, hRp, zset_up]
        refine ih _ _ ⟨?_, rfl⟩
        rw [nx true (by simp [h1, h2])]
        simp
      · simp (disch := first | omega | exact Nat.le_of_ble_eq_true rfl | assumption | (simp only [Int.natCast_add, Int.natCast_mul, Int.cast_ofNat_Int]; omega) | decide) only [k_La_ahead_2, k_La_ahead_3, k_La_ahead_5, x_aload, x_getf, w_goto, w_fall, w_iconst, w_if, w_icmp, x_iinc, x_iload, w_ior, w_ishl, x_istore, zadd_eq, gf_19_0, gf_19_4, gf_3_0, at_21, ao_21, w_nret r_La_ahead, q_eq, q_ne, q_lt, q_ge, q_gt, q_le, g_I, g_L, g_R, g_V, t_0, t_I, t_R, t_U, t_L, t_s, List.getElem?_cons_zero, List.getElem?_cons_succ, Nat.reduceAdd, zif10, zif01b, zib, if_pos, if_neg, ↓reduceIte, not_true_eq_false, not_false_eq_true, Bool.true_eq_false, Bool.false_eq_true, Classical.not_not, eq_self, and_self, and_true, true_and, Int.reduceEq, Int.reduceLE, Int.reduceLT, Int.reduceNeg, Option.toList, List.cons_append, List.nil_append, zup_s, zup_n, zst_s, zup_zs, zup_zn, decide_true, decide_false, hC.1, hRp]
        refine ih _ _ ⟨?_, rfl⟩
        rw [nx false (by simp [h1, h2])]
        simp
    · rw [zneg1, if_neg h1] at hRp
      simp (disch := first | omega | exact Nat.le_of_ble_eq_true rfl | assumption | (simp only [Int.natCast_add, Int.natCast_mul, Int.cast_ofNat_Int]; omega) | decide) only [k_La_ahead_2, k_La_ahead_5, x_aload, x_getf, w_goto, w_fall, w_iconst, w_if, w_icmp, x_iinc, x_iload, w_ior, w_ishl, x_istore, zadd_eq, gf_19_0, gf_19_4, gf_3_0, at_21, ao_21, w_nret r_La_ahead, q_eq, q_ne, q_lt, q_ge, q_gt, q_le, g_I, g_L, g_R, g_V, t_0, t_I, t_R, t_U, t_L, t_s, List.getElem?_cons_zero, List.getElem?_cons_succ, Nat.reduceAdd, zif10, zif01b, zib, if_pos, if_neg, ↓reduceIte, not_true_eq_false, not_false_eq_true, Bool.true_eq_false, Bool.false_eq_true, Classical.not_not, eq_self, and_self, and_true, true_and, Int.reduceEq, Int.reduceLE, Int.reduceLT, Int.reduceNeg, Option.toList, List.cons_append, List.nil_append, zup_s, zup_n, zst_s, zup_zs, zup_zn, decide_true, decide_false, hC.1, hRp]
      refine ih _ _ ⟨?_, rfl⟩
      rw [nx false (by simp [h1])]
      simp
  · rintro _ _ ⟨rfl, rfl⟩
    rw [k_La_ahead_1]
    simp (disch := first | omega | exact Nat.le_of_ble_eq_true rfl | assumption | (simp only [Int.natCast_add, Int.natCast_mul, Int.cast_ofNat_Int]; omega) | decide) only [k_La_ahead_6, x_aload, x_getf, w_goto, w_fall, w_iconst, w_if, w_icmp, x_iinc, x_iload, w_ior, w_ishl, x_istore, zadd_eq, gf_19_0, gf_19_4, gf_3_0, at_21, ao_21, w_nret r_La_ahead, q_eq, q_ne, q_lt, q_ge, q_gt, q_le, g_I, g_L, g_R, g_V, t_0, t_I, t_R, t_U, t_L, t_s, List.getElem?_cons_zero, List.getElem?_cons_succ, Nat.reduceAdd, zif10, zif01b, zib, if_pos, if_neg, ↓reduceIte, not_true_eq_false, not_false_eq_true, Bool.true_eq_false, Bool.false_eq_true, Classical.not_not, eq_self, and_self, and_true, true_and, Int.reduceEq, Int.reduceLE, Int.reduceLT, Int.reduceNeg, Option.toList, List.cons_append, List.nil_append, zup_s, zup_n, zst_s, zup_zs, zup_zn, decide_true, decide_false, hC.1]
    congr 2
    exact zset_cong fun i hi => by simp [hi]
theorem c_La_ahead {d mi o b9 : Nat} {es : List zEnt} {L st : List zMV} {Q : Option zMV → (Nat → Int → Int) → Prop} {R : Nat → Nat} {t : Int} (hS : S ≤ 12) (hC : zNetC S P mv tg M) (hR : ∀ s : Nat, s < S → M 21 (s : Int) = zneg1 (R s)) (hd : 1 + 1 ≤ d) (hc : zcats st ≤ 8) : zW (zSH Ln) d mi ((.invokevirtual o, 25, b9) :: es) L (zI t :: zR 19 :: st) M Q = zW (zSH Ln) d mi es L (zI (zset S fun s => decide (R s < 13) && decide ((R s : Int) < t)) :: st) (M) Q :=
  c_virt (ps := [zI t]) (by omega) rfl rfl (by omega) (by exact sh_19 Ln) hc (Nat.le_of_ble_eq_true rfl) (F_La_ahead hS hC hR (by omega))
end PL
