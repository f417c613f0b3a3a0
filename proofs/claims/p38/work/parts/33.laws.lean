/-! where a form holds: the class -/
def zCn (mv tg : Nat → Nat → Nat) (P : Nat) (g : Nat → Bool) : (Nat → Bool) → Nat → Bool := fun X s => zcan (mv s) (tg s) g P X
def zJ (C : (Nat → Bool) → Nat → Bool) (lt : Nat → Nat) (kd lf : Nat) (one two : Nat → Bool) : Nat → Bool :=
  if kd = 3 then fun s => one s && two s
  else if kd = 4 then fun s => one s || two s
  else if kd = 8 then zUn C one two 12
  else if kd = 0 then fun _ => true
  else if kd = 1 then fun s => (lt s).testBit lf
  else if kd = 2 then fun s => !one s
  else if kd = 5 then C one
  else if kd = 6 then zAl C one 12
  else if kd = 7 then zUn C (fun _ => true) one 12
  else zAg C one 13
/-- what the last telling of rounds was of -/
def zJA (kd : Nat) (one : Nat → Bool) : Nat → Bool := if kd = 8 then one else fun _ => true
def zJB (C : (Nat → Bool) → Nat → Bool) (kd : Nat) (one two : Nat → Bool) : Nat → Bool := if kd = 7 then one else if kd = 8 then two else fun s => one s && C (zAg C one 13) s
def zneg1 (q : Nat) : Int := if q < 13 then (q : Int) else -1
theorem zst_zst (M : Nat → Int → Int) (k : Nat) (F G : Int → Int) : zst (zst M k F) k G = zst M k G := by
  funext a; by_cases h : a = k <;> simp [zst, h]
theorem zfst_up {f : Nat → Bool} {u : Nat} (hm : ∀ i, i ≤ u → f i = true → f u = true) : (if f (u + 1) = true ∧ ¬ f u = true then ((u + 1 : Nat) : Int) else if zfst (u + 1) f < u + 1 then (zfst (u + 1) f : Int) else -1) = if zfst (u + 2) f < u + 2 then (zfst (u + 2) f : Int) else -1 := by
  have h0 : zfst (u + 2) f = if zfst (u + 1) f < u + 1 then zfst (u + 1) f else if f (u + 1) = true then u + 1 else u + 2 := rfl
  by_cases h : zfst (u + 1) f < u + 1
  · have h2 := hm _ (by omega) (zfst_yes _ _ h)
    rw [if_neg (fun z => z.2 h2), if_pos h, h0, if_pos h, if_pos (by omega)]
  · have h1 : zfst (u + 1) f = u + 1 := by have := zfst_le (u + 1) f; omega
    have h2 : f u = false := zfst_no (u + 1) f u (by omega)
    rw [h0, if_neg h, if_neg h]
    cases h3 : f (u + 1)
    · simp
    · rw [if_pos ⟨rfl, by rw [h2]; decide⟩, if_pos rfl, if_pos (by omega)]
theorem zfst_end {f : Nat → Bool} {u : Nat} (hu : u ≤ 12) (hs : ∀ j, u ≤ j → f j = f u) : (if zfst (u + 1) f < u + 1 then (zfst (u + 1) f : Int) else -1) = zneg1 (zfst 13 f) := by
  unfold zneg1
  by_cases h : zfst (u + 1) f < u + 1
  · have : zfst 13 f = zfst (u + 1) f := zfst_is (by omega) (zfst_yes _ _ h) fun i hi => zfst_no _ _ i hi
    rw [this, if_pos h, if_pos (by omega)]
  · have h1 : zfst (u + 1) f = u + 1 := by have := zfst_le (u + 1) f; omega
    have : zfst 13 f = 13 := zfst_none fun i hi => by
      rcases Nat.lt_or_ge i (u + 1) with h2 | h2
      · exact zfst_no (u + 1) f i (by omega)
      · rw [hs i (by omega)]; exact zfst_no (u + 1) f u (by omega)
    rw [if_neg h, this, if_neg (by decide)]
section LA
variable {Ln S P : Nat} {mv tg : Nat → Nat → Nat} {lt : Nat → Nat} {M : Nat → Int → Int}
theorem ax_20 {d mi o b9 : Nat} {es : List zEnt} {L st : List zMV} {Q : Option zMV → (Nat → Int → Int) → Prop} {i : Int} (hd : 1 ≤ d) (hc : zcats st ≤ 8) : zW (zSH Ln) d mi ((.invokestatic o, 105, b9) :: es) L (zI i :: zR 20 :: st) M Q = zW (zSH Ln) d mi es L (zI (if 0 ≤ i ∧ i < 24 then M 20 i else 0) :: st) M Q := c_stat (vs := [zR 20, zI i]) hd rfl rfl hc (Nat.le_of_ble_eq_true rfl) (FN_at_F (sh_20 Ln))
theorem F_La_whole {d : Nat}  (hd : 1 ≤ d) : zF (zSH Ln) d i_La_whole [zR 19] M fun r M' => r = some (zI (M 20 0)) ∧ M' = M := by
  rw [zF_en k_La_whole_0 (L := [zR 19]) rfl]
  simp (disch := first | omega | exact Nat.le_of_ble_eq_true rfl | assumption | (simp only [Int.natCast_add, Int.natCast_mul, Int.cast_ofNat_Int]; omega) | decide) only [x_aload, x_getf, w_iconst, gf_19_3, at_20, ao_20, w_nret r_La_whole, q_eq, q_ne, q_lt, q_ge, q_gt, q_le, g_I, g_L, g_R, g_V, t_0, t_I, t_R, t_U, t_L, t_s, List.getElem?_cons_zero, List.getElem?_cons_succ, Nat.reduceAdd, zif10, zif01b, zib, if_pos, if_neg, reduceIte, not_true_eq_false, not_false_eq_true, Bool.true_eq_false, Bool.false_eq_true, Classical.not_not, eq_self, and_self, and_true, true_and, Int.reduceEq, Int.reduceLE, Int.reduceLT, Int.reduceNeg, Option.toList, List.cons_append, List.nil_append, zup_s, zup_n, zst_s, zup_zs, zup_zn, decide_true, decide_false]
theorem c_La_whole {d mi o b9 : Nat} {es : List zEnt} {L st : List zMV} {Q : Option zMV → (Nat → Int → Int) → Prop}  (hd : 1 + 1 ≤ d) (hc : zcats st ≤ 8) : zW (zSH Ln) d mi ((.invokevirtual o, 18, b9) :: es) L (zR 19 :: st) M Q = zW (zSH Ln) d mi es L (zI (M 20 0) :: st) (M) Q :=
  c_virt (ps := []) (by omega) rfl rfl (by omega) (by exact sh_19 Ln) hc (Nat.le_of_ble_eq_true rfl) (F_La_whole  (by omega))
theorem F_La_always {d : Nat} {A g : Nat → Bool} (hN : zNet S P mv tg) (hC : zNetC S P mv tg M) (hT : zTabC S P mv tg g M) (hd : 3 ≤ d) : zF (zSH Ln) d i_La_always [zR 19, zI (zset S A)] M fun r M' => r = some (zI (zset S (zAl (zCn mv tg P g) A 12))) ∧ M' = M := by
  rw [zF_en k_La_always_0 (L := [zR 19, zI (zset S A), zU, zU]) rfl]
  simp (disch := first | omega | exact Nat.le_of_ble_eq_true rfl | assumption | (simp only [Int.natCast_add, Int.natCast_mul, Int.cast_ofNat_Int]; omega) | decide) only [x_aload, x_getf, w_goto, w_fall, w_iconst, w_icmp, x_iinc, x_iload, x_istore, zadd_eq, gf_19_2, w_nret r_La_always, q_eq, q_ne, q_lt, q_ge, q_gt, q_le, g_I, g_L, g_R, g_V, t_0, t_I, t_R, t_U, t_L, t_s, List.getElem?_cons_zero, List.getElem?_cons_succ, Nat.reduceAdd, zif10, zif01b, zib, if_pos, if_neg, reduceIte, not_true_eq_false, not_false_eq_true, Bool.true_eq_false, Bool.false_eq_true, Classical.not_not, eq_self, and_self, and_true, true_and, Int.reduceEq, Int.reduceLE, Int.reduceLT, Int.reduceNeg, Option.toList, List.cons_append, List.nil_append, zup_s, zup_n, zst_s, zup_zs, zup_zn, decide_true, decide_false]
  refine zfor (a := 0) (N := 12) (b := 1) (fun p L0 M0 => L0 = [zR 19, zI (zset S A), zI (zset S (zAl (zCn mv tg P g) A p)), zI (p : Int)] ∧ M0 = M) ?_ ?_ ?_ ?_
  · exact Nat.zero_le _
  · exact ⟨rfl, rfl⟩
  · rintro p _ _ _ hp ⟨rfl, rfl⟩ ih
    rw [k_La_always_1]
    simp (disch := first | omega | exact Nat.le_of_ble_eq_true rfl | assumption | (simp only [Int.natCast_add, Int.natCast_mul, Int.cast_ofNat_Int]; omega) | decide) only [k_La_always_2, x_aload, x_getf, w_goto, w_fall, w_iconst, w_icmp, x_iinc, x_iload, x_istore, zadd_eq, gf_19_2, w_nret r_La_always, q_eq, q_ne, q_lt, q_ge, q_gt, q_le, g_I, g_L, g_R, g_V, t_0, t_I, t_R, t_U, t_L, t_s, List.getElem?_cons_zero, List.getElem?_cons_succ, Nat.reduceAdd, zif10, zif01b, zib, if_pos, if_neg, reduceIte, not_true_eq_false, not_false_eq_true, Bool.true_eq_false, Bool.false_eq_true, Classical.not_not, eq_self, and_self, and_true, true_and, Int.reduceEq, Int.reduceLE, Int.reduceLT, Int.reduceNeg, Option.toList, List.cons_append, List.nil_append, zup_s, zup_n, zst_s, zup_zs, zup_zn, decide_true, decide_false, c_Ta_forcing hN hC hT]
    exact ih _ _ ⟨rfl, rfl⟩
  · rintro _ _ ⟨rfl, rfl⟩
    rw [k_La_always_1]
    simp (disch := first | omega | exact Nat.le_of_ble_eq_true rfl | assumption | (simp only [Int.natCast_add, Int.natCast_mul, Int.cast_ofNat_Int]; omega) | decide) only [k_La_always_3, x_aload, x_getf, w_goto, w_fall, w_iconst, w_icmp, x_iinc, x_iload, x_istore, zadd_eq, gf_19_2, w_nret r_La_always, q_eq, q_ne, q_lt, q_ge, q_gt, q_le, g_I, g_L, g_R, g_V, t_0, t_I, t_R, t_U, t_L, t_s, List.getElem?_cons_zero, List.getElem?_cons_succ, Nat.reduceAdd, zif10, zif01b, zib, if_pos, if_neg, reduceIte, not_true_eq_false, not_false_eq_true, Bool.true_eq_false, Bool.false_eq_true, Classical.not_not, eq_self, and_self, and_true, true_and, Int.reduceEq, Int.reduceLE, Int.reduceLT, Int.reduceNeg, Option.toList, List.cons_append, List.nil_append, zup_s, zup_n, zst_s, zup_zs, zup_zn, decide_true, decide_false]
theorem c_La_always {d mi o b9 : Nat} {es : List zEnt} {L st : List zMV} {Q : Option zMV → (Nat → Int → Int) → Prop} {A g : Nat → Bool} (hN : zNet S P mv tg) (hC : zNetC S P mv tg M) (hT : zTabC S P mv tg g M) (hd : 3 + 1 ≤ d) (hc : zcats st ≤ 8) : zW (zSH Ln) d mi ((.invokevirtual o, 21, b9) :: es) L (zI (zset S A) :: zR 19 :: st) M Q = zW (zSH Ln) d mi es L (zI (zset S (zAl (zCn mv tg P g) A 12)) :: st) (M) Q :=
  c_virt (ps := [zI (zset S A)]) (by omega) rfl rfl (by omega) (by exact sh_19 Ln) hc (Nat.le_of_ble_eq_true rfl) (F_La_always hN hC hT (by omega))
theorem F_La_mark {d : Nat} {f : Nat → Bool} {t : Int} (hS : S ≤ 12) (hd : 1 ≤ d) : zF (zSH Ln) d i_La_mark [zR 19, zI (zset S f), zI t] M fun r M' => r = none ∧ ∃ R, M' = zst M 21 R ∧ ∀ s : Nat, s < 12 → R s = if s < S ∧ f s = true then t else M 21 s := by
  rw [zF_en k_La_mark_0 (L := [zR 19, zI (zset S f), zI t, zU]) rfl]
  simp (disch := first | omega | exact Nat.le_of_ble_eq_true rfl | assumption | (simp only [Int.natCast_add, Int.natCast_mul, Int.cast_ofNat_Int]; omega) | decide) only [x_aload, x_getf, w_goto, w_fall, w_iconst, w_if, w_icmp, x_iinc, x_iload, x_istore, zadd_eq, gf_19_4, pu_21, w_vret r_La_mark, q_eq, q_ne, q_lt, q_ge, q_gt, q_le, g_I, g_L, g_R, g_V, t_0, t_I, t_R, t_U, t_L, t_s, List.getElem?_cons_zero, List.getElem?_cons_succ, Nat.reduceAdd, zif10, zif01b, zib, if_pos, if_neg, reduceIte, not_true_eq_false, not_false_eq_true, Bool.true_eq_false, Bool.false_eq_true, Classical.not_not, eq_self, and_self, and_true, true_and, Int.reduceEq, Int.reduceLE, Int.reduceLT, Int.reduceNeg, Option.toList, List.cons_append, List.nil_append, zup_s, zup_n, zst_s, zup_zs, zup_zn, decide_true, decide_false]
  refine zfor (a := 0) (N := 12) (b := 1) (fun p L0 M0 => ∃ R, L0 = [zR 19, zI (zset S f), zI t, zI (p : Int)] ∧ M0 = zst M 21 R ∧ (∀ s : Nat, s < p → R s = if s < S ∧ f s = true then t else M 21 s) ∧ ∀ x : Int, (p : Int) ≤ x → R x = M 21 x) ?_ ?_ ?_ ?_
  · exact Nat.zero_le _
  · exact ⟨M 21, rfl, (zst_id _ _).symm, fun s hs => by omega, fun _ _ => rfl⟩
  · rintro p _ _ _ hp ⟨R, rfl, rfl, h1, h2⟩ ih
    rw [k_La_mark_1]
    cases hb : zbit (zset S f) p
    · simp (disch := first | omega | exact Nat.le_of_ble_eq_true rfl | assumption | (simp only [Int.natCast_add, Int.natCast_mul, Int.cast_ofNat_Int]; omega) | decide) only [k_La_mark_2, k_La_mark_4, x_aload, x_getf, w_goto, w_fall, w_iconst, w_if, w_icmp, x_iinc, x_iload, x_istore, zadd_eq, gf_19_4, pu_21, w_vret r_La_mark, q_eq, q_ne, q_lt, q_ge, q_gt, q_le, g_I, g_L, g_R, g_V, t_0, t_I, t_R, t_U, t_L, t_s, List.getElem?_cons_zero, List.getElem?_cons_succ, Nat.reduceAdd, zif10, zif01b, zib, if_pos, if_neg, reduceIte, not_true_eq_false, not_false_eq_true, Bool.true_eq_false, Bool.false_eq_true, Classical.not_not, eq_self, and_self, and_true, true_and, Int.reduceEq, Int.reduceLE, Int.reduceLT, Int.reduceNeg, Option.toList, List.cons_append, List.nil_append, zup_s, zup_n, zst_s, zup_zs, zup_zn, decide_true, decide_false, c_has, hb]
      rw [zset_bit (by omega)] at hb
      refine ih _ _ ⟨R, rfl, rfl, fun s hs => ?_, fun x hx => h2 x (by omega)⟩
      by_cases e : s = p
      · subst e
        rw [h2 _ (Int.le_refl _), if_neg]
        intro z
        simp [z.1, z.2] at hb
      · exact h1 s (by omega)
    · simp (disch := first | omega | exact Nat.le_of_ble_eq_true rfl | assumption | (simp only [Int.natCast_add, Int.natCast_mul, Int.cast_ofNat_Int]; omega) | decide) only [k_La_mark_2, k_La_mark_3, k_La_mark_4, x_aload, x_getf, w_goto, w_fall, w_iconst, w_if, w_icmp, x_iinc, x_iload, x_istore, zadd_eq, gf_19_4, pu_21, w_vret r_La_mark, q_eq, q_ne, q_lt, q_ge, q_gt, q_le, g_I, g_L, g_R, g_V, t_0, t_I, t_R, t_U, t_L, t_s, List.getElem?_cons_zero, List.getElem?_cons_succ, Nat.reduceAdd, zif10, zif01b, zib, if_pos, if_neg, reduceIte, not_true_eq_false, not_false_eq_true, Bool.true_eq_false, Bool.false_eq_true, Classical.not_not, eq_self, and_self, and_true, true_and, Int.reduceEq, Int.reduceLE, Int.reduceLT, Int.reduceNeg, Option.toList, List.cons_append, List.nil_append, zup_s, zup_n, zst_s, zup_zs, zup_zn, decide_true, decide_false, c_has, hb]
      rw [zset_bit (by omega)] at hb
      refine ih _ _ ⟨_, rfl, rfl, fun s hs => ?_, fun x hx => ?_⟩
      · by_cases e : s = p
        · subst e
          rw [zf_s, if_pos (by simpa using hb)]
        · rw [zf_n (by omega)]; exact h1 s (by omega)
      · rw [zf_n (by omega)]; exact h2 x (by omega)
  · rintro _ _ ⟨R, rfl, rfl, h1, h2⟩
    rw [k_La_mark_1]
    simp (disch := first | omega | exact Nat.le_of_ble_eq_true rfl | assumption | (simp only [Int.natCast_add, Int.natCast_mul, Int.cast_ofNat_Int]; omega) | decide) only [k_La_mark_5, x_aload, x_getf, w_goto, w_fall, w_iconst, w_if, w_icmp, x_iinc, x_iload, x_istore, zadd_eq, gf_19_4, pu_21, w_vret r_La_mark, q_eq, q_ne, q_lt, q_ge, q_gt, q_le, g_I, g_L, g_R, g_V, t_0, t_I, t_R, t_U, t_L, t_s, List.getElem?_cons_zero, List.getElem?_cons_succ, Nat.reduceAdd, zif10, zif01b, zib, if_pos, if_neg, reduceIte, not_true_eq_false, not_false_eq_true, Bool.true_eq_false, Bool.false_eq_true, Classical.not_not, eq_self, and_self, and_true, true_and, Int.reduceEq, Int.reduceLE, Int.reduceLT, Int.reduceNeg, Option.toList, List.cons_append, List.nil_append, zup_s, zup_n, zst_s, zup_zs, zup_zn, decide_true, decide_false]
    exact ⟨R, rfl, fun s hs => h1 s hs⟩
theorem c_La_mark {d mi o b9 : Nat} {es : List zEnt} {L st : List zMV} {Q : Option zMV → (Nat → Int → Int) → Prop} {f : Nat → Bool} {t : Int} (hS : S ≤ 12) (hd : 1 + 1 ≤ d) (hc : zcats st ≤ 8) (hpost : ∀ r M', (r = none ∧ ∃ R, M' = zst M 21 R ∧ ∀ s : Nat, s < 12 → R s = if s < S ∧ f s = true then t else M 21 s) → zW (zSH Ln) d mi es L (r.toList ++ st) M' Q) : zW (zSH Ln) d mi ((.invokevirtual o, 23, b9) :: es) L (zI t :: zI (zset S f) :: zR 19 :: st) M Q :=
  w_callv (ps := [zI (zset S f), zI t]) (by omega) rfl rfl (by omega) (by exact sh_19 Ln) hc (Nat.le_of_ble_eq_true rfl) (F_La_mark hS (by omega)) hpost
theorem F_La_until {d : Nat} {A B g : Nat → Bool} (hN : zNet S P mv tg) (hC : zNetC S P mv tg M) (hT : zTabC S P mv tg g M) (hd : 3 ≤ d) : zF (zSH Ln) d i_La_until [zR 19, zI (zset S A), zI (zset S B)] M fun r M' => r = some (zI (zset S (zUn (zCn mv tg P g) A B 12))) ∧ ∃ R, M' = zst M 21 R ∧ ∀ s : Nat, s < S → R s = zneg1 (zrd (zCn mv tg P g) A B s) := by
  rw [zF_en k_La_until_0 (L := [zR 19, zI (zset S A), zI (zset S B), zU, zU, zU]) rfl]
  have hS := hN.2.1
  have hCg : zCg S (zCn mv tg P g) := zcan_Cg hN g
  have hC1 : ∀ R, zNetC S P mv tg (zst M 21 R) := fun _ => hC
  have hT1 : ∀ R, zTabC S P mv tg g (zst M 21 R) := fun _ => hT
  simp (disch := first | omega | exact Nat.le_of_ble_eq_true rfl | assumption | (simp only [Int.natCast_add, Int.natCast_mul, Int.cast_ofNat_Int]; omega) | decide) only [x_aload, x_getf, w_goto, w_fall, w_iand, w_iconst, w_if, w_icmp, x_iinc, x_iload, w_ior, x_istore, w_ixor, zadd_eq, gf_19_2, gf_19_4, pu_21, w_nret r_La_until, q_eq, q_ne, q_lt, q_ge, q_gt, q_le, g_I, g_L, g_R, g_V, t_0, t_I, t_R, t_U, t_L, t_s, List.getElem?_cons_zero, List.getElem?_cons_succ, Nat.reduceAdd, zif10, zif01b, zib, if_pos, if_neg, reduceIte, not_true_eq_false, not_false_eq_true, Bool.true_eq_false, Bool.false_eq_true, Classical.not_not, eq_self, and_self, and_true, true_and, Int.reduceEq, Int.reduceLE, Int.reduceLT, Int.reduceNeg, Option.toList, List.cons_append, List.nil_append, zup_s, zup_n, zst_s, zup_zs, zup_zn, decide_true, decide_false]
  refine zfor (a := 0) (N := 12) (b := 1) (fun p L0 M0 => ∃ R v5, L0 = [zR 19, zI (zset S A), zI (zset S B), zI (zset S B), zI (p : Int), v5] ∧ M0 = zst M 21 R ∧ ∀ s : Nat, s < p → R s = if s < S ∧ B s = true then 0 else -1) ?_ ?_ ?_ ?_
  · exact Nat.zero_le _
  · exact ⟨M 21, zU, rfl, (zst_id _ _).symm, fun s hs => by omega⟩
  · rintro p _ _ _ hp ⟨R, v5, rfl, rfl, h1⟩ ih
    have hb2 : zbit (zset S B) p = (decide (p < S) && B p) := zset_bit (by omega) B p
    rw [k_La_until_1]
    cases hb : zbit (zset S B) p
    · simp (disch := first | omega | exact Nat.le_of_ble_eq_true rfl | assumption | (simp only [Int.natCast_add, Int.natCast_mul, Int.cast_ofNat_Int]; omega) | decide) only [k_La_until_2, k_La_until_4, k_La_until_5, x_aload, x_getf, w_goto, w_fall, w_iand, w_iconst, w_if, w_icmp, x_iinc, x_iload, w_ior, x_istore, w_ixor, zadd_eq, gf_19_2, gf_19_4, pu_21, w_nret r_La_until, q_eq, q_ne, q_lt, q_ge, q_gt, q_le, g_I, g_L, g_R, g_V, t_0, t_I, t_R, t_U, t_L, t_s, List.getElem?_cons_zero, List.getElem?_cons_succ, Nat.reduceAdd, zif10, zif01b, zib, if_pos, if_neg, reduceIte, not_true_eq_false, not_false_eq_true, Bool.true_eq_false, Bool.false_eq_true, Classical.not_not, eq_self, and_self, and_true, true_and, Int.reduceEq, Int.reduceLE, Int.reduceLT, Int.reduceNeg, Option.toList, List.cons_append, List.nil_append, zup_s, zup_n, zst_s, zup_zs, zup_zn, decide_true, decide_false, c_has, hb]
      refine ih _ _ ⟨_, _, rfl, rfl, fun s hs => ?_⟩
      by_cases e : s = p
      · subst e
        rw [zf_s, if_neg]
        intro z
        rw [hb2] at hb
        simp [z.1, z.2] at hb
      · rw [zf_n (by omega)]; exact h1 s (by omega)
    · simp (disch := first | omega | exact Nat.le_of_ble_eq_true rfl | assumption | (simp only [Int.natCast_add, Int.natCast_mul, Int.cast_ofNat_Int]; omega) | decide) only [k_La_until_2, k_La_until_3, k_La_until_5, x_aload, x_getf, w_goto, w_fall, w_iand, w_iconst, w_if, w_icmp, x_iinc, x_iload, w_ior, x_istore, w_ixor, zadd_eq, gf_19_2, gf_19_4, pu_21, w_nret r_La_until, q_eq, q_ne, q_lt, q_ge, q_gt, q_le, g_I, g_L, g_R, g_V, t_0, t_I, t_R, t_U, t_L, t_s, List.getElem?_cons_zero, List.getElem?_cons_succ, Nat.reduceAdd, zif10, zif01b, zib, if_pos, if_neg, reduceIte, not_true_eq_false, not_false_eq_true, Bool.true_eq_false, Bool.false_eq_true, Classical.not_not, eq_self, and_self, and_true, true_and, Int.reduceEq, Int.reduceLE, Int.reduceLT, Int.reduceNeg, Option.toList, List.cons_append, List.nil_append, zup_s, zup_n, zst_s, zup_zs, zup_zn, decide_true, decide_false, c_has, hb]
      refine ih _ _ ⟨_, _, rfl, rfl, fun s hs => ?_⟩
      by_cases e : s = p
      · subst e
        rw [hb2] at hb
        rw [zf_s, if_pos (by simpa using hb)]
      · rw [zf_n (by omega)]; exact h1 s (by omega)
  · rintro _ _ ⟨R, v5, rfl, rfl, h1⟩
    rw [k_La_until_1]
    simp (disch := first | omega | exact Nat.le_of_ble_eq_true rfl | assumption | (simp only [Int.natCast_add, Int.natCast_mul, Int.cast_ofNat_Int]; omega) | decide) only [k_La_until_6, x_aload, x_getf, w_goto, w_fall, w_iand, w_iconst, w_if, w_icmp, x_iinc, x_iload, w_ior, x_istore, w_ixor, zadd_eq, gf_19_2, gf_19_4, pu_21, w_nret r_La_until, q_eq, q_ne, q_lt, q_ge, q_gt, q_le, g_I, g_L, g_R, g_V, t_0, t_I, t_R, t_U, t_L, t_s, List.getElem?_cons_zero, List.getElem?_cons_succ, Nat.reduceAdd, zif10, zif01b, zib, if_pos, if_neg, reduceIte, not_true_eq_false, not_false_eq_true, Bool.true_eq_false, Bool.false_eq_true, Classical.not_not, eq_self, and_self, and_true, true_and, Int.reduceEq, Int.reduceLE, Int.reduceLT, Int.reduceNeg, Option.toList, List.cons_append, List.nil_append, zup_s, zup_n, zst_s, zup_zs, zup_zn, decide_true, decide_false]
    refine zfor (a := 0) (N := 12) (b := 7) (fun u L0 M0 => ∃ R v5, L0 = [zR 19, zI (zset S A), zI (zset S B), zI (zset S (zUn (zCn mv tg P g) A B u)), zI ((u : Int) + 1), v5] ∧ M0 = zst M 21 R ∧ ∀ s : Nat, s < S → R s = if zfst (u + 1) (fun i => zUn (zCn mv tg P g) A B i s) < u + 1 then (zfst (u + 1) (fun i => zUn (zCn mv tg P g) A B i s) : Int) else -1) ?_ ?_ ?_ ?_
    · exact Nat.zero_le _
    · refine ⟨R, v5, rfl, rfl, fun s hs => ?_⟩
      rw [h1 s (by omega)]
      cases hb : B s <;> simp [zfst, zUn, hb, hs]
    · rintro u _ _ _ hu ⟨R, v5, rfl, rfl, h1⟩ ih
      rw [k_La_until_7]
      by_cases hz : zset S (fun s => (A s && !zUn (zCn mv tg P g) A B u s) && zcan (mv s) (tg s) g P (zUn (zCn mv tg P g) A B u)) = 0
      · have e1 := (zset_eq0 (by omega)).mp hz
        have e2 : zeqS S (zUn (zCn mv tg P g) A B (u + 1)) (zUn (zCn mv tg P g) A B u) := fun s hs => by
          show (_ || _) = _
          have := e1 s hs
          rw [show ((A s && !zUn (zCn mv tg P g) A B u s) && zCn mv tg P g (zUn (zCn mv tg P g) A B u) s) = false from this, Bool.or_false]
        have e3 := zUn_stay hCg u 12 (Or.inl e2) (by omega)
        simp (disch := first | omega | exact Nat.le_of_ble_eq_true rfl | assumption | (simp only [Int.natCast_add, Int.natCast_mul, Int.cast_ofNat_Int]; omega) | decide) only [k_La_until_8, k_La_until_9, k_La_until_11, x_aload, x_getf, w_goto, w_fall, w_iand, w_iconst, w_if, w_icmp, x_iinc, x_iload, w_ior, x_istore, w_ixor, zadd_eq, gf_19_2, gf_19_4, pu_21, w_nret r_La_until, q_eq, q_ne, q_lt, q_ge, q_gt, q_le, g_I, g_L, g_R, g_V, t_0, t_I, t_R, t_U, t_L, t_s, List.getElem?_cons_zero, List.getElem?_cons_succ, Nat.reduceAdd, zif10, zif01b, zib, if_pos, if_neg, reduceIte, not_true_eq_false, not_false_eq_true, Bool.true_eq_false, Bool.false_eq_true, Classical.not_not, eq_self, and_self, and_true, true_and, Int.reduceEq, Int.reduceLE, Int.reduceLT, Int.reduceNeg, Option.toList, List.cons_append, List.nil_append, zup_s, zup_n, zst_s, zup_zs, zup_zn, decide_true, decide_false, zset_dif, c_Ta_forcing hN (hC1 _) (hT1 _), hz]
        refine ⟨by rw [zset_cong e3], R, rfl, fun s hs => ?_⟩
        rw [h1 s hs]
        exact zfst_end (by omega) fun j hj => zUn_stay hCg u j (Or.inl e2) hj s hs
      · simp (disch := first | omega | exact Nat.le_of_ble_eq_true rfl | assumption | (simp only [Int.natCast_add, Int.natCast_mul, Int.cast_ofNat_Int]; omega) | decide) only [k_La_until_8, k_La_until_10, x_aload, x_getf, w_goto, w_fall, w_iand, w_iconst, w_if, w_icmp, x_iinc, x_iload, w_ior, x_istore, w_ixor, zadd_eq, gf_19_2, gf_19_4, pu_21, w_nret r_La_until, q_eq, q_ne, q_lt, q_ge, q_gt, q_le, g_I, g_L, g_R, g_V, t_0, t_I, t_R, t_U, t_L, t_s, List.getElem?_cons_zero, List.getElem?_cons_succ, Nat.reduceAdd, zif10, zif01b, zib, if_pos, if_neg, reduceIte, not_true_eq_false, not_false_eq_true, Bool.true_eq_false, Bool.false_eq_true, Classical.not_not, eq_self, and_self, and_true, true_and, Int.reduceEq, Int.reduceLE, Int.reduceLT, Int.reduceNeg, Option.toList, List.cons_append, List.nil_append, zup_s, zup_n, zst_s, zup_zs, zup_zn, decide_true, decide_false, zset_dif, c_Ta_forcing hN (hC1 _) (hT1 _), hz]
        refine c_La_mark hS (by omega) (Nat.le_of_ble_eq_true rfl) ?_
        rintro _ _ ⟨rfl, R', rfl, h2⟩
        simp (disch := first | omega | exact Nat.le_of_ble_eq_true rfl | assumption | (simp only [Int.natCast_add, Int.natCast_mul, Int.cast_ofNat_Int]; omega) | decide) only [x_aload, x_getf, w_goto, w_fall, w_iand, w_iconst, w_if, w_icmp, x_iinc, x_iload, w_ior, x_istore, w_ixor, zadd_eq, gf_19_2, gf_19_4, pu_21, w_nret r_La_until, q_eq, q_ne, q_lt, q_ge, q_gt, q_le, g_I, g_L, g_R, g_V, t_0, t_I, t_R, t_U, t_L, t_s, List.getElem?_cons_zero, List.getElem?_cons_succ, Nat.reduceAdd, zif10, zif01b, zib, if_pos, if_neg, reduceIte, not_true_eq_false, not_false_eq_true, Bool.true_eq_false, Bool.false_eq_true, Classical.not_not, eq_self, and_self, and_true, true_and, Int.reduceEq, Int.reduceLE, Int.reduceLT, Int.reduceNeg, Option.toList, List.cons_append, List.nil_append, zup_s, zup_n, zst_s, zup_zs, zup_zn, decide_true, decide_false, zset_or, zst_zst]
        refine ih _ _ ⟨R', _, rfl, rfl, fun s hs => ?_⟩
        rw [h2 s (by omega), zst_s, h1 s hs, ← zfst_up (f := fun i => zUn (zCn mv tg P g) A B i s) fun i hi h => zUn_incs hi s hs h]
        congr 1
        rw [eq_iff_iff]
        show _ ↔ (_ || ((A s && !zUn (zCn mv tg P g) A B u s) && zcan (mv s) (tg s) g P (zUn (zCn mv tg P g) A B u))) = true ∧ _
        cases h4 : zUn (zCn mv tg P g) A B u s <;> simp [hs]
    · rintro _ _ ⟨R, v5, rfl, rfl, h1⟩
      rw [k_La_until_7]
      simp (disch := first | omega | exact Nat.le_of_ble_eq_true rfl | assumption | (simp only [Int.natCast_add, Int.natCast_mul, Int.cast_ofNat_Int]; omega) | decide) only [k_La_until_11, x_aload, x_getf, w_goto, w_fall, w_iand, w_iconst, w_if, w_icmp, x_iinc, x_iload, w_ior, x_istore, w_ixor, zadd_eq, gf_19_2, gf_19_4, pu_21, w_nret r_La_until, q_eq, q_ne, q_lt, q_ge, q_gt, q_le, g_I, g_L, g_R, g_V, t_0, t_I, t_R, t_U, t_L, t_s, List.getElem?_cons_zero, List.getElem?_cons_succ, Nat.reduceAdd, zif10, zif01b, zib, if_pos, if_neg, reduceIte, not_true_eq_false, not_false_eq_true, Bool.true_eq_false, Bool.false_eq_true, Classical.not_not, eq_self, and_self, and_true, true_and, Int.reduceEq, Int.reduceLE, Int.reduceLT, Int.reduceNeg, Option.toList, List.cons_append, List.nil_append, zup_s, zup_n, zst_s, zup_zs, zup_zn, decide_true, decide_false]
      exact ⟨R, rfl, fun s hs => h1 s hs⟩
theorem c_La_until {d mi o b9 : Nat} {es : List zEnt} {L st : List zMV} {Q : Option zMV → (Nat → Int → Int) → Prop} {A B g : Nat → Bool} (hN : zNet S P mv tg) (hC : zNetC S P mv tg M) (hT : zTabC S P mv tg g M) (hd : 3 + 1 ≤ d) (hc : zcats st ≤ 8) (hpost : ∀ r M', (r = some (zI (zset S (zUn (zCn mv tg P g) A B 12))) ∧ ∃ R, M' = zst M 21 R ∧ ∀ s : Nat, s < S → R s = zneg1 (zrd (zCn mv tg P g) A B s)) → zW (zSH Ln) d mi es L (r.toList ++ st) M' Q) : zW (zSH Ln) d mi ((.invokevirtual o, 22, b9) :: es) L (zI (zset S B) :: zI (zset S A) :: zR 19 :: st) M Q :=
  w_callv (ps := [zI (zset S A), zI (zset S B)]) (by omega) rfl rfl (by omega) (by exact sh_19 Ln) hc (Nat.le_of_ble_eq_true rfl) (F_La_until hN hC hT (by omega)) hpost
theorem F_La_again {d : Nat} {A g : Nat → Bool} (hN : zNet S P mv tg) (hC : zNetC S P mv tg M) (hT : zTabC S P mv tg g M) (hd : 4 ≤ d) : zF (zSH Ln) d i_La_again [zR 19, zI (zset S A)] M fun r M' => r = some (zI (zset S (zAg (zCn mv tg P g) A 13))) ∧ ∃ R, M' = zst M 21 R ∧ ∀ s : Nat, s < S → R s = zneg1 (zrd (zCn mv tg P g) (fun _ => true) (fun s => A s && zCn mv tg P g (zAg (zCn mv tg P g) A 13) s) s) := by
  rw [zF_en k_La_again_0 (L := [zR 19, zI (zset S A), zU, zU, zU]) rfl]
  have hS := hN.2.1
  have hCg : zCg S (zCn mv tg P g) := zcan_Cg hN g
  have hC1 : ∀ R, zNetC S P mv tg (zst M 21 R) := fun _ => hC
  have hT1 : ∀ R, zTabC S P mv tg g (zst M 21 R) := fun _ => hT
  simp (disch := first | omega | exact Nat.le_of_ble_eq_true rfl | assumption | (simp only [Int.natCast_add, Int.natCast_mul, Int.cast_ofNat_Int]; omega) | decide) only [x_aload, x_getf, w_goto, w_fall, w_iconst, w_icmp, x_iinc, x_iload, x_istore, zadd_eq, gf_19_0, gf_19_2, w_nret r_La_again, q_eq, q_ne, q_lt, q_ge, q_gt, q_le, g_I, g_L, g_R, g_V, t_0, t_I, t_R, t_U, t_L, t_s, List.getElem?_cons_zero, List.getElem?_cons_succ, Nat.reduceAdd, zif10, zif01b, zib, if_pos, if_neg, reduceIte, not_true_eq_false, not_false_eq_true, Bool.true_eq_false, Bool.false_eq_true, Classical.not_not, eq_self, and_self, and_true, true_and, Int.reduceEq, Int.reduceLE, Int.reduceLT, Int.reduceNeg, Option.toList, List.cons_append, List.nil_append, zup_s, zup_n, zst_s, zup_zs, zup_zn, decide_true, decide_false, c_Ne_everywhere hN hC]
  refine zfor (a := 0) (N := 13) (b := 1) (fun p L0 M0 => ∃ R v4, L0 = [zR 19, zI (zset S A), zI (zset S (zAg (zCn mv tg P g) A p)), zI (p : Int), v4] ∧ M0 = zst M 21 R ∧ ∀ j, j < p → ¬ zeqS S (zAg (zCn mv tg P g) A (j + 1)) (zAg (zCn mv tg P g) A j)) ?_ ?_ ?_ ?_
  · exact Nat.zero_le _
  · exact ⟨M 21, zU, rfl, (zst_id _ _).symm, fun j hj => by omega⟩
  · rintro p _ _ _ hp ⟨R, v4, rfl, rfl, h1⟩ ih
    rw [k_La_again_1]
    simp (disch := first | omega | exact Nat.le_of_ble_eq_true rfl | assumption | (simp only [Int.natCast_add, Int.natCast_mul, Int.cast_ofNat_Int]; omega) | decide) only [k_La_again_2, x_aload, x_getf, w_goto, w_fall, w_iconst, w_icmp, x_iinc, x_iload, x_istore, zadd_eq, gf_19_0, gf_19_2, w_nret r_La_again, q_eq, q_ne, q_lt, q_ge, q_gt, q_le, g_I, g_L, g_R, g_V, t_0, t_I, t_R, t_U, t_L, t_s, List.getElem?_cons_zero, List.getElem?_cons_succ, Nat.reduceAdd, zif10, zif01b, zib, if_pos, if_neg, reduceIte, not_true_eq_false, not_false_eq_true, Bool.true_eq_false, Bool.false_eq_true, Classical.not_not, eq_self, and_self, and_true, true_and, Int.reduceEq, Int.reduceLE, Int.reduceLT, Int.reduceNeg, Option.toList, List.cons_append, List.nil_append, zup_s, zup_n, zst_s, zup_zs, zup_zn, decide_true, decide_false, c_Ne_everywhere hN (hC1 _), c_Ta_forcing hN (hC1 _) (hT1 _)]
    refine c_La_until hN (hC1 _) (hT1 _) (by omega) (Nat.le_of_ble_eq_true rfl) ?_
    rintro _ _ ⟨rfl, R', rfl, h2⟩
    rw [zst_zst]
    by_cases e : zeqS S (zAg (zCn mv tg P g) A (p + 1)) (zAg (zCn mv tg P g) A p)
    · have e2 : zset S (zUn (zCn mv tg P g) (fun _ => true) (fun s => A s && zcan (mv s) (tg s) g P (zAg (zCn mv tg P g) A p)) 12) = zset S (zAg (zCn mv tg P g) A p) := zset_cong e
      have e3 := zAg_stay hCg p 13 (Or.inl e) (by omega)
      simp (disch := first | omega | exact Nat.le_of_ble_eq_true rfl | assumption | (simp only [Int.natCast_add, Int.natCast_mul, Int.cast_ofNat_Int]; omega) | decide) only [k_La_again_3, k_La_again_5, x_aload, x_getf, w_goto, w_fall, w_iconst, w_icmp, x_iinc, x_iload, x_istore, zadd_eq, gf_19_0, gf_19_2, w_nret r_La_again, q_eq, q_ne, q_lt, q_ge, q_gt, q_le, g_I, g_L, g_R, g_V, t_0, t_I, t_R, t_U, t_L, t_s, List.getElem?_cons_zero, List.getElem?_cons_succ, Nat.reduceAdd, zif10, zif01b, zib, if_pos, if_neg, reduceIte, not_true_eq_false, not_false_eq_true, Bool.true_eq_false, Bool.false_eq_true, Classical.not_not, eq_self, and_self, and_true, true_and, Int.reduceEq, Int.reduceLE, Int.reduceLT, Int.reduceNeg, Option.toList, List.cons_append, List.nil_append, zup_s, zup_n, zst_s, zup_zs, zup_zn, decide_true, decide_false, e2]
      refine ⟨by rw [zset_cong e3], R', rfl, fun s hs => ?_⟩
      have e4 : zrd (zCn mv tg P g) (fun _ => true) (fun s => A s && zCn mv tg P g (zAg (zCn mv tg P g) A p) s) s = zrd (zCn mv tg P g) (fun _ => true) (fun s => A s && zCn mv tg P g (zAg (zCn mv tg P g) A 13) s) s := zrd_congr hCg (zeqS.rf _) (fun t ht => by rw [hCg.1 _ _ e3 t ht]) hs
      rw [h2 s hs]
      exact congrArg zneg1 e4
    · have e2 : ¬ zset S (zUn (zCn mv tg P g) (fun _ => true) (fun s => A s && zcan (mv s) (tg s) g P (zAg (zCn mv tg P g) A p)) 12) = zset S (zAg (zCn mv tg P g) A p) := fun z => e ((zset_iff (by omega)).mp z)
      simp (disch := first | omega | exact Nat.le_of_ble_eq_true rfl | assumption | (simp only [Int.natCast_add, Int.natCast_mul, Int.cast_ofNat_Int]; omega) | decide) only [k_La_again_4, x_aload, x_getf, w_goto, w_fall, w_iconst, w_icmp, x_iinc, x_iload, x_istore, zadd_eq, gf_19_0, gf_19_2, w_nret r_La_again, q_eq, q_ne, q_lt, q_ge, q_gt, q_le, g_I, g_L, g_R, g_V, t_0, t_I, t_R, t_U, t_L, t_s, List.getElem?_cons_zero, List.getElem?_cons_succ, Nat.reduceAdd, zif10, zif01b, zib, if_pos, if_neg, reduceIte, not_true_eq_false, not_false_eq_true, Bool.true_eq_false, Bool.false_eq_true, Classical.not_not, eq_self, and_self, and_true, true_and, Int.reduceEq, Int.reduceLE, Int.reduceLT, Int.reduceNeg, Option.toList, List.cons_append, List.nil_append, zup_s, zup_n, zst_s, zup_zs, zup_zn, decide_true, decide_false, e2]
      refine ih _ _ ⟨R', _, rfl, rfl, fun j hj => ?_⟩
      by_cases ej : j = p
      · subst ej; exact e
      · exact h1 j (by omega)
  · rintro _ _ ⟨R, v4, rfl, rfl, h1⟩
    exact absurd (zAg_stay hCg 12 13 (Or.inr hS) (by omega)) (h1 12 (by omega))
theorem c_La_again {d mi o b9 : Nat} {es : List zEnt} {L st : List zMV} {Q : Option zMV → (Nat → Int → Int) → Prop} {A g : Nat → Bool} (hN : zNet S P mv tg) (hC : zNetC S P mv tg M) (hT : zTabC S P mv tg g M) (hd : 4 + 1 ≤ d) (hc : zcats st ≤ 8) (hpost : ∀ r M', (r = some (zI (zset S (zAg (zCn mv tg P g) A 13))) ∧ ∃ R, M' = zst M 21 R ∧ ∀ s : Nat, s < S → R s = zneg1 (zrd (zCn mv tg P g) (fun _ => true) (fun s => A s && zCn mv tg P g (zAg (zCn mv tg P g) A 13) s) s)) → zW (zSH Ln) d mi es L (r.toList ++ st) M' Q) : zW (zSH Ln) d mi ((.invokevirtual o, 24, b9) :: es) L (zI (zset S A) :: zR 19 :: st) M Q :=
  w_callv (ps := [zI (zset S A)]) (by omega) rfl rfl (by omega) (by exact sh_19 Ln) hc (Nat.le_of_ble_eq_true rfl) (F_La_again hN hC hT (by omega)) hpost
end LA
