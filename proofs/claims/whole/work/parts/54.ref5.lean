/-! the reference: tolls -/
def zPrR (pr : Nat → Nat → Nat → Nat) (M : Nat → Int → Int) : Prop := ∀ s p a : Nat, s < 12 → p < 4 → a < 3 → M 51 (12 * (s : Int) + 3 * (p : Int) + a) = pr s p a
def zt (v : Nat) : Int := if v < 1000000 then (v : Int) else -1
/-- the most of the first n -/
def zmxo : Nat → (Nat → Nat) → Nat
  | 0, _ => 0
  | n + 1, f => max (zmxo n f) (f n)
theorem zmxo_ge : ∀ n f i, i < n → f i ≤ zmxo n f
  | 0, _, i, h => by omega
  | n + 1, f, i, h => by
    unfold zmxo
    by_cases e : i = n
    · subst e; omega
    · have := zmxo_ge n f i (by omega); omega
theorem zmxo_le : ∀ n f b, (∀ i, i < n → f i ≤ b) → zmxo n f ≤ b
  | 0, _, _, _ => Nat.zero_le _
  | n + 1, f, b, h => by
    have := zmxo_le n f b fun i hi => h i (by omega)
    have := h n (by omega)
    unfold zmxo; omega
theorem zmxo_end {S P : Nat} {m t : Nat → Nat} {g : Nat → Bool} {a : Nat} {V : Nat → Nat} (hm : zmOK m) (ht : ∀ j, j < zcnt m zall1 P → t j < S) : zmxo (zcnt m (znot g) P) (fun b => V (t (zcomb m g P a b))) = zmx S (zend m t g P a) V := by
  refine Nat.le_antisymm (zmxo_le _ _ _ fun b hb => zmx_ge S _ V _ (ht _ (zcomb_lt hm g P a b)) ((zan_iff _ _).mpr ⟨b, hb, decide_eq_true rfl⟩)) (zmx_le S _ V _ fun t' ht' he => ?_)
  obtain ⟨b, hb, h⟩ := (zan_iff _ _).mp he
  have := zmxo_ge (zcnt m (znot g) P) (fun b => V (t (zcomb m g P a b))) b hb
  rw [of_decide_eq_true h] at this
  exact this
section RE
variable {Ln S P n : Nat} {mv tg : Nat → Nat → Nat} {lt kd lf rt gp : Nat → Nat} {pr : Nat → Nat → Nat → Nat} {M : Nat → Int → Int} {g : Int} {V : Nat → Nat}
theorem F_Md_sumOf {d : Nat} {s a : Nat} (hN : zNet S P mv tg) (hR : zNetR S P mv tg M) (hQ : zPrR pr M) (hpr : ∀ s p a, pr s p a ≤ 9) (hs : s < 12) (ha : a < 2147483648) (hd : 0 ≤ d) : zF (zSH Ln) d i_Md_sumOf [zR 48, zI (s : Int), zI g, zI (a : Int)] M fun r M' => r = some (zI (zsum (mv s) (pr s) (zbit g) P a : Int)) ∧ M' = M := by
  rw [zF_en k_Md_sumOf_0 (L := [zR 48, zI (s : Int), zI g, zI (a : Int), zU, zU, zU, zU]) rfl]
  have hP4 := hN.2.2.2.1
  have hm := hN.2.2.2.2.1 s
  simp (disch := first | omega | exact Nat.le_of_ble_eq_true rfl | assumption | (simp only [Int.natCast_add, Int.natCast_mul, Int.cast_ofNat_Int]; omega) | decide) only [x_aload, x_getf, w_goto, w_fall, w_iadd, w_iand, w_iconst, w_idiv, w_if, w_icmp, x_iinc, x_iload, w_imul, w_irem, w_ishr, x_istore, w_isub, zadd_eq, zsub_eq, zmul_eq, gf_48_1, gf_48_2, gf_48_4, ia_49, ia_51, w_nret r_Md_sumOf, q_eq, q_ne, q_lt, q_ge, q_gt, q_le, g_I, g_L, g_R, g_V, t_0, t_I, t_R, t_U, t_L, t_s, List.getElem?_cons_zero, List.getElem?_cons_succ, Nat.reduceAdd, zif10, zif01b, zib, if_pos, if_neg, ↓reduceIte, not_true_eq_false, not_false_eq_true, Bool.true_eq_false, Bool.false_eq_true, Classical.not_not, eq_self, and_self, and_true, true_and, Int.reduceEq, Int.reduceLE, Int.reduceLT, Int.reduceNeg, Option.toList, List.cons_append, List.nil_append, zup_s, zup_n, zst_s, zup_zs, zup_zn, decide_true, decide_false, hR.2.1]
  refine zford (N := P) (b := 1) (fun q L0 M0 => ∃ (a' : Nat) (k : Nat) (v : zMV), L0 = [zR 48, zI s, zI g, zI (a : Int), zI (k : Int), zI (a' : Int), zI ((q : Int) - 1), v] ∧ M0 = M ∧ a' < 2147483648 ∧ k ≤ 9 * (P - q) ∧ zsum (mv s) (pr s) (zbit g) P a = k + zsum (mv s) (pr s) (zbit g) q a') ?_ ?_ ?_
  · exact ⟨a, 0, zU, rfl, rfl, ha, by omega, by omega⟩
  · rintro q _ M hq ⟨a', k, v, rfl, rfl, ha', hk, e⟩ ih
    have hmp := hm q
    have hmod := Nat.mod_lt a' (show 0 < mv s q by omega)
    have hms := hR.2.2.1 s q hs (by omega)
    have h9 := hpr s q (a' % mv s q)
    have hq51 := hQ s q (a' % mv s q) hs (by omega) (by omega)
    rw [k_Md_sumOf_1]
    cases hg : zbit g q
    · simp (disch := first | omega | exact Nat.le_of_ble_eq_true rfl | assumption | (simp only [Int.natCast_add, Int.natCast_mul, Int.cast_ofNat_Int]; omega) | decide) only [k_Md_sumOf_2, k_Md_sumOf_4, x_aload, x_getf, w_goto, w_fall, w_iadd, w_iand, w_iconst, w_idiv, w_if, w_icmp, x_iinc, x_iload, w_imul, w_irem, w_ishr, x_istore, w_isub, zadd_eq, zsub_eq, zmul_eq, gf_48_1, gf_48_2, gf_48_4, ia_49, ia_51, w_nret r_Md_sumOf, q_eq, q_ne, q_lt, q_ge, q_gt, q_le, g_I, g_L, g_R, g_V, t_0, t_I, t_R, t_U, t_L, t_s, List.getElem?_cons_zero, List.getElem?_cons_succ, Nat.reduceAdd, zif10, zif01b, zib, if_pos, if_neg, ↓reduceIte, not_true_eq_false, not_false_eq_true, Bool.true_eq_false, Bool.false_eq_true, Classical.not_not, eq_self, and_self, and_true, true_and, Int.reduceEq, Int.reduceLE, Int.reduceLT, Int.reduceNeg, Option.toList, List.cons_append, List.nil_append, zup_s, zup_n, zst_s, zup_zs, zup_zn, decide_true, decide_false, show ((q + 1 : Nat) : Int) - 1 = (q : Int) by omega, zhas, hg]
      simp only [zsum, hg, Bool.false_eq_true, if_false] at e
      exact ih _ _ ⟨a', k, v, rfl, rfl, ha', by omega, e⟩
    · simp only [zsum, hg, if_true] at e
      simp (disch := first | omega | exact Nat.le_of_ble_eq_true rfl | assumption | (simp only [Int.natCast_add, Int.natCast_mul, Int.cast_ofNat_Int]; omega) | decide) only [k_Md_sumOf_2, k_Md_sumOf_3, k_Md_sumOf_4, x_aload, x_getf, w_goto, w_fall, w_iadd, w_iand, w_iconst, w_idiv, w_if, w_icmp, x_iinc, x_iload, w_imul, w_irem, w_ishr, x_istore, w_isub, zadd_eq, zsub_eq, zmul_eq, gf_48_1, gf_48_2, gf_48_4, ia_49, ia_51, w_nret r_Md_sumOf, q_eq, q_ne, q_lt, q_ge, q_gt, q_le, g_I, g_L, g_R, g_V, t_0, t_I, t_R, t_U, t_L, t_s, List.getElem?_cons_zero, List.getElem?_cons_succ, Nat.reduceAdd, zif10, zif01b, zib, if_pos, if_neg, ↓reduceIte, not_true_eq_false, not_false_eq_true, Bool.true_eq_false, Bool.false_eq_true, Classical.not_not, eq_self, and_self, and_true, true_and, Int.reduceEq, Int.reduceLE, Int.reduceLT, Int.reduceNeg, Option.toList, List.cons_append, List.nil_append, zup_s, zup_n, zst_s, zup_zs, zup_zn, decide_true, decide_false, show ((q + 1 : Nat) : Int) - 1 = (q : Int) by omega, zhas, hg, hms, zrem_nat ha' (show 0 < mv s q by omega) (show mv s q < 2147483648 by omega), zdiv_nat ha' (show 0 < mv s q by omega) (show mv s q < 2147483648 by omega), hq51]
      exact ih _ _ ⟨a' / mv s q, k + pr s q (a' % mv s q), _, rfl, rfl, Nat.lt_of_le_of_lt (Nat.div_le_self _ _) ha', by omega, by omega⟩
  · rintro _ M ⟨a', k, v, rfl, rfl, ha', hk, e⟩
    have e2 : zsum (mv s) (pr s) (zbit g) P a = k := by rw [e]; simp [zsum]
    rw [k_Md_sumOf_1]
    simp (disch := first | omega | exact Nat.le_of_ble_eq_true rfl | assumption | (simp only [Int.natCast_add, Int.natCast_mul, Int.cast_ofNat_Int]; omega) | decide) only [k_Md_sumOf_5, x_aload, x_getf, w_goto, w_fall, w_iadd, w_iand, w_iconst, w_idiv, w_if, w_icmp, x_iinc, x_iload, w_imul, w_irem, w_ishr, x_istore, w_isub, zadd_eq, zsub_eq, zmul_eq, gf_48_1, gf_48_2, gf_48_4, ia_49, ia_51, w_nret r_Md_sumOf, q_eq, q_ne, q_lt, q_ge, q_gt, q_le, g_I, g_L, g_R, g_V, t_0, t_I, t_R, t_U, t_L, t_s, List.getElem?_cons_zero, List.getElem?_cons_succ, Nat.reduceAdd, zif10, zif01b, zib, if_pos, if_neg, ↓reduceIte, not_true_eq_false, not_false_eq_true, Bool.true_eq_false, Bool.false_eq_true, Classical.not_not, eq_self, and_self, and_true, true_and, Int.reduceEq, Int.reduceLE, Int.reduceLT, Int.reduceNeg, Option.toList, List.cons_append, List.nil_append, zup_s, zup_n, zst_s, zup_zs, zup_zn, decide_true, decide_false, e2]
theorem c_Md_sumOf {d mi o b9 : Nat} {es : List zEnt} {L st : List zMV} {Q : Option zMV → (Nat → Int → Int) → Prop} {s a : Nat} (hN : zNet S P mv tg) (hR : zNetR S P mv tg M) (hQ : zPrR pr M) (hpr : ∀ s p a, pr s p a ≤ 9) (hs : s < 12) (ha : a < 2147483648) (hd : 0 + 1 ≤ d) (hc : zcats st ≤ 8) : zW (zSH Ln) d mi ((.invokevirtual o, 212, b9) :: es) L (zI (a : Int) :: zI g :: zI (s : Int) :: zR 48 :: st) M Q = zW (zSH Ln) d mi es L (zI (zsum (mv s) (pr s) (zbit g) P a : Int) :: st) (M) Q :=
  c_virt (ps := [zI (s : Int), zI g, zI (a : Int)]) (by omega) rfl rfl (by omega) (by exact sh_48 Ln) hc (Nat.le_of_ble_eq_true rfl) (F_Md_sumOf hN hR hQ hpr hs ha (by omega))
theorem F_Md_tollBy {d : Nat} {s a : Nat} (hN : zNet S P mv tg) (hR : zNetR S P mv tg M) (hQ : zPrR pr M) (hpr : ∀ s p a, pr s p a ≤ 9) (hg : M 59 0 = g) (hV : ∀ t : Nat, t < S → M 69 (t : Int) = zt (V t)) (hb : ∀ t, t < S → V t < 1000000 → V t ≤ 1000) (hs : s < S) (ha : a < 2147483648) (hd : 2 ≤ d) : zF (zSH Ln) d i_Md_tollBy [zR 48, zI (s : Int), zI (a : Int)] M fun r M' => r = some (zI (zt (zsum (mv s) (pr s) (zbit g) P a + zmx S (zend (mv s) (tg s) (zbit g) P a) V))) ∧ M' = M := by
  rw [zF_en k_Md_tollBy_0 (L := [zR 48, zI (s : Int), zI (a : Int), zU, zU, zU, zU, zU]) rfl]
  have hS := hN.2.1
  have hP4 := hN.2.2.2.1
  have hm := hN.2.2.2.2.1 s
  have h81' := zcnt_81 hm (znot (zbit g)) hP4
  have hsum := zsum_le (m := mv s) (hpr s) (zbit g) P a
  have htt : ∀ b, tg s (zcomb (mv s) (zbit g) P a b) < S := fun b => zNet_t hN hs _ (zcomb_lt hm (zbit g) P a b)
  rw [← zmxo_end hm (zNet_t hN hs)]
  generalize hf : (fun b => V (tg s (zcomb (mv s) (zbit g) P a b))) = f
  have hfb : ∀ b, f b < 1000000 → f b ≤ 1000 := fun b h => by rw [← hf] at h ⊢; exact hb _ (htt b) h
  have hfM : ∀ b, M 69 (tg s (zcomb (mv s) (zbit g) P a b) : Int) = zt (f b) := fun b => by rw [hV _ (htt b), ← hf]
  have bad : ∀ (b : Nat) (v7 v6 : zMV), b < zcnt (mv s) (znot (zbit g)) P → 1000000 ≤ f b → zW (zSH Ln) d i_Md_tollBy (zblk i_Md_tollBy 9) [zR 48, zI s, zI (a : Int), zI g, zI (zcnt (mv s) (znot (zbit g)) P : Int), zI (-1), v6, v7] [] M fun r M' => r = some (zI (zt (zsum (mv s) (pr s) (zbit g) P a + zmxo (zcnt (mv s) (znot (zbit g)) P) f))) ∧ M' = M := by
    intro b v7 v6 hb2 hf2
    have h1 := zmxo_ge _ f b hb2
    rw [k_Md_tollBy_9]
    simp (disch := first | omega | exact Nat.le_of_ble_eq_true rfl | assumption | (simp only [Int.natCast_add, Int.natCast_mul, Int.cast_ofNat_Int]; omega) | decide) only [k_Md_tollBy_10, k_Md_tollBy_12, x_aload, x_getf, w_goto, w_fall, w_iadd, w_iconst, w_if, w_icmp, x_iinc, x_iload, x_istore, zadd_eq, gf_48_14, gf_48_29, ia_59, ia_69, w_nret r_Md_tollBy, q_eq, q_ne, q_lt, q_ge, q_gt, q_le, g_I, g_L, g_R, g_V, t_0, t_I, t_R, t_U, t_L, t_s, List.getElem?_cons_zero, List.getElem?_cons_succ, Nat.reduceAdd, zif10, zif01b, zib, if_pos, if_neg, ↓reduceIte, not_true_eq_false, not_false_eq_true, Bool.true_eq_false, Bool.false_eq_true, Classical.not_not, eq_self, and_self, and_true, true_and, Int.reduceEq, Int.reduceLE, Int.reduceLT, Int.reduceNeg, Option.toList, List.cons_append, List.nil_append, zup_s, zup_n, zst_s, zup_zs, zup_zn, decide_true, decide_false]
    rw [zt, if_neg (by omega)]
  simp (disch := first | omega | exact Nat.le_of_ble_eq_true rfl | assumption | (simp only [Int.natCast_add, Int.natCast_mul, Int.cast_ofNat_Int]; omega) | decide) only [x_aload, x_getf, w_goto, w_fall, w_iadd, w_iconst, w_if, w_icmp, x_iinc, x_iload, x_istore, zadd_eq, gf_48_14, gf_48_29, ia_59, ia_69, w_nret r_Md_tollBy, q_eq, q_ne, q_lt, q_ge, q_gt, q_le, g_I, g_L, g_R, g_V, t_0, t_I, t_R, t_U, t_L, t_s, List.getElem?_cons_zero, List.getElem?_cons_succ, Nat.reduceAdd, zif10, zif01b, zib, if_pos, if_neg, ↓reduceIte, not_true_eq_false, not_false_eq_true, Bool.true_eq_false, Bool.false_eq_true, Classical.not_not, eq_self, and_self, and_true, true_and, Int.reduceEq, Int.reduceLE, Int.reduceLT, Int.reduceNeg, Option.toList, List.cons_append, List.nil_append, zup_s, zup_n, zst_s, zup_zs, zup_zn, decide_true, decide_false, hg, c_Md_others hN hR, c_Md_jointOf hN hR, zoth hP4]
  refine zfor (a := 0) (N := (zcnt (mv s) (znot (zbit g)) P)) (b := 1) (fun b L0 M0 => ∃ (v7 : zMV), L0 = [zR 48, zI s, zI (a : Int), zI g, zI (zcnt (mv s) (znot (zbit g)) P : Int), zI (zmxo b f : Int), zI (b : Int), v7] ∧ M0 = M ∧ ∀ i, i < b → f i < 1000000) ?_ ?_ ?_ ?_
  · exact Nat.zero_le _
  · exact ⟨zU, rfl, rfl, fun i hi => by omega⟩
  · rintro b _ M _ hb2 ⟨v7, rfl, rfl, hall⟩ ih
    have hmb := zmxo_le b f 1000 fun i hi => hfb i (hall i hi)
    have h69 := hfM b
    have hts := htt b
    rw [k_Md_tollBy_1]
    by_cases h1 : f b < 1000000
    · rw [zt, if_pos h1] at h69
      have h1k := hfb b h1
      have hnx : ∀ i, i < b + 1 → f i < 1000000 := fun i hi => by
        by_cases e : i = b
        · subst e; exact h1
        · exact hall i (by omega)
      by_cases h2 : f b ≤ zmxo b f
      · simp (disch := first | omega | exact Nat.le_of_ble_eq_true rfl | assumption | (simp only [Int.natCast_add, Int.natCast_mul, Int.cast_ofNat_Int]; omega) | decide) only [k_Md_tollBy_2, k_Md_tollBy_3, k_Md_tollBy_5, k_Md_tollBy_7, k_Md_tollBy_8, x_aload, x_getf, w_goto, w_fall, w_iadd, w_iconst, w_if, w_icmp, x_iinc, x_iload, x_istore, zadd_eq, gf_48_14, gf_48_29, ia_59, ia_69, w_nret r_Md_tollBy, q_eq, q_ne, q_lt, q_ge, q_gt, q_le, g_I, g_L, g_R, g_V, t_0, t_I, t_R, t_U, t_L, t_s, List.getElem?_cons_zero, List.getElem?_cons_succ, Nat.reduceAdd, zif10, zif01b, zib, if_pos, if_neg, ↓reduceIte, not_true_eq_false, not_false_eq_true, Bool.true_eq_false, Bool.false_eq_true, Classical.not_not, eq_self, and_self, and_true, true_and, Int.reduceEq, Int.reduceLE, Int.reduceLT, Int.reduceNeg, Option.toList, List.cons_append, List.nil_append, zup_s, zup_n, zst_s, zup_zs, zup_zn, decide_true, decide_false, c_Md_leadsBy hN hR, h69]
        refine ih _ _ ⟨zI (f b : Int), ?_, rfl, hnx⟩
        rw [show zmxo (b + 1) f = zmxo b f by show max (zmxo b f) (f b) = _; omega]; rfl
      · simp (disch := first | omega | exact Nat.le_of_ble_eq_true rfl | assumption | (simp only [Int.natCast_add, Int.natCast_mul, Int.cast_ofNat_Int]; omega) | decide) only [k_Md_tollBy_2, k_Md_tollBy_3, k_Md_tollBy_5, k_Md_tollBy_6, k_Md_tollBy_8, x_aload, x_getf, w_goto, w_fall, w_iadd, w_iconst, w_if, w_icmp, x_iinc, x_iload, x_istore, zadd_eq, gf_48_14, gf_48_29, ia_59, ia_69, w_nret r_Md_tollBy, q_eq, q_ne, q_lt, q_ge, q_gt, q_le, g_I, g_L, g_R, g_V, t_0, t_I, t_R, t_U, t_L, t_s, List.getElem?_cons_zero, List.getElem?_cons_succ, Nat.reduceAdd, zif10, zif01b, zib, if_pos, if_neg, ↓reduceIte, not_true_eq_false, not_false_eq_true, Bool.true_eq_false, Bool.false_eq_true, Classical.not_not, eq_self, and_self, and_true, true_and, Int.reduceEq, Int.reduceLE, Int.reduceLT, Int.reduceNeg, Option.toList, List.cons_append, List.nil_append, zup_s, zup_n, zst_s, zup_zs, zup_zn, decide_true, decide_false, c_Md_leadsBy hN hR, h69]
        refine ih _ _ ⟨zI (f b : Int), ?_, rfl, hnx⟩
        rw [show zmxo (b + 1) f = f b by show max (zmxo b f) (f b) = _; omega]; rfl
    · rw [zt, if_neg h1] at h69
      simp (disch := first | omega | exact Nat.le_of_ble_eq_true rfl | assumption | (simp only [Int.natCast_add, Int.natCast_mul, Int.cast_ofNat_Int]; omega) | decide) only [k_Md_tollBy_2, k_Md_tollBy_3, k_Md_tollBy_4, k_Md_tollBy_8, x_aload, x_getf, w_goto, w_fall, w_iadd, w_iconst, w_if, w_icmp, x_iinc, x_iload, x_istore, zadd_eq, gf_48_14, gf_48_29, ia_59, ia_69, w_nret r_Md_tollBy, q_eq, q_ne, q_lt, q_ge, q_gt, q_le, g_I, g_L, g_R, g_V, t_0, t_I, t_R, t_U, t_L, t_s, List.getElem?_cons_zero, List.getElem?_cons_succ, Nat.reduceAdd, zif10, zif01b, zib, if_pos, if_neg, ↓reduceIte, not_true_eq_false, not_false_eq_true, Bool.true_eq_false, Bool.false_eq_true, Classical.not_not, eq_self, and_self, and_true, true_and, Int.reduceEq, Int.reduceLE, Int.reduceLT, Int.reduceNeg, Option.toList, List.cons_append, List.nil_append, zup_s, zup_n, zst_s, zup_zs, zup_zn, decide_true, decide_false, c_Md_leadsBy hN hR, h69]
      rw [k_Md_tollBy_1]
      by_cases h3 : b + 1 < zcnt (mv s) (znot (zbit g)) P
      · simp (disch := first | omega | exact Nat.le_of_ble_eq_true rfl | assumption | (simp only [Int.natCast_add, Int.natCast_mul, Int.cast_ofNat_Int]; omega) | decide) only [k_Md_tollBy_2, x_aload, x_getf, w_goto, w_fall, w_iadd, w_iconst, w_if, w_icmp, x_iinc, x_iload, x_istore, zadd_eq, gf_48_14, gf_48_29, ia_59, ia_69, w_nret r_Md_tollBy, q_eq, q_ne, q_lt, q_ge, q_gt, q_le, g_I, g_L, g_R, g_V, t_0, t_I, t_R, t_U, t_L, t_s, List.getElem?_cons_zero, List.getElem?_cons_succ, Nat.reduceAdd, zif10, zif01b, zib, if_pos, if_neg, ↓reduceIte, not_true_eq_false, not_false_eq_true, Bool.true_eq_false, Bool.false_eq_true, Classical.not_not, eq_self, and_self, and_true, true_and, Int.reduceEq, Int.reduceLE, Int.reduceLT, Int.reduceNeg, Option.toList, List.cons_append, List.nil_append, zup_s, zup_n, zst_s, zup_zs, zup_zn, decide_true, decide_false]
        exact bad b _ _ hb2 (by omega)
      · simp (disch := first | omega | exact Nat.le_of_ble_eq_true rfl | assumption | (simp only [Int.natCast_add, Int.natCast_mul, Int.cast_ofNat_Int]; omega) | decide) only [x_aload, x_getf, w_goto, w_fall, w_iadd, w_iconst, w_if, w_icmp, x_iinc, x_iload, x_istore, zadd_eq, gf_48_14, gf_48_29, ia_59, ia_69, w_nret r_Md_tollBy, q_eq, q_ne, q_lt, q_ge, q_gt, q_le, g_I, g_L, g_R, g_V, t_0, t_I, t_R, t_U, t_L, t_s, List.getElem?_cons_zero, List.getElem?_cons_succ, Nat.reduceAdd, zif10, zif01b, zib, if_pos, if_neg, ↓reduceIte, not_true_eq_false, not_false_eq_true, Bool.true_eq_false, Bool.false_eq_true, Classical.not_not, eq_self, and_self, and_true, true_and, Int.reduceEq, Int.reduceLE, Int.reduceLT, Int.reduceNeg, Option.toList, List.cons_append, List.nil_append, zup_s, zup_n, zst_s, zup_zs, zup_zn, decide_true, decide_false]
        exact bad b _ _ hb2 (by omega)
  · rintro _ M ⟨v7, rfl, rfl, hall⟩
    have hmb := zmxo_le (zcnt (mv s) (znot (zbit g)) P) f 1000 fun i hi => hfb i (hall i hi)
    rw [k_Md_tollBy_1]
    simp (disch := first | omega | exact Nat.le_of_ble_eq_true rfl | assumption | (simp only [Int.natCast_add, Int.natCast_mul, Int.cast_ofNat_Int]; omega) | decide) only [k_Md_tollBy_9, k_Md_tollBy_11, k_Md_tollBy_12, x_aload, x_getf, w_goto, w_fall, w_iadd, w_iconst, w_if, w_icmp, x_iinc, x_iload, x_istore, zadd_eq, gf_48_14, gf_48_29, ia_59, ia_69, w_nret r_Md_tollBy, q_eq, q_ne, q_lt, q_ge, q_gt, q_le, g_I, g_L, g_R, g_V, t_0, t_I, t_R, t_U, t_L, t_s, List.getElem?_cons_zero, List.getElem?_cons_succ, Nat.reduceAdd, zif10, zif01b, zib, if_pos, if_neg, ↓reduceIte, not_true_eq_false, not_false_eq_true, Bool.true_eq_false, Bool.false_eq_true, Classical.not_not, eq_self, and_self, and_true, true_and, Int.reduceEq, Int.reduceLE, Int.reduceLT, Int.reduceNeg, Option.toList, List.cons_append, List.nil_append, zup_s, zup_n, zst_s, zup_zs, zup_zn, decide_true, decide_false, c_Md_sumOf hN hR hQ hpr]
    rw [zt, if_pos (by omega)]
    simp
    omega
theorem c_Md_tollBy {d mi o b9 : Nat} {es : List zEnt} {L st : List zMV} {Q : Option zMV → (Nat → Int → Int) → Prop} {s a : Nat} (hN : zNet S P mv tg) (hR : zNetR S P mv tg M) (hQ : zPrR pr M) (hpr : ∀ s p a, pr s p a ≤ 9) (hg : M 59 0 = g) (hV : ∀ t : Nat, t < S → M 69 (t : Int) = zt (V t)) (hb : ∀ t, t < S → V t < 1000000 → V t ≤ 1000) (hs : s < S) (ha : a < 2147483648) (hd : 2 + 1 ≤ d) (hc : zcats st ≤ 8) : zW (zSH Ln) d mi ((.invokevirtual o, 213, b9) :: es) L (zI (a : Int) :: zI (s : Int) :: zR 48 :: st) M Q = zW (zSH Ln) d mi es L (zI (zt (zsum (mv s) (pr s) (zbit g) P a + zmx S (zend (mv s) (tg s) (zbit g) P a) V)) :: st) (M) Q :=
  c_virt (ps := [zI (s : Int), zI (a : Int)]) (by omega) rfl rfl (by omega) (by exact sh_48 Ln) hc (Nat.le_of_ble_eq_true rfl) (F_Md_tollBy hN hR hQ hpr hg hV hb hs ha (by omega))
end RE
