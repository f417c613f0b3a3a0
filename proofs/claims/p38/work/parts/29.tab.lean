/-! the table of a group: shares, ends -/
/-- a group's joint move a may lead to t' -/
def zend (m : Nat → Nat) (t : Nat → Nat) (g : Nat → Bool) (P a t' : Nat) : Bool := zan (zcnt m (znot g) P) fun b => decide (t (zcomb m g P a b) = t')
theorem zinto_end {m t : Nat → Nat} {g : Nat → Bool} {P S : Nat} {X : Nat → Bool} {a : Nat} (ht : ∀ j, j < zcnt m zall1 P → t j < S) (hm : zmOK m) : zinto m t g P X a = true ↔ ∀ t', t' < S → zend m t g P a t' = true → X t' = true := by
  unfold zinto zend
  rw [zfa_iff]
  constructor
  · intro h t' _ h2
    rw [zan_iff] at h2
    obtain ⟨b, h3, h4⟩ := h2
    have := h b h3
    rw [of_decide_eq_true h4] at this
    exact this
  · intro h b hb
    exact h _ (ht _ (zcomb_lt hm g P a b)) ((zan_iff _ _).mpr ⟨b, hb, decide_eq_true rfl⟩)
/-- by the joint moves of all -/
theorem zend_all {m t : Nat → Nat} {g : Nat → Bool} {P a t' : Nat} (hm : zmOK m) (ha : a < zcnt m g P) : zend m t g P a t' = zan (zcnt m zall1 P) fun j => decide (zshare m g P j = a) && decide (t j = t') := by
  rw [Bool.eq_iff_iff]
  unfold zend
  rw [zan_iff, zan_iff]
  constructor
  · rintro ⟨b, h1, h2⟩
    refine ⟨zcomb m g P a b, zcomb_lt hm g P a b, ?_⟩
    rw [(zshare_comb hm g P a b ha h1).1]
    simpa using h2
  · rintro ⟨j, h1, h2⟩
    simp only [Bool.and_eq_true, decide_eq_true_eq] at h2
    have h3 := zcomb_share hm (znot g) P j h1
    have h4 := zcomb_share hm g P j h1
    refine ⟨zshare m (znot g) P j, h3.1, ?_⟩
    rw [← h2.1, h4.2]
    simpa using h2.2
/-- the table stands for a group -/
def zTabC (S P : Nat) (mv tg : Nat → Nat → Nat) (g : Nat → Bool) (M : Nat → Int → Int) : Prop := (∀ s : Nat, s < S → M 17 (s : Int) = zcnt (mv s) g P) ∧ ∀ s a : Nat, s < S → a < zcnt (mv s) g P → M 16 ((s : Int) * 81 + a) = zset S (zend (mv s) (tg s) g P a)
/-- a digit more -/
theorem zshare_up {m : Nat → Nat} {g : Nat → Bool} {p j k : Nat} (hk : k < m p) : zshare m g (p + 1) (j * m p + k) = if g p = true then zshare m g p j * m p + k else zshare m g p j := by
  have := zdm (c := j) hk
  simp only [zshare, this.1, this.2]
section TB
variable {Ln S P : Nat} {mv tg : Nat → Nat → Nat} {M : Nat → Int → Int}
theorem F_Ta_share {d : Nat} {s : Nat} {g : Int} (hN : zNet S P mv tg) (hC : zNetC S P mv tg M) (hs : s < 12) (hg : M 15 4 = g) (hd : 2 ≤ d) : zF (zSH Ln) d i_Ta_share [zR 15, zI (s : Int)] M fun r M' => r = some (zI (zcnt (mv s) zall1 P : Int)) ∧ ∃ F, M' = zst M 18 F ∧ ∀ j : Nat, j < zcnt (mv s) zall1 P → F (j : Int) = zshare (mv s) (zbit g) P j := by
  rw [zF_en k_Ta_share_0 (L := [zR 15, zI (s : Int), zU, zU, zU, zU, zU, zU]) rfl]
  have hP4 := hN.2.2.2.1
  have hm := hN.2.2.2.2.1 s
  simp (disch := first | omega | exact Nat.le_of_ble_eq_true rfl | assumption | (simp only [Int.natCast_add, Int.natCast_mul, Int.cast_ofNat_Int]; omega) | decide) only [x_aload, x_getf, w_goto, w_fall, w_iadd, w_iconst, w_if, w_icmp, x_iinc, x_iload, w_imul, x_istore, w_isub, zadd_eq, zsub_eq, zmul_eq, gf_3_1, gf_15_0, gf_15_3, gf_15_4, at_18, ao_18, pu_18, w_nret r_Ta_share, q_eq, q_ne, q_lt, q_ge, q_gt, q_le, g_I, g_L, g_R, g_V, t_0, t_I, t_R, t_U, t_L, t_s, List.getElem?_cons_zero, List.getElem?_cons_succ, Nat.reduceAdd, zif10, zif01b, zib, if_pos, if_neg, reduceIte, not_true_eq_false, not_false_eq_true, Bool.true_eq_false, Bool.false_eq_true, Classical.not_not, eq_self, and_self, and_true, true_and, Int.reduceEq, Int.reduceLE, Int.reduceLT, Int.reduceNeg, Option.toList, List.cons_append, List.nil_append, zup_s, zup_n, zst_s, zup_zs, zup_zn, decide_true, decide_false]
  refine zfor (a := 0) (N := P) (b := 1) (fun p L0 M0 => ∃ F v4 v5 v6 v7, L0 = [zR 15, zI s, zI (zcnt (mv s) zall1 p : Int), zI (p : Int), v4, v5, v6, v7] ∧ M0 = zst M 18 F ∧ ∀ j : Nat, j < zcnt (mv s) zall1 p → F (j : Int) = zshare (mv s) (zbit g) p j) ?_ ?_ ?_ ?_
  · exact Nat.zero_le _
  · refine ⟨zf (M 18) 0 0, zU, zU, zU, zU, rfl, by rw [zup_st], fun j hj => ?_⟩
    simp only [zcnt] at hj
    have : j = 0 := by omega
    subst this
    simp [zf, zshare]
  · rintro p _ _ _ hp ⟨F, v4, v5, v6, v7, rfl, rfl, hF⟩ ih
    have hmp := hm p
    have hpos := zcnt_pos hm zall1 p
    have h81 := zcnt_81 hm zall1 (show p + 1 ≤ 4 by omega)
    have hsu : zcnt (mv s) zall1 (p + 1) = zcnt (mv s) zall1 p * mv s p := by simp [zcnt, zall1]
    rw [hsu] at h81
    generalize hall : zcnt (mv s) zall1 p = A at *
    generalize hmm : mv s p = mm at *
    have h81A : A ≤ 81 := Nat.le_trans (Nat.le_mul_of_pos_right _ hmp.1) h81
    have hC1 : ∀ F, zNetC S P mv tg (zst M 18 F) := fun _ => hC
    rw [k_Ta_share_1]
    simp (disch := first | omega | exact Nat.le_of_ble_eq_true rfl | assumption | (simp only [Int.natCast_add, Int.natCast_mul, Int.cast_ofNat_Int]; omega) | decide) only [k_Ta_share_2, x_aload, x_getf, w_goto, w_fall, w_iadd, w_iconst, w_if, w_icmp, x_iinc, x_iload, w_imul, x_istore, w_isub, zadd_eq, zsub_eq, zmul_eq, gf_3_1, gf_15_0, gf_15_3, gf_15_4, at_18, ao_18, pu_18, w_nret r_Ta_share, q_eq, q_ne, q_lt, q_ge, q_gt, q_le, g_I, g_L, g_R, g_V, t_0, t_I, t_R, t_U, t_L, t_s, List.getElem?_cons_zero, List.getElem?_cons_succ, Nat.reduceAdd, zif10, zif01b, zib, if_pos, if_neg, reduceIte, not_true_eq_false, not_false_eq_true, Bool.true_eq_false, Bool.false_eq_true, Classical.not_not, eq_self, and_self, and_true, true_and, Int.reduceEq, Int.reduceLE, Int.reduceLT, Int.reduceNeg, Option.toList, List.cons_append, List.nil_append, zup_s, zup_n, zst_s, zup_zs, zup_zn, decide_true, decide_false, hC.2.1, zst_n, c_Ne_movesOf (hC1 _), hmm]
    refine zford (N := A) (b := 3) (fun q L0 M0 => ∃ G w6 w7, L0 = [zR 15, zI s, zI (A : Int), zI (p : Int), zI (mm : Int), zI ((q : Int) - 1), w6, w7] ∧ M0 = zst M 18 G ∧ (∀ j : Nat, j < q → G (j : Int) = zshare (mv s) (zbit g) p j) ∧ (∀ j k : Nat, q ≤ j → j < A → k < mm → G ((j * mm + k : Nat) : Int) = zshare (mv s) (zbit g) (p + 1) (j * mm + k))) ?_ ?_ ?_
    · exact ⟨F, v6, v7, rfl, rfl, hF, fun j k h1 h2 => by omega⟩
    · rintro q _ _ hq ⟨G, w6, w7, rfl, rfl, hG1, hG2⟩ ih2
      have hqm : q * mm + mm ≤ A * mm := by
        have := Nat.mul_le_mul_right mm (show q + 1 ≤ A by omega)
        rw [Nat.add_mul, Nat.one_mul] at this
        exact this
      have hqq : q ≤ q * mm := Nat.le_mul_of_pos_right _ hmp.1
      have hle : ∀ a b : Nat, a < b → a * mm + mm ≤ b * mm := fun a b h => by
        have := Nat.mul_le_mul_right mm (show a + 1 ≤ b by omega)
        rw [Nat.add_mul, Nat.one_mul] at this
        exact this
      have hcmb : zshare (mv s) (zbit g) p q * mm ≤ 243 ∧ zshare (mv s) (zbit g) p q ≤ 81 := by
        have h1 := (zcomb_share hm (zbit g) p q (by omega)).1
        have h2 := zcnt_81 hm (zbit g) (show p ≤ 4 by omega)
        have h3 : zshare (mv s) (zbit g) p q * mm ≤ 81 * 3 := Nat.mul_le_mul (by omega) hmp.2
        omega
      rw [k_Ta_share_3]
      simp (disch := first | omega | exact Nat.le_of_ble_eq_true rfl | assumption | (simp only [Int.natCast_add, Int.natCast_mul, Int.cast_ofNat_Int]; omega) | decide) only [k_Ta_share_4, x_aload, x_getf, w_goto, w_fall, w_iadd, w_iconst, w_if, w_icmp, x_iinc, x_iload, w_imul, x_istore, w_isub, zadd_eq, zsub_eq, zmul_eq, gf_3_1, gf_15_0, gf_15_3, gf_15_4, at_18, ao_18, pu_18, w_nret r_Ta_share, q_eq, q_ne, q_lt, q_ge, q_gt, q_le, g_I, g_L, g_R, g_V, t_0, t_I, t_R, t_U, t_L, t_s, List.getElem?_cons_zero, List.getElem?_cons_succ, Nat.reduceAdd, zif10, zif01b, zib, if_pos, if_neg, reduceIte, not_true_eq_false, not_false_eq_true, Bool.true_eq_false, Bool.false_eq_true, Classical.not_not, eq_self, and_self, and_true, true_and, Int.reduceEq, Int.reduceLE, Int.reduceLT, Int.reduceNeg, Option.toList, List.cons_append, List.nil_append, zup_s, zup_n, zst_s, zup_zs, zup_zn, decide_true, decide_false, hG1 q (by omega), zst_s, show ((q + 1 : Nat) : Int) - 1 = (q : Int) by omega]
      refine zfor (a := 0) (N := mm) (b := 5) (fun k L0 M0 => ∃ H, L0 = [zR 15, zI s, zI (A : Int), zI (p : Int), zI (mm : Int), zI (q : Int), zI (zshare (mv s) (zbit g) p q : Int), zI (k : Int)] ∧ M0 = zst M 18 H ∧ (∀ j : Nat, j < q → H (j : Int) = zshare (mv s) (zbit g) p j) ∧ (∀ j k : Nat, q + 1 ≤ j → j < A → k < mm → H ((j * mm + k : Nat) : Int) = zshare (mv s) (zbit g) (p + 1) (j * mm + k)) ∧ (∀ k' : Nat, k' < k → H ((q * mm + k' : Nat) : Int) = zshare (mv s) (zbit g) (p + 1) (q * mm + k'))) ?_ ?_ ?_ ?_
      · exact Nat.zero_le _
      · exact ⟨G, rfl, rfl, fun j hj => hG1 j (by omega), hG2, fun k hk => by omega⟩
      · rintro k _ _ _ hk ⟨H, rfl, rfl, hH1, hH2, hH3⟩ ih3
        have hz := zshare_up (m := mv s) (g := zbit g) (p := p) (j := q) (k := k) (by omega)
        rw [hmm] at hz
        have fin : ∀ i v : Int, i = ((q * mm + k : Nat) : Int) → v = (zshare (mv s) (zbit g) (p + 1) (q * mm + k) : Nat) → (∀ j : Nat, j < q → zf H i v (j : Int) = zshare (mv s) (zbit g) p j) ∧ (∀ j k : Nat, q + 1 ≤ j → j < A → k < mm → zf H i v ((j * mm + k : Nat) : Int) = zshare (mv s) (zbit g) (p + 1) (j * mm + k)) ∧ (∀ k' : Nat, k' < k + 1 → zf H i v ((q * mm + k' : Nat) : Int) = zshare (mv s) (zbit g) (p + 1) (q * mm + k')) := by
          intro i v hi hv
          subst hi
          refine ⟨fun j hj => ?_, fun j k2 h1 h2 h3 => ?_, fun k' hk' => ?_⟩
          · rw [zf_n (by omega)]; exact hH1 j hj
          · have := hle q j (by omega)
            rw [zf_n (by omega)]; exact hH2 j k2 h1 h2 h3
          · by_cases e : k' = k
            · subst e; rw [zf_s, hv]
            · rw [zf_n (by omega)]; exact hH3 k' (by omega)
        rw [k_Ta_share_5]
        cases hb : zbit g p
        · simp (disch := first | omega | exact Nat.le_of_ble_eq_true rfl | assumption | (simp only [Int.natCast_add, Int.natCast_mul, Int.cast_ofNat_Int]; omega) | decide) only [k_Ta_share_6, k_Ta_share_8, k_Ta_share_9, x_aload, x_getf, w_goto, w_fall, w_iadd, w_iconst, w_if, w_icmp, x_iinc, x_iload, w_imul, x_istore, w_isub, zadd_eq, zsub_eq, zmul_eq, gf_3_1, gf_15_0, gf_15_3, gf_15_4, at_18, ao_18, pu_18, w_nret r_Ta_share, q_eq, q_ne, q_lt, q_ge, q_gt, q_le, g_I, g_L, g_R, g_V, t_0, t_I, t_R, t_U, t_L, t_s, List.getElem?_cons_zero, List.getElem?_cons_succ, Nat.reduceAdd, zif10, zif01b, zib, if_pos, if_neg, reduceIte, not_true_eq_false, not_false_eq_true, Bool.true_eq_false, Bool.false_eq_true, Classical.not_not, eq_self, and_self, and_true, true_and, Int.reduceEq, Int.reduceLE, Int.reduceLT, Int.reduceNeg, Option.toList, List.cons_append, List.nil_append, zup_s, zup_n, zst_s, zup_zs, zup_zn, decide_true, decide_false, hg, zst_n, zst_s, c_has, hb, zmul_nat (show q * mm < 2147483648 by omega)]
          refine ih3 _ _ ⟨_, rfl, rfl, ?_⟩
          exact fin _ _ (by simp) (by rw [hz, if_neg (by rw [hb]; decide)])
        · simp (disch := first | omega | exact Nat.le_of_ble_eq_true rfl | assumption | (simp only [Int.natCast_add, Int.natCast_mul, Int.cast_ofNat_Int]; omega) | decide) only [k_Ta_share_6, k_Ta_share_7, k_Ta_share_9, x_aload, x_getf, w_goto, w_fall, w_iadd, w_iconst, w_if, w_icmp, x_iinc, x_iload, w_imul, x_istore, w_isub, zadd_eq, zsub_eq, zmul_eq, gf_3_1, gf_15_0, gf_15_3, gf_15_4, at_18, ao_18, pu_18, w_nret r_Ta_share, q_eq, q_ne, q_lt, q_ge, q_gt, q_le, g_I, g_L, g_R, g_V, t_0, t_I, t_R, t_U, t_L, t_s, List.getElem?_cons_zero, List.getElem?_cons_succ, Nat.reduceAdd, zif10, zif01b, zib, if_pos, if_neg, reduceIte, not_true_eq_false, not_false_eq_true, Bool.true_eq_false, Bool.false_eq_true, Classical.not_not, eq_self, and_self, and_true, true_and, Int.reduceEq, Int.reduceLE, Int.reduceLT, Int.reduceNeg, Option.toList, List.cons_append, List.nil_append, zup_s, zup_n, zst_s, zup_zs, zup_zn, decide_true, decide_false, hg, zst_n, zst_s, c_has, hb, zmul_nat (show q * mm < 2147483648 by omega), zmul_nat (show zshare (mv s) (zbit g) p q * mm < 2147483648 by omega)]
          refine ih3 _ _ ⟨_, rfl, rfl, ?_⟩
          exact fin _ _ (by simp) (by rw [hz, if_pos hb]; simp)
      · rintro _ _ ⟨H, rfl, rfl, hH1, hH2, hH3⟩
        rw [k_Ta_share_5]
        simp (disch := first | omega | exact Nat.le_of_ble_eq_true rfl | assumption | (simp only [Int.natCast_add, Int.natCast_mul, Int.cast_ofNat_Int]; omega) | decide) only [k_Ta_share_10, x_aload, x_getf, w_goto, w_fall, w_iadd, w_iconst, w_if, w_icmp, x_iinc, x_iload, w_imul, x_istore, w_isub, zadd_eq, zsub_eq, zmul_eq, gf_3_1, gf_15_0, gf_15_3, gf_15_4, at_18, ao_18, pu_18, w_nret r_Ta_share, q_eq, q_ne, q_lt, q_ge, q_gt, q_le, g_I, g_L, g_R, g_V, t_0, t_I, t_R, t_U, t_L, t_s, List.getElem?_cons_zero, List.getElem?_cons_succ, Nat.reduceAdd, zif10, zif01b, zib, if_pos, if_neg, reduceIte, not_true_eq_false, not_false_eq_true, Bool.true_eq_false, Bool.false_eq_true, Classical.not_not, eq_self, and_self, and_true, true_and, Int.reduceEq, Int.reduceLE, Int.reduceLT, Int.reduceNeg, Option.toList, List.cons_append, List.nil_append, zup_s, zup_n, zst_s, zup_zs, zup_zn, decide_true, decide_false]
        refine ih2 _ _ ⟨H, _, _, rfl, rfl, hH1, fun j k h1 h2 h3 => ?_⟩
        by_cases e : j = q
        · subst e; exact hH3 k h3
        · exact hH2 j k (by omega) h2 h3
    · rintro _ _ ⟨G, w6, w7, rfl, rfl, hG1, hG2⟩
      rw [k_Ta_share_3]
      simp (disch := first | omega | exact Nat.le_of_ble_eq_true rfl | assumption | (simp only [Int.natCast_add, Int.natCast_mul, Int.cast_ofNat_Int]; omega) | decide) only [k_Ta_share_11, x_aload, x_getf, w_goto, w_fall, w_iadd, w_iconst, w_if, w_icmp, x_iinc, x_iload, w_imul, x_istore, w_isub, zadd_eq, zsub_eq, zmul_eq, gf_3_1, gf_15_0, gf_15_3, gf_15_4, at_18, ao_18, pu_18, w_nret r_Ta_share, q_eq, q_ne, q_lt, q_ge, q_gt, q_le, g_I, g_L, g_R, g_V, t_0, t_I, t_R, t_U, t_L, t_s, List.getElem?_cons_zero, List.getElem?_cons_succ, Nat.reduceAdd, zif10, zif01b, zib, if_pos, if_neg, reduceIte, not_true_eq_false, not_false_eq_true, Bool.true_eq_false, Bool.false_eq_true, Classical.not_not, eq_self, and_self, and_true, true_and, Int.reduceEq, Int.reduceLE, Int.reduceLT, Int.reduceNeg, Option.toList, List.cons_append, List.nil_append, zup_s, zup_n, zst_s, zup_zs, zup_zn, decide_true, decide_false, zmul_nat (show A * mm < 2147483648 by omega)]
      have e : (A : Int) * mm = ((zcnt (mv s) zall1 (p + 1) : Nat) : Int) := by rw [hsu]; simp
      rw [e]
      refine ih _ _ ⟨G, _, _, _, _, rfl, rfl, fun j hj => ?_⟩
      rw [hsu] at hj
      have h1 : j / mm < A := zdvd hj hmp.1
      have := hG2 (j / mm) (j % mm) (Nat.zero_le _) h1 (Nat.mod_lt _ (by omega))
      rw [Nat.mul_comm, Nat.div_add_mod] at this
      exact this
  · rintro _ _ ⟨F, v4, v5, v6, v7, rfl, rfl, hF⟩
    rw [k_Ta_share_1]
    simp (disch := first | omega | exact Nat.le_of_ble_eq_true rfl | assumption | (simp only [Int.natCast_add, Int.natCast_mul, Int.cast_ofNat_Int]; omega) | decide) only [k_Ta_share_12, x_aload, x_getf, w_goto, w_fall, w_iadd, w_iconst, w_if, w_icmp, x_iinc, x_iload, w_imul, x_istore, w_isub, zadd_eq, zsub_eq, zmul_eq, gf_3_1, gf_15_0, gf_15_3, gf_15_4, at_18, ao_18, pu_18, w_nret r_Ta_share, q_eq, q_ne, q_lt, q_ge, q_gt, q_le, g_I, g_L, g_R, g_V, t_0, t_I, t_R, t_U, t_L, t_s, List.getElem?_cons_zero, List.getElem?_cons_succ, Nat.reduceAdd, zif10, zif01b, zib, if_pos, if_neg, reduceIte, not_true_eq_false, not_false_eq_true, Bool.true_eq_false, Bool.false_eq_true, Classical.not_not, eq_self, and_self, and_true, true_and, Int.reduceEq, Int.reduceLE, Int.reduceLT, Int.reduceNeg, Option.toList, List.cons_append, List.nil_append, zup_s, zup_n, zst_s, zup_zs, zup_zn, decide_true, decide_false, hC.2.1, zst_n]
    exact ⟨F, rfl, hF⟩
theorem c_Ta_share {d mi o b9 : Nat} {es : List zEnt} {L st : List zMV} {Q : Option zMV → (Nat → Int → Int) → Prop} {s : Nat} {g : Int} (hN : zNet S P mv tg) (hC : zNetC S P mv tg M) (hs : s < 12) (hg : M 15 4 = g) (hd : 2 + 1 ≤ d) (hc : zcats st ≤ 8) (hpost : ∀ r M', (r = some (zI (zcnt (mv s) zall1 P : Int)) ∧ ∃ F, M' = zst M 18 F ∧ ∀ j : Nat, j < zcnt (mv s) zall1 P → F (j : Int) = zshare (mv s) (zbit g) P j) → zW (zSH Ln) d mi es L (r.toList ++ st) M' Q) : zW (zSH Ln) d mi ((.invokevirtual o, 69, b9) :: es) L (zI (s : Int) :: zR 15 :: st) M Q :=
  w_callv (ps := [zI (s : Int)]) (by omega) rfl rfl (by omega) (by exact sh_15 Ln) hc (Nat.le_of_ble_eq_true rfl) (F_Ta_share hN hC hs hg (by omega)) hpost
end TB
