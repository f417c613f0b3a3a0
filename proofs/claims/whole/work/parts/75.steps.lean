/-! the faces: steps -/
def zvr (v : Int) : Nat → Int
  | 0 => v
  | k + 1 => zadd (zvr v k) 1
def zput (F : Int → Int) (b n : Int) (G : Int → Int) : Int → Int := fun y => if b ≤ y ∧ y < b + n then G (y - b) else F y
theorem zput_0 (F : Int → Int) (b : Int) (G : Int → Int) : zput F b ((0 : Nat) : Int) G = F := by
  funext y; unfold zput; rw [if_neg (by omega)]
theorem zput_up (F : Int → Int) (b : Int) (t : Nat) (G : Int → Int) {i v : Int} (hi : i = b + t) (hv : v = G t) : zf (zput F b (t : Int) G) i v = zput F b ((t + 1 : Nat) : Int) G := by
  subst hi; subst hv
  funext y
  by_cases e : y = b + t
  · subst e
    rw [zf_s]; unfold zput; rw [if_pos (by omega)]
    congr 1; omega
  · rw [zf_n e]; unfold zput
    by_cases e2 : b ≤ y ∧ y < b + t
    · rw [if_pos e2, if_pos (by omega)]
    · rw [if_neg e2, if_neg (by omega)]
theorem zup_up (M : Nat → Int → Int) (k : Nat) (i a b : Int) : zup (zup M k i a) k i b = zup M k i b := by
  funext q y
  by_cases h : q = k ∧ y = i <;> simp [zup, h]
/-- all of n items of a sheet are states -/
def zsts (S : Nat) (it : Int → Int) (b : Int) (n : Nat) : Bool := zfa n fun u => decide (0 ≤ it (b + u) ∧ it (b + u) < S)
abbrev zSpK (S P : Nat) (mv : Nat → Nat → Nat) (x y l n : Int) : Prop := (0 ≤ x ∧ x < S) ∧ zPlc y l ∧ 0 ≤ n ∧ n ≤ (zcnt (mv x.toNat) zall1 P : Int)
abbrev zSpG (S P : Nat) (mv : Nat → Nat → Nat) (ln : Nat → Int) (sz : Nat → Nat) (it : Int → Int) (x y l i n : Int) : Prop := zSpK S P mv x y l n ∧ zWrg ln sz y.toNat l i n = 0 ∧ zsts S it (y * 81 + i) n.toNat = true
def zSpA (S P : Nat) (mv : Nat → Nat → Nat) (ln : Nat → Int) (sz : Nat → Nat) (it : Int → Int) (x y l i n : Int) : Int := if zSpK S P mv x y l n then (if zWrg ln sz y.toNat l i n = 0 then (if zsts S it (y * 81 + i) n.toNat = true then n else -2) else zWrg ln sz y.toNat l i n) else -1
section FC
variable {Ln S P : Nat} {mv tg : Nat → Nat → Nat} {ln : Nat → Int} {sz : Nat → Nat} {it : Int → Int} {M : Nat → Int → Int}
theorem F_Ne_changeTargetX {d : Nat} {s q : Nat} {t : Int} (hs : s < 12) (hq : q < 81) (hd : 2 ≤ d) : zF (zSH Ln) d i_Ne_changeTarget [zR 3, zI (s : Int), zI (q : Int), zI t] M fun r M' => r = some (zI (M 7 ((s : Int) * 81 + q))) ∧ M' = zup (zup M 3 2 (zadd (M 3 2) 1)) 7 ((s : Int) * 81 + q) t := by
  rw [zF_en k_Ne_changeTarget_0 (L := [zR 3, zI (s : Int), zI (q : Int), zI t]) rfl]
  generalize hv : zadd (M 3 2) 1 = v
  simp (disch := first | omega | exact Nat.le_of_ble_eq_true rfl) only [x_aload, x_getf, w_iconst, x_iload, w_imul, w_iadd, w_dupR, gf_3_2, gf_3_6, xp_3_2, sw_7, hv, show zmul (s : Int) 81 = (s : Int) * 81 from zmul_eq (by omega) (by omega), show zadd ((s : Int) * 81) (q : Int) = (s : Int) * 81 + q from zadd_eq (by omega) (by omega), zup_n, w_nret r_Ne_changeTarget, g_I, g_R, g_V, List.getElem?_cons_zero, List.getElem?_cons_succ, Nat.reduceAdd, and_self]
theorem c_Ne_changeTargetX {d mi o b9 : Nat} {es : List zEnt} {L st : List zMV} {Q : Option zMV → (Nat → Int → Int) → Prop} {s q : Nat} {t : Int} (hs : s < 12) (hq : q < 81) (hd : 2 + 1 ≤ d) (hc : zcats st ≤ 8) : zW (zSH Ln) d mi ((.invokevirtual o, 71, b9) :: es) L (zI t :: zI (q : Int) :: zI (s : Int) :: zR 3 :: st) M Q = zW (zSH Ln) d mi es L (zI (M 7 ((s : Int) * 81 + q)) :: st) (zup (zup M 3 2 (zadd (M 3 2) 1)) 7 ((s : Int) * 81 + q) t) Q :=
  c_virt (ps := [zI (s : Int), zI (q : Int), zI t]) (by omega) rfl rfl (by omega) (by exact sh_3 Ln) hc (Nat.le_of_ble_eq_true rfl) (F_Ne_changeTargetX hs hq (by omega))
set_option maxHeartbeats 20000000 in
theorem F_FN_steps {d : Nat} {x y l i n : Int} (hN : zNet S P mv tg) (hC : zNetC S P mv tg M) (hSh : zShC ln sz it M) (hs : ∀ k, k < 4 → sz k ≤ 81) (hd : 4 ≤ d) : zF (zSH Ln) d i_FN_steps [zR 2, zI x, zI y, zI l, zI i, zI n] M fun r M' => r = some (zI (zSpA S P mv ln sz it x y l i n)) ∧ (zSpG S P mv ln sz it x y l i n → M' = zst (zup M 3 2 (zvr (M 3 2) n.toNat)) 7 (zput (M 7) (x * 81) n fun u => it (y * 81 + i + u))) ∧ (¬ zSpG S P mv ln sz it x y l i n → M' = M) := by
  rw [zF_en k_FN_steps_0 (L := [zR 2, zI x, zI y, zI l, zI i, zI n, zU, zU]) rfl]
  have hS := hN.2.1
  have hP := hN.2.2.2.1
  generalize hans : zSpA S P mv ln sz it x y l i n = ans
  unfold zSpA at hans
  generalize hgd : zSpG S P mv ln sz it x y l i n = gd
  unfold zSpG at hgd
  by_cases c1 : 0 ≤ x ∧ x < S
  rotate_left
  · rw [if_neg (fun h => c1 h.1)] at hans
    have hng : ¬ gd := fun h => by rw [← hgd] at h; exact c1 h.1.1
    subst hans
    simp (disch := first | omega | exact Nat.le_of_ble_eq_true rfl | assumption | (simp only [Int.natCast_add, Int.natCast_mul, Int.cast_ofNat_Int]; omega) | decide) only [k_FN_steps_5, x_aload, x_getf, w_goto, w_fall, w_iadd, w_iconst, w_if, w_icmp, x_iinc, x_iload, x_istore, w_pop, zadd_eq, gf_2_0, gf_2_8, w_nret r_FN_steps, q_eq, q_ne, q_lt, q_ge, q_gt, q_le, g_I, g_L, g_R, g_V, t_0, t_I, t_R, t_U, t_L, t_s, List.getElem?_cons_zero, List.getElem?_cons_succ, Nat.reduceAdd, zif10, zif01b, zib, if_pos, if_neg, ↓reduceIte, not_true_eq_false, not_false_eq_true, Bool.true_eq_false, Bool.false_eq_true, Classical.not_not, eq_self, and_self, and_true, true_and, Int.reduceEq, Int.reduceLE, Int.reduceLT, Int.reduceNeg, Option.toList, List.cons_append, List.nil_append, zup_s, zup_n, zst_s, zup_zs, zup_zn, decide_true, decide_false, c_Ne_hasState hC, c1]
    exact ⟨fun h => absurd h hng, fun _ => trivial⟩
  by_cases c2 : zPlc y l
  rotate_left
  · rw [if_neg (fun h => c2 h.2.1)] at hans
    have hng : ¬ gd := fun h => by rw [← hgd] at h; exact c2 h.1.2.1
    subst hans
    simp (disch := first | omega | exact Nat.le_of_ble_eq_true rfl | assumption | (simp only [Int.natCast_add, Int.natCast_mul, Int.cast_ofNat_Int]; omega) | decide) only [k_FN_steps_1, k_FN_steps_5, x_aload, x_getf, w_goto, w_fall, w_iadd, w_iconst, w_if, w_icmp, x_iinc, x_iload, x_istore, w_pop, zadd_eq, gf_2_0, gf_2_8, w_nret r_FN_steps, q_eq, q_ne, q_lt, q_ge, q_gt, q_le, g_I, g_L, g_R, g_V, t_0, t_I, t_R, t_U, t_L, t_s, List.getElem?_cons_zero, List.getElem?_cons_succ, Nat.reduceAdd, zif10, zif01b, zib, if_pos, if_neg, ↓reduceIte, not_true_eq_false, not_false_eq_true, Bool.true_eq_false, Bool.false_eq_true, Classical.not_not, eq_self, and_self, and_true, true_and, Int.reduceEq, Int.reduceLE, Int.reduceLT, Int.reduceNeg, Option.toList, List.cons_append, List.nil_append, zup_s, zup_n, zst_s, zup_zs, zup_zn, decide_true, decide_false, c_Ne_hasState hC, c1, c_Sh_place, c2]
    exact ⟨fun h => absurd h hng, fun _ => trivial⟩
  obtain ⟨s, rfl⟩ : ∃ s : Nat, x = (s : Int) := ⟨x.toNat, by omega⟩
  obtain ⟨k, rfl⟩ : ∃ k : Nat, y = (k : Int) := ⟨y.toNat, by omega⟩
  have hs12 : s < 12 := by omega
  have hk : k < 4 := by omega
  have hsk := hs k hk
  have h81 := zcnt_81 (hN.2.2.2.2.1 s) zall1 hP
  have e : zcnt (mv s) (zbit (zset P fun _ => true)) P = zcnt (mv s) zall1 P := zcnt_congr P fun i hi => by rw [zset_bit (by omega)]; simp [hi, zall1]
  simp only [Int.toNat_natCast] at hans hgd
  by_cases c3 : 0 ≤ n
  rotate_left
  · rw [if_neg (fun h => c3 h.2.2.1)] at hans
    have hng : ¬ gd := fun h => by rw [← hgd] at h; exact c3 h.1.2.2.1
    subst hans
    simp (disch := first | omega | exact Nat.le_of_ble_eq_true rfl | assumption | (simp only [Int.natCast_add, Int.natCast_mul, Int.cast_ofNat_Int]; omega) | decide) only [k_FN_steps_1, k_FN_steps_2, k_FN_steps_5, x_aload, x_getf, w_goto, w_fall, w_iadd, w_iconst, w_if, w_icmp, x_iinc, x_iload, x_istore, w_pop, zadd_eq, gf_2_0, gf_2_8, w_nret r_FN_steps, q_eq, q_ne, q_lt, q_ge, q_gt, q_le, g_I, g_L, g_R, g_V, t_0, t_I, t_R, t_U, t_L, t_s, List.getElem?_cons_zero, List.getElem?_cons_succ, Nat.reduceAdd, zif10, zif01b, zib, if_pos, if_neg, ↓reduceIte, not_true_eq_false, not_false_eq_true, Bool.true_eq_false, Bool.false_eq_true, Classical.not_not, eq_self, and_self, and_true, true_and, Int.reduceEq, Int.reduceLE, Int.reduceLT, Int.reduceNeg, Option.toList, List.cons_append, List.nil_append, zup_s, zup_n, zst_s, zup_zs, zup_zn, decide_true, decide_false, c_Ne_hasState hC, c1, c_Sh_place, c2, c3]
    exact ⟨fun h => absurd h hng, fun _ => trivial⟩
  by_cases c4 : n ≤ (zcnt (mv s) zall1 P : Int)
  rotate_left
  · rw [if_neg (fun h => c4 h.2.2.2)] at hans
    have hng : ¬ gd := fun h => by rw [← hgd] at h; exact c4 h.1.2.2.2
    subst hans
    by_cases c5 : 81 < n
    · simp (disch := first | omega | exact Nat.le_of_ble_eq_true rfl | assumption | (simp only [Int.natCast_add, Int.natCast_mul, Int.cast_ofNat_Int]; omega) | decide) only [k_FN_steps_1, k_FN_steps_2, k_FN_steps_3, k_FN_steps_5, x_aload, x_getf, w_goto, w_fall, w_iadd, w_iconst, w_if, w_icmp, x_iinc, x_iload, x_istore, w_pop, zadd_eq, gf_2_0, gf_2_8, w_nret r_FN_steps, q_eq, q_ne, q_lt, q_ge, q_gt, q_le, g_I, g_L, g_R, g_V, t_0, t_I, t_R, t_U, t_L, t_s, List.getElem?_cons_zero, List.getElem?_cons_succ, Nat.reduceAdd, zif10, zif01b, zib, if_pos, if_neg, ↓reduceIte, not_true_eq_false, not_false_eq_true, Bool.true_eq_false, Bool.false_eq_true, Classical.not_not, eq_self, and_self, and_true, true_and, Int.reduceEq, Int.reduceLE, Int.reduceLT, Int.reduceNeg, Option.toList, List.cons_append, List.nil_append, zup_s, zup_n, zst_s, zup_zs, zup_zn, decide_true, decide_false, c_Ne_hasState hC, c1, c_Sh_place, c2, c3, c5]
      exact ⟨fun h => absurd h hng, fun _ => trivial⟩
    · simp (disch := first | omega | exact Nat.le_of_ble_eq_true rfl | assumption | (simp only [Int.natCast_add, Int.natCast_mul, Int.cast_ofNat_Int]; omega) | decide) only [k_FN_steps_1, k_FN_steps_2, k_FN_steps_3, k_FN_steps_4, k_FN_steps_5, x_aload, x_getf, w_goto, w_fall, w_iadd, w_iconst, w_if, w_icmp, x_iinc, x_iload, x_istore, w_pop, zadd_eq, gf_2_0, gf_2_8, w_nret r_FN_steps, q_eq, q_ne, q_lt, q_ge, q_gt, q_le, g_I, g_L, g_R, g_V, t_0, t_I, t_R, t_U, t_L, t_s, List.getElem?_cons_zero, List.getElem?_cons_succ, Nat.reduceAdd, zif10, zif01b, zib, if_pos, if_neg, ↓reduceIte, not_true_eq_false, not_false_eq_true, Bool.true_eq_false, Bool.false_eq_true, Classical.not_not, eq_self, and_self, and_true, true_and, Int.reduceEq, Int.reduceLE, Int.reduceLT, Int.reduceNeg, Option.toList, List.cons_append, List.nil_append, zup_s, zup_n, zst_s, zup_zs, zup_zn, decide_true, decide_false, c_Ne_hasState hC, c1, c_Sh_place, c2, c3, c5, c_Ne_everyone hN hC, c_Ne_ways hN hC, e, c4]
      exact ⟨fun h => absurd h hng, fun _ => trivial⟩
  have hK : zSpK S P mv (s : Int) (k : Int) l n := ⟨c1, c2, c3, c4⟩
  rw [if_pos hK] at hans
  have c5 : ¬ 81 < n := by omega
  by_cases c6 : zWrg ln sz k l i n = 0
  rotate_left
  · rw [if_neg c6] at hans
    have hng : ¬ gd := fun h => by rw [← hgd] at h; exact c6 h.2.1
    simp (disch := first | omega | exact Nat.le_of_ble_eq_true rfl | assumption | (simp only [Int.natCast_add, Int.natCast_mul, Int.cast_ofNat_Int]; omega) | decide) only [k_FN_steps_1, k_FN_steps_2, k_FN_steps_3, k_FN_steps_4, k_FN_steps_6, k_FN_steps_7, x_aload, x_getf, w_goto, w_fall, w_iadd, w_iconst, w_if, w_icmp, x_iinc, x_iload, x_istore, w_pop, zadd_eq, gf_2_0, gf_2_8, w_nret r_FN_steps, q_eq, q_ne, q_lt, q_ge, q_gt, q_le, g_I, g_L, g_R, g_V, t_0, t_I, t_R, t_U, t_L, t_s, List.getElem?_cons_zero, List.getElem?_cons_succ, Nat.reduceAdd, zif10, zif01b, zib, if_pos, if_neg, ↓reduceIte, not_true_eq_false, not_false_eq_true, Bool.true_eq_false, Bool.false_eq_true, Classical.not_not, eq_self, and_self, and_true, true_and, Int.reduceEq, Int.reduceLE, Int.reduceLT, Int.reduceNeg, Option.toList, List.cons_append, List.nil_append, zup_s, zup_n, zst_s, zup_zs, zup_zn, decide_true, decide_false, c_Ne_hasState hC, c1, c_Sh_place, c2, c3, c5, c_Ne_everyone hN hC, c_Ne_ways hN hC, e, c4, c_Sh_wrg hSh hk hsk c3, c6, hans]
    exact ⟨fun h => absurd h hng, fun _ => trivial⟩
  rw [if_pos c6] at hans
  obtain ⟨w1, w2, w3⟩ := zWrg_0 c6
  obtain ⟨m, rfl⟩ : ∃ m : Nat, n = (m : Int) := ⟨n.toNat, by omega⟩
  obtain ⟨a, rfl⟩ : ∃ a : Nat, i = (a : Int) := ⟨i.toNat, by omega⟩
  simp only [Int.toNat_natCast] at hans hgd ⊢
  simp (disch := first | omega | exact Nat.le_of_ble_eq_true rfl | assumption | (simp only [Int.natCast_add, Int.natCast_mul, Int.cast_ofNat_Int]; omega) | decide) only [k_FN_steps_1, k_FN_steps_2, k_FN_steps_3, k_FN_steps_4, k_FN_steps_6, k_FN_steps_8, x_aload, x_getf, w_goto, w_fall, w_iadd, w_iconst, w_if, w_icmp, x_iinc, x_iload, x_istore, w_pop, zadd_eq, gf_2_0, gf_2_8, w_nret r_FN_steps, q_eq, q_ne, q_lt, q_ge, q_gt, q_le, g_I, g_L, g_R, g_V, t_0, t_I, t_R, t_U, t_L, t_s, List.getElem?_cons_zero, List.getElem?_cons_succ, Nat.reduceAdd, zif10, zif01b, zib, if_pos, if_neg, ↓reduceIte, not_true_eq_false, not_false_eq_true, Bool.true_eq_false, Bool.false_eq_true, Classical.not_not, eq_self, and_self, and_true, true_and, Int.reduceEq, Int.reduceLE, Int.reduceLT, Int.reduceNeg, Option.toList, List.cons_append, List.nil_append, zup_s, zup_n, zst_s, zup_zs, zup_zn, decide_true, decide_false, c_Ne_hasState hC, c1, c_Sh_place, c2, c3, c5, c_Ne_everyone hN hC, c_Ne_ways hN hC, e, c4, c_Sh_wrg hSh hk hsk c3, c6]
  have hall : zsts S it ((k : Int) * 81 + a) m = true ↔ ∀ u : Nat, u < m → 0 ≤ it ((k : Int) * 81 + a + u) ∧ it ((k : Int) * 81 + a + u) < S := by
    unfold zsts; rw [zfa_iff]
    exact ⟨fun h u hu => by simpa using h u hu, fun h u hu => by simpa using h u hu⟩
  refine zfor (a := 0) (N := m) (b := 9) (fun t L0 M0 => L0 = [zR 2, zI s, zI k, zI l, zI a, zI m, zI 0, zI (t : Int)] ∧ M0 = M ∧ (∀ u : Nat, u < t → 0 ≤ it ((k : Int) * 81 + a + u) ∧ it ((k : Int) * 81 + a + u) < S)) ?_ ?_ ?_ ?_
  · exact Nat.zero_le _
  · exact ⟨rfl, rfl, fun u hu => by omega⟩
  · rintro t _ M _ ht ⟨rfl, rfl, hok⟩ ih
    have ea : (k : Int) * 81 + ((a : Int) + (t : Int)) = (k : Int) * 81 + a + t := by omega
    by_cases c7 : 0 ≤ it ((k : Int) * 81 + a + t) ∧ it ((k : Int) * 81 + a + t) < S
    · rw [k_FN_steps_9]
      simp (disch := first | omega | exact Nat.le_of_ble_eq_true rfl | assumption | (simp only [Int.natCast_add, Int.natCast_mul, Int.cast_ofNat_Int]; omega) | decide) only [k_FN_steps_10, k_FN_steps_12, x_aload, x_getf, w_goto, w_fall, w_iadd, w_iconst, w_if, w_icmp, x_iinc, x_iload, x_istore, w_pop, zadd_eq, gf_2_0, gf_2_8, w_nret r_FN_steps, q_eq, q_ne, q_lt, q_ge, q_gt, q_le, g_I, g_L, g_R, g_V, t_0, t_I, t_R, t_U, t_L, t_s, List.getElem?_cons_zero, List.getElem?_cons_succ, Nat.reduceAdd, zif10, zif01b, zib, if_pos, if_neg, ↓reduceIte, not_true_eq_false, not_false_eq_true, Bool.true_eq_false, Bool.false_eq_true, Classical.not_not, eq_self, and_self, and_true, true_and, Int.reduceEq, Int.reduceLE, Int.reduceLT, Int.reduceNeg, Option.toList, List.cons_append, List.nil_append, zup_s, zup_n, zst_s, zup_zs, zup_zn, decide_true, decide_false, c_Sh_read hSh hk, c_Ne_hasState hC, ea, c7]
      refine ih _ _ ⟨rfl, rfl, fun u hu => ?_⟩
      by_cases e2 : u = t
      · subst e2; exact c7
      · exact hok u (by omega)
    · have c8 : ¬ zsts S it ((k : Int) * 81 + a) m = true := fun h => c7 (hall.mp h t ht)
      rw [if_neg c8] at hans
      have hng : ¬ gd := fun h => by rw [← hgd] at h; exact c8 h.2.2
      rw [k_FN_steps_9]
      simp (disch := first | omega | exact Nat.le_of_ble_eq_true rfl | assumption | (simp only [Int.natCast_add, Int.natCast_mul, Int.cast_ofNat_Int]; omega) | decide) only [k_FN_steps_10, k_FN_steps_11, x_aload, x_getf, w_goto, w_fall, w_iadd, w_iconst, w_if, w_icmp, x_iinc, x_iload, x_istore, w_pop, zadd_eq, gf_2_0, gf_2_8, w_nret r_FN_steps, q_eq, q_ne, q_lt, q_ge, q_gt, q_le, g_I, g_L, g_R, g_V, t_0, t_I, t_R, t_U, t_L, t_s, List.getElem?_cons_zero, List.getElem?_cons_succ, Nat.reduceAdd, zif10, zif01b, zib, if_pos, if_neg, ↓reduceIte, not_true_eq_false, not_false_eq_true, Bool.true_eq_false, Bool.false_eq_true, Classical.not_not, eq_self, and_self, and_true, true_and, Int.reduceEq, Int.reduceLE, Int.reduceLT, Int.reduceNeg, Option.toList, List.cons_append, List.nil_append, zup_s, zup_n, zst_s, zup_zs, zup_zn, decide_true, decide_false, c_Sh_read hSh hk, c_Ne_hasState hC, ea, c7, hans]
      exact ⟨fun h => absurd h hng, fun _ => trivial⟩
  · rintro _ M ⟨rfl, rfl, hok⟩
    have c8 : zsts S it ((k : Int) * 81 + a) m = true := hall.mpr hok
    rw [if_pos c8] at hans
    have hg : gd := by rw [← hgd]; exact ⟨hK, c6, c8⟩
    rw [k_FN_steps_9]
    simp (disch := first | omega | exact Nat.le_of_ble_eq_true rfl | assumption | (simp only [Int.natCast_add, Int.natCast_mul, Int.cast_ofNat_Int]; omega) | decide) only [k_FN_steps_13, x_aload, x_getf, w_goto, w_fall, w_iadd, w_iconst, w_if, w_icmp, x_iinc, x_iload, x_istore, w_pop, zadd_eq, gf_2_0, gf_2_8, w_nret r_FN_steps, q_eq, q_ne, q_lt, q_ge, q_gt, q_le, g_I, g_L, g_R, g_V, t_0, t_I, t_R, t_U, t_L, t_s, List.getElem?_cons_zero, List.getElem?_cons_succ, Nat.reduceAdd, zif10, zif01b, zib, if_pos, if_neg, ↓reduceIte, not_true_eq_false, not_false_eq_true, Bool.true_eq_false, Bool.false_eq_true, Classical.not_not, eq_self, and_self, and_true, true_and, Int.reduceEq, Int.reduceLE, Int.reduceLT, Int.reduceNeg, Option.toList, List.cons_append, List.nil_append, zup_s, zup_n, zst_s, zup_zs, zup_zn, decide_true, decide_false]
    refine zfor (a := 0) (N := m) (b := 14) (fun t L0 M0 => L0 = [zR 2, zI s, zI k, zI l, zI a, zI m, zI 0, zI (t : Int)] ∧ M0 = zst (zup M 3 2 (zvr (M 3 2) t)) 7 (zput (M 7) ((s : Int) * 81) (t : Int) fun u => it ((k : Int) * 81 + a + u))) ?_ ?_ ?_ ?_
    · exact Nat.zero_le _
    · refine ⟨rfl, ?_⟩
      rw [zput_0]
      show M = zst (zup M 3 2 (M 3 2)) 7 ((zup M 3 2 (M 3 2)) 7)
      rw [zst_id]
      funext q y
      unfold zup
      split
      · next h => rw [h.1, h.2]
      · rfl
    · rintro t _ _ _ ht ⟨rfl, rfl⟩ ih
      have ea : (k : Int) * 81 + ((a : Int) + (t : Int)) = (k : Int) * 81 + a + t := by omega
      have hSh2 : zShC ln sz it (zst (zup M 3 2 (zvr (M 3 2) t)) 7 (zput (M 7) ((s : Int) * 81) (t : Int) fun u => it ((k : Int) * 81 + a + u))) := hSh
      rw [k_FN_steps_14]
      simp (disch := first | omega | exact Nat.le_of_ble_eq_true rfl | assumption | (simp only [Int.natCast_add, Int.natCast_mul, Int.cast_ofNat_Int]; omega) | decide) only [k_FN_steps_15, x_aload, x_getf, w_goto, w_fall, w_iadd, w_iconst, w_if, w_icmp, x_iinc, x_iload, x_istore, w_pop, zadd_eq, gf_2_0, gf_2_8, w_nret r_FN_steps, q_eq, q_ne, q_lt, q_ge, q_gt, q_le, g_I, g_L, g_R, g_V, t_0, t_I, t_R, t_U, t_L, t_s, List.getElem?_cons_zero, List.getElem?_cons_succ, Nat.reduceAdd, zif10, zif01b, zib, if_pos, if_neg, ↓reduceIte, not_true_eq_false, not_false_eq_true, Bool.true_eq_false, Bool.false_eq_true, Classical.not_not, eq_self, and_self, and_true, true_and, Int.reduceEq, Int.reduceLE, Int.reduceLT, Int.reduceNeg, Option.toList, List.cons_append, List.nil_append, zup_s, zup_n, zst_s, zup_zs, zup_zn, decide_true, decide_false, c_Sh_read hSh2 hk, c_Ne_changeTargetX hs12, ea]
      refine ih _ _ ⟨rfl, ?_⟩
      rw [zput_up (M 7) ((s : Int) * 81) t (fun u => it ((k : Int) * 81 + a + u)) rfl rfl, zst_n (by decide), zup_s, zup_up]
      rfl
    · rintro _ _ ⟨rfl, rfl⟩
      rw [k_FN_steps_14]
      simp (disch := first | omega | exact Nat.le_of_ble_eq_true rfl | assumption | (simp only [Int.natCast_add, Int.natCast_mul, Int.cast_ofNat_Int]; omega) | decide) only [k_FN_steps_16, x_aload, x_getf, w_goto, w_fall, w_iadd, w_iconst, w_if, w_icmp, x_iinc, x_iload, x_istore, w_pop, zadd_eq, gf_2_0, gf_2_8, w_nret r_FN_steps, q_eq, q_ne, q_lt, q_ge, q_gt, q_le, g_I, g_L, g_R, g_V, t_0, t_I, t_R, t_U, t_L, t_s, List.getElem?_cons_zero, List.getElem?_cons_succ, Nat.reduceAdd, zif10, zif01b, zib, if_pos, if_neg, ↓reduceIte, not_true_eq_false, not_false_eq_true, Bool.true_eq_false, Bool.false_eq_true, Classical.not_not, eq_self, and_self, and_true, true_and, Int.reduceEq, Int.reduceLE, Int.reduceLT, Int.reduceNeg, Option.toList, List.cons_append, List.nil_append, zup_s, zup_n, zst_s, zup_zs, zup_zn, decide_true, decide_false, hans]
      exact ⟨fun _ => trivial, fun h => absurd hg h⟩
theorem c_FN_steps {d mi o b9 : Nat} {es : List zEnt} {L st : List zMV} {Q : Option zMV → (Nat → Int → Int) → Prop} {x y l i n : Int} (hN : zNet S P mv tg) (hC : zNetC S P mv tg M) (hSh : zShC ln sz it M) (hs : ∀ k, k < 4 → sz k ≤ 81) (hd : 4 + 1 ≤ d) (hc : zcats st ≤ 8) (hpost : ∀ r M', (r = some (zI (zSpA S P mv ln sz it x y l i n)) ∧ (zSpG S P mv ln sz it x y l i n → M' = zst (zup M 3 2 (zvr (M 3 2) n.toNat)) 7 (zput (M 7) (x * 81) n fun u => it (y * 81 + i + u))) ∧ (¬ zSpG S P mv ln sz it x y l i n → M' = M)) → zW (zSH Ln) d mi es L (r.toList ++ st) M' Q) : zW (zSH Ln) d mi ((.invokevirtual o, 131, b9) :: es) L (zI n :: zI i :: zI l :: zI y :: zI x :: zR 2 :: st) M Q :=
  w_callv (ps := [zI x, zI y, zI l, zI i, zI n]) (by omega) rfl rfl (by omega) (by exact sh_2 Ln) hc (Nat.le_of_ble_eq_true rfl) (F_FN_steps hN hC hSh hs (by omega)) hpost
end FC
