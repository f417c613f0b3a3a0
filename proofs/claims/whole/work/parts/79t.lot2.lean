/-! chances: the class's counting -/
section LO
variable {Ln S P : Nat} {mv tg ch c : Nat → Nat → Nat} {M : Nat → Int → Int} {lo : Int} {X : Nat → Bool}
set_option maxHeartbeats 20000000 in
theorem F_Lo_countAll {d : Nat} (hN : zNet S P mv tg) (hC : zNetC S P mv tg M) (hK : zPkC 5 ch M) (hch : ∀ s p, ch s p < mv s p) (hlo : M 36 1 = lo) (hlr : -1 ≤ lo ∧ lo < P) (hd : 4 ≤ d) : zF (zSH Ln) d i_Lo_countAll [zR 36] M fun r M' => r = none ∧ ∃ F G, M' = zst (zst M 37 F) 38 G ∧ (∀ s t : Nat, s < S → t < 12 → F ((s : Int) * 12 + t) = zKc mv tg P ch lo s t) ∧ ∀ s : Nat, s < S → G (s : Int) = zLm mv lo s := by
  rw [zF_en k_Lo_countAll_0 (L := [zR 36, zU, zU, zU, zU]) rfl]
  have hS := hN.2.1
  have hP := hN.2.2.2.1
  have hm := hN.2.2.2.2.1
  simp (disch := first | omega | exact Nat.le_of_ble_eq_true rfl | assumption | (simp only [Int.natCast_add, Int.natCast_mul, Int.cast_ofNat_Int]; omega) | decide) only [x_aload, x_getf, w_goto, w_fall, w_iadd, w_iconst, w_if, w_icmp, x_iinc, x_iload, w_imul, x_istore, zadd_eq, zmul_eq, gf_36_0, gf_36_1, gf_36_4, gf_36_5, gf_3_0, gf_3_4, at_5, ao_5, pu_5, at_37, ao_37, pu_37, at_38, ao_38, pu_38, w_vret r_Lo_countAll, q_eq, q_ne, q_lt, q_ge, q_gt, q_le, g_I, g_L, g_R, g_V, t_0, t_I, t_R, t_U, t_L, t_s, List.getElem?_cons_zero, List.getElem?_cons_succ, Nat.reduceAdd, zif10, zif01b, zib, if_pos, if_neg, ↓reduceIte, not_true_eq_false, not_false_eq_true, Bool.true_eq_false, Bool.false_eq_true, Classical.not_not, eq_self, and_self, and_true, true_and, Int.reduceEq, Int.reduceLE, Int.reduceLT, Int.reduceNeg, Option.toList, List.cons_append, List.nil_append, zup_s, zup_n, zst_s, zup_zs, zup_zn, decide_true, decide_false]
  refine c_JA_fill (sh_37 Ln) (by omega) (by omega) (by omega) (Nat.le_of_ble_eq_true rfl) ?_
  rintro _ _ ⟨rfl, rfl⟩
  simp (disch := first | omega | exact Nat.le_of_ble_eq_true rfl | assumption | (simp only [Int.natCast_add, Int.natCast_mul, Int.cast_ofNat_Int]; omega) | decide) only [x_aload, x_getf, w_goto, w_fall, w_iadd, w_iconst, w_if, w_icmp, x_iinc, x_iload, w_imul, x_istore, zadd_eq, zmul_eq, gf_36_0, gf_36_1, gf_36_4, gf_36_5, gf_3_0, gf_3_4, at_5, ao_5, pu_5, at_37, ao_37, pu_37, at_38, ao_38, pu_38, w_vret r_Lo_countAll, q_eq, q_ne, q_lt, q_ge, q_gt, q_le, g_I, g_L, g_R, g_V, t_0, t_I, t_R, t_U, t_L, t_s, List.getElem?_cons_zero, List.getElem?_cons_succ, Nat.reduceAdd, zif10, zif01b, zib, if_pos, if_neg, ↓reduceIte, not_true_eq_false, not_false_eq_true, Bool.true_eq_false, Bool.false_eq_true, Classical.not_not, eq_self, and_self, and_true, true_and, Int.reduceEq, Int.reduceLE, Int.reduceLT, Int.reduceNeg, Option.toList, List.cons_append, List.nil_append, zup_s, zup_n, zst_s, zup_zs, zup_zn, decide_true, decide_false]
  refine zfor (a := 0) (N := S) (b := 1) (fun s L0 M0 => ∃ (F : Int → Int) (G : Int → Int) (v2 : zMV) (v3 : zMV) (v4 : zMV), L0 = [zR 36, zI (s : Int), v2, v3, v4] ∧ M0 = zst (zst M 37 F) 38 G ∧ ((∀ u t : Nat, u < s → t < 12 → F ((u : Int) * 12 + t) = zKc mv tg P ch lo u t) ∧ (∀ x : Int, (s : Int) * 12 ≤ x → x < 144 → F x = 0) ∧ ∀ u : Nat, u < s → G (u : Int) = zLm mv lo u)) ?_ ?_ ?_ ?_
  · exact Nat.zero_le _
  · refine ⟨zrng (M 37) 0 144 0, M 38, zU, zU, zU, rfl, (zst_id _ 38).symm, fun u t a b => by omega, fun x a b => zrng_in (by omega), fun u a => by omega⟩
  · rintro s _ _ _ hs ⟨F, G, v2, v3, v4, rfl, rfl, hF, hF0, hG⟩ ih
    have hC2 : zNetC S P mv tg (zst (zst M 37 F) 38 G) := hC
    have e36 : zst (zst M 37 F) 38 G 36 1 = lo := hlo
    have hl3 := zLm_3 hm lo s
    have inner : ∀ v2 v3 v4 : zMV, zW (zSH Ln) d i_Lo_countAll (zblk i_Lo_countAll 5) [zR 36, zI (s : Int), v2, v3, v4] [zI (zLm mv lo s : Int)] (zst (zst M 37 F) 38 G) fun r M' => r = none ∧ ∃ F G, M' = zst (zst M 37 F) 38 G ∧ (∀ s t : Nat, s < S → t < 12 → F ((s : Int) * 12 + t) = zKc mv tg P ch lo s t) ∧ ∀ s : Nat, s < S → G (s : Int) = zLm mv lo s := by
      intro v2 v3 v4
      rw [k_Lo_countAll_5]
      simp (disch := first | omega | exact Nat.le_of_ble_eq_true rfl | assumption | (simp only [Int.natCast_add, Int.natCast_mul, Int.cast_ofNat_Int]; omega) | decide) only [x_aload, x_getf, w_goto, w_fall, w_iadd, w_iconst, w_if, w_icmp, x_iinc, x_iload, w_imul, x_istore, zadd_eq, zmul_eq, gf_36_0, gf_36_1, gf_36_4, gf_36_5, gf_3_0, gf_3_4, at_5, ao_5, pu_5, at_37, ao_37, pu_37, at_38, ao_38, pu_38, w_vret r_Lo_countAll, q_eq, q_ne, q_lt, q_ge, q_gt, q_le, g_I, g_L, g_R, g_V, t_0, t_I, t_R, t_U, t_L, t_s, List.getElem?_cons_zero, List.getElem?_cons_succ, Nat.reduceAdd, zif10, zif01b, zib, if_pos, if_neg, ↓reduceIte, not_true_eq_false, not_false_eq_true, Bool.true_eq_false, Bool.false_eq_true, Classical.not_not, eq_self, and_self, and_true, true_and, Int.reduceEq, Int.reduceLE, Int.reduceLT, Int.reduceNeg, Option.toList, List.cons_append, List.nil_append, zup_s, zup_n, zst_s, zup_zs, zup_zn, decide_true, decide_false]
      refine zfor (a := 0) (N := (zLm mv lo s)) (b := 6) (fun k L0 M0 => ∃ (F2 : Int → Int) (v4 : zMV), L0 = [zR 36, zI (s : Int), zI (zLm mv lo s : Int), zI (k : Int), v4] ∧ M0 = zst (zst M 37 F2) 38 (zf G (s : Int) (zLm mv lo s : Int)) ∧ ((∀ u t : Nat, u < s → t < 12 → F2 ((u : Int) * 12 + t) = zKc mv tg P ch lo u t) ∧ (∀ x : Int, (s : Int) * 12 + 12 ≤ x → x < 144 → F2 x = 0) ∧ ∀ t : Nat, t < 12 → F2 ((s : Int) * 12 + t) = zcard k fun a => decide (zLt mv tg P ch lo s a = t))) ?_ ?_ ?_ ?_
      · exact Nat.zero_le _
      · exact ⟨F, v4, rfl, rfl, hF, fun x a b => hF0 x (by omega) b, fun t ht => hF0 _ (by omega) (by omega)⟩
      · rintro k _ _ _ hk ⟨F2, v4, rfl, rfl, g1, g2, g3⟩ ih2
        have hC3 : zNetC S P mv tg (zst (zst M 37 F2) 38 (zf G (s : Int) (zLm mv lo s : Int))) := hC
        have hK3 : zPkC 5 ch (zst (zst M 37 F2) 38 (zf G (s : Int) (zLm mv lo s : Int))) := hK
        have e36 : zst (zst M 37 F2) 38 (zf G (s : Int) (zLm mv lo s : Int)) 36 1 = lo := hlo
        have hy : ∀ p : Nat, (p : Int) = lo → k < mv s p := fun p h => by
          unfold zLm at hk
          rw [if_neg (by omega), ← h] at hk
          simpa using hk
        have hlt := zLt_lt hN hch hs hk
        have hmo : tg s (znum (mv s) (fun p : Nat => if (p : Int) = lo then k else ch s p) P) = zLt mv tg P ch lo s k := rfl
        have g3k := g3 (zLt mv tg P ch lo s k) (by omega)
        have hcl := zcard_le k fun a => decide (zLt mv tg P ch lo s a = zLt mv tg P ch lo s k)
        rw [k_Lo_countAll_6]
        simp (disch := first | omega | exact Nat.le_of_ble_eq_true rfl | assumption | (simp only [Int.natCast_add, Int.natCast_mul, Int.cast_ofNat_Int]; omega) | decide) only [k_Lo_countAll_7, x_aload, x_getf, w_goto, w_fall, w_iadd, w_iconst, w_if, w_icmp, x_iinc, x_iload, w_imul, x_istore, zadd_eq, zmul_eq, gf_36_0, gf_36_1, gf_36_4, gf_36_5, gf_3_0, gf_3_4, at_5, ao_5, pu_5, at_37, ao_37, pu_37, at_38, ao_38, pu_38, w_vret r_Lo_countAll, q_eq, q_ne, q_lt, q_ge, q_gt, q_le, g_I, g_L, g_R, g_V, t_0, t_I, t_R, t_U, t_L, t_s, List.getElem?_cons_zero, List.getElem?_cons_succ, Nat.reduceAdd, zif10, zif01b, zib, if_pos, if_neg, ↓reduceIte, not_true_eq_false, not_false_eq_true, Bool.true_eq_false, Bool.false_eq_true, Classical.not_not, eq_self, and_self, and_true, true_and, Int.reduceEq, Int.reduceLE, Int.reduceLT, Int.reduceNeg, Option.toList, List.cons_append, List.nil_append, zup_s, zup_n, zst_s, zup_zs, zup_zn, decide_true, decide_false, e36, c_Ne_next5 hN hC3 hK3 hch hs hy, hmo, zst_n, g3k]
        refine ih2 _ _ ⟨_, _, rfl, rfl, fun u t a b => ?_, fun x a b => ?_, fun t ht => ?_⟩
        · rw [zf_n (by omega)]; exact g1 u t a b
        · rw [zf_n (by omega)]; exact g2 x a b
        · show _ = ((zcard k (fun a => decide (zLt mv tg P ch lo s a = t)) + if decide (zLt mv tg P ch lo s k = t) = true then 1 else 0 : Nat) : Int)
          by_cases e : zLt mv tg P ch lo s k = t
          · subst e
            rw [zf_s, if_pos (by simp)]; omega
          · rw [zf_n (by omega), if_neg (by simpa using e)]
            exact g3 t ht
      · rintro _ _ ⟨F2, v4, rfl, rfl, g1, g2, g3⟩
        rw [k_Lo_countAll_6]
        simp (disch := first | omega | exact Nat.le_of_ble_eq_true rfl | assumption | (simp only [Int.natCast_add, Int.natCast_mul, Int.cast_ofNat_Int]; omega) | decide) only [k_Lo_countAll_8, x_aload, x_getf, w_goto, w_fall, w_iadd, w_iconst, w_if, w_icmp, x_iinc, x_iload, w_imul, x_istore, zadd_eq, zmul_eq, gf_36_0, gf_36_1, gf_36_4, gf_36_5, gf_3_0, gf_3_4, at_5, ao_5, pu_5, at_37, ao_37, pu_37, at_38, ao_38, pu_38, w_vret r_Lo_countAll, q_eq, q_ne, q_lt, q_ge, q_gt, q_le, g_I, g_L, g_R, g_V, t_0, t_I, t_R, t_U, t_L, t_s, List.getElem?_cons_zero, List.getElem?_cons_succ, Nat.reduceAdd, zif10, zif01b, zib, if_pos, if_neg, ↓reduceIte, not_true_eq_false, not_false_eq_true, Bool.true_eq_false, Bool.false_eq_true, Classical.not_not, eq_self, and_self, and_true, true_and, Int.reduceEq, Int.reduceLE, Int.reduceLT, Int.reduceNeg, Option.toList, List.cons_append, List.nil_append, zup_s, zup_n, zst_s, zup_zs, zup_zn, decide_true, decide_false]
        refine ih _ _ ⟨F2, _, _, _, _, rfl, rfl, fun u t a b => ?_, fun x a b => g2 x (by omega) b, fun u hu => ?_⟩
        · by_cases e : u = s
          · subst e; exact g3 t b
          · exact g1 u t (by omega) b
        · by_cases e : u = s
          · subst e; rw [zf_s]
          · rw [zf_n (by omega)]; exact hG u (by omega)
    rw [k_Lo_countAll_1]
    by_cases hl0 : lo < 0
    · have e1 : ((zLm mv lo s : Nat) : Int) = 1 := by unfold zLm; rw [if_pos hl0]; rfl
      have hl0' : ¬ 0 ≤ lo := by omega
      have := inner v2 v3 v4
      rw [e1] at this
      simp (disch := first | omega | exact Nat.le_of_ble_eq_true rfl | assumption | (simp only [Int.natCast_add, Int.natCast_mul, Int.cast_ofNat_Int]; omega) | decide) only [k_Lo_countAll_2, k_Lo_countAll_3, x_aload, x_getf, w_goto, w_fall, w_iadd, w_iconst, w_if, w_icmp, x_iinc, x_iload, w_imul, x_istore, zadd_eq, zmul_eq, gf_36_0, gf_36_1, gf_36_4, gf_36_5, gf_3_0, gf_3_4, at_5, ao_5, pu_5, at_37, ao_37, pu_37, at_38, ao_38, pu_38, w_vret r_Lo_countAll, q_eq, q_ne, q_lt, q_ge, q_gt, q_le, g_I, g_L, g_R, g_V, t_0, t_I, t_R, t_U, t_L, t_s, List.getElem?_cons_zero, List.getElem?_cons_succ, Nat.reduceAdd, zif10, zif01b, zib, if_pos, if_neg, ↓reduceIte, not_true_eq_false, not_false_eq_true, Bool.true_eq_false, Bool.false_eq_true, Classical.not_not, eq_self, and_self, and_true, true_and, Int.reduceEq, Int.reduceLE, Int.reduceLT, Int.reduceNeg, Option.toList, List.cons_append, List.nil_append, zup_s, zup_n, zst_s, zup_zs, zup_zn, decide_true, decide_false, hC2.1, e36, hl0']
      exact this
    · have hl0' : 0 ≤ lo := by omega
      obtain ⟨p, rfl⟩ : ∃ p : Nat, lo = (p : Int) := ⟨lo.toNat, by omega⟩
      have e1 : zLm mv (p : Int) s = mv s p := by unfold zLm; rw [if_neg hl0, Int.toNat_natCast]
      have := inner v2 v3 v4
      rw [e1] at this
      simp (disch := first | omega | exact Nat.le_of_ble_eq_true rfl | assumption | (simp only [Int.natCast_add, Int.natCast_mul, Int.cast_ofNat_Int]; omega) | decide) only [k_Lo_countAll_2, k_Lo_countAll_4, x_aload, x_getf, w_goto, w_fall, w_iadd, w_iconst, w_if, w_icmp, x_iinc, x_iload, w_imul, x_istore, zadd_eq, zmul_eq, gf_36_0, gf_36_1, gf_36_4, gf_36_5, gf_3_0, gf_3_4, at_5, ao_5, pu_5, at_37, ao_37, pu_37, at_38, ao_38, pu_38, w_vret r_Lo_countAll, q_eq, q_ne, q_lt, q_ge, q_gt, q_le, g_I, g_L, g_R, g_V, t_0, t_I, t_R, t_U, t_L, t_s, List.getElem?_cons_zero, List.getElem?_cons_succ, Nat.reduceAdd, zif10, zif01b, zib, if_pos, if_neg, ↓reduceIte, not_true_eq_false, not_false_eq_true, Bool.true_eq_false, Bool.false_eq_true, Classical.not_not, eq_self, and_self, and_true, true_and, Int.reduceEq, Int.reduceLE, Int.reduceLT, Int.reduceNeg, Option.toList, List.cons_append, List.nil_append, zup_s, zup_n, zst_s, zup_zs, zup_zn, decide_true, decide_false, hC2.1, e36, hl0', c_Ne_movesOf hC2]
      exact this
  · rintro _ _ ⟨F, G, v2, v3, v4, rfl, rfl, hF, hF0, hG⟩
    have hC2 : zNetC S P mv tg (zst (zst M 37 F) 38 G) := hC
    rw [k_Lo_countAll_1]
    simp (disch := first | omega | exact Nat.le_of_ble_eq_true rfl | assumption | (simp only [Int.natCast_add, Int.natCast_mul, Int.cast_ofNat_Int]; omega) | decide) only [k_Lo_countAll_9, x_aload, x_getf, w_goto, w_fall, w_iadd, w_iconst, w_if, w_icmp, x_iinc, x_iload, w_imul, x_istore, zadd_eq, zmul_eq, gf_36_0, gf_36_1, gf_36_4, gf_36_5, gf_3_0, gf_3_4, at_5, ao_5, pu_5, at_37, ao_37, pu_37, at_38, ao_38, pu_38, w_vret r_Lo_countAll, q_eq, q_ne, q_lt, q_ge, q_gt, q_le, g_I, g_L, g_R, g_V, t_0, t_I, t_R, t_U, t_L, t_s, List.getElem?_cons_zero, List.getElem?_cons_succ, Nat.reduceAdd, zif10, zif01b, zib, if_pos, if_neg, ↓reduceIte, not_true_eq_false, not_false_eq_true, Bool.true_eq_false, Bool.false_eq_true, Classical.not_not, eq_self, and_self, and_true, true_and, Int.reduceEq, Int.reduceLE, Int.reduceLT, Int.reduceNeg, Option.toList, List.cons_append, List.nil_append, zup_s, zup_n, zst_s, zup_zs, zup_zn, decide_true, decide_false, hC2.1]
    exact ⟨F, G, rfl, hF, hG⟩
theorem c_Lo_countAll {d mi o b9 : Nat} {es : List zEnt} {L st : List zMV} {Q : Option zMV → (Nat → Int → Int) → Prop} (hN : zNet S P mv tg) (hC : zNetC S P mv tg M) (hK : zPkC 5 ch M) (hch : ∀ s p, ch s p < mv s p) (hlo : M 36 1 = lo) (hlr : -1 ≤ lo ∧ lo < P) (hd : 4 + 1 ≤ d) (hc : zcats st ≤ 8) (hpost : ∀ r M', (r = none ∧ ∃ F G, M' = zst (zst M 37 F) 38 G ∧ (∀ s t : Nat, s < S → t < 12 → F ((s : Int) * 12 + t) = zKc mv tg P ch lo s t) ∧ ∀ s : Nat, s < S → G (s : Int) = zLm mv lo s) → zW (zSH Ln) d mi es L (r.toList ++ st) M' Q) : zW (zSH Ln) d mi ((.invokevirtual o, 46, b9) :: es) L (zR 36 :: st) M Q :=
  w_callv (ps := []) (by omega) rfl rfl (by omega) (by exact sh_36 Ln) hc (Nat.le_of_ble_eq_true rfl) (F_Lo_countAll hN hC hK hch hlo hlr (by omega)) hpost
theorem F_Lo_countInto {d : Nat} {s : Nat} (hS : S ≤ 12) (hS3 : M 3 0 = S) (hc3 : ∀ t, c s t ≤ 3) (hs : s < S) (hCt : zCtC S c M) (hd : 1 ≤ d) : zF (zSH Ln) d i_Lo_countInto [zR 36, zI (s : Int), zI (zset S X)] M fun r M' => r = some (zI (zCi S c X s : Int)) ∧ M' = M := by
  rw [zF_en k_Lo_countInto_0 (L := [zR 36, zI (s : Int), zI (zset S X), zU, zU]) rfl]
  have hbd : ∀ t, t ≤ 12 → zSn t (fun u => if X u = true then c s u else 0) ≤ 36 := fun t ht => by
    have := zSn_le t (fun u => if X u = true then c s u else 0) 3 (fun u _ => by split; exact hc3 u; omega)
    omega
  simp (disch := first | omega | exact Nat.le_of_ble_eq_true rfl | assumption | (simp only [Int.natCast_add, Int.natCast_mul, Int.cast_ofNat_Int]; omega) | decide) only [x_aload, x_getf, w_goto, w_fall, w_iadd, w_iconst, w_if, w_icmp, x_iinc, x_iload, w_imul, x_istore, zadd_eq, zmul_eq, gf_36_0, gf_36_4, gf_3_0, at_37, ao_37, w_nret r_Lo_countInto, q_eq, q_ne, q_lt, q_ge, q_gt, q_le, g_I, g_L, g_R, g_V, t_0, t_I, t_R, t_U, t_L, t_s, List.getElem?_cons_zero, List.getElem?_cons_succ, Nat.reduceAdd, zif10, zif01b, zib, if_pos, if_neg, ↓reduceIte, not_true_eq_false, not_false_eq_true, Bool.true_eq_false, Bool.false_eq_true, Classical.not_not, eq_self, and_self, and_true, true_and, Int.reduceEq, Int.reduceLE, Int.reduceLT, Int.reduceNeg, Option.toList, List.cons_append, List.nil_append, zup_s, zup_n, zst_s, zup_zs, zup_zn, decide_true, decide_false]
  refine zfor (a := 0) (N := S) (b := 1) (fun t L0 M0 => L0 = [zR 36, zI (s : Int), zI (zset S X), zI (zSn t (fun u => if X u = true then c s u else 0) : Int), zI (t : Int)] ∧ M0 = M) ?_ ?_ ?_ ?_
  · exact Nat.zero_le _
  · exact ⟨rfl, rfl⟩
  · rintro t _ _ _ ht ⟨rfl, rfl⟩ ih
    have h1 := hbd t (by omega)
    have h2 := hCt s t hs (by omega)
    have h3 := hc3 t
    have nx : zSn (t + 1) (fun u => if X u = true then c s u else 0) = zSn t (fun u => if X u = true then c s u else 0) + if X t = true then c s t else 0 := rfl
    rw [k_Lo_countInto_1]
    cases hx : X t
    · simp (disch := first | omega | exact Nat.le_of_ble_eq_true rfl | assumption | (simp only [Int.natCast_add, Int.natCast_mul, Int.cast_ofNat_Int]; omega) | decide) only [k_Lo_countInto_2, k_Lo_countInto_4, x_aload, x_getf, w_goto, w_fall, w_iadd, w_iconst, w_if, w_icmp, x_iinc, x_iload, w_imul, x_istore, zadd_eq, zmul_eq, gf_36_0, gf_36_4, gf_3_0, at_37, ao_37, w_nret r_Lo_countInto, q_eq, q_ne, q_lt, q_ge, q_gt, q_le, g_I, g_L, g_R, g_V, t_0, t_I, t_R, t_U, t_L, t_s, List.getElem?_cons_zero, List.getElem?_cons_succ, Nat.reduceAdd, zif10, zif01b, zib, if_pos, if_neg, ↓reduceIte, not_true_eq_false, not_false_eq_true, Bool.true_eq_false, Bool.false_eq_true, Classical.not_not, eq_self, and_self, and_true, true_and, Int.reduceEq, Int.reduceLE, Int.reduceLT, Int.reduceNeg, Option.toList, List.cons_append, List.nil_append, zup_s, zup_n, zst_s, zup_zs, zup_zn, decide_true, decide_false, hS3, c_hasS, hx]
      refine ih _ _ ⟨?_, rfl⟩
      rw [nx, hx]; simp
    · simp (disch := first | omega | exact Nat.le_of_ble_eq_true rfl | assumption | (simp only [Int.natCast_add, Int.natCast_mul, Int.cast_ofNat_Int]; omega) | decide) only [k_Lo_countInto_2, k_Lo_countInto_3, k_Lo_countInto_4, x_aload, x_getf, w_goto, w_fall, w_iadd, w_iconst, w_if, w_icmp, x_iinc, x_iload, w_imul, x_istore, zadd_eq, zmul_eq, gf_36_0, gf_36_4, gf_3_0, at_37, ao_37, w_nret r_Lo_countInto, q_eq, q_ne, q_lt, q_ge, q_gt, q_le, g_I, g_L, g_R, g_V, t_0, t_I, t_R, t_U, t_L, t_s, List.getElem?_cons_zero, List.getElem?_cons_succ, Nat.reduceAdd, zif10, zif01b, zib, if_pos, if_neg, ↓reduceIte, not_true_eq_false, not_false_eq_true, Bool.true_eq_false, Bool.false_eq_true, Classical.not_not, eq_self, and_self, and_true, true_and, Int.reduceEq, Int.reduceLE, Int.reduceLT, Int.reduceNeg, Option.toList, List.cons_append, List.nil_append, zup_s, zup_n, zst_s, zup_zs, zup_zn, decide_true, decide_false, hS3, c_hasS, hx, h2]
      refine ih _ _ ⟨?_, rfl⟩
      rw [nx, hx]; simp
  · rintro _ _ ⟨rfl, rfl⟩
    rw [k_Lo_countInto_1]
    simp (disch := first | omega | exact Nat.le_of_ble_eq_true rfl | assumption | (simp only [Int.natCast_add, Int.natCast_mul, Int.cast_ofNat_Int]; omega) | decide) only [k_Lo_countInto_5, x_aload, x_getf, w_goto, w_fall, w_iadd, w_iconst, w_if, w_icmp, x_iinc, x_iload, w_imul, x_istore, zadd_eq, zmul_eq, gf_36_0, gf_36_4, gf_3_0, at_37, ao_37, w_nret r_Lo_countInto, q_eq, q_ne, q_lt, q_ge, q_gt, q_le, g_I, g_L, g_R, g_V, t_0, t_I, t_R, t_U, t_L, t_s, List.getElem?_cons_zero, List.getElem?_cons_succ, Nat.reduceAdd, zif10, zif01b, zib, if_pos, if_neg, ↓reduceIte, not_true_eq_false, not_false_eq_true, Bool.true_eq_false, Bool.false_eq_true, Classical.not_not, eq_self, and_self, and_true, true_and, Int.reduceEq, Int.reduceLE, Int.reduceLT, Int.reduceNeg, Option.toList, List.cons_append, List.nil_append, zup_s, zup_n, zst_s, zup_zs, zup_zn, decide_true, decide_false, hS3]
    rfl
theorem c_Lo_countInto {d mi o b9 : Nat} {es : List zEnt} {L st : List zMV} {Q : Option zMV → (Nat → Int → Int) → Prop} {s : Nat} (hS : S ≤ 12) (hS3 : M 3 0 = S) (hc3 : ∀ t, c s t ≤ 3) (hs : s < S) (hCt : zCtC S c M) (hd : 1 + 1 ≤ d) (hc : zcats st ≤ 8) : zW (zSH Ln) d mi ((.invokevirtual o, 48, b9) :: es) L (zI (zset S X) :: zI (s : Int) :: zR 36 :: st) M Q = zW (zSH Ln) d mi es L (zI (zCi S c X s : Int) :: st) (M) Q :=
  c_virt (ps := [zI (s : Int), zI (zset S X)]) (by omega) rfl rfl (by omega) (by exact sh_36 Ln) hc (Nat.le_of_ble_eq_true rfl) (F_Lo_countInto hS hS3 hc3 hs hCt (by omega))
end LO
