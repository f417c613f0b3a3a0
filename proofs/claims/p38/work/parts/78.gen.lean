/-! shapes that grow: what constructors call -/
def zShN (S : List zSh) : Prop := S[3]? = some (8, 9, [none, none, none, some 4, some 5, some 6, some 7, some 8, some 9]) ∧ S[4]? = some (0, 48, []) ∧ S[5]? = some (0, 48, []) ∧ S[6]? = some (0, 144, []) ∧ S[7]? = some (0, 972, []) ∧ S[8]? = some (0, 12, []) ∧ S[9]? = some (0, 48, [])
def zShF (S : List zSh) (b : Nat) : Prop := S[b]? = some (4, 6, [none, none, some (b + 1), some (b + 2), some (b + 3), some (b + 4)]) ∧ S[b + 1]? = some (0, 24, []) ∧ S[b + 2]? = some (0, 24, []) ∧ S[b + 3]? = some (0, 24, []) ∧ S[b + 4]? = some (0, 24, [])
section GN
variable {S9 : List zSh} {d mi o b9 b n : Nat} {es : List zEnt} {L st : List zMV} {M : Nat → Int → Int} {Q : Option zMV → (Nat → Int → Int) → Prop} {i v x : Int} {rs : List (Option Nat)}
theorem gpu {k : Nat} (hk : S9[k]? = some (0, n, rs)) (h2 : 2 ≤ k) (hd : 1 ≤ d) (hc : zcats st ≤ 8) (h0 : 0 ≤ i) (h1 : i < n) : zW S9 d mi ((.invokestatic o, 106, b9) :: es) L (zI v :: zI i :: zR k :: st) M Q = zW S9 d mi es L st (zup M k i v) Q := c_stat (r0 := none) (M0 := zup M k i v) (vs := [zR k, zI i, zI v]) hd rfl rfl hc (Nat.le_of_ble_eq_true rfl) (zW_mono (FN_put_F (i := i) hk h2) fun r M' h => by rw [if_pos ⟨h0, h1⟩] at h; exact h)
theorem n3_2 (h : zShN S9) : zgetf (S9, M) 3 5 2 = some (zI (M 3 2)) := by simp only [zgetf, h.1]; rfl
theorem n3_3 (h : zShN S9) : zgetf (S9, M) 3 5 3 = some (zR 4) := by simp only [zgetf, h.1]; rfl
theorem n3_4 (h : zShN S9) : zgetf (S9, M) 3 5 4 = some (zR 5) := by simp only [zgetf, h.1]; rfl
theorem n3_5 (h : zShN S9) : zgetf (S9, M) 3 5 5 = some (zR 6) := by simp only [zgetf, h.1]; rfl
theorem n3_6 (h : zShN S9) : zgetf (S9, M) 3 5 6 = some (zR 7) := by simp only [zgetf, h.1]; rfl
theorem n3_7 (h : zShN S9) : zgetf (S9, M) 3 5 7 = some (zR 8) := by simp only [zgetf, h.1]; rfl
theorem n3_8 (h : zShN S9) : zgetf (S9, M) 3 5 8 = some (zR 9) := by simp only [zgetf, h.1]; rfl
theorem xn3_0 (h : zShN S9) : zW S9 d mi ((.putfield o, 5, 0) :: es) L (zI x :: zR 3 :: st) M Q = zW S9 d mi es L st (zup M 3 0 x) Q := x_putf (by simp only [zputf, h.1]; rfl)
theorem xn3_1 (h : zShN S9) : zW S9 d mi ((.putfield o, 5, 1) :: es) L (zI x :: zR 3 :: st) M Q = zW S9 d mi es L st (zup M 3 1 x) Q := x_putf (by simp only [zputf, h.1]; rfl)
theorem xn3_2 (h : zShN S9) : zW S9 d mi ((.putfield o, 5, 2) :: es) L (zI x :: zR 3 :: st) M Q = zW S9 d mi es L st (zup M 3 2 x) Q := x_putf (by simp only [zputf, h.1]; rfl)
theorem zfo_pf {k ci j r nn : Nat} {rs : List (Option Nat)} (h : S9[k]? = some (3 + ci, nn, rs)) (hj : j < znf ci) (ht : zfty ci j = 3) (hr : rs[j]? = some (some r)) : zgetf (S9, M) k ci j = some (zR r) := by
  simp only [zgetf, h, ht, hr]
  rw [if_pos ⟨trivial, hj⟩]
theorem zfo_nf {k ci j nn : Nat} {rs : List (Option Nat)} (h : S9[k]? = some (3 + ci, nn, rs)) (hj : j < znf ci) (ht : zfty ci j = 0) : zgetf (S9, M) k ci j = some (zI (M k j)) := by
  simp only [zgetf, h, ht]
  rw [if_pos ⟨trivial, hj⟩]
theorem zfo_xf {k ci j nn : Nat} {rs : List (Option Nat)} (h : S9[k]? = some (3 + ci, nn, rs)) (hj : j < znf ci) (ht : zfty ci j = 0) (h2 : 2 ≤ k) : zputf (S9, M) k ci j (zI x) = some (S9, zup M k j x) := by
  simp only [zputf, h, ht]
  rw [if_pos ⟨trivial, hj, h2⟩]
theorem nf_0 (h : zShF S9 b) : zgetf (S9, M) b 1 0 = some (zI (M b 0)) := zfo_nf h.1 (by decide) rfl
theorem nf_1 (h : zShF S9 b) : zgetf (S9, M) b 1 1 = some (zI (M b 1)) := zfo_nf h.1 (by decide) rfl
theorem nf_2 (h : zShF S9 b) : zgetf (S9, M) b 1 2 = some (zR (b + 1)) := zfo_pf h.1 (by decide) rfl rfl
theorem nf_3 (h : zShF S9 b) : zgetf (S9, M) b 1 3 = some (zR (b + 2)) := zfo_pf h.1 (by decide) rfl rfl
theorem nf_4 (h : zShF S9 b) : zgetf (S9, M) b 1 4 = some (zR (b + 3)) := zfo_pf h.1 (by decide) rfl rfl
theorem nf_5 (h : zShF S9 b) : zgetf (S9, M) b 1 5 = some (zR (b + 4)) := zfo_pf h.1 (by decide) rfl rfl
theorem xnf_0 (h : zShF S9 b) (h2 : 2 ≤ b) : zW S9 d mi ((.putfield o, 1, 0) :: es) L (zI x :: zR b :: st) M Q = zW S9 d mi es L st (zup M b 0 x) Q := x_putf (zfo_xf h.1 (by decide) rfl h2)
theorem xnf_1 (h : zShF S9 b) (h2 : 2 ≤ b) : zW S9 d mi ((.putfield o, 1, 1) :: es) L (zI x :: zR b :: st) M Q = zW S9 d mi es L st (zup M b 1 x) Q := x_putf (zfo_xf h.1 (by decide) rfl h2)
end GN
section GN2
variable {S9 : List zSh} {M : Nat → Int → Int}
theorem F_JA_fillG {d : Nat} {k n : Nat} {rs : List (Option Nat)} {v : Int} (hk : S9[k]? = some (0, n, rs)) (h2 : 2 ≤ k) (hn : n < 2000000000) (hd : 0 ≤ d) : zF S9 d i_JA_fill [zR k, zI v] M fun r M' => r = none ∧ M' = zst M k (zrng (M k) 0 n v) := by
  rw [zF_en k_JA_fill_0 (L := [zR k, zI v, zU, zU]) rfl]
  simp (disch := first | omega | exact Nat.le_of_ble_eq_true rfl | assumption | (simp only [Int.natCast_add, Int.natCast_mul, Int.cast_ofNat_Int]; omega) | decide) only [x_aload, w_goto, w_fall, w_iconst, w_icmp, x_iinc, x_iload, x_istore, zadd_eq, w_vret r_JA_fill, q_eq, q_ne, q_lt, q_ge, q_gt, q_le, g_I, g_L, g_R, g_V, t_0, t_I, t_R, t_U, t_L, t_s, List.getElem?_cons_zero, List.getElem?_cons_succ, Nat.reduceAdd, zif10, zif01b, zib, if_pos, if_neg, ↓reduceIte, not_true_eq_false, not_false_eq_true, Bool.true_eq_false, Bool.false_eq_true, Classical.not_not, eq_self, and_self, and_true, true_and, Int.reduceEq, Int.reduceLE, Int.reduceLT, Int.reduceNeg, Option.toList, List.cons_append, List.nil_append, zup_s, zup_n, zst_s, zup_zs, zup_zn, decide_true, decide_false, w_alen hk]
  refine zfor (a := 0) (N := n) (b := 1) (fun p L0 M0 => L0 = [zR k, zI v, zI (p : Int), zI (n : Int)] ∧ M0 = zst M k (zrng (M k) 0 p v)) ?_ ?_ ?_ ?_
  · exact Nat.zero_le _
  · exact ⟨rfl, by rw [zrng_0, zst_id]⟩
  · rintro p _ _ _ hp ⟨rfl, rfl⟩ ih
    rw [k_JA_fill_1]
    simp (disch := first | omega | exact Nat.le_of_ble_eq_true rfl | assumption | (simp only [Int.natCast_add, Int.natCast_mul, Int.cast_ofNat_Int]; omega) | decide) only [k_JA_fill_2, x_aload, w_goto, w_fall, w_iconst, w_icmp, x_iinc, x_iload, x_istore, zadd_eq, w_vret r_JA_fill, q_eq, q_ne, q_lt, q_ge, q_gt, q_le, g_I, g_L, g_R, g_V, t_0, t_I, t_R, t_U, t_L, t_s, List.getElem?_cons_zero, List.getElem?_cons_succ, Nat.reduceAdd, zif10, zif01b, zib, if_pos, if_neg, ↓reduceIte, not_true_eq_false, not_false_eq_true, Bool.true_eq_false, Bool.false_eq_true, Classical.not_not, eq_self, and_self, and_true, true_and, Int.reduceEq, Int.reduceLE, Int.reduceLT, Int.reduceNeg, Option.toList, List.cons_append, List.nil_append, zup_s, zup_n, zst_s, zup_zs, zup_zn, decide_true, decide_false, w_iast hk h2 (show 0 ≤ (p : Int) by omega) (show (p : Int) < n by omega)]
    refine ih _ _ ⟨rfl, ?_⟩
    rw [zrng_up2 (by omega)]
  · rintro _ _ ⟨rfl, rfl⟩
    rw [k_JA_fill_1]
    simp (disch := first | omega | exact Nat.le_of_ble_eq_true rfl | assumption | (simp only [Int.natCast_add, Int.natCast_mul, Int.cast_ofNat_Int]; omega) | decide) only [k_JA_fill_3, x_aload, w_goto, w_fall, w_iconst, w_icmp, x_iinc, x_iload, x_istore, zadd_eq, w_vret r_JA_fill, q_eq, q_ne, q_lt, q_ge, q_gt, q_le, g_I, g_L, g_R, g_V, t_0, t_I, t_R, t_U, t_L, t_s, List.getElem?_cons_zero, List.getElem?_cons_succ, Nat.reduceAdd, zif10, zif01b, zib, if_pos, if_neg, ↓reduceIte, not_true_eq_false, not_false_eq_true, Bool.true_eq_false, Bool.false_eq_true, Classical.not_not, eq_self, and_self, and_true, true_and, Int.reduceEq, Int.reduceLE, Int.reduceLT, Int.reduceNeg, Option.toList, List.cons_append, List.nil_append, zup_s, zup_n, zst_s, zup_zs, zup_zn, decide_true, decide_false]
theorem c_JA_fillG {d mi o b9 : Nat} {es : List zEnt} {L st : List zMV} {Q : Option zMV → (Nat → Int → Int) → Prop} {k n : Nat} {rs : List (Option Nat)} {v : Int} (hk : S9[k]? = some (0, n, rs)) (h2 : 2 ≤ k) (hn : n < 2000000000) (hd : 0 + 1 ≤ d) (hc : zcats st ≤ 8) (hpost : ∀ r M', (r = none ∧ M' = zst M k (zrng (M k) 0 n v)) → zW S9 d mi es L (r.toList ++ st) M' Q) : zW S9 d mi ((.invokestatic o, 111, b9) :: es) L (zI v :: zR k :: st) M Q :=
  w_calls (vs := [zR k, zI v]) (by omega) rfl rfl hc (Nat.le_of_ble_eq_true rfl) (F_JA_fillG hk h2 hn (by omega)) hpost
theorem F_Ne_leadBackG {d : Nat} {s : Nat} (hS : zShN S9) (hs : s < 12) (hd : 1 ≤ d) : zF S9 d i_Ne_leadBack [zR 3, zI (s : Int)] M fun r M' => r = none ∧ M' = zst (zst (zst M 7 (zrng (M 7) (s * 81) 81 s)) 5 (zrng (M 5) (s * 4) 4 0)) 6 (zrng (M 6) (s * 12) 12 0) := by
  rw [zF_en k_Ne_leadBack_0 (L := [zR 3, zI (s : Int), zU]) rfl]
  have h5 := hS.2.2.1
  have h6 := hS.2.2.2.1
  have h7 := hS.2.2.2.2.1
  simp (disch := first | omega | exact Nat.le_of_ble_eq_true rfl | assumption | (simp only [Int.natCast_add, Int.natCast_mul, Int.cast_ofNat_Int]; omega) | decide) only [x_aload, x_getf, w_goto, w_fall, w_iadd, w_iconst, w_icmp, x_iinc, x_iload, w_imul, x_istore, zadd_eq, zmul_eq, gf_3_4, gf_3_5, gf_3_6, pu_5, pu_6, pu_7, w_vret r_Ne_leadBack, q_eq, q_ne, q_lt, q_ge, q_gt, q_le, g_I, g_L, g_R, g_V, t_0, t_I, t_R, t_U, t_L, t_s, List.getElem?_cons_zero, List.getElem?_cons_succ, Nat.reduceAdd, zif10, zif01b, zib, if_pos, if_neg, ↓reduceIte, not_true_eq_false, not_false_eq_true, Bool.true_eq_false, Bool.false_eq_true, Classical.not_not, eq_self, and_self, and_true, true_and, Int.reduceEq, Int.reduceLE, Int.reduceLT, Int.reduceNeg, Option.toList, List.cons_append, List.nil_append, zup_s, zup_n, zst_s, zup_zs, zup_zn, decide_true, decide_false, n3_4 hS, n3_5 hS, n3_6 hS]
  refine zfor (a := 0) (N := 81) (b := 1) (fun p L0 M0 => L0 = [zR 3, zI s, zI (p : Int)] ∧ M0 = zst M 7 (zrng (M 7) (s * 81) p s)) ?_ ?_ ?_ ?_
  · exact Nat.zero_le _
  · exact ⟨rfl, by rw [zrng_0, zst_id]⟩
  · rintro p _ _ _ hp ⟨rfl, rfl⟩ ih
    rw [k_Ne_leadBack_1]
    simp (disch := first | omega | exact Nat.le_of_ble_eq_true rfl | assumption | (simp only [Int.natCast_add, Int.natCast_mul, Int.cast_ofNat_Int]; omega) | decide) only [k_Ne_leadBack_2, x_aload, x_getf, w_goto, w_fall, w_iadd, w_iconst, w_icmp, x_iinc, x_iload, w_imul, x_istore, zadd_eq, zmul_eq, gf_3_4, gf_3_5, gf_3_6, pu_5, pu_6, pu_7, w_vret r_Ne_leadBack, q_eq, q_ne, q_lt, q_ge, q_gt, q_le, g_I, g_L, g_R, g_V, t_0, t_I, t_R, t_U, t_L, t_s, List.getElem?_cons_zero, List.getElem?_cons_succ, Nat.reduceAdd, zif10, zif01b, zib, if_pos, if_neg, ↓reduceIte, not_true_eq_false, not_false_eq_true, Bool.true_eq_false, Bool.false_eq_true, Classical.not_not, eq_self, and_self, and_true, true_and, Int.reduceEq, Int.reduceLE, Int.reduceLT, Int.reduceNeg, Option.toList, List.cons_append, List.nil_append, zup_s, zup_n, zst_s, zup_zs, zup_zn, decide_true, decide_false, n3_4 hS, n3_5 hS, n3_6 hS, gpu h7]
    refine ih _ _ ⟨rfl, ?_⟩
    rw [zrng_up2 (by omega)]
  · rintro _ _ ⟨rfl, rfl⟩
    rw [k_Ne_leadBack_1]
    simp (disch := first | omega | exact Nat.le_of_ble_eq_true rfl | assumption | (simp only [Int.natCast_add, Int.natCast_mul, Int.cast_ofNat_Int]; omega) | decide) only [k_Ne_leadBack_3, x_aload, x_getf, w_goto, w_fall, w_iadd, w_iconst, w_icmp, x_iinc, x_iload, w_imul, x_istore, zadd_eq, zmul_eq, gf_3_4, gf_3_5, gf_3_6, pu_5, pu_6, pu_7, w_vret r_Ne_leadBack, q_eq, q_ne, q_lt, q_ge, q_gt, q_le, g_I, g_L, g_R, g_V, t_0, t_I, t_R, t_U, t_L, t_s, List.getElem?_cons_zero, List.getElem?_cons_succ, Nat.reduceAdd, zif10, zif01b, zib, if_pos, if_neg, ↓reduceIte, not_true_eq_false, not_false_eq_true, Bool.true_eq_false, Bool.false_eq_true, Classical.not_not, eq_self, and_self, and_true, true_and, Int.reduceEq, Int.reduceLE, Int.reduceLT, Int.reduceNeg, Option.toList, List.cons_append, List.nil_append, zup_s, zup_n, zst_s, zup_zs, zup_zn, decide_true, decide_false, n3_4 hS, n3_5 hS, n3_6 hS]
    refine zfor (a := 0) (N := 4) (b := 4) (fun p L0 M0 => L0 = [zR 3, zI s, zI (p : Int)] ∧ M0 = zst (zst M 7 (zrng (M 7) (s * 81) 81 s)) 5 (zrng (M 5) (s * 4) p 0)) ?_ ?_ ?_ ?_
    · exact Nat.zero_le _
    · refine ⟨rfl, ?_⟩
      rw [zrng_0]
      exact (zst_id _ 5).symm
    · rintro p _ _ _ hp ⟨rfl, rfl⟩ ih
      rw [k_Ne_leadBack_4]
      simp (disch := first | omega | exact Nat.le_of_ble_eq_true rfl | assumption | (simp only [Int.natCast_add, Int.natCast_mul, Int.cast_ofNat_Int]; omega) | decide) only [k_Ne_leadBack_5, x_aload, x_getf, w_goto, w_fall, w_iadd, w_iconst, w_icmp, x_iinc, x_iload, w_imul, x_istore, zadd_eq, zmul_eq, gf_3_4, gf_3_5, gf_3_6, pu_5, pu_6, pu_7, w_vret r_Ne_leadBack, q_eq, q_ne, q_lt, q_ge, q_gt, q_le, g_I, g_L, g_R, g_V, t_0, t_I, t_R, t_U, t_L, t_s, List.getElem?_cons_zero, List.getElem?_cons_succ, Nat.reduceAdd, zif10, zif01b, zib, if_pos, if_neg, ↓reduceIte, not_true_eq_false, not_false_eq_true, Bool.true_eq_false, Bool.false_eq_true, Classical.not_not, eq_self, and_self, and_true, true_and, Int.reduceEq, Int.reduceLE, Int.reduceLT, Int.reduceNeg, Option.toList, List.cons_append, List.nil_append, zup_s, zup_n, zst_s, zup_zs, zup_zn, decide_true, decide_false, n3_4 hS, n3_5 hS, n3_6 hS, gpu h5]
      refine ih _ _ ⟨rfl, ?_⟩
      rw [zrng_up2 (by omega)]
    · rintro _ _ ⟨rfl, rfl⟩
      rw [k_Ne_leadBack_4]
      simp (disch := first | omega | exact Nat.le_of_ble_eq_true rfl | assumption | (simp only [Int.natCast_add, Int.natCast_mul, Int.cast_ofNat_Int]; omega) | decide) only [k_Ne_leadBack_6, x_aload, x_getf, w_goto, w_fall, w_iadd, w_iconst, w_icmp, x_iinc, x_iload, w_imul, x_istore, zadd_eq, zmul_eq, gf_3_4, gf_3_5, gf_3_6, pu_5, pu_6, pu_7, w_vret r_Ne_leadBack, q_eq, q_ne, q_lt, q_ge, q_gt, q_le, g_I, g_L, g_R, g_V, t_0, t_I, t_R, t_U, t_L, t_s, List.getElem?_cons_zero, List.getElem?_cons_succ, Nat.reduceAdd, zif10, zif01b, zib, if_pos, if_neg, ↓reduceIte, not_true_eq_false, not_false_eq_true, Bool.true_eq_false, Bool.false_eq_true, Classical.not_not, eq_self, and_self, and_true, true_and, Int.reduceEq, Int.reduceLE, Int.reduceLT, Int.reduceNeg, Option.toList, List.cons_append, List.nil_append, zup_s, zup_n, zst_s, zup_zs, zup_zn, decide_true, decide_false, n3_4 hS, n3_5 hS, n3_6 hS]
      refine zfor (a := 0) (N := 12) (b := 7) (fun p L0 M0 => L0 = [zR 3, zI s, zI (p : Int)] ∧ M0 = zst (zst (zst M 7 (zrng (M 7) (s * 81) 81 s)) 5 (zrng (M 5) (s * 4) 4 0)) 6 (zrng (M 6) (s * 12) p 0)) ?_ ?_ ?_ ?_
      · exact Nat.zero_le _
      · refine ⟨rfl, ?_⟩
        rw [zrng_0]
        exact (zst_id _ 6).symm
      · rintro p _ _ _ hp ⟨rfl, rfl⟩ ih
        rw [k_Ne_leadBack_7]
        simp (disch := first | omega | exact Nat.le_of_ble_eq_true rfl | assumption | (simp only [Int.natCast_add, Int.natCast_mul, Int.cast_ofNat_Int]; omega) | decide) only [k_Ne_leadBack_8, x_aload, x_getf, w_goto, w_fall, w_iadd, w_iconst, w_icmp, x_iinc, x_iload, w_imul, x_istore, zadd_eq, zmul_eq, gf_3_4, gf_3_5, gf_3_6, pu_5, pu_6, pu_7, w_vret r_Ne_leadBack, q_eq, q_ne, q_lt, q_ge, q_gt, q_le, g_I, g_L, g_R, g_V, t_0, t_I, t_R, t_U, t_L, t_s, List.getElem?_cons_zero, List.getElem?_cons_succ, Nat.reduceAdd, zif10, zif01b, zib, if_pos, if_neg, ↓reduceIte, not_true_eq_false, not_false_eq_true, Bool.true_eq_false, Bool.false_eq_true, Classical.not_not, eq_self, and_self, and_true, true_and, Int.reduceEq, Int.reduceLE, Int.reduceLT, Int.reduceNeg, Option.toList, List.cons_append, List.nil_append, zup_s, zup_n, zst_s, zup_zs, zup_zn, decide_true, decide_false, n3_4 hS, n3_5 hS, n3_6 hS, gpu h6]
        refine ih _ _ ⟨rfl, ?_⟩
        rw [zrng_up2 (by omega)]
      · rintro _ _ ⟨rfl, rfl⟩
        rw [k_Ne_leadBack_7]
        simp (disch := first | omega | exact Nat.le_of_ble_eq_true rfl | assumption | (simp only [Int.natCast_add, Int.natCast_mul, Int.cast_ofNat_Int]; omega) | decide) only [k_Ne_leadBack_9, x_aload, x_getf, w_goto, w_fall, w_iadd, w_iconst, w_icmp, x_iinc, x_iload, w_imul, x_istore, zadd_eq, zmul_eq, gf_3_4, gf_3_5, gf_3_6, pu_5, pu_6, pu_7, w_vret r_Ne_leadBack, q_eq, q_ne, q_lt, q_ge, q_gt, q_le, g_I, g_L, g_R, g_V, t_0, t_I, t_R, t_U, t_L, t_s, List.getElem?_cons_zero, List.getElem?_cons_succ, Nat.reduceAdd, zif10, zif01b, zib, if_pos, if_neg, ↓reduceIte, not_true_eq_false, not_false_eq_true, Bool.true_eq_false, Bool.false_eq_true, Classical.not_not, eq_self, and_self, and_true, true_and, Int.reduceEq, Int.reduceLE, Int.reduceLT, Int.reduceNeg, Option.toList, List.cons_append, List.nil_append, zup_s, zup_n, zst_s, zup_zs, zup_zn, decide_true, decide_false]
theorem c_Ne_leadBackG {d mi o b9 : Nat} {es : List zEnt} {L st : List zMV} {Q : Option zMV → (Nat → Int → Int) → Prop} {s : Nat} (hS : zShN S9) (hs : s < 12) (hd : 1 + 1 ≤ d) (hc : zcats st ≤ 8) : zW S9 d mi ((.invokevirtual o, 29, b9) :: es) L (zI (s : Int) :: zR 3 :: st) M Q = zW S9 d mi es L (st) (zst (zst (zst M 7 (zrng (M 7) (s * 81) 81 s)) 5 (zrng (M 5) (s * 4) 4 0)) 6 (zrng (M 6) (s * 12) 12 0)) Q :=
  c_virt (ps := [zI (s : Int)]) (by omega) rfl rfl (by omega) hS.1 hc (Nat.le_of_ble_eq_true rfl) (F_Ne_leadBackG hS hs (by omega))
theorem F_Ne_begin {d : Nat} {s p : Int} (hS : zShN S9) (hd : 2 ≤ d) : zF S9 d i_Ne_begin [zR 3, zI s, zI p] M fun r M' => r = none ∧ zKp [3, 4, 5, 6, 7, 8, 9] M M' ∧ (M' 3 0 = s ∧ M' 3 1 = p ∧ M' 3 2 = zadd (M 3 2) 1) ∧ (∀ x : Int, 0 ≤ x → x < 48 → M' 4 x = 1 ∧ M' 5 x = 0) ∧ (∀ x : Int, 0 ≤ x → x < 144 → M' 6 x = 0) ∧ (∀ t j : Nat, t < 12 → j < 81 → M' 7 ((t : Int) * 81 + j) = t) ∧ (∀ x : Int, 0 ≤ x → x < 12 → M' 8 x = 0) ∧ ∀ q t : Nat, q < 4 → t < 12 → M' 9 ((q : Int) * 12 + t) = t := by
  rw [zF_en k_Ne_begin_0 (L := [zR 3, zI s, zI p, zU, zU]) rfl]
  have h4 := hS.2.1
  have h8 := hS.2.2.2.2.2.1
  have h9 := hS.2.2.2.2.2.2
  simp (disch := first | omega | exact Nat.le_of_ble_eq_true rfl | assumption | (simp only [Int.natCast_add, Int.natCast_mul, Int.cast_ofNat_Int]; omega) | decide) only [x_aload, w_dupI, w_dupR, x_getf, w_goto, w_fall, w_iadd, w_iconst, w_icmp, x_iinc, x_iload, w_imul, x_istore, zadd_eq, zmul_eq, gf_3_2, gf_3_3, gf_3_7, gf_3_8, xp_3_0, xp_3_1, xp_3_2, pu_4, pu_8, pu_9, w_vret r_Ne_begin, q_eq, q_ne, q_lt, q_ge, q_gt, q_le, g_I, g_L, g_R, g_V, t_0, t_I, t_R, t_U, t_L, t_s, List.getElem?_cons_zero, List.getElem?_cons_succ, Nat.reduceAdd, zif10, zif01b, zib, if_pos, if_neg, ↓reduceIte, not_true_eq_false, not_false_eq_true, Bool.true_eq_false, Bool.false_eq_true, Classical.not_not, eq_self, and_self, and_true, true_and, Int.reduceEq, Int.reduceLE, Int.reduceLT, Int.reduceNeg, Option.toList, List.cons_append, List.nil_append, zup_s, zup_n, zst_s, zup_zs, zup_zn, decide_true, decide_false, xn3_0 hS, xn3_1 hS, n3_3 hS]
  refine c_JA_fillG h4 (by omega) (by omega) (by omega) (Nat.le_of_ble_eq_true rfl) ?_
  rintro _ _ ⟨rfl, rfl⟩
  simp (disch := first | omega | exact Nat.le_of_ble_eq_true rfl | assumption | (simp only [Int.natCast_add, Int.natCast_mul, Int.cast_ofNat_Int]; omega) | decide) only [x_aload, w_dupI, w_dupR, x_getf, w_goto, w_fall, w_iadd, w_iconst, w_icmp, x_iinc, x_iload, w_imul, x_istore, zadd_eq, zmul_eq, gf_3_2, gf_3_3, gf_3_7, gf_3_8, xp_3_0, xp_3_1, xp_3_2, pu_4, pu_8, pu_9, w_vret r_Ne_begin, q_eq, q_ne, q_lt, q_ge, q_gt, q_le, g_I, g_L, g_R, g_V, t_0, t_I, t_R, t_U, t_L, t_s, List.getElem?_cons_zero, List.getElem?_cons_succ, Nat.reduceAdd, zif10, zif01b, zib, if_pos, if_neg, ↓reduceIte, not_true_eq_false, not_false_eq_true, Bool.true_eq_false, Bool.false_eq_true, Classical.not_not, eq_self, and_self, and_true, true_and, Int.reduceEq, Int.reduceLE, Int.reduceLT, Int.reduceNeg, Option.toList, List.cons_append, List.nil_append, zup_s, zup_n, zst_s, zup_zs, zup_zn, decide_true, decide_false, n3_7 hS]
  refine c_JA_fillG h8 (by omega) (by omega) (by omega) (Nat.le_of_ble_eq_true rfl) ?_
  rintro _ _ ⟨rfl, rfl⟩
  simp (disch := first | omega | exact Nat.le_of_ble_eq_true rfl | assumption | (simp only [Int.natCast_add, Int.natCast_mul, Int.cast_ofNat_Int]; omega) | decide) only [x_aload, w_dupI, w_dupR, x_getf, w_goto, w_fall, w_iadd, w_iconst, w_icmp, x_iinc, x_iload, w_imul, x_istore, zadd_eq, zmul_eq, gf_3_2, gf_3_3, gf_3_7, gf_3_8, xp_3_0, xp_3_1, xp_3_2, pu_4, pu_8, pu_9, w_vret r_Ne_begin, q_eq, q_ne, q_lt, q_ge, q_gt, q_le, g_I, g_L, g_R, g_V, t_0, t_I, t_R, t_U, t_L, t_s, List.getElem?_cons_zero, List.getElem?_cons_succ, Nat.reduceAdd, zif10, zif01b, zib, if_pos, if_neg, ↓reduceIte, not_true_eq_false, not_false_eq_true, Bool.true_eq_false, Bool.false_eq_true, Classical.not_not, eq_self, and_self, and_true, true_and, Int.reduceEq, Int.reduceLE, Int.reduceLT, Int.reduceNeg, Option.toList, List.cons_append, List.nil_append, zup_s, zup_n, zst_s, zup_zs, zup_zn, decide_true, decide_false]
  refine zfor (a := 0) (N := 12) (b := 1) (fun t L0 M0 => ∃ M2 u4, L0 = [zR 3, zI s, zI p, zI (t : Int), u4] ∧ M0 = M2 ∧ (zKp [3, 4, 5, 6, 7, 8, 9] M M2 ∧ (M2 3 0 = s ∧ M2 3 1 = p ∧ M2 3 2 = M 3 2) ∧ (∀ x : Int, 0 ≤ x → x < 48 → M2 4 x = 1) ∧ (∀ x : Int, 0 ≤ x → x < 12 → M2 8 x = 0) ∧ (∀ x : Int, 0 ≤ x → x < (t : Int) * 4 → M2 5 x = 0) ∧ (∀ x : Int, 0 ≤ x → x < (t : Int) * 12 → M2 6 x = 0) ∧ (∀ u j : Nat, u < t → j < 81 → M2 7 ((u : Int) * 81 + j) = u) ∧ ∀ q u : Nat, q < 4 → u < t → M2 9 ((q : Int) * 12 + u) = u)) ?_ ?_ ?_ ?_
  · exact Nat.zero_le _
  · refine ⟨_, zU, rfl, rfl, ?_, ⟨rfl, rfl, rfl⟩, fun x a b => ?_, fun x a b => ?_, fun x a b => by omega, fun x a b => by omega, fun u j a b => by omega, fun q u a b => by omega⟩
    · repeat (first | exact zKp_rf _ _ | refine zKp_st (by decide) ?_ | refine zKp_up (by decide) ?_)
    · show zrng _ 0 48 1 x = 1
      exact zrng_in (by omega)
    · show zrng _ 0 12 0 x = 0
      exact zrng_in (by omega)
  · rintro t _ M2 _ ht ⟨_, u4, rfl, rfl, kk, a3, a4, a8, a5, a6, a7, a9⟩ ih
    rw [k_Ne_begin_1]
    simp (disch := first | omega | exact Nat.le_of_ble_eq_true rfl | assumption | (simp only [Int.natCast_add, Int.natCast_mul, Int.cast_ofNat_Int]; omega) | decide) only [k_Ne_begin_2, x_aload, w_dupI, w_dupR, x_getf, w_goto, w_fall, w_iadd, w_iconst, w_icmp, x_iinc, x_iload, w_imul, x_istore, zadd_eq, zmul_eq, gf_3_2, gf_3_3, gf_3_7, gf_3_8, xp_3_0, xp_3_1, xp_3_2, pu_4, pu_8, pu_9, w_vret r_Ne_begin, q_eq, q_ne, q_lt, q_ge, q_gt, q_le, g_I, g_L, g_R, g_V, t_0, t_I, t_R, t_U, t_L, t_s, List.getElem?_cons_zero, List.getElem?_cons_succ, Nat.reduceAdd, zif10, zif01b, zib, if_pos, if_neg, ↓reduceIte, not_true_eq_false, not_false_eq_true, Bool.true_eq_false, Bool.false_eq_true, Classical.not_not, eq_self, and_self, and_true, true_and, Int.reduceEq, Int.reduceLE, Int.reduceLT, Int.reduceNeg, Option.toList, List.cons_append, List.nil_append, zup_s, zup_n, zst_s, zup_zs, zup_zn, decide_true, decide_false, c_Ne_leadBackG hS]
    refine zfor (a := 0) (N := 4) (b := 3) (fun q L0 M0 => ∃ M3, L0 = [zR 3, zI s, zI p, zI (t : Int), zI (q : Int)] ∧ M0 = M3 ∧ (zKp [9] (zst (zst (zst M2 7 (zrng (M2 7) (t * 81) 81 t)) 5 (zrng (M2 5) (t * 4) 4 0)) 6 (zrng (M2 6) (t * 12) 12 0)) M3 ∧ (∀ q' u : Nat, q' < 4 → u < t → M3 9 ((q' : Int) * 12 + u) = u) ∧ ∀ q' : Nat, q' < q → M3 9 ((q' : Int) * 12 + t) = t)) ?_ ?_ ?_ ?_
    · exact Nat.zero_le _
    · exact ⟨_, rfl, rfl, zKp_rf _ _, a9, fun q' h => by omega⟩
    · rintro q _ M3 _ hq ⟨_, rfl, rfl, b1, b2, b3⟩ ih2
      rw [k_Ne_begin_3]
      simp (disch := first | omega | exact Nat.le_of_ble_eq_true rfl | assumption | (simp only [Int.natCast_add, Int.natCast_mul, Int.cast_ofNat_Int]; omega) | decide) only [k_Ne_begin_4, x_aload, w_dupI, w_dupR, x_getf, w_goto, w_fall, w_iadd, w_iconst, w_icmp, x_iinc, x_iload, w_imul, x_istore, zadd_eq, zmul_eq, gf_3_2, gf_3_3, gf_3_7, gf_3_8, xp_3_0, xp_3_1, xp_3_2, pu_4, pu_8, pu_9, w_vret r_Ne_begin, q_eq, q_ne, q_lt, q_ge, q_gt, q_le, g_I, g_L, g_R, g_V, t_0, t_I, t_R, t_U, t_L, t_s, List.getElem?_cons_zero, List.getElem?_cons_succ, Nat.reduceAdd, zif10, zif01b, zib, if_pos, if_neg, ↓reduceIte, not_true_eq_false, not_false_eq_true, Bool.true_eq_false, Bool.false_eq_true, Classical.not_not, eq_self, and_self, and_true, true_and, Int.reduceEq, Int.reduceLE, Int.reduceLT, Int.reduceNeg, Option.toList, List.cons_append, List.nil_append, zup_s, zup_n, zst_s, zup_zs, zup_zn, decide_true, decide_false, n3_8 hS, gpu h9]
      refine ih2 _ _ ⟨_, rfl, rfl, zKp_up (by decide) b1, fun q' u h1 h2 => ?_, fun q' h => ?_⟩
      · rw [zup_d (by omega)]; exact b2 q' u h1 h2
      · by_cases e : q' = q
        · subst e; rw [zup_s]
        · rw [zup_d (by omega)]; exact b3 q' (by omega)
    · rintro _ M3 ⟨_, rfl, rfl, b1, b2, b3⟩
      rw [k_Ne_begin_3]
      simp (disch := first | omega | exact Nat.le_of_ble_eq_true rfl | assumption | (simp only [Int.natCast_add, Int.natCast_mul, Int.cast_ofNat_Int]; omega) | decide) only [k_Ne_begin_5, x_aload, w_dupI, w_dupR, x_getf, w_goto, w_fall, w_iadd, w_iconst, w_icmp, x_iinc, x_iload, w_imul, x_istore, zadd_eq, zmul_eq, gf_3_2, gf_3_3, gf_3_7, gf_3_8, xp_3_0, xp_3_1, xp_3_2, pu_4, pu_8, pu_9, w_vret r_Ne_begin, q_eq, q_ne, q_lt, q_ge, q_gt, q_le, g_I, g_L, g_R, g_V, t_0, t_I, t_R, t_U, t_L, t_s, List.getElem?_cons_zero, List.getElem?_cons_succ, Nat.reduceAdd, zif10, zif01b, zib, if_pos, if_neg, ↓reduceIte, not_true_eq_false, not_false_eq_true, Bool.true_eq_false, Bool.false_eq_true, Classical.not_not, eq_self, and_self, and_true, true_and, Int.reduceEq, Int.reduceLE, Int.reduceLT, Int.reduceNeg, Option.toList, List.cons_append, List.nil_append, zup_s, zup_n, zst_s, zup_zs, zup_zn, decide_true, decide_false]
      have b0 : zKp [5, 6, 7, 9] M2 M3 := zKp_tr (zKp_st (by decide) (zKp_st (by decide) (zKp_st (by decide) (zKp_rf _ _)))) (zKp_mo b1 (by decide))
      refine ih _ _ ⟨_, _, rfl, rfl, zKp_tr kk (zKp_mo b0 (by decide)), by rw [b0 3 (by decide)]; exact a3, by rw [b0 4 (by decide)]; exact a4, by rw [b0 8 (by decide)]; exact a8, ?_, ?_, ?_, ?_⟩
      · intro x h1 h2
        rw [b1 5 (by decide), zst_n (by decide), zst_s]
        by_cases e : ((t * 4 : Nat) : Int) ≤ x
        · rw [zrng_in (by omega)]
        · rw [zrng_out (by omega)]; exact a5 x h1 (by omega)
      · intro x h1 h2
        rw [b1 6 (by decide), zst_s]
        by_cases e : ((t * 12 : Nat) : Int) ≤ x
        · rw [zrng_in (by omega)]
        · rw [zrng_out (by omega)]; exact a6 x h1 (by omega)
      · intro u j h1 h2
        rw [b1 7 (by decide), zst_n (by decide), zst_n (by decide), zst_s]
        by_cases e : u = t
        · subst e; rw [zrng_in (by omega)]
        · rw [zrng_out (by omega)]; exact a7 u j (by omega) h2
      · intro q u h1 h2
        by_cases e : u = t
        · subst e; exact b3 q h1
        · exact b2 q u h1 (by omega)
  · rintro _ M2 ⟨_, u4, rfl, rfl, kk, a3, a4, a8, a5, a6, a7, a9⟩
    rw [k_Ne_begin_1]
    simp (disch := first | omega | exact Nat.le_of_ble_eq_true rfl | assumption | (simp only [Int.natCast_add, Int.natCast_mul, Int.cast_ofNat_Int]; omega) | decide) only [k_Ne_begin_6, x_aload, w_dupI, w_dupR, x_getf, w_goto, w_fall, w_iadd, w_iconst, w_icmp, x_iinc, x_iload, w_imul, x_istore, zadd_eq, zmul_eq, gf_3_2, gf_3_3, gf_3_7, gf_3_8, xp_3_0, xp_3_1, xp_3_2, pu_4, pu_8, pu_9, w_vret r_Ne_begin, q_eq, q_ne, q_lt, q_ge, q_gt, q_le, g_I, g_L, g_R, g_V, t_0, t_I, t_R, t_U, t_L, t_s, List.getElem?_cons_zero, List.getElem?_cons_succ, Nat.reduceAdd, zif10, zif01b, zib, if_pos, if_neg, ↓reduceIte, not_true_eq_false, not_false_eq_true, Bool.true_eq_false, Bool.false_eq_true, Classical.not_not, eq_self, and_self, and_true, true_and, Int.reduceEq, Int.reduceLE, Int.reduceLT, Int.reduceNeg, Option.toList, List.cons_append, List.nil_append, zup_s, zup_n, zst_s, zup_zs, zup_zn, decide_true, decide_false, n3_2 hS, xn3_2 hS]
    refine ⟨zKp_up (by decide) kk, ⟨?_, ?_, by rw [a3.2.2]⟩, fun x h1 h2 => ⟨a4 x h1 h2, a5 x h1 (by omega)⟩, fun x h1 h2 => a6 x h1 (by omega), fun u j h1 h2 => a7 u j h1 h2, fun x h1 h2 => a8 x h1 h2, fun q u h1 h2 => a9 q u h1 h2⟩
    · rw [zup_d (by omega)]; exact a3.1
    · rw [zup_d (by omega)]; exact a3.2.1
theorem c_Ne_begin {d mi o b9 : Nat} {es : List zEnt} {L st : List zMV} {Q : Option zMV → (Nat → Int → Int) → Prop} {s p : Int} (hS : zShN S9) (hd : 2 + 1 ≤ d) (hc : zcats st ≤ 8) (hpost : ∀ r M', (r = none ∧ zKp [3, 4, 5, 6, 7, 8, 9] M M' ∧ (M' 3 0 = s ∧ M' 3 1 = p ∧ M' 3 2 = zadd (M 3 2) 1) ∧ (∀ x : Int, 0 ≤ x → x < 48 → M' 4 x = 1 ∧ M' 5 x = 0) ∧ (∀ x : Int, 0 ≤ x → x < 144 → M' 6 x = 0) ∧ (∀ t j : Nat, t < 12 → j < 81 → M' 7 ((t : Int) * 81 + j) = t) ∧ (∀ x : Int, 0 ≤ x → x < 12 → M' 8 x = 0) ∧ ∀ q t : Nat, q < 4 → t < 12 → M' 9 ((q : Int) * 12 + t) = t) → zW S9 d mi es L (r.toList ++ st) M' Q) : zW S9 d mi ((.invokevirtual o, 28, b9) :: es) L (zI p :: zI s :: zR 3 :: st) M Q :=
  w_callv (ps := [zI s, zI p]) (by omega) rfl rfl (by omega) hS.1 hc (Nat.le_of_ble_eq_true rfl) (F_Ne_begin hS (by omega)) hpost
theorem F_Fo_clearG {d : Nat} {b : Nat} (hS : zShF S9 b) (h2 : 2 ≤ b) (hd : 0 ≤ d) : zF S9 d i_Fo_clear [zR b] M fun r M' => r = none ∧ M' = zup (zup M b 0 0) b 1 (zadd (M b 1) 1) := by
  rw [zF_en k_Fo_clear_0 (L := [zR b]) rfl]
  simp (disch := first | omega | exact Nat.le_of_ble_eq_true rfl | assumption | (simp only [Int.natCast_add, Int.natCast_mul, Int.cast_ofNat_Int]; omega) | decide) only [x_aload, w_dupI, w_dupR, x_getf, w_iadd, w_iconst, zadd_eq, gf_10_1, gf_24_1, xp_10_0, xp_24_0, xp_10_1, xp_24_1, w_vret r_Fo_clear, q_eq, q_ne, q_lt, q_ge, q_gt, q_le, g_I, g_L, g_R, g_V, t_0, t_I, t_R, t_U, t_L, t_s, List.getElem?_cons_zero, List.getElem?_cons_succ, Nat.reduceAdd, zif10, zif01b, zib, if_pos, if_neg, ↓reduceIte, not_true_eq_false, not_false_eq_true, Bool.true_eq_false, Bool.false_eq_true, Classical.not_not, eq_self, and_self, and_true, true_and, Int.reduceEq, Int.reduceLE, Int.reduceLT, Int.reduceNeg, Option.toList, List.cons_append, List.nil_append, zup_s, zup_n, zst_s, zup_zs, zup_zn, decide_true, decide_false, xnf_0 hS, xnf_1 hS, nf_1 hS, zup_d]
theorem c_Fo_clearG {d mi o b9 : Nat} {es : List zEnt} {L st : List zMV} {Q : Option zMV → (Nat → Int → Int) → Prop} {b : Nat} (hS : zShF S9 b) (h2 : 2 ≤ b) (hd : 0 + 1 ≤ d) (hc : zcats st ≤ 8) : zW S9 d mi ((.invokevirtual o, 3, b9) :: es) L (zR b :: st) M Q = zW S9 d mi es L (st) (zup (zup M b 0 0) b 1 (zadd (M b 1) 1)) Q :=
  c_virt (ps := []) (by omega) rfl rfl (by omega) hS.1 hc (Nat.le_of_ble_eq_true rfl) (F_Fo_clearG hS h2 (by omega))
theorem F_Fo_addG {d : Nat} {b n : Nat} {g : Int} (hS : zShF S9 b) (h2 : 2 ≤ b) (hn : M b 0 = n) (hn2 : n < 24) (hd : 1 ≤ d) : zF S9 d i_Fo_add [zR b, zI g] M fun r M' => r = some (zI (n : Int)) ∧ M' = zup (zup M (b + 4) n g) b 0 ((n : Int) + 1) := by
  rw [zF_en k_Fo_add_0 (L := [zR b, zI g, zU]) rfl]
  have e1 : M b 0 = zup M (b + 4) n g b 0 := by rw [zup_n (by omega)]
  simp (disch := first | omega | exact Nat.le_of_ble_eq_true rfl | assumption | (simp only [Int.natCast_add, Int.natCast_mul, Int.cast_ofNat_Int]; omega) | decide) only [x_aload, w_dupI, w_dupR, x_getf, w_iadd, w_iconst, x_iload, x_istore, zadd_eq, gf_10_0, gf_24_0, gf_10_5, gf_24_5, xp_10_0, xp_24_0, pu_14, pu_28, w_nret r_Fo_add, q_eq, q_ne, q_lt, q_ge, q_gt, q_le, g_I, g_L, g_R, g_V, t_0, t_I, t_R, t_U, t_L, t_s, List.getElem?_cons_zero, List.getElem?_cons_succ, Nat.reduceAdd, zif10, zif01b, zib, if_pos, if_neg, ↓reduceIte, not_true_eq_false, not_false_eq_true, Bool.true_eq_false, Bool.false_eq_true, Classical.not_not, eq_self, and_self, and_true, true_and, Int.reduceEq, Int.reduceLE, Int.reduceLT, Int.reduceNeg, Option.toList, List.cons_append, List.nil_append, zup_s, zup_n, zst_s, zup_zs, zup_zn, decide_true, decide_false, nf_0 hS, nf_5 hS, xnf_0 hS, hn, gpu hS.2.2.2.2, ← e1]
theorem c_Fo_addG {d mi o b9 : Nat} {es : List zEnt} {L st : List zMV} {Q : Option zMV → (Nat → Int → Int) → Prop} {b n : Nat} {g : Int} (hS : zShF S9 b) (h2 : 2 ≤ b) (hn : M b 0 = n) (hn2 : n < 24) (hd : 1 + 1 ≤ d) (hc : zcats st ≤ 8) : zW S9 d mi ((.invokevirtual o, 4, b9) :: es) L (zI g :: zR b :: st) M Q = zW S9 d mi es L (zI (n : Int) :: st) (zup (zup M (b + 4) n g) b 0 ((n : Int) + 1)) Q :=
  c_virt (ps := [zI g]) (by omega) rfl rfl (by omega) hS.1 hc (Nat.le_of_ble_eq_true rfl) (F_Fo_addG hS h2 hn hn2 (by omega))
theorem F_Fo_setG {d : Nat} {b k : Nat} {x y z : Int} (hS : zShF S9 b) (h2 : 2 ≤ b) (hk : k < 24) (hd : 1 ≤ d) : zF S9 d i_Fo_set [zR b, zI (k : Int), zI x, zI y, zI z] M fun r M' => r = none ∧ M' = zup (zup (zup M (b + 1) k x) (b + 2) k y) (b + 3) k z := by
  rw [zF_en k_Fo_set_0 (L := [zR b, zI (k : Int), zI x, zI y, zI z]) rfl]
  simp (disch := first | omega | exact Nat.le_of_ble_eq_true rfl | assumption | (simp only [Int.natCast_add, Int.natCast_mul, Int.cast_ofNat_Int]; omega) | decide) only [x_aload, x_getf, x_iload, gf_10_2, gf_24_2, gf_10_3, gf_24_3, gf_10_4, gf_24_4, pu_11, pu_12, pu_13, pu_25, pu_26, pu_27, w_vret r_Fo_set, q_eq, q_ne, q_lt, q_ge, q_gt, q_le, g_I, g_L, g_R, g_V, t_0, t_I, t_R, t_U, t_L, t_s, List.getElem?_cons_zero, List.getElem?_cons_succ, Nat.reduceAdd, zif10, zif01b, zib, if_pos, if_neg, ↓reduceIte, not_true_eq_false, not_false_eq_true, Bool.true_eq_false, Bool.false_eq_true, Classical.not_not, eq_self, and_self, and_true, true_and, Int.reduceEq, Int.reduceLE, Int.reduceLT, Int.reduceNeg, Option.toList, List.cons_append, List.nil_append, zup_s, zup_n, zst_s, zup_zs, zup_zn, decide_true, decide_false, nf_2 hS, nf_3 hS, nf_4 hS, gpu hS.2.1, gpu hS.2.2.1, gpu hS.2.2.2.1]
theorem c_Fo_setG {d mi o b9 : Nat} {es : List zEnt} {L st : List zMV} {Q : Option zMV → (Nat → Int → Int) → Prop} {b k : Nat} {x y z : Int} (hS : zShF S9 b) (h2 : 2 ≤ b) (hk : k < 24) (hd : 1 + 1 ≤ d) (hc : zcats st ≤ 8) : zW S9 d mi ((.invokevirtual o, 5, b9) :: es) L (zI z :: zI y :: zI x :: zI (k : Int) :: zR b :: st) M Q = zW S9 d mi es L (st) (zup (zup (zup M (b + 1) k x) (b + 2) k y) (b + 3) k z) Q :=
  c_virt (ps := [zI (k : Int), zI x, zI y, zI z]) (by omega) rfl rfl (by omega) hS.1 hc (Nat.le_of_ble_eq_true rfl) (F_Fo_setG hS h2 hk (by omega))
theorem F_Fo_becomeTrue {d : Nat} {b : Nat} (hS : zShF S9 b) (h2 : 2 ≤ b) (hd : 2 ≤ d) : zF S9 d i_Fo_becomeTrue [zR b] M fun r M' => r = none ∧ M' = zup (zup (zup (zup (zup (zup (zup M b 0 0) b 1 (zadd (M b 1) 1)) (b + 4) 0 0) b 0 1) (b + 1) 0 0) (b + 2) 0 0) (b + 3) 0 0 := by
  rw [zF_en k_Fo_becomeTrue_0 (L := [zR b]) rfl]
  have e0 : zup (zup M b 0 0) b 1 (zadd (M b 1) 1) b 0 = ((0 : Nat) : Int) := by rw [zup_d (by omega), zup_s]; rfl
  simp (disch := first | omega | exact Nat.le_of_ble_eq_true rfl | assumption | (simp only [Int.natCast_add, Int.natCast_mul, Int.cast_ofNat_Int]; omega) | decide) only [x_aload, w_iconst, w_vret r_Fo_becomeTrue, q_eq, q_ne, q_lt, q_ge, q_gt, q_le, g_I, g_L, g_R, g_V, t_0, t_I, t_R, t_U, t_L, t_s, List.getElem?_cons_zero, List.getElem?_cons_succ, Nat.reduceAdd, zif10, zif01b, zib, if_pos, if_neg, ↓reduceIte, not_true_eq_false, not_false_eq_true, Bool.true_eq_false, Bool.false_eq_true, Classical.not_not, eq_self, and_self, and_true, true_and, Int.reduceEq, Int.reduceLE, Int.reduceLT, Int.reduceNeg, Option.toList, List.cons_append, List.nil_append, zup_s, zup_n, zst_s, zup_zs, zup_zn, decide_true, decide_false, c_Fo_clearG hS h2, c_Fo_addG hS h2 e0, c_Fo_setG (k := 0) hS h2]
  rfl
theorem c_Fo_becomeTrue {d mi o b9 : Nat} {es : List zEnt} {L st : List zMV} {Q : Option zMV → (Nat → Int → Int) → Prop} {b : Nat} (hS : zShF S9 b) (h2 : 2 ≤ b) (hd : 2 + 1 ≤ d) (hc : zcats st ≤ 8) : zW S9 d mi ((.invokevirtual o, 2, b9) :: es) L (zR b :: st) M Q = zW S9 d mi es L (st) (zup (zup (zup (zup (zup (zup (zup M b 0 0) b 1 (zadd (M b 1) 1)) (b + 4) 0 0) b 0 1) (b + 1) 0 0) (b + 2) 0 0) (b + 3) 0 0) Q :=
  c_virt (ps := []) (by omega) rfl rfl (by omega) hS.1 hc (Nat.le_of_ble_eq_true rfl) (F_Fo_becomeTrue hS h2 (by omega))
end GN2
