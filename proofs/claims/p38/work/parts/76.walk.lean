/-! the faces: walk -/
/-- where a state leads by the plan and a wish of the others -/
def zGo (mv tg : Nat → Nat → Nat) (P : Nat) (lt kd lf rt gp : Nat → Nat) (s w : Nat) : Nat := tg s (zcomb (mv s) (zbit (gp 0 : Int)) P (zPlan (mv s) (tg s) (zbit (gp 0 : Int)) P (zHp mv tg P lt kd lf rt gp 0 s) (zAim (kd 0) (zHp mv tg P lt kd lf rt gp (lf 0)) (zHp mv tg P lt kd lf rt gp 0) (zRd mv tg P lt kd lf rt gp) s)).toNat (w % zcnt (mv s) (znot (zbit (gp 0 : Int))) P))
def zWkT (mv tg : Nat → Nat → Nat) (P : Nat) (lt kd lf rt gp : Nat → Nat) (it : Int → Int) (b : Int) (s : Nat) : Nat → Nat
  | 0 => s
  | k + 1 => zGo mv tg P lt kd lf rt gp (zWkT mv tg P lt kd lf rt gp it b s k) (it (b + k)).toNat
theorem zGo_lt {S P : Nat} {mv tg : Nat → Nat → Nat} (hN : zNet S P mv tg) {lt kd lf rt gp : Nat → Nat} {s : Nat} (hs : s < S) (w : Nat) : zGo mv tg P lt kd lf rt gp s w < S := by
  have hm := hN.2.2.2.2.1 s
  have hlt := zcomb_lt hm (zbit (gp 0 : Int)) P (zPlan (mv s) (tg s) (zbit (gp 0 : Int)) P (zHp mv tg P lt kd lf rt gp 0 s) (zAim (kd 0) (zHp mv tg P lt kd lf rt gp (lf 0)) (zHp mv tg P lt kd lf rt gp 0) (zRd mv tg P lt kd lf rt gp) s)).toNat (w % zcnt (mv s) (znot (zbit (gp 0 : Int))) P)
  have h81 := zcnt_81 hm zall1 hN.2.2.2.1
  exact hN.2.2.2.2.2 s _ hs (by omega)
theorem zWkT_lt {S P : Nat} {mv tg : Nat → Nat → Nat} (hN : zNet S P mv tg) {lt kd lf rt gp : Nat → Nat} {it : Int → Int} {b : Int} {s : Nat} (hs : s < S) : ∀ k, zWkT mv tg P lt kd lf rt gp it b s k < S
  | 0 => hs
  | k + 1 => zGo_lt hN (zWkT_lt hN hs k) _
abbrev zWlK (S : Nat) (x y l n : Int) : Prop := (0 ≤ x ∧ x < S) ∧ zPlc y l ∧ 0 ≤ n ∧ n ≤ 40
abbrev zWlG (S : Nat) (kd0 : Nat) (ln : Nat → Int) (sz : Nat → Nat) (it : Int → Int) (x y l i n : Int) : Prop := zWlK S x y l n ∧ zWrg ln sz y.toNat l i n = 0 ∧ 5 ≤ kd0 ∧ ¬ zan n.toNat (zNeg it (y * 81 + i)) = true
def zWlA (S P : Nat) (mv tg : Nat → Nat → Nat) (lt kd lf rt gp : Nat → Nat) (ln : Nat → Int) (sz : Nat → Nat) (it : Int → Int) (x y l i n : Int) : Int := if zWlK S x y l n then (if zWrg ln sz y.toNat l i n = 0 then (if 5 ≤ kd 0 ∧ ¬ zan n.toNat (zNeg it (y * 81 + i)) = true then (zWkT mv tg P lt kd lf rt gp it (y * 81 + i) x.toNat n.toNat : Int) else -2) else zWrg ln sz y.toNat l i n) else -1
section FC
variable {Ln S P n : Nat} {mv tg : Nat → Nat → Nat} {lt kd lf rt gp : Nat → Nat} {ln : Nat → Int} {sz : Nat → Nat} {it : Int → Int} {M : Nat → Int → Int}
set_option maxHeartbeats 20000000 in
theorem F_FN_walk {d : Nat} {x y l i c : Int} (hN : zNet S P mv tg) (hC : zNetC S P mv tg M) (hL : zLetC lt M) (hlt : ∀ s, lt s < 256) (hF : zForm P n kd lf rt gp) (hFC : zFormC n kd lf rt gp M) (hT : zTabI S P mv tg M) (hI : zLawI S P n mv tg lt kd lf rt gp M) (hSh : zShC ln sz it M) (hs : ∀ k, k < 4 → sz k ≤ 81) (hit : ∀ x, it x < 2147483648) (hd : 7 ≤ d) : zF (zSH Ln) d i_FN_walk [zR 2, zI x, zI y, zI l, zI i, zI c] M fun r M' => r = some (zI (zWlA S P mv tg lt kd lf rt gp ln sz it x y l i c)) ∧ (zWlG S (kd 0) ln sz it x y l i c → ∃ M1, zOutC S P n mv tg lt kd lf rt gp M M1 ∧ zKp [29, 31] M1 M' ∧ zTrC (c.toNat + 1) (zWkT mv tg P lt kd lf rt gp it (y * 81 + i) x.toNat) M') ∧ (¬ zWlG S (kd 0) ln sz it x y l i c → M' = M) := by
  rw [zF_en k_FN_walk_0 (L := [zR 2, zI x, zI y, zI l, zI i, zI c, zU, zU]) rfl]
  have hn := hF.1
  have hn2 := hF.2.1
  have hS := hN.2.1
  have hP := hN.2.2.2.1
  have hkk : M 11 0 = (kd 0 : Int) := (hFC.2 0 hn).1
  generalize hans : zWlA S P mv tg lt kd lf rt gp ln sz it x y l i c = ans
  unfold zWlA at hans
  generalize hgd : zWlG S (kd 0) ln sz it x y l i c = gd
  unfold zWlG at hgd
  by_cases c1 : 0 ≤ x ∧ x < S
  rotate_left
  · rw [if_neg (fun h => c1 h.1)] at hans
    have hng : ¬ gd := fun h => by rw [← hgd] at h; exact c1 h.1.1
    subst hans
    simp (disch := first | omega | exact Nat.le_of_ble_eq_true rfl | assumption | (simp only [Int.natCast_add, Int.natCast_mul, Int.cast_ofNat_Int]; omega) | decide) only [k_FN_walk_4, x_aload, x_getf, w_goto, w_fall, w_iadd, w_iconst, w_if, w_icmp, x_iinc, x_iload, x_istore, zadd_eq, gf_2_0, gf_2_1, gf_2_3, gf_2_4, gf_2_8, w_nret r_FN_walk, q_eq, q_ne, q_lt, q_ge, q_gt, q_le, g_I, g_L, g_R, g_V, t_0, t_I, t_R, t_U, t_L, t_s, List.getElem?_cons_zero, List.getElem?_cons_succ, Nat.reduceAdd, zif10, zif01b, zib, if_pos, if_neg, ↓reduceIte, not_true_eq_false, not_false_eq_true, Bool.true_eq_false, Bool.false_eq_true, Classical.not_not, eq_self, and_self, and_true, true_and, Int.reduceEq, Int.reduceLE, Int.reduceLT, Int.reduceNeg, Option.toList, List.cons_append, List.nil_append, zup_s, zup_n, zst_s, zup_zs, zup_zn, decide_true, decide_false, c_Ne_hasState hC, c1]
    exact ⟨fun h => absurd h hng, fun _ => trivial⟩
  by_cases c2 : zPlc y l
  rotate_left
  · rw [if_neg (fun h => c2 h.2.1)] at hans
    have hng : ¬ gd := fun h => by rw [← hgd] at h; exact c2 h.1.2.1
    subst hans
    simp (disch := first | omega | exact Nat.le_of_ble_eq_true rfl | assumption | (simp only [Int.natCast_add, Int.natCast_mul, Int.cast_ofNat_Int]; omega) | decide) only [k_FN_walk_1, k_FN_walk_4, x_aload, x_getf, w_goto, w_fall, w_iadd, w_iconst, w_if, w_icmp, x_iinc, x_iload, x_istore, zadd_eq, gf_2_0, gf_2_1, gf_2_3, gf_2_4, gf_2_8, w_nret r_FN_walk, q_eq, q_ne, q_lt, q_ge, q_gt, q_le, g_I, g_L, g_R, g_V, t_0, t_I, t_R, t_U, t_L, t_s, List.getElem?_cons_zero, List.getElem?_cons_succ, Nat.reduceAdd, zif10, zif01b, zib, if_pos, if_neg, ↓reduceIte, not_true_eq_false, not_false_eq_true, Bool.true_eq_false, Bool.false_eq_true, Classical.not_not, eq_self, and_self, and_true, true_and, Int.reduceEq, Int.reduceLE, Int.reduceLT, Int.reduceNeg, Option.toList, List.cons_append, List.nil_append, zup_s, zup_n, zst_s, zup_zs, zup_zn, decide_true, decide_false, c_Ne_hasState hC, c1, c_Sh_place, c2]
    exact ⟨fun h => absurd h hng, fun _ => trivial⟩
  obtain ⟨s, rfl⟩ : ∃ s : Nat, x = (s : Int) := ⟨x.toNat, by omega⟩
  obtain ⟨k, rfl⟩ : ∃ k : Nat, y = (k : Int) := ⟨y.toNat, by omega⟩
  have hs12 : s < 12 := by omega
  have hk : k < 4 := by omega
  have hsk := hs k hk
  simp only [Int.toNat_natCast] at hans hgd
  by_cases c3 : 0 ≤ c
  rotate_left
  · rw [if_neg (fun h => c3 h.2.2.1)] at hans
    have hng : ¬ gd := fun h => by rw [← hgd] at h; exact c3 h.1.2.2.1
    subst hans
    simp (disch := first | omega | exact Nat.le_of_ble_eq_true rfl | assumption | (simp only [Int.natCast_add, Int.natCast_mul, Int.cast_ofNat_Int]; omega) | decide) only [k_FN_walk_1, k_FN_walk_2, k_FN_walk_4, x_aload, x_getf, w_goto, w_fall, w_iadd, w_iconst, w_if, w_icmp, x_iinc, x_iload, x_istore, zadd_eq, gf_2_0, gf_2_1, gf_2_3, gf_2_4, gf_2_8, w_nret r_FN_walk, q_eq, q_ne, q_lt, q_ge, q_gt, q_le, g_I, g_L, g_R, g_V, t_0, t_I, t_R, t_U, t_L, t_s, List.getElem?_cons_zero, List.getElem?_cons_succ, Nat.reduceAdd, zif10, zif01b, zib, if_pos, if_neg, ↓reduceIte, not_true_eq_false, not_false_eq_true, Bool.true_eq_false, Bool.false_eq_true, Classical.not_not, eq_self, and_self, and_true, true_and, Int.reduceEq, Int.reduceLE, Int.reduceLT, Int.reduceNeg, Option.toList, List.cons_append, List.nil_append, zup_s, zup_n, zst_s, zup_zs, zup_zn, decide_true, decide_false, c_Ne_hasState hC, c1, c_Sh_place, c2, c3]
    exact ⟨fun h => absurd h hng, fun _ => trivial⟩
  by_cases c4 : c ≤ 40
  rotate_left
  · rw [if_neg (fun h => c4 h.2.2.2)] at hans
    have hng : ¬ gd := fun h => by rw [← hgd] at h; exact c4 h.1.2.2.2
    subst hans
    simp (disch := first | omega | exact Nat.le_of_ble_eq_true rfl | assumption | (simp only [Int.natCast_add, Int.natCast_mul, Int.cast_ofNat_Int]; omega) | decide) only [k_FN_walk_1, k_FN_walk_2, k_FN_walk_3, k_FN_walk_4, x_aload, x_getf, w_goto, w_fall, w_iadd, w_iconst, w_if, w_icmp, x_iinc, x_iload, x_istore, zadd_eq, gf_2_0, gf_2_1, gf_2_3, gf_2_4, gf_2_8, w_nret r_FN_walk, q_eq, q_ne, q_lt, q_ge, q_gt, q_le, g_I, g_L, g_R, g_V, t_0, t_I, t_R, t_U, t_L, t_s, List.getElem?_cons_zero, List.getElem?_cons_succ, Nat.reduceAdd, zif10, zif01b, zib, if_pos, if_neg, ↓reduceIte, not_true_eq_false, not_false_eq_true, Bool.true_eq_false, Bool.false_eq_true, Classical.not_not, eq_self, and_self, and_true, true_and, Int.reduceEq, Int.reduceLE, Int.reduceLT, Int.reduceNeg, Option.toList, List.cons_append, List.nil_append, zup_s, zup_n, zst_s, zup_zs, zup_zn, decide_true, decide_false, c_Ne_hasState hC, c1, c_Sh_place, c2, c3, c4]
    exact ⟨fun h => absurd h hng, fun _ => trivial⟩
  have hK : zWlK S (s : Int) (k : Int) l c := ⟨c1, c2, c3, c4⟩
  rw [if_pos hK] at hans
  by_cases c6 : zWrg ln sz k l i c = 0
  rotate_left
  · rw [if_neg c6] at hans
    have hng : ¬ gd := fun h => by rw [← hgd] at h; exact c6 h.2.1
    simp (disch := first | omega | exact Nat.le_of_ble_eq_true rfl | assumption | (simp only [Int.natCast_add, Int.natCast_mul, Int.cast_ofNat_Int]; omega) | decide) only [k_FN_walk_1, k_FN_walk_2, k_FN_walk_3, k_FN_walk_5, k_FN_walk_6, x_aload, x_getf, w_goto, w_fall, w_iadd, w_iconst, w_if, w_icmp, x_iinc, x_iload, x_istore, zadd_eq, gf_2_0, gf_2_1, gf_2_3, gf_2_4, gf_2_8, w_nret r_FN_walk, q_eq, q_ne, q_lt, q_ge, q_gt, q_le, g_I, g_L, g_R, g_V, t_0, t_I, t_R, t_U, t_L, t_s, List.getElem?_cons_zero, List.getElem?_cons_succ, Nat.reduceAdd, zif10, zif01b, zib, if_pos, if_neg, ↓reduceIte, not_true_eq_false, not_false_eq_true, Bool.true_eq_false, Bool.false_eq_true, Classical.not_not, eq_self, and_self, and_true, true_and, Int.reduceEq, Int.reduceLE, Int.reduceLT, Int.reduceNeg, Option.toList, List.cons_append, List.nil_append, zup_s, zup_n, zst_s, zup_zs, zup_zn, decide_true, decide_false, c_Ne_hasState hC, c1, c_Sh_place, c2, c3, c4, c_Sh_wrg hSh hk hsk c3, c6, hans]
    exact ⟨fun h => absurd h hng, fun _ => trivial⟩
  rw [if_pos c6] at hans
  obtain ⟨w1, w2, w3⟩ := zWrg_0 c6
  obtain ⟨m, rfl⟩ : ∃ m : Nat, c = (m : Int) := ⟨c.toNat, by omega⟩
  obtain ⟨a, rfl⟩ : ∃ a : Nat, i = (a : Int) := ⟨i.toNat, by omega⟩
  simp only [Int.toNat_natCast] at hans hgd ⊢
  by_cases c7 : 5 ≤ kd 0
  rotate_left
  · have c7' : ¬ ((5 : Int) ≤ (kd 0 : Int)) := by omega
    rw [if_neg (fun h => c7 h.1)] at hans
    have hng : ¬ gd := fun h => by rw [← hgd] at h; exact c7 h.2.2.1
    simp (disch := first | omega | exact Nat.le_of_ble_eq_true rfl | assumption | (simp only [Int.natCast_add, Int.natCast_mul, Int.cast_ofNat_Int]; omega) | decide) only [k_FN_walk_1, k_FN_walk_2, k_FN_walk_3, k_FN_walk_5, k_FN_walk_7, k_FN_walk_9, x_aload, x_getf, w_goto, w_fall, w_iadd, w_iconst, w_if, w_icmp, x_iinc, x_iload, x_istore, zadd_eq, gf_2_0, gf_2_1, gf_2_3, gf_2_4, gf_2_8, w_nret r_FN_walk, q_eq, q_ne, q_lt, q_ge, q_gt, q_le, g_I, g_L, g_R, g_V, t_0, t_I, t_R, t_U, t_L, t_s, List.getElem?_cons_zero, List.getElem?_cons_succ, Nat.reduceAdd, zif10, zif01b, zib, if_pos, if_neg, ↓reduceIte, not_true_eq_false, not_false_eq_true, Bool.true_eq_false, Bool.false_eq_true, Classical.not_not, eq_self, and_self, and_true, true_and, Int.reduceEq, Int.reduceLE, Int.reduceLT, Int.reduceNeg, Option.toList, List.cons_append, List.nil_append, zup_s, zup_n, zst_s, zup_zs, zup_zn, decide_true, decide_false, c_Ne_hasState hC, c1, c_Sh_place, c2, c3, c4, c_Sh_wrg hSh hk hsk c3, c6, c_Fo_isOfGroup hkk, c7', hans]
    exact ⟨fun h => absurd h hng, fun _ => trivial⟩
  have c7' : (5 : Int) ≤ (kd 0 : Int) := by omega
  by_cases c8 : zan m (zNeg it ((k : Int) * 81 + a)) = true
  · rw [if_neg (fun h => h.2 c8)] at hans
    have hng : ¬ gd := fun h => by rw [← hgd] at h; exact h.2.2.2 c8
    simp (disch := first | omega | exact Nat.le_of_ble_eq_true rfl | assumption | (simp only [Int.natCast_add, Int.natCast_mul, Int.cast_ofNat_Int]; omega) | decide) only [k_FN_walk_1, k_FN_walk_2, k_FN_walk_3, k_FN_walk_5, k_FN_walk_7, k_FN_walk_8, k_FN_walk_9, x_aload, x_getf, w_goto, w_fall, w_iadd, w_iconst, w_if, w_icmp, x_iinc, x_iload, x_istore, zadd_eq, gf_2_0, gf_2_1, gf_2_3, gf_2_4, gf_2_8, w_nret r_FN_walk, q_eq, q_ne, q_lt, q_ge, q_gt, q_le, g_I, g_L, g_R, g_V, t_0, t_I, t_R, t_U, t_L, t_s, List.getElem?_cons_zero, List.getElem?_cons_succ, Nat.reduceAdd, zif10, zif01b, zib, if_pos, if_neg, ↓reduceIte, not_true_eq_false, not_false_eq_true, Bool.true_eq_false, Bool.false_eq_true, Classical.not_not, eq_self, and_self, and_true, true_and, Int.reduceEq, Int.reduceLE, Int.reduceLT, Int.reduceNeg, Option.toList, List.cons_append, List.nil_append, zup_s, zup_n, zst_s, zup_zs, zup_zn, decide_true, decide_false, c_Ne_hasState hC, c1, c_Sh_place, c2, c3, c4, c_Sh_wrg hSh hk hsk c3, c6, c_Fo_isOfGroup hkk, c7', c_Sh_hasBelowZero hSh hk, c8, hans]
    exact ⟨fun h => absurd h hng, fun _ => trivial⟩
  rw [if_pos ⟨c7, c8⟩] at hans
  have hg : gd := by rw [← hgd]; exact ⟨hK, c6, c7, c8⟩
  have hpos : ∀ u : Nat, u < m → 0 ≤ it ((k : Int) * 81 + a + u) := fun u hu => by
    refine Classical.byContradiction fun h => c8 ((zan_iff _ _).mpr ⟨u, hu, ?_⟩)
    unfold zNeg; rw [decide_eq_true_eq]; omega
  simp (disch := first | omega | exact Nat.le_of_ble_eq_true rfl | assumption | (simp only [Int.natCast_add, Int.natCast_mul, Int.cast_ofNat_Int]; omega) | decide) only [k_FN_walk_1, k_FN_walk_2, k_FN_walk_3, k_FN_walk_5, k_FN_walk_7, k_FN_walk_8, k_FN_walk_10, x_aload, x_getf, w_goto, w_fall, w_iadd, w_iconst, w_if, w_icmp, x_iinc, x_iload, x_istore, zadd_eq, gf_2_0, gf_2_1, gf_2_3, gf_2_4, gf_2_8, w_nret r_FN_walk, q_eq, q_ne, q_lt, q_ge, q_gt, q_le, g_I, g_L, g_R, g_V, t_0, t_I, t_R, t_U, t_L, t_s, List.getElem?_cons_zero, List.getElem?_cons_succ, Nat.reduceAdd, zif10, zif01b, zib, if_pos, if_neg, ↓reduceIte, not_true_eq_false, not_false_eq_true, Bool.true_eq_false, Bool.false_eq_true, Classical.not_not, eq_self, and_self, and_true, true_and, Int.reduceEq, Int.reduceLE, Int.reduceLT, Int.reduceNeg, Option.toList, List.cons_append, List.nil_append, zup_s, zup_n, zst_s, zup_zs, zup_zn, decide_true, decide_false, c_Ne_hasState hC, c1, c_Sh_place, c2, c3, c4, c_Sh_wrg hSh hk hsk c3, c6, c_Fo_isOfGroup hkk, c7', c_Sh_hasBelowZero hSh hk, c8]
  refine c_La_refresh hN hC hL hlt hF hFC hT hI (by omega) (Nat.le_of_ble_eq_true rfl) ?_
  rintro _ M1 ⟨rfl, hkp, hT1, hv15, hv5, hv6, hW⟩
  have hout : zOutC S P n mv tg lt kd lf rt gp M M1 := zOutC_of ⟨hkp, hv15⟩ hT1 hv5 hv6 hW
  have h20 : M1 20 0 = zset S (zHp mv tg P lt kd lf rt gp 0) := hW.1 0 hn
  have hC1 : zNetC S P mv tg M1 := zNetC_k hC (hkp 3 (by decide)) (hkp 4 (by decide)) (hkp 7 (by decide))
  have hFC1 : zFormC n kd lf rt gp M1 := zFormC_k hFC (by rw [hkp 10 (by decide)]) (hkp 11 (by decide)) (hkp 12 (by decide)) (hkp 13 (by decide)) (hkp 14 (by decide))
  have hlf := (hF.2.2 0 hn).2.2.1 (by omega)
  have h20l := hW.1 (lf 0) hlf.2
  have hr := hW.2.1
  have hTb := hW.2.2 c7
  have hSh1 : zShC ln sz it M1 := ⟨by rw [hkp 45 (by decide), hkp 46 (by decide)]; exact hSh.1, by rw [hkp 47 (by decide)]; exact hSh.2⟩
  generalize htr : zWkT mv tg P lt kd lf rt gp it ((k : Int) * 81 + a) s = tr at *
  have htr0 : tr 0 = s := by rw [← htr]; rfl
  have htrS : ∀ t, tr (t + 1) = zGo mv tg P lt kd lf rt gp (tr t) (it ((k : Int) * 81 + a + t)).toNat := fun t => by rw [← htr]; rfl
  have htrl : ∀ t, tr t < S := fun t => by rw [← htr]; exact zWkT_lt hN (by omega) t
  simp (disch := first | omega | exact Nat.le_of_ble_eq_true rfl | assumption | (simp only [Int.natCast_add, Int.natCast_mul, Int.cast_ofNat_Int]; omega) | decide) only [x_aload, x_getf, w_goto, w_fall, w_iadd, w_iconst, w_if, w_icmp, x_iinc, x_iload, x_istore, zadd_eq, gf_2_0, gf_2_1, gf_2_3, gf_2_4, gf_2_8, w_nret r_FN_walk, q_eq, q_ne, q_lt, q_ge, q_gt, q_le, g_I, g_L, g_R, g_V, t_0, t_I, t_R, t_U, t_L, t_s, List.getElem?_cons_zero, List.getElem?_cons_succ, Nat.reduceAdd, zif10, zif01b, zib, if_pos, if_neg, ↓reduceIte, not_true_eq_false, not_false_eq_true, Bool.true_eq_false, Bool.false_eq_true, Classical.not_not, eq_self, and_self, and_true, true_and, Int.reduceEq, Int.reduceLE, Int.reduceLT, Int.reduceNeg, Option.toList, List.cons_append, List.nil_append, zup_s, zup_n, zst_s, zup_zs, zup_zn, decide_true, decide_false, c_Pl_startWalk]
  refine zfor (a := 0) (N := m) (b := 11) (fun t L0 M0 => ∃ M2, L0 = [zR 2, zI s, zI k, zI l, zI a, zI m, zI 0, zI (t : Int)] ∧ M0 = M2 ∧ (zKp [29, 31] M1 M2 ∧ zTrC (t + 1) tr M2)) ?_ ?_ ?_ ?_
  · exact Nat.zero_le _
  · refine ⟨_, rfl, rfl, zKp_up (by decide) (zKp_up (by decide) (zKp_rf _ _)), ?_, fun q hq => ?_⟩
    · rw [zup_s]; rfl
    · rw [show q = 0 by omega, zup_n (by decide), show ((0 : Nat) : Int) = 0 from rfl, zup_s, htr0]
  · rintro t _ M2 _ ht ⟨_, rfl, rfl, hk2, hTr⟩ ih
    have ea : (k : Int) * 81 + ((a : Int) + (t : Int)) = (k : Int) * 81 + a + t := by omega
    have hC2 : zNetC S P mv tg M2 := zNetC_k hC1 (hk2 3 (by decide)) (hk2 4 (by decide)) (hk2 7 (by decide))
    have hFC2 : zFormC n kd lf rt gp M2 := zFormC_k hFC1 (by rw [hk2 10 (by decide)]) (hk2 11 (by decide)) (hk2 12 (by decide)) (hk2 13 (by decide)) (hk2 14 (by decide))
    have hT2 : zTabC S P mv tg (zbit (gp 0 : Int)) M2 := zTabC_k hTb (hk2 16 (by decide)) (hk2 17 (by decide))
    have hSh2 : zShC ln sz it M2 := ⟨by rw [hk2 45 (by decide), hk2 46 (by decide)]; exact hSh1.1, by rw [hk2 47 (by decide)]; exact hSh1.2⟩
    have hp := hpos t ht
    rw [k_FN_walk_11]
    simp (disch := first | omega | exact Nat.le_of_ble_eq_true rfl | assumption | (simp only [Int.natCast_add, Int.natCast_mul, Int.cast_ofNat_Int]; omega) | decide) only [k_FN_walk_12, x_aload, x_getf, w_goto, w_fall, w_iadd, w_iconst, w_if, w_icmp, x_iinc, x_iload, x_istore, zadd_eq, gf_2_0, gf_2_1, gf_2_3, gf_2_4, gf_2_8, w_nret r_FN_walk, q_eq, q_ne, q_lt, q_ge, q_gt, q_le, g_I, g_L, g_R, g_V, t_0, t_I, t_R, t_U, t_L, t_s, List.getElem?_cons_zero, List.getElem?_cons_succ, Nat.reduceAdd, zif10, zif01b, zib, if_pos, if_neg, ↓reduceIte, not_true_eq_false, not_false_eq_true, Bool.true_eq_false, Bool.false_eq_true, Classical.not_not, eq_self, and_self, and_true, true_and, Int.reduceEq, Int.reduceLE, Int.reduceLT, Int.reduceNeg, Option.toList, List.cons_append, List.nil_append, zup_s, zup_n, zst_s, zup_zs, zup_zn, decide_true, decide_false, c_Sh_read hSh2 hk, ea]
    refine c_Pl_goOn (q := t) (s := tr t) hN hC2 hF hFC2 c7 (by rw [hk2 20 (by decide)]; exact h20) (by rw [hk2 20 (by decide)]; exact h20l) (by rw [hk2 21 (by decide)]; exact hr) (htrl t) (fun h h2 => (zRd_iff hN hF h (htrl t)).mp h2) hT2 (by omega) hTr rfl ⟨hp, hit _⟩ (by omega) (Nat.le_of_ble_eq_true rfl) ?_
    rintro _ _ ⟨rfl, rfl⟩
    simp (disch := first | omega | exact Nat.le_of_ble_eq_true rfl | assumption | (simp only [Int.natCast_add, Int.natCast_mul, Int.cast_ofNat_Int]; omega) | decide) only [x_aload, x_getf, w_goto, w_fall, w_iadd, w_iconst, w_if, w_icmp, x_iinc, x_iload, x_istore, zadd_eq, gf_2_0, gf_2_1, gf_2_3, gf_2_4, gf_2_8, w_nret r_FN_walk, q_eq, q_ne, q_lt, q_ge, q_gt, q_le, g_I, g_L, g_R, g_V, t_0, t_I, t_R, t_U, t_L, t_s, List.getElem?_cons_zero, List.getElem?_cons_succ, Nat.reduceAdd, zif10, zif01b, zib, if_pos, if_neg, ↓reduceIte, not_true_eq_false, not_false_eq_true, Bool.true_eq_false, Bool.false_eq_true, Classical.not_not, eq_self, and_self, and_true, true_and, Int.reduceEq, Int.reduceLE, Int.reduceLT, Int.reduceNeg, Option.toList, List.cons_append, List.nil_append, zup_s, zup_n, zst_s, zup_zs, zup_zn, decide_true, decide_false]
    refine ih _ _ ⟨_, rfl, rfl, zKp_up (by decide) (zKp_up (by decide) hk2), ?_, fun q hq => ?_⟩
    · rw [zup_s]; omega
    · rw [zup_n (by decide)]
      by_cases e : q = t + 1
      · subst e
        rw [show ((t + 1 : Nat) : Int) = (t : Int) + 1 by omega, zup_s, htrS]
        rfl
      · rw [zup_d (by omega)]
        exact hTr.2 q (by omega)
  · rintro _ M2 ⟨_, rfl, rfl, hk2, hTr⟩
    have hm : (0 : Int) ≤ (m : Int) ∧ (m : Int) < ((m + 1 : Nat) : Int) := by omega
    rw [k_FN_walk_11]
    simp (disch := first | omega | exact Nat.le_of_ble_eq_true rfl | assumption | (simp only [Int.natCast_add, Int.natCast_mul, Int.cast_ofNat_Int]; omega) | decide) only [k_FN_walk_13, x_aload, x_getf, w_goto, w_fall, w_iadd, w_iconst, w_if, w_icmp, x_iinc, x_iload, x_istore, zadd_eq, gf_2_0, gf_2_1, gf_2_3, gf_2_4, gf_2_8, w_nret r_FN_walk, q_eq, q_ne, q_lt, q_ge, q_gt, q_le, g_I, g_L, g_R, g_V, t_0, t_I, t_R, t_U, t_L, t_s, List.getElem?_cons_zero, List.getElem?_cons_succ, Nat.reduceAdd, zif10, zif01b, zib, if_pos, if_neg, ↓reduceIte, not_true_eq_false, not_false_eq_true, Bool.true_eq_false, Bool.false_eq_true, Classical.not_not, eq_self, and_self, and_true, true_and, Int.reduceEq, Int.reduceLE, Int.reduceLT, Int.reduceNeg, Option.toList, List.cons_append, List.nil_append, zup_s, zup_n, zst_s, zup_zs, zup_zn, decide_true, decide_false, c_Pl_behind (show m + 1 ≤ 41 by omega) hTr, hm, Int.toNat_natCast, hans]
    exact ⟨fun _ => ⟨M1, hout, hk2, hTr⟩, fun h => absurd hg h⟩
end FC
