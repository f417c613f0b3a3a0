/-! the tape's reader: the reference's groups and beginnings -/
/-- what the group's reader leaves -/
def zGrR (q P : Nat) (tb : Nat → Nat) (p1 n : Nat) : Nat ⊕ (Nat × Nat × Nat) :=
  if zNc q tb (zGd q P tb 4 p1 0 0).1 = 62 then
    (if zNc q tb (zNp q tb (zGd q P tb 4 p1 0 0).1 + 1) = 40 then .inr (zNp q tb (zNp q tb (zGd q P tb 4 p1 0 0).1 + 1) + 1, 9, (zGd q P tb 4 p1 0 0).2)
    else if zqL (zNc q tb (zNp q tb (zGd q P tb 4 p1 0 0).1 + 1)) = 0 then .inl (zNp q tb (zNp q tb (zGd q P tb 4 p1 0 0).1 + 1))
    else .inr (zNp q tb (zNp q tb (zGd q P tb 4 p1 0 0).1 + 1) + 1, zkr (zqL (zNc q tb (zNp q tb (zGd q P tb 4 p1 0 0).1 + 1))), (zGd q P tb 4 p1 0 0).2))
  else .inl (zNp q tb (zGd q P tb 4 p1 0 0).1)
def zGrQ (res : Nat ⊕ (Nat × Nat × Nat)) (k D : Nat) (M M' : Nat → Int → Int) : Prop := (zRr M M' ∧ zSmR k M M' ∧ (∀ i : Nat, i < D → M' 64 i = M 64 i ∧ M' 65 i = M 65 i) ∧ M' 64 D = k ∧ M' 65 D = 0 ∧ M' 48 22 = ((D + 1 : Nat) : Int) ∧ M' 48 15 = M 48 15 ∧ M' 61 = M 61 ∧ M' 62 = M 62) ∧ match res with
  | .inl e => M' 48 25 = (e : Int) ∧ M' 48 26 = 1
  | .inr (p', kd', g') => M' 48 25 = (p' : Int) ∧ M' 48 26 = 0 ∧ M' 60 k = (kd' : Int) ∧ M' 63 k = (g' : Int)
theorem zGrQ_of {k D : Nat} {M : Nat → Int → Int} {pe w kd g : Int} : zRr M (zup (zup (zup (zup (zup (zup (zup M 48 25 pe) 48 26 w) 63 k g) 60 k kd) 64 D k) 65 D 0) 48 22 ((D : Int) + 1)) ∧ zSmR k M (zup (zup (zup (zup (zup (zup (zup M 48 25 pe) 48 26 w) 63 k g) 60 k kd) 64 D k) 65 D 0) 48 22 ((D : Int) + 1)) ∧ (∀ i : Nat, i < D → (zup (zup (zup (zup (zup (zup (zup M 48 25 pe) 48 26 w) 63 k g) 60 k kd) 64 D k) 65 D 0) 48 22 ((D : Int) + 1)) 64 i = M 64 i ∧ (zup (zup (zup (zup (zup (zup (zup M 48 25 pe) 48 26 w) 63 k g) 60 k kd) 64 D k) 65 D 0) 48 22 ((D : Int) + 1)) 65 i = M 65 i) ∧ (zup (zup (zup (zup (zup (zup (zup M 48 25 pe) 48 26 w) 63 k g) 60 k kd) 64 D k) 65 D 0) 48 22 ((D : Int) + 1)) 64 D = k ∧ (zup (zup (zup (zup (zup (zup (zup M 48 25 pe) 48 26 w) 63 k g) 60 k kd) 64 D k) 65 D 0) 48 22 ((D : Int) + 1)) 65 D = 0 ∧ (zup (zup (zup (zup (zup (zup (zup M 48 25 pe) 48 26 w) 63 k g) 60 k kd) 64 D k) 65 D 0) 48 22 ((D : Int) + 1)) 48 22 = ((D + 1 : Nat) : Int) ∧ (zup (zup (zup (zup (zup (zup (zup M 48 25 pe) 48 26 w) 63 k g) 60 k kd) 64 D k) 65 D 0) 48 22 ((D : Int) + 1)) 48 15 = M 48 15 ∧ (zup (zup (zup (zup (zup (zup (zup M 48 25 pe) 48 26 w) 63 k g) 60 k kd) 64 D k) 65 D 0) 48 22 ((D : Int) + 1)) 61 = M 61 ∧ (zup (zup (zup (zup (zup (zup (zup M 48 25 pe) 48 26 w) 63 k g) 60 k kd) 64 D k) 65 D 0) 48 22 ((D : Int) + 1)) 62 = M 62 := by
  refine ⟨?_, ?_, fun i hi => ⟨?_, ?_⟩, ?_, ?_, ?_, ?_, ?_, ?_⟩
  · exact zRr_48 (zRr_up (zRr_up (zRr_up (zRr_up (zRr_48 (zRr_48 (zRr_rf M) (by omega)) (by omega)) (by decide)) (by decide)) (by decide)) (by decide)) (by omega)
  · exact zSmR_48 (zSmR_ot (zSmR_ot (zSmR_up (zSmR_up (zSmR_48 (zSmR_48 (fun _ _ => ⟨rfl, rfl, rfl, rfl⟩))) (Nat.le_refl k)) (Nat.le_refl k)) (Or.inl rfl)) (Or.inr rfl))
  · rw [zup_n (by decide), zup_n (by decide), zup_d (by omega)]; rfl
  · rw [zup_n (by decide), zup_d (by omega)]; rfl
  · rw [zup_n (by decide), zup_n (by decide), zup_s]
  · rw [zup_n (by decide), zup_s]
  · rw [zup_s]; omega
  · rfl
  · funext x; rfl
  · funext x; rfl
section RR
variable {Ln q P : Nat} {tb : Nat → Nat} {M : Nat → Int → Int}
set_option maxHeartbeats 20000000 in
theorem F_Md_group {d : Nat} {p k D : Nat} (hT : zTpR q tb M) (hq : q ≤ 100) (hP : M 48 1 = P) (hP4 : P ≤ 4) (htb : ∀ j, j < q → 32 ≤ tb j ∧ tb j ≤ 126) (hp : M 48 25 = p) (hpq : p ≤ q) (hw : M 48 26 = 0) (hk : k < 24) (hD : M 48 22 = D) (hD2 : D < 24) (hc60 : zNc q tb p = 60) (hd : 2 ≤ d) : zF (zSH Ln) d i_Md_group [zR 48, zI (k : Int)] M fun r M' => r = none ∧ zGrQ (zGrR q P tb (zNp q tb p + 1) k) k D M M' := by
  rw [zF_en k_Md_group_0 (L := [zR 48, zI (k : Int), zU, zU, zU]) rfl]
  have hnp := zNp_le (tb := tb) hpq
  have hlt60 : zNp q tb p < q := zNc_lt (by omega)
  generalize hres : zGrR q P tb (zNp q tb p + 1) k = res
  unfold zGrR at hres
  have hGle := zGd_le (q := q) (P := P) (tb := tb) 4 (zNp q tb p + 1) 0 0 (by omega)
  have hGnp := zGd_np (q := q) (P := P) (tb := tb) 4 (zNp q tb p + 1) 0 0
  generalize hG : zGd q P tb 4 (zNp q tb p + 1) 0 0 = G at *
  have ok : ∀ (c3 : Int) (v4 : zMV) (pe kd : Nat), pe ≤ 1000 → kd ≠ 10 → res = .inr (pe + 1, kd, G.2) → zW (zSH Ln) d i_Md_group (zblk i_Md_group 18) [zR 48, zI (k : Int), zI (G.2 : Int), zI c3, v4] [zI (kd : Int)] (zup M 48 25 (pe : Int)) fun r M' => r = none ∧ zGrQ res k D M M' := by
    intro c3 v4 pe kd hpe hkd hr
    subst hr
    have hw2 : zup M 48 25 (pe : Int) 48 26 = 0 := hw
    have hkd' : ¬ (kd : Int) = 10 := by omega
    have hm : zup (zup (zup M 48 25 (pe : Int)) 48 26 0) 48 25 ((pe : Int) + 1) = zup (zup M 48 25 ((pe : Int) + 1)) 48 26 0 := by
      rw [zup_self (k := 48) (i := 26) (v := 0) hw2, zup_up]
      exact (zup_self (by rw [zup_d (by omega)]; exact hw)).symm
    have hD3 : zup (zup (zup M 48 25 ((pe : Int) + 1)) 48 26 0) 63 (k : Int) (G.2 : Int) 48 22 = (D : Int) := hD
    rw [k_Md_group_18]
    simp (disch := first | omega | exact Nat.le_of_ble_eq_true rfl | assumption | (simp only [Int.natCast_add, Int.natCast_mul, Int.cast_ofNat_Int]; omega) | decide) only [k_Md_group_19, k_Md_group_21, k_Md_group_22, k_Md_group_24, k_Md_group_25, x_aload, w_dupI, w_dupR, x_getf, w_goto, w_fall, w_i2l, w_iadd, w_iconst, w_if, w_icmp, x_iload, w_ior, w_ishl, w_ishr, x_istore, w_isub, w_sipush, zadd_eq, zsub_eq, gf_48_1, gf_48_19, gf_48_25, gf_48_26, xp_48_25, xp_48_26, sa_63, w_vret r_Md_group, q_eq, q_ne, q_lt, q_ge, q_gt, q_le, g_I, g_L, g_R, g_V, t_0, t_I, t_R, t_U, t_L, t_s, List.getElem?_cons_zero, List.getElem?_cons_succ, Nat.reduceAdd, zif10, zif01b, zib, if_pos, if_neg, ↓reduceIte, not_true_eq_false, not_false_eq_true, Bool.true_eq_false, Bool.false_eq_true, Classical.not_not, eq_self, and_self, and_true, true_and, Int.reduceEq, Int.reduceLE, Int.reduceLT, Int.reduceNeg, Option.toList, List.cons_append, List.nil_append, zup_s, zup_n, zst_s, zup_zs, zup_zn, decide_true, decide_false, hw2, hkd', zup_d, true_or, hm, c_Md_opens hk hD3 hD2]
    exact ⟨zGrQ_of, by show (pe : Int) + 1 = ((pe + 1 : Nat) : Int); omega, rfl, by rw [zup_n (by decide), zup_n (by decide), zup_n (by decide), zup_s], by rw [zup_n (by decide), zup_n (by decide), zup_n (by decide), zup_n (by decide), zup_s]⟩
  have bad : ∀ (c3 : Int) (v4 : zMV) (pe : Nat) (w : Int), pe ≤ 1000 → (w = 0 ∨ w = 1) → res = .inl pe → zW (zSH Ln) d i_Md_group (zblk i_Md_group 18) [zR 48, zI (k : Int), zI (G.2 : Int), zI c3, v4] [zI 10] (zup (zup M 48 25 (pe : Int)) 48 26 w) fun r M' => r = none ∧ zGrQ res k D M M' := by
    intro c3 v4 pe w hpe hw01 hr
    subst hr
    have hw2 : zup (zup M 48 25 (pe : Int)) 48 26 w 48 26 = w := zup_s _ _ _ _
    have hm : zup (zup (zup M 48 25 (pe : Int)) 48 26 1) 48 25 ((pe : Int) + 0) = zup (zup M 48 25 (pe : Int)) 48 26 1 := zup_self (by rw [Int.add_zero, zup_d (by omega), zup_s])
    have hD3 : zup (zup (zup M 48 25 (pe : Int)) 48 26 1) 63 (k : Int) (G.2 : Int) 48 22 = (D : Int) := hD
    rw [k_Md_group_18]
    rcases hw01 with rfl | rfl
    · simp (disch := first | omega | exact Nat.le_of_ble_eq_true rfl | assumption | (simp only [Int.natCast_add, Int.natCast_mul, Int.cast_ofNat_Int]; omega) | decide) only [k_Md_group_19, k_Md_group_20, k_Md_group_22, k_Md_group_23, k_Md_group_25, x_aload, w_dupI, w_dupR, x_getf, w_goto, w_fall, w_i2l, w_iadd, w_iconst, w_if, w_icmp, x_iload, w_ior, w_ishl, w_ishr, x_istore, w_isub, w_sipush, zadd_eq, zsub_eq, gf_48_1, gf_48_19, gf_48_25, gf_48_26, xp_48_25, xp_48_26, sa_63, w_vret r_Md_group, q_eq, q_ne, q_lt, q_ge, q_gt, q_le, g_I, g_L, g_R, g_V, t_0, t_I, t_R, t_U, t_L, t_s, List.getElem?_cons_zero, List.getElem?_cons_succ, Nat.reduceAdd, zif10, zif01b, zib, if_pos, if_neg, ↓reduceIte, not_true_eq_false, not_false_eq_true, Bool.true_eq_false, Bool.false_eq_true, Classical.not_not, eq_self, and_self, and_true, true_and, Int.reduceEq, Int.reduceLE, Int.reduceLT, Int.reduceNeg, Option.toList, List.cons_append, List.nil_append, zup_s, zup_n, zst_s, zup_zs, zup_zn, decide_true, decide_false, hw2, zup_d, or_true, zup_up, hm, c_Md_opens hk hD3 hD2]
      exact ⟨zGrQ_of, rfl, rfl⟩
    · simp (disch := first | omega | exact Nat.le_of_ble_eq_true rfl | assumption | (simp only [Int.natCast_add, Int.natCast_mul, Int.cast_ofNat_Int]; omega) | decide) only [k_Md_group_20, k_Md_group_22, k_Md_group_23, k_Md_group_25, x_aload, w_dupI, w_dupR, x_getf, w_goto, w_fall, w_i2l, w_iadd, w_iconst, w_if, w_icmp, x_iload, w_ior, w_ishl, w_ishr, x_istore, w_isub, w_sipush, zadd_eq, zsub_eq, gf_48_1, gf_48_19, gf_48_25, gf_48_26, xp_48_25, xp_48_26, sa_63, w_vret r_Md_group, q_eq, q_ne, q_lt, q_ge, q_gt, q_le, g_I, g_L, g_R, g_V, t_0, t_I, t_R, t_U, t_L, t_s, List.getElem?_cons_zero, List.getElem?_cons_succ, Nat.reduceAdd, zif10, zif01b, zib, if_pos, if_neg, ↓reduceIte, not_true_eq_false, not_false_eq_true, Bool.true_eq_false, Bool.false_eq_true, Classical.not_not, eq_self, and_self, and_true, true_and, Int.reduceEq, Int.reduceLE, Int.reduceLT, Int.reduceNeg, Option.toList, List.cons_append, List.nil_append, zup_s, zup_n, zst_s, zup_zs, zup_zn, decide_true, decide_false, hw2, zup_d, or_true, zup_up, hm, c_Md_opens hk hD3 hD2]
      exact ⟨zGrQ_of, rfl, rfl⟩
  -- behind the digits
  have fin : ∀ v3 v4 : zMV, zW (zSH Ln) d i_Md_group (zblk i_Md_group 4) [zR 48, zI (k : Int), zI (G.2 : Int), v3, v4] [] (zup M 48 25 (G.1 : Int)) fun r M' => r = none ∧ zGrQ res k D M M' := by
    intro v3 v4
    have hT2 : zTpR q tb (zup M 48 25 (G.1 : Int)) := hT
    have hp2 : zup M 48 25 (G.1 : Int) 48 25 = (G.1 : Int) := rfl
    have hw2 : zup M 48 25 (G.1 : Int) 48 26 = 0 := hw
    have hnpG := zNp_le (tb := tb) hGle
    by_cases c62 : zNc q tb G.1 = 62
    rotate_left
    · rw [if_neg c62] at hres
      have d62 : ¬ (zNc q tb G.1 : Int) = 62 := by omega
      rw [k_Md_group_4]
      simp (disch := first | omega | exact Nat.le_of_ble_eq_true rfl | assumption | (simp only [Int.natCast_add, Int.natCast_mul, Int.cast_ofNat_Int]; omega) | decide) only [k_Md_group_5, k_Md_group_7, k_Md_group_9, k_Md_group_11, k_Md_group_13, k_Md_group_15, k_Md_group_17, x_aload, w_dupI, w_dupR, x_getf, w_goto, w_fall, w_i2l, w_iadd, w_iconst, w_if, w_icmp, x_iload, w_ior, w_ishl, w_ishr, x_istore, w_isub, w_sipush, zadd_eq, zsub_eq, gf_48_1, gf_48_19, gf_48_25, gf_48_26, xp_48_25, xp_48_26, sa_63, w_vret r_Md_group, q_eq, q_ne, q_lt, q_ge, q_gt, q_le, g_I, g_L, g_R, g_V, t_0, t_I, t_R, t_U, t_L, t_s, List.getElem?_cons_zero, List.getElem?_cons_succ, Nat.reduceAdd, zif10, zif01b, zib, if_pos, if_neg, ↓reduceIte, not_true_eq_false, not_false_eq_true, Bool.true_eq_false, Bool.false_eq_true, Classical.not_not, eq_self, and_self, and_true, true_and, Int.reduceEq, Int.reduceLE, Int.reduceLT, Int.reduceNeg, Option.toList, List.cons_append, List.nil_append, zup_s, zup_n, zst_s, zup_zs, zup_zn, decide_true, decide_false, c_Md_needs hT2 hq hp2 hGle hw2, d62, zup_up]
      exact bad _ _ _ 1 (by omega) (Or.inr rfl) hres.symm
    rw [if_pos c62] at hres
    have d62 : (zNc q tb G.1 : Int) = 62 := by omega
    have hlt62 : zNp q tb G.1 < q := zNc_lt (by omega)
    have hw3 : zup M 48 25 ((zNp q tb G.1 : Int) + 1) 48 26 = 0 := hw
    have hT3 : zTpR q tb (zup M 48 25 ((zNp q tb G.1 : Int) + 1)) := hT
    have hp3 : zup M 48 25 ((zNp q tb G.1 : Int) + 1) 48 25 = ((zNp q tb G.1 + 1 : Nat) : Int) := by rw [zup_s]; omega
    have hnp3 := zNp_le (q := q) (tb := tb) (p := zNp q tb G.1 + 1) (by omega)
    rw [k_Md_group_4]
    simp (disch := first | omega | exact Nat.le_of_ble_eq_true rfl | assumption | (simp only [Int.natCast_add, Int.natCast_mul, Int.cast_ofNat_Int]; omega) | decide) only [k_Md_group_6, x_aload, w_dupI, w_dupR, x_getf, w_goto, w_fall, w_i2l, w_iadd, w_iconst, w_if, w_icmp, x_iload, w_ior, w_ishl, w_ishr, x_istore, w_isub, w_sipush, zadd_eq, zsub_eq, gf_48_1, gf_48_19, gf_48_25, gf_48_26, xp_48_25, xp_48_26, sa_63, w_vret r_Md_group, q_eq, q_ne, q_lt, q_ge, q_gt, q_le, g_I, g_L, g_R, g_V, t_0, t_I, t_R, t_U, t_L, t_s, List.getElem?_cons_zero, List.getElem?_cons_succ, Nat.reduceAdd, zif10, zif01b, zib, if_pos, if_neg, ↓reduceIte, not_true_eq_false, not_false_eq_true, Bool.true_eq_false, Bool.false_eq_true, Classical.not_not, eq_self, and_self, and_true, true_and, Int.reduceEq, Int.reduceLE, Int.reduceLT, Int.reduceNeg, Option.toList, List.cons_append, List.nil_append, zup_s, zup_n, zst_s, zup_zs, zup_zn, decide_true, decide_false, c_Md_needs hT2 hq hp2 hGle hw2, d62, zup_up, hw3, c_Md_next hT3 hq hp3 (by omega)]
    generalize zNc q tb (zNp q tb G.1 + 1) = c at *
    generalize zNp q tb (zNp q tb G.1 + 1) = pe at *
    have hb : res = .inl pe → zW (zSH Ln) d i_Md_group (zblk i_Md_group 18) [zR 48, zI (k : Int), zI (G.2 : Int), zI (c : Int), v4] [zI 10] (zup M 48 25 (pe : Int)) fun r M' => r = none ∧ zGrQ res k D M M' := fun h => by
      have := bad (c : Int) v4 pe 0 (by omega) (Or.inl rfl) h
      rw [zup_self (k := 48) (i := 26) (v := 0) (by rw [zup_d (by omega)]; exact hw)] at this
      exact this
    by_cases c40 : c = 40
    · subst c40
      rw [if_pos rfl] at hres
      simp (disch := first | omega | exact Nat.le_of_ble_eq_true rfl | assumption | (simp only [Int.natCast_add, Int.natCast_mul, Int.cast_ofNat_Int]; omega) | decide) only [k_Md_group_7, k_Md_group_9, k_Md_group_11, k_Md_group_13, k_Md_group_15, k_Md_group_16, x_aload, w_dupI, w_dupR, x_getf, w_goto, w_fall, w_i2l, w_iadd, w_iconst, w_if, w_icmp, x_iload, w_ior, w_ishl, w_ishr, x_istore, w_isub, w_sipush, zadd_eq, zsub_eq, gf_48_1, gf_48_19, gf_48_25, gf_48_26, xp_48_25, xp_48_26, sa_63, w_vret r_Md_group, q_eq, q_ne, q_lt, q_ge, q_gt, q_le, g_I, g_L, g_R, g_V, t_0, t_I, t_R, t_U, t_L, t_s, List.getElem?_cons_zero, List.getElem?_cons_succ, Nat.reduceAdd, zif10, zif01b, zib, if_pos, if_neg, ↓reduceIte, not_true_eq_false, not_false_eq_true, Bool.true_eq_false, Bool.false_eq_true, Classical.not_not, eq_self, and_self, and_true, true_and, Int.reduceEq, Int.reduceLE, Int.reduceLT, Int.reduceNeg, Option.toList, List.cons_append, List.nil_append, zup_s, zup_n, zst_s, zup_zs, zup_zn, decide_true, decide_false, show ((40 : Nat) : Int) = 40 from rfl]
      exact ok _ _ _ 9 (by omega) (by omega) hres.symm
    rw [if_neg c40] at hres
    by_cases c88 : c = 88
    · subst c88
      rw [if_neg (by decide)] at hres
      simp (disch := first | omega | exact Nat.le_of_ble_eq_true rfl | assumption | (simp only [Int.natCast_add, Int.natCast_mul, Int.cast_ofNat_Int]; omega) | decide) only [k_Md_group_7, k_Md_group_8, x_aload, w_dupI, w_dupR, x_getf, w_goto, w_fall, w_i2l, w_iadd, w_iconst, w_if, w_icmp, x_iload, w_ior, w_ishl, w_ishr, x_istore, w_isub, w_sipush, zadd_eq, zsub_eq, gf_48_1, gf_48_19, gf_48_25, gf_48_26, xp_48_25, xp_48_26, sa_63, w_vret r_Md_group, q_eq, q_ne, q_lt, q_ge, q_gt, q_le, g_I, g_L, g_R, g_V, t_0, t_I, t_R, t_U, t_L, t_s, List.getElem?_cons_zero, List.getElem?_cons_succ, Nat.reduceAdd, zif10, zif01b, zib, if_pos, if_neg, ↓reduceIte, not_true_eq_false, not_false_eq_true, Bool.true_eq_false, Bool.false_eq_true, Classical.not_not, eq_self, and_self, and_true, true_and, Int.reduceEq, Int.reduceLE, Int.reduceLT, Int.reduceNeg, Option.toList, List.cons_append, List.nil_append, zup_s, zup_n, zst_s, zup_zs, zup_zn, decide_true, decide_false, show ((88 : Nat) : Int) = 88 from rfl]
      exact ok _ _ _ 5 (by omega) (by omega) hres.symm
    by_cases c71 : c = 71
    · subst c71
      rw [if_neg (by decide)] at hres
      simp (disch := first | omega | exact Nat.le_of_ble_eq_true rfl | assumption | (simp only [Int.natCast_add, Int.natCast_mul, Int.cast_ofNat_Int]; omega) | decide) only [k_Md_group_7, k_Md_group_9, k_Md_group_10, x_aload, w_dupI, w_dupR, x_getf, w_goto, w_fall, w_i2l, w_iadd, w_iconst, w_if, w_icmp, x_iload, w_ior, w_ishl, w_ishr, x_istore, w_isub, w_sipush, zadd_eq, zsub_eq, gf_48_1, gf_48_19, gf_48_25, gf_48_26, xp_48_25, xp_48_26, sa_63, w_vret r_Md_group, q_eq, q_ne, q_lt, q_ge, q_gt, q_le, g_I, g_L, g_R, g_V, t_0, t_I, t_R, t_U, t_L, t_s, List.getElem?_cons_zero, List.getElem?_cons_succ, Nat.reduceAdd, zif10, zif01b, zib, if_pos, if_neg, ↓reduceIte, not_true_eq_false, not_false_eq_true, Bool.true_eq_false, Bool.false_eq_true, Classical.not_not, eq_self, and_self, and_true, true_and, Int.reduceEq, Int.reduceLE, Int.reduceLT, Int.reduceNeg, Option.toList, List.cons_append, List.nil_append, zup_s, zup_n, zst_s, zup_zs, zup_zn, decide_true, decide_false, show ((71 : Nat) : Int) = 71 from rfl]
      exact ok _ _ _ 6 (by omega) (by omega) hres.symm
    by_cases c70 : c = 70
    · subst c70
      rw [if_neg (by decide)] at hres
      simp (disch := first | omega | exact Nat.le_of_ble_eq_true rfl | assumption | (simp only [Int.natCast_add, Int.natCast_mul, Int.cast_ofNat_Int]; omega) | decide) only [k_Md_group_7, k_Md_group_9, k_Md_group_11, k_Md_group_12, x_aload, w_dupI, w_dupR, x_getf, w_goto, w_fall, w_i2l, w_iadd, w_iconst, w_if, w_icmp, x_iload, w_ior, w_ishl, w_ishr, x_istore, w_isub, w_sipush, zadd_eq, zsub_eq, gf_48_1, gf_48_19, gf_48_25, gf_48_26, xp_48_25, xp_48_26, sa_63, w_vret r_Md_group, q_eq, q_ne, q_lt, q_ge, q_gt, q_le, g_I, g_L, g_R, g_V, t_0, t_I, t_R, t_U, t_L, t_s, List.getElem?_cons_zero, List.getElem?_cons_succ, Nat.reduceAdd, zif10, zif01b, zib, if_pos, if_neg, ↓reduceIte, not_true_eq_false, not_false_eq_true, Bool.true_eq_false, Bool.false_eq_true, Classical.not_not, eq_self, and_self, and_true, true_and, Int.reduceEq, Int.reduceLE, Int.reduceLT, Int.reduceNeg, Option.toList, List.cons_append, List.nil_append, zup_s, zup_n, zst_s, zup_zs, zup_zn, decide_true, decide_false, show ((70 : Nat) : Int) = 70 from rfl]
      exact ok _ _ _ 7 (by omega) (by omega) hres.symm
    by_cases c73 : c = 73
    · subst c73
      rw [if_neg (by decide)] at hres
      simp (disch := first | omega | exact Nat.le_of_ble_eq_true rfl | assumption | (simp only [Int.natCast_add, Int.natCast_mul, Int.cast_ofNat_Int]; omega) | decide) only [k_Md_group_7, k_Md_group_9, k_Md_group_11, k_Md_group_13, k_Md_group_14, x_aload, w_dupI, w_dupR, x_getf, w_goto, w_fall, w_i2l, w_iadd, w_iconst, w_if, w_icmp, x_iload, w_ior, w_ishl, w_ishr, x_istore, w_isub, w_sipush, zadd_eq, zsub_eq, gf_48_1, gf_48_19, gf_48_25, gf_48_26, xp_48_25, xp_48_26, sa_63, w_vret r_Md_group, q_eq, q_ne, q_lt, q_ge, q_gt, q_le, g_I, g_L, g_R, g_V, t_0, t_I, t_R, t_U, t_L, t_s, List.getElem?_cons_zero, List.getElem?_cons_succ, Nat.reduceAdd, zif10, zif01b, zib, if_pos, if_neg, ↓reduceIte, not_true_eq_false, not_false_eq_true, Bool.true_eq_false, Bool.false_eq_true, Classical.not_not, eq_self, and_self, and_true, true_and, Int.reduceEq, Int.reduceLE, Int.reduceLT, Int.reduceNeg, Option.toList, List.cons_append, List.nil_append, zup_s, zup_n, zst_s, zup_zs, zup_zn, decide_true, decide_false, show ((73 : Nat) : Int) = 73 from rfl]
      exact ok _ _ _ 8 (by omega) (by omega) hres.symm
    rw [if_pos (by unfold zqL; rw [if_neg c88, if_neg c71, if_neg c70, if_neg c73])] at hres
    have d1 : ¬ (c : Int) = 40 := by omega
    have d2 : ¬ (c : Int) = 70 := by omega
    have d3 : ¬ (c : Int) = 71 := by omega
    have d4 : ¬ (c : Int) = 73 := by omega
    have d5 : ¬ (c : Int) = 88 := by omega
    simp (disch := first | omega | exact Nat.le_of_ble_eq_true rfl | assumption | (simp only [Int.natCast_add, Int.natCast_mul, Int.cast_ofNat_Int]; omega) | decide) only [k_Md_group_7, k_Md_group_9, k_Md_group_11, k_Md_group_13, k_Md_group_15, k_Md_group_17, x_aload, w_dupI, w_dupR, x_getf, w_goto, w_fall, w_i2l, w_iadd, w_iconst, w_if, w_icmp, x_iload, w_ior, w_ishl, w_ishr, x_istore, w_isub, w_sipush, zadd_eq, zsub_eq, gf_48_1, gf_48_19, gf_48_25, gf_48_26, xp_48_25, xp_48_26, sa_63, w_vret r_Md_group, q_eq, q_ne, q_lt, q_ge, q_gt, q_le, g_I, g_L, g_R, g_V, t_0, t_I, t_R, t_U, t_L, t_s, List.getElem?_cons_zero, List.getElem?_cons_succ, Nat.reduceAdd, zif10, zif01b, zib, if_pos, if_neg, ↓reduceIte, not_true_eq_false, not_false_eq_true, Bool.true_eq_false, Bool.false_eq_true, Classical.not_not, eq_self, and_self, and_true, true_and, Int.reduceEq, Int.reduceLE, Int.reduceLT, Int.reduceNeg, Option.toList, List.cons_append, List.nil_append, zup_s, zup_n, zst_s, zup_zs, zup_zn, decide_true, decide_false, d1, d2, d3, d4, d5]
    exact hb hres.symm
  -- the digits
  have one : ∀ (pt l g : Nat) (v3 v4 : zMV) (Q : Option zMV → (Nat → Int → Int) → Prop), pt ≤ q → l ≤ P → g < 2 ^ l → (l = 0 ∨ 2 ^ (l - 1) ≤ g) → (¬ (48 + l ≤ zNc q tb pt ∧ zNc q tb pt < 48 + P) → zW (zSH Ln) d i_Md_group (zblk i_Md_group 4) [zR 48, zI (k : Int), zI (g : Int), v3, v4] [] (zup M 48 25 (zNp q tb pt : Int)) Q) → ((48 + l ≤ zNc q tb pt ∧ zNc q tb pt < 48 + P) → zW (zSH Ln) d i_Md_group (zblk i_Md_group 1) [zR 48, zI (k : Int), zI ((g + 2 ^ (zNc q tb pt - 48) : Nat) : Int), v3, v4] [] (zup M 48 25 ((zNp q tb pt : Int) + 1)) Q) → zW (zSH Ln) d i_Md_group (zblk i_Md_group 1) [zR 48, zI (k : Int), zI (g : Int), v3, v4] [] (zup M 48 25 (pt : Int)) Q := by
    intro pt l g v3 v4 Q h1 h3 h4 h5 hno hgo
    have hT2 : zTpR q tb (zup M 48 25 (pt : Int)) := hT
    have hp2 : zup M 48 25 (pt : Int) 48 25 = (pt : Int) := rfl
    have hnpt := zNp_le (tb := tb) h1
    have hT3 : zTpR q tb (zup M 48 25 (zNp q tb pt : Int)) := hT
    have hp3 : zup M 48 25 (zNp q tb pt : Int) 48 25 = (zNp q tb pt : Int) := rfl
    have hP2 : zup M 48 25 (zNp q tb pt : Int) 48 1 = (P : Int) := hP
    have h126 := zNc_126 htb pt
    have hnx := fun {d mi o b9 : Nat} {es : List zEnt} {L st : List zMV} {Q : Option zMV → (Nat → Int → Int) → Prop} (hd : 0 + 1 ≤ d) (hc : zcats st ≤ 8) => c_Md_next (Ln := Ln) (d := d) (mi := mi) (o := o) (b9 := b9) (es := es) (L := L) (st := st) (Q := Q) hT3 hq hp3 hnpt hd hc
    simp only [zNc_id, zNp_id, zup_up] at hnx
    have h16 : g < 16 := by
      have : 2 ^ l ≤ 2 ^ 4 := Nat.pow_le_pow_right (by omega) (by omega)
      omega
    by_cases c1 : 48 ≤ zNc q tb pt ∧ zNc q tb pt < 48 + P
    rotate_left
    · have c1' : ¬ ((48 : Int) ≤ (zNc q tb pt : Int) ∧ (zNc q tb pt : Int) ≤ 47 + (P : Int)) := by omega
      rw [k_Md_group_1]
      simp (disch := first | omega | exact Nat.le_of_ble_eq_true rfl | assumption | (simp only [Int.natCast_add, Int.natCast_mul, Int.cast_ofNat_Int]; omega) | decide) only [x_aload, w_dupI, w_dupR, x_getf, w_goto, w_fall, w_i2l, w_iadd, w_iconst, w_if, w_icmp, x_iload, w_ior, w_ishl, w_ishr, x_istore, w_isub, w_sipush, zadd_eq, zsub_eq, gf_48_1, gf_48_19, gf_48_25, gf_48_26, xp_48_25, xp_48_26, sa_63, w_vret r_Md_group, q_eq, q_ne, q_lt, q_ge, q_gt, q_le, g_I, g_L, g_R, g_V, t_0, t_I, t_R, t_U, t_L, t_s, List.getElem?_cons_zero, List.getElem?_cons_succ, Nat.reduceAdd, zif10, zif01b, zib, if_pos, if_neg, ↓reduceIte, not_true_eq_false, not_false_eq_true, Bool.true_eq_false, Bool.false_eq_true, Classical.not_not, eq_self, and_self, and_true, true_and, Int.reduceEq, Int.reduceLE, Int.reduceLT, Int.reduceNeg, Option.toList, List.cons_append, List.nil_append, zup_s, zup_n, zst_s, zup_zs, zup_zn, decide_true, decide_false, c_Md_next hT2 hq hp2 h1, zup_up, hP2, c_Md_in, c1']
      exact hno (by omega)
    obtain ⟨x, hx⟩ : ∃ x, zNc q tb pt = 48 + x := ⟨zNc q tb pt - 48, by omega⟩
    have hci : (zNc q tb pt : Int) = 48 + (x : Int) := by omega
    have c1' : (48 : Int) ≤ 48 + (x : Int) ∧ 48 + (x : Int) ≤ 47 + (P : Int) := by omega
    have e1 : (48 : Int) + (x : Int) - 48 = (x : Int) := by omega
    have e2 := zshr_16 g h16 x (by omega)
    rw [hx, show 48 + x - 48 = x by omega] at hgo
    rw [hx] at hno
    by_cases c2 : l ≤ x
    · have hgx : g < 2 ^ x := Nat.lt_of_lt_of_le h4 (Nat.pow_le_pow_right (by omega) c2)
      have e3 : ((g / 2 ^ x : Nat) : Int) = 0 := by rw [Nat.div_eq_of_lt hgx]; rfl
      rw [k_Md_group_1]
      simp (disch := first | omega | exact Nat.le_of_ble_eq_true rfl | assumption | (simp only [Int.natCast_add, Int.natCast_mul, Int.cast_ofNat_Int]; omega) | decide) only [k_Md_group_2, k_Md_group_3, x_aload, w_dupI, w_dupR, x_getf, w_goto, w_fall, w_i2l, w_iadd, w_iconst, w_if, w_icmp, x_iload, w_ior, w_ishl, w_ishr, x_istore, w_isub, w_sipush, zadd_eq, zsub_eq, gf_48_1, gf_48_19, gf_48_25, gf_48_26, xp_48_25, xp_48_26, sa_63, w_vret r_Md_group, q_eq, q_ne, q_lt, q_ge, q_gt, q_le, g_I, g_L, g_R, g_V, t_0, t_I, t_R, t_U, t_L, t_s, List.getElem?_cons_zero, List.getElem?_cons_succ, Nat.reduceAdd, zif10, zif01b, zib, if_pos, if_neg, ↓reduceIte, not_true_eq_false, not_false_eq_true, Bool.true_eq_false, Bool.false_eq_true, Classical.not_not, eq_self, and_self, and_true, true_and, Int.reduceEq, Int.reduceLE, Int.reduceLT, Int.reduceNeg, Option.toList, List.cons_append, List.nil_append, zup_s, zup_n, zst_s, zup_zs, zup_zn, decide_true, decide_false, c_Md_next hT2 hq hp2 h1, zup_up, hP2, c_Md_in, c1', hnx, hci, e1, e2, e3, zor_pw hgx (show x ≤ 20 by omega), zup_d]
      exact hgo ⟨by omega, by omega⟩
    · have hge : 2 ^ x ≤ g := by
        rcases h5 with h5 | h5
        · omega
        · exact Nat.le_trans (Nat.pow_le_pow_right (by omega) (by omega)) h5
      have e3 : ¬ ((g / 2 ^ x : Nat) : Int) = 0 := by
        have := Nat.div_pos hge (Nat.two_pow_pos x)
        omega
      rw [k_Md_group_1]
      simp (disch := first | omega | exact Nat.le_of_ble_eq_true rfl | assumption | (simp only [Int.natCast_add, Int.natCast_mul, Int.cast_ofNat_Int]; omega) | decide) only [k_Md_group_2, x_aload, w_dupI, w_dupR, x_getf, w_goto, w_fall, w_i2l, w_iadd, w_iconst, w_if, w_icmp, x_iload, w_ior, w_ishl, w_ishr, x_istore, w_isub, w_sipush, zadd_eq, zsub_eq, gf_48_1, gf_48_19, gf_48_25, gf_48_26, xp_48_25, xp_48_26, sa_63, w_vret r_Md_group, q_eq, q_ne, q_lt, q_ge, q_gt, q_le, g_I, g_L, g_R, g_V, t_0, t_I, t_R, t_U, t_L, t_s, List.getElem?_cons_zero, List.getElem?_cons_succ, Nat.reduceAdd, zif10, zif01b, zib, if_pos, if_neg, ↓reduceIte, not_true_eq_false, not_false_eq_true, Bool.true_eq_false, Bool.false_eq_true, Classical.not_not, eq_self, and_self, and_true, true_and, Int.reduceEq, Int.reduceLE, Int.reduceLT, Int.reduceNeg, Option.toList, List.cons_append, List.nil_append, zup_s, zup_n, zst_s, zup_zs, zup_zn, decide_true, decide_false, c_Md_next hT2 hq hp2 h1, zup_up, hP2, c_Md_in, c1', hnx, hci, e1, e2, e3]
      exact hno (by omega)
  have loop : ∀ (f pt l g : Nat) (v3 v4 : zMV), pt ≤ q → 4 ≤ l + f → l ≤ P → g < 2 ^ l → (l = 0 ∨ 2 ^ (l - 1) ≤ g) → zGd q P tb f pt l g = G → zW (zSH Ln) d i_Md_group (zblk i_Md_group 1) [zR 48, zI (k : Int), zI (g : Int), v3, v4] [] (zup M 48 25 (pt : Int)) fun r M' => r = none ∧ zGrQ res k D M M' := by
    intro f
    induction f with
    | zero =>
      intro pt l g v3 v4 h1 h2 h3 h4 h5 h6
      have e1 : zNp q tb pt = G.1 := congrArg Prod.fst h6
      have e2 : g = G.2 := congrArg Prod.snd h6
      refine one pt l g v3 v4 _ h1 h3 h4 h5 (fun _ => ?_) (fun h => by omega)
      rw [e1, e2]
      exact fin _ _
    | succ f ih =>
      intro pt l g v3 v4 h1 h2 h3 h4 h5 h6
      unfold zGd at h6
      refine one pt l g v3 v4 _ h1 h3 h4 h5 (fun hc => ?_) (fun hc => ?_)
      · rw [if_neg hc] at h6
        have e1 : zNp q tb pt = G.1 := congrArg Prod.fst h6
        have e2 : g = G.2 := congrArg Prod.snd h6
        rw [e1, e2]
        exact fin _ _
      · rw [if_pos hc] at h6
        have hlt := zNc_lt (q := q) (tb := tb) (p := pt) (by omega)
        have hgx : g < 2 ^ (zNc q tb pt - 48) := Nat.lt_of_lt_of_le h4 (Nat.pow_le_pow_right (by omega) (by omega))
        have := ih (zNp q tb pt + 1) (zNc q tb pt - 48 + 1) (g + 2 ^ (zNc q tb pt - 48)) v3 v4 (by omega) (by omega) (by omega) (by rw [Nat.pow_succ]; omega) (Or.inr (by rw [Nat.add_sub_cancel]; omega)) h6
        rw [show ((zNp q tb pt + 1 : Nat) : Int) = (zNp q tb pt : Int) + 1 by omega] at this
        exact this
  have hT1 : zTpR q tb M := hT
  have d60 : (zNc q tb p : Int) = 60 := by omega
  simp (disch := first | omega | exact Nat.le_of_ble_eq_true rfl | assumption | (simp only [Int.natCast_add, Int.natCast_mul, Int.cast_ofNat_Int]; omega) | decide) only [x_aload, w_dupI, w_dupR, x_getf, w_goto, w_fall, w_i2l, w_iadd, w_iconst, w_if, w_icmp, x_iload, w_ior, w_ishl, w_ishr, x_istore, w_isub, w_sipush, zadd_eq, zsub_eq, gf_48_1, gf_48_19, gf_48_25, gf_48_26, xp_48_25, xp_48_26, sa_63, w_vret r_Md_group, q_eq, q_ne, q_lt, q_ge, q_gt, q_le, g_I, g_L, g_R, g_V, t_0, t_I, t_R, t_U, t_L, t_s, List.getElem?_cons_zero, List.getElem?_cons_succ, Nat.reduceAdd, zif10, zif01b, zib, if_pos, if_neg, ↓reduceIte, not_true_eq_false, not_false_eq_true, Bool.true_eq_false, Bool.false_eq_true, Classical.not_not, eq_self, and_self, and_true, true_and, Int.reduceEq, Int.reduceLE, Int.reduceLT, Int.reduceNeg, Option.toList, List.cons_append, List.nil_append, zup_s, zup_n, zst_s, zup_zs, zup_zn, decide_true, decide_false, c_Md_needs hT hq hp hpq hw, d60]
  have := loop 4 (zNp q tb p + 1) 0 0 zU zU (by omega) (by omega) (Nat.zero_le _) (by decide) (Or.inl rfl) hG
  rw [show ((zNp q tb p + 1 : Nat) : Int) = (zNp q tb p : Int) + 1 by omega] at this
  exact this
theorem c_Md_group {d mi o b9 : Nat} {es : List zEnt} {L st : List zMV} {Q : Option zMV → (Nat → Int → Int) → Prop} {p k D : Nat} (hT : zTpR q tb M) (hq : q ≤ 100) (hP : M 48 1 = P) (hP4 : P ≤ 4) (htb : ∀ j, j < q → 32 ≤ tb j ∧ tb j ≤ 126) (hp : M 48 25 = p) (hpq : p ≤ q) (hw : M 48 26 = 0) (hk : k < 24) (hD : M 48 22 = D) (hD2 : D < 24) (hc60 : zNc q tb p = 60) (hd : 2 + 1 ≤ d) (hc : zcats st ≤ 8) (hpost : ∀ r M', (r = none ∧ zGrQ (zGrR q P tb (zNp q tb p + 1) k) k D M M') → zW (zSH Ln) d mi es L (r.toList ++ st) M' Q) : zW (zSH Ln) d mi ((.invokevirtual o, 192, b9) :: es) L (zI (k : Int) :: zR 48 :: st) M Q :=
  w_callv (ps := [zI (k : Int)]) (by omega) rfl rfl (by omega) (by exact sh_48 Ln) hc (Nat.le_of_ble_eq_true rfl) (F_Md_group hT hq hP hP4 htb hp hpq hw hk hD hD2 hc60 (by omega)) hpost
end RR
