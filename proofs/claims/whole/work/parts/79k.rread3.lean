/-! the tape's reader: the reference's beginnings -/
/-- what a form begins with: a fault, or (a leaf, place, kind, which letter, group) -/
def zIW (q P : Nat) (tb : Nat → Nat) (p n : Nat) : Nat ⊕ (Bool × Nat × Nat × Nat × Nat) :=
  if 24 ≤ n then .inl (zNp q tb p)
  else if zNc q tb p = 84 then .inr (true, zNp q tb p + 1, 0, 0, 0)
  else if 97 ≤ zNc q tb p ∧ zNc q tb p ≤ 104 then .inr (true, zNp q tb p + 1, 1, zNc q tb p - 97, 0)
  else if zNc q tb p = 33 then .inr (false, zNp q tb p + 1, 2, 0, 0)
  else if zNc q tb p = 40 then .inr (false, zNp q tb p + 1, 10, 0, 0)
  else if zNc q tb p = 60 then
    (match zGrR q P tb (zNp q tb p + 1) n with
    | .inl e => .inl e
    | .inr (p', kd, g) => .inr (false, p', kd, 0, g))
  else .inl (zNp q tb p)
def zIwQ (res : Nat ⊕ (Bool × Nat × Nat × Nat × Nat)) (n : Nat) (St : List (Nat × Bool)) (M : Nat → Int → Int) (r : Option zMV) (M' : Nat → Int → Int) : Prop := (zRr M M' ∧ zSmR n M M' ∧ zRng M') ∧ match res with
  | .inl e => (r = some (zI 0) ∨ r = some (zI 1)) ∧ M' 48 25 = (e : Int) ∧ M' 48 26 = 1
  | .inr (lf, p', kd, one, g) => r = some (zI (if lf = true then 1 else 0)) ∧ zEn p' (n + 1) (if lf = true then St else (n, false) :: St) M' ∧ M' 60 n = (kd : Int) ∧ (lf = true → kd = 1 → M' 61 n = (one : Int)) ∧ (lf = false → 5 ≤ kd → kd ≠ 10 → M' 63 n = (g : Int))
theorem zRng_up {M : Nat → Int → Int} {k : Nat} {i v : Int} (h : zRng M) (hv : k = 61 ∨ k = 62 → 0 ≤ v ∧ v < 2147483648) : zRng (zup M k i v) := fun j hj => by
  obtain ⟨h1, h2⟩ := h j hj
  constructor
  · by_cases e : 61 = k ∧ (j : Int) = i
    · obtain ⟨rfl, rfl⟩ := e
      rw [zup_s]; exact hv (Or.inl rfl)
    · have : zup M k i v 61 (j : Int) = M 61 j := by unfold zup; rw [if_neg e]
      rw [this]; exact h1
  · by_cases e : 62 = k ∧ (j : Int) = i
    · obtain ⟨rfl, rfl⟩ := e
      rw [zup_s]; exact hv (Or.inr rfl)
    · have : zup M k i v 62 (j : Int) = M 62 j := by unfold zup; rw [if_neg e]
      rw [this]; exact h2
section RR
variable {Ln q P : Nat} {tb : Nat → Nat} {M : Nat → Int → Int}
set_option maxHeartbeats 20000000 in
theorem F_Md_isWhole {d : Nat} {p n : Nat} {St : List (Nat × Bool)} (hT : zTpR q tb M) (hq : q ≤ 100) (hP : M 48 1 = P) (hP4 : P ≤ 4) (htb : ∀ j, j < q → 32 ≤ tb j ∧ tb j ≤ 126) (hE : zEn p n St M) (hpq : p ≤ q) (hn : n ≤ 24) (hSt : St.length ≤ n) (hd : 3 ≤ d) : zF (zSH Ln) d i_Md_isWhole [zR 48] M fun r M' => zIwQ (zIW q P tb p n) n St M r M' := by
  rw [zF_en k_Md_isWhole_0 (L := [zR 48, zU, zU, zU]) rfl]
  obtain ⟨h25, h26, h15, h22, hst, hrng⟩ := hE
  generalize hres : zIW q P tb p n = res
  unfold zIW at hres
  have hnp := zNp_le (tb := tb) hpq
  have h126 := zNc_126 htb p
  have hcast : ((zNp q tb p + 1 : Nat) : Int) = (zNp q tb p : Int) + 1 := by omega
  rw [← k_Md_isWhole_0]
  have to7 : ∀ (Q : Option zMV → (Nat → Int → Int) → Prop), zW (zSH Ln) d i_Md_isWhole (zblk i_Md_isWhole 7) [zR 48, zI (zNc q tb p : Int), zU, zU] [zI (if zNc q tb p = 84 ∨ (97 ≤ zNc q tb p ∧ zNc q tb p ≤ 104) ∨ zNc q tb p = 33 ∨ zNc q tb p = 40 ∨ zNc q tb p = 60 then 1 else 0)] (zup M 48 25 (zNp q tb p : Int)) Q → zW (zSH Ln) d i_Md_isWhole (zblk i_Md_isWhole 0) [zR 48, zU, zU, zU] [] M Q := by
    intro Q hQ
    have hx := fun {d mi o b9 : Nat} {es : List zEnt} {L st : List zMV} {Q : Option zMV → (Nat → Int → Int) → Prop} (hd : 0 + 1 ≤ d) (hc : zcats st ≤ 8) => c_Md_next (Ln := Ln) (d := d) (mi := mi) (o := o) (b9 := b9) (es := es) (L := L) (st := st) (Q := Q) hT hq h25 hpq hd hc
    generalize zNc q tb p = c at *
    rw [k_Md_isWhole_0]
    by_cases c1 : c = 84
    · subst c1
      rw [if_pos (Or.inl rfl)] at hQ
      simp (disch := first | omega | exact Nat.le_of_ble_eq_true rfl | assumption | (simp only [Int.natCast_add, Int.natCast_mul, Int.cast_ofNat_Int]; omega) | decide) only [k_Md_isWhole_5, x_aload, w_dupI, w_dupR, x_getf, w_goto, w_fall, w_i2l, w_iadd, w_iconst, w_if, w_icmp, x_iload, x_istore, w_isub, w_sipush, zadd_eq, zsub_eq, gf_48_15, gf_48_16, gf_48_17, gf_48_25, gf_48_26, xp_48_15, xp_48_25, xp_48_26, sa_60, sa_61, w_bret r_Md_isWhole, q_eq, q_ne, q_lt, q_ge, q_gt, q_le, g_I, g_L, g_R, g_V, t_0, t_I, t_R, t_U, t_L, t_s, List.getElem?_cons_zero, List.getElem?_cons_succ, Nat.reduceAdd, zif10, zif01b, zib, if_pos, if_neg, ↓reduceIte, not_true_eq_false, not_false_eq_true, Bool.true_eq_false, Bool.false_eq_true, Classical.not_not, eq_self, and_self, and_true, true_and, Int.reduceEq, Int.reduceLE, Int.reduceLT, Int.reduceNeg, Option.toList, List.cons_append, List.nil_append, zup_s, zup_n, zst_s, zup_zs, zup_zn, decide_true, decide_false, hx, show ((84 : Nat) : Int) = 84 from rfl]
      exact hQ
    have d1 : ¬ (c : Int) = 84 := by omega
    by_cases c2 : 97 ≤ c ∧ c ≤ 104
    · have d2 : (97 : Int) ≤ (c : Int) ∧ (c : Int) ≤ 104 := by omega
      rw [if_pos (Or.inr (Or.inl c2))] at hQ
      simp (disch := first | omega | exact Nat.le_of_ble_eq_true rfl | assumption | (simp only [Int.natCast_add, Int.natCast_mul, Int.cast_ofNat_Int]; omega) | decide) only [k_Md_isWhole_1, k_Md_isWhole_5, x_aload, w_dupI, w_dupR, x_getf, w_goto, w_fall, w_i2l, w_iadd, w_iconst, w_if, w_icmp, x_iload, x_istore, w_isub, w_sipush, zadd_eq, zsub_eq, gf_48_15, gf_48_16, gf_48_17, gf_48_25, gf_48_26, xp_48_15, xp_48_25, xp_48_26, sa_60, sa_61, w_bret r_Md_isWhole, q_eq, q_ne, q_lt, q_ge, q_gt, q_le, g_I, g_L, g_R, g_V, t_0, t_I, t_R, t_U, t_L, t_s, List.getElem?_cons_zero, List.getElem?_cons_succ, Nat.reduceAdd, zif10, zif01b, zib, if_pos, if_neg, ↓reduceIte, not_true_eq_false, not_false_eq_true, Bool.true_eq_false, Bool.false_eq_true, Classical.not_not, eq_self, and_self, and_true, true_and, Int.reduceEq, Int.reduceLE, Int.reduceLT, Int.reduceNeg, Option.toList, List.cons_append, List.nil_append, zup_s, zup_n, zst_s, zup_zs, zup_zn, decide_true, decide_false, hx, d1, c_Md_in, d2]
      exact hQ
    have d2 : ¬ ((97 : Int) ≤ (c : Int) ∧ (c : Int) ≤ 104) := by omega
    by_cases c3 : c = 33
    · subst c3
      rw [if_pos (Or.inr (Or.inr (Or.inl rfl)))] at hQ
      simp (disch := first | omega | exact Nat.le_of_ble_eq_true rfl | assumption | (simp only [Int.natCast_add, Int.natCast_mul, Int.cast_ofNat_Int]; omega) | decide) only [k_Md_isWhole_1, k_Md_isWhole_2, k_Md_isWhole_5, x_aload, w_dupI, w_dupR, x_getf, w_goto, w_fall, w_i2l, w_iadd, w_iconst, w_if, w_icmp, x_iload, x_istore, w_isub, w_sipush, zadd_eq, zsub_eq, gf_48_15, gf_48_16, gf_48_17, gf_48_25, gf_48_26, xp_48_15, xp_48_25, xp_48_26, sa_60, sa_61, w_bret r_Md_isWhole, q_eq, q_ne, q_lt, q_ge, q_gt, q_le, g_I, g_L, g_R, g_V, t_0, t_I, t_R, t_U, t_L, t_s, List.getElem?_cons_zero, List.getElem?_cons_succ, Nat.reduceAdd, zif10, zif01b, zib, if_pos, if_neg, ↓reduceIte, not_true_eq_false, not_false_eq_true, Bool.true_eq_false, Bool.false_eq_true, Classical.not_not, eq_self, and_self, and_true, true_and, Int.reduceEq, Int.reduceLE, Int.reduceLT, Int.reduceNeg, Option.toList, List.cons_append, List.nil_append, zup_s, zup_n, zst_s, zup_zs, zup_zn, decide_true, decide_false, hx, show ((33 : Nat) : Int) = 33 from rfl, c_Md_in, show ¬ ((97 : Int) ≤ 33 ∧ (33 : Int) ≤ 104) by omega]
      exact hQ
    have d3 : ¬ (c : Int) = 33 := by omega
    by_cases c4 : c = 40
    · subst c4
      rw [if_pos (Or.inr (Or.inr (Or.inr (Or.inl rfl))))] at hQ
      simp (disch := first | omega | exact Nat.le_of_ble_eq_true rfl | assumption | (simp only [Int.natCast_add, Int.natCast_mul, Int.cast_ofNat_Int]; omega) | decide) only [k_Md_isWhole_1, k_Md_isWhole_2, k_Md_isWhole_3, k_Md_isWhole_5, x_aload, w_dupI, w_dupR, x_getf, w_goto, w_fall, w_i2l, w_iadd, w_iconst, w_if, w_icmp, x_iload, x_istore, w_isub, w_sipush, zadd_eq, zsub_eq, gf_48_15, gf_48_16, gf_48_17, gf_48_25, gf_48_26, xp_48_15, xp_48_25, xp_48_26, sa_60, sa_61, w_bret r_Md_isWhole, q_eq, q_ne, q_lt, q_ge, q_gt, q_le, g_I, g_L, g_R, g_V, t_0, t_I, t_R, t_U, t_L, t_s, List.getElem?_cons_zero, List.getElem?_cons_succ, Nat.reduceAdd, zif10, zif01b, zib, if_pos, if_neg, ↓reduceIte, not_true_eq_false, not_false_eq_true, Bool.true_eq_false, Bool.false_eq_true, Classical.not_not, eq_self, and_self, and_true, true_and, Int.reduceEq, Int.reduceLE, Int.reduceLT, Int.reduceNeg, Option.toList, List.cons_append, List.nil_append, zup_s, zup_n, zst_s, zup_zs, zup_zn, decide_true, decide_false, hx, show ((40 : Nat) : Int) = 40 from rfl, c_Md_in, show ¬ ((97 : Int) ≤ 40 ∧ (40 : Int) ≤ 104) by omega]
      exact hQ
    have d4 : ¬ (c : Int) = 40 := by omega
    by_cases c5 : c = 60
    · subst c5
      rw [if_pos (Or.inr (Or.inr (Or.inr (Or.inr rfl))))] at hQ
      simp (disch := first | omega | exact Nat.le_of_ble_eq_true rfl | assumption | (simp only [Int.natCast_add, Int.natCast_mul, Int.cast_ofNat_Int]; omega) | decide) only [k_Md_isWhole_1, k_Md_isWhole_2, k_Md_isWhole_3, k_Md_isWhole_4, k_Md_isWhole_5, x_aload, w_dupI, w_dupR, x_getf, w_goto, w_fall, w_i2l, w_iadd, w_iconst, w_if, w_icmp, x_iload, x_istore, w_isub, w_sipush, zadd_eq, zsub_eq, gf_48_15, gf_48_16, gf_48_17, gf_48_25, gf_48_26, xp_48_15, xp_48_25, xp_48_26, sa_60, sa_61, w_bret r_Md_isWhole, q_eq, q_ne, q_lt, q_ge, q_gt, q_le, g_I, g_L, g_R, g_V, t_0, t_I, t_R, t_U, t_L, t_s, List.getElem?_cons_zero, List.getElem?_cons_succ, Nat.reduceAdd, zif10, zif01b, zib, if_pos, if_neg, ↓reduceIte, not_true_eq_false, not_false_eq_true, Bool.true_eq_false, Bool.false_eq_true, Classical.not_not, eq_self, and_self, and_true, true_and, Int.reduceEq, Int.reduceLE, Int.reduceLT, Int.reduceNeg, Option.toList, List.cons_append, List.nil_append, zup_s, zup_n, zst_s, zup_zs, zup_zn, decide_true, decide_false, hx, show ((60 : Nat) : Int) = 60 from rfl, c_Md_in, show ¬ ((97 : Int) ≤ 60 ∧ (60 : Int) ≤ 104) by omega]
      exact hQ
    have d5 : ¬ (c : Int) = 60 := by omega
    rw [if_neg (by omega)] at hQ
    simp (disch := first | omega | exact Nat.le_of_ble_eq_true rfl | assumption | (simp only [Int.natCast_add, Int.natCast_mul, Int.cast_ofNat_Int]; omega) | decide) only [k_Md_isWhole_1, k_Md_isWhole_2, k_Md_isWhole_3, k_Md_isWhole_4, k_Md_isWhole_6, x_aload, w_dupI, w_dupR, x_getf, w_goto, w_fall, w_i2l, w_iadd, w_iconst, w_if, w_icmp, x_iload, x_istore, w_isub, w_sipush, zadd_eq, zsub_eq, gf_48_15, gf_48_16, gf_48_17, gf_48_25, gf_48_26, xp_48_15, xp_48_25, xp_48_26, sa_60, sa_61, w_bret r_Md_isWhole, q_eq, q_ne, q_lt, q_ge, q_gt, q_le, g_I, g_L, g_R, g_V, t_0, t_I, t_R, t_U, t_L, t_s, List.getElem?_cons_zero, List.getElem?_cons_succ, Nat.reduceAdd, zif10, zif01b, zib, if_pos, if_neg, ↓reduceIte, not_true_eq_false, not_false_eq_true, Bool.true_eq_false, Bool.false_eq_true, Classical.not_not, eq_self, and_self, and_true, true_and, Int.reduceEq, Int.reduceLE, Int.reduceLT, Int.reduceNeg, Option.toList, List.cons_append, List.nil_append, zup_s, zup_n, zst_s, zup_zs, zup_zn, decide_true, decide_false, hx, d1, c_Md_in, d2, d3, d4, d5]
    exact hQ
  refine to7 _ ?_
  have hw2 : zup M 48 25 (zNp q tb p : Int) 48 26 = 0 := h26
  have hm26 : zup (zup M 48 25 (zNp q tb p : Int)) 48 26 0 = zup M 48 25 (zNp q tb p : Int) := zup_self h26
  have h15' : M 48 15 = (n : Int) := h15
  have hf : zRr M (zup (zup M 48 25 (zNp q tb p : Int)) 48 26 1) ∧ zSmR n M (zup (zup M 48 25 (zNp q tb p : Int)) 48 26 1) ∧ zRng (zup (zup M 48 25 (zNp q tb p : Int)) 48 26 1) := ⟨zRr_48 (zRr_48 (zRr_rf M) (by omega)) (by omega), zSmR_48 (zSmR_48 (fun _ _ => ⟨rfl, rfl, rfl, rfl⟩)), hrng⟩
  by_cases hb : zNc q tb p = 84 ∨ (97 ≤ zNc q tb p ∧ zNc q tb p ≤ 104) ∨ zNc q tb p = 33 ∨ zNc q tb p = 40 ∨ zNc q tb p = 60
  rotate_left
  · rw [if_neg hb]
    have hr : res = .inl (zNp q tb p) := by
      rw [← hres]
      by_cases h24 : 24 ≤ n
      · rw [if_pos h24]
      · rw [if_neg h24, if_neg (by omega), if_neg (by omega), if_neg (by omega), if_neg (by omega), if_neg (by omega)]
    subst hr
    rw [k_Md_isWhole_7]
    simp (disch := first | omega | exact Nat.le_of_ble_eq_true rfl | assumption | (simp only [Int.natCast_add, Int.natCast_mul, Int.cast_ofNat_Int]; omega) | decide) only [k_Md_isWhole_8, k_Md_isWhole_10, k_Md_isWhole_12, k_Md_isWhole_13, x_aload, w_dupI, w_dupR, x_getf, w_goto, w_fall, w_i2l, w_iadd, w_iconst, w_if, w_icmp, x_iload, x_istore, w_isub, w_sipush, zadd_eq, zsub_eq, gf_48_15, gf_48_16, gf_48_17, gf_48_25, gf_48_26, xp_48_15, xp_48_25, xp_48_26, sa_60, sa_61, w_bret r_Md_isWhole, q_eq, q_ne, q_lt, q_ge, q_gt, q_le, g_I, g_L, g_R, g_V, t_0, t_I, t_R, t_U, t_L, t_s, List.getElem?_cons_zero, List.getElem?_cons_succ, Nat.reduceAdd, zif10, zif01b, zib, if_pos, if_neg, ↓reduceIte, not_true_eq_false, not_false_eq_true, Bool.true_eq_false, Bool.false_eq_true, Classical.not_not, eq_self, and_self, and_true, true_and, Int.reduceEq, Int.reduceLE, Int.reduceLT, Int.reduceNeg, Option.toList, List.cons_append, List.nil_append, zup_s, zup_n, zst_s, zup_zs, zup_zn, decide_true, decide_false, hw2, or_true]
    exact ⟨hf, Or.inr rfl, rfl, rfl⟩
  rw [if_pos hb]
  by_cases h24 : 24 ≤ n
  · rw [if_pos h24] at hres
    have hn24 : (n : Int) = 24 := by omega
    subst hres
    rw [k_Md_isWhole_7]
    simp (disch := first | omega | exact Nat.le_of_ble_eq_true rfl | assumption | (simp only [Int.natCast_add, Int.natCast_mul, Int.cast_ofNat_Int]; omega) | decide) only [k_Md_isWhole_8, k_Md_isWhole_9, k_Md_isWhole_10, k_Md_isWhole_12, k_Md_isWhole_13, x_aload, w_dupI, w_dupR, x_getf, w_goto, w_fall, w_i2l, w_iadd, w_iconst, w_if, w_icmp, x_iload, x_istore, w_isub, w_sipush, zadd_eq, zsub_eq, gf_48_15, gf_48_16, gf_48_17, gf_48_25, gf_48_26, xp_48_15, xp_48_25, xp_48_26, sa_60, sa_61, w_bret r_Md_isWhole, q_eq, q_ne, q_lt, q_ge, q_gt, q_le, g_I, g_L, g_R, g_V, t_0, t_I, t_R, t_U, t_L, t_s, List.getElem?_cons_zero, List.getElem?_cons_succ, Nat.reduceAdd, zif10, zif01b, zib, if_pos, if_neg, ↓reduceIte, not_true_eq_false, not_false_eq_true, Bool.true_eq_false, Bool.false_eq_true, Classical.not_not, eq_self, and_self, and_true, true_and, Int.reduceEq, Int.reduceLE, Int.reduceLT, Int.reduceNeg, Option.toList, List.cons_append, List.nil_append, zup_s, zup_n, zst_s, zup_zs, zup_zn, decide_true, decide_false, hw2, zup_d, h15', hn24, or_true]
    exact ⟨hf, Or.inr rfl, rfl, rfl⟩
  rw [if_neg h24] at hres
  have hn24 : ¬ (n : Int) = 24 := by omega
  -- what comes of a good one
  generalize hM1 : zup (zup M 48 25 (zNp q tb p : Int)) 48 15 ((n : Int) + 1) = M1
  have g25 : M1 48 25 = (zNp q tb p : Int) := by rw [← hM1]; rfl
  have g26 : M1 48 26 = 0 := by rw [← hM1]; exact h26
  have g15 : M1 48 15 = ((n + 1 : Nat) : Int) := by rw [← hM1, zup_s]; omega
  have g22 : M1 48 22 = (St.length : Int) := by rw [← hM1]; exact h22
  have gT : zTpR q tb M1 := by rw [← hM1]; exact hT
  have gP : M1 48 1 = (P : Int) := by rw [← hM1]; exact hP
  have gR : zRr M M1 := by rw [← hM1]; exact zRr_48 (zRr_48 (zRr_rf M) (by omega)) (by omega)
  have gS : zSmR n M M1 := by rw [← hM1]; exact zSmR_48 (zSmR_48 (fun _ _ => ⟨rfl, rfl, rfl, rfl⟩))
  have gst : zStR St M1 := by rw [← hM1]; exact zStR_k St hst fun i hi => ⟨rfl, rfl⟩
  have grng : zRng M1 := by rw [← hM1]; exact hrng
  have to14 : ∀ (Q : Option zMV → (Nat → Int → Int) → Prop), (¬ zNc q tb p = 60 → zW (zSH Ln) d i_Md_isWhole (zblk i_Md_isWhole 16) [zR 48, zI (zNc q tb p : Int), zI 1, zI (n : Int)] [] M1 Q) → (zNc q tb p = 60 → zW (zSH Ln) d i_Md_isWhole (zblk i_Md_isWhole 15) [zR 48, zI (zNc q tb p : Int), zI 1, zI (n : Int)] [] M1 Q) → zW (zSH Ln) d i_Md_isWhole (zblk i_Md_isWhole 7) [zR 48, zI (zNc q tb p : Int), zU, zU] [zI 1] (zup M 48 25 (zNp q tb p : Int)) Q := by
    intro Q h16 h15q
    rw [k_Md_isWhole_7]
    by_cases c60 : zNc q tb p = 60
    · have d60 : (zNc q tb p : Int) = 60 := by omega
      have := h15q c60
      rw [d60] at this
      simp (disch := first | omega | exact Nat.le_of_ble_eq_true rfl | assumption | (simp only [Int.natCast_add, Int.natCast_mul, Int.cast_ofNat_Int]; omega) | decide) only [k_Md_isWhole_8, k_Md_isWhole_9, k_Md_isWhole_11, k_Md_isWhole_12, k_Md_isWhole_14, x_aload, w_dupI, w_dupR, x_getf, w_goto, w_fall, w_i2l, w_iadd, w_iconst, w_if, w_icmp, x_iload, x_istore, w_isub, w_sipush, zadd_eq, zsub_eq, gf_48_15, gf_48_16, gf_48_17, gf_48_25, gf_48_26, xp_48_15, xp_48_25, xp_48_26, sa_60, sa_61, w_bret r_Md_isWhole, q_eq, q_ne, q_lt, q_ge, q_gt, q_le, g_I, g_L, g_R, g_V, t_0, t_I, t_R, t_U, t_L, t_s, List.getElem?_cons_zero, List.getElem?_cons_succ, Nat.reduceAdd, zif10, zif01b, zib, if_pos, if_neg, ↓reduceIte, not_true_eq_false, not_false_eq_true, Bool.true_eq_false, Bool.false_eq_true, Classical.not_not, eq_self, and_self, and_true, true_and, Int.reduceEq, Int.reduceLE, Int.reduceLT, Int.reduceNeg, Option.toList, List.cons_append, List.nil_append, zup_s, zup_n, zst_s, zup_zs, zup_zn, decide_true, decide_false, hw2, zup_d, h15', hn24, true_or, hm26, d60, hM1]
      exact this
    · have d60 : ¬ (zNc q tb p : Int) = 60 := by omega
      simp (disch := first | omega | exact Nat.le_of_ble_eq_true rfl | assumption | (simp only [Int.natCast_add, Int.natCast_mul, Int.cast_ofNat_Int]; omega) | decide) only [k_Md_isWhole_8, k_Md_isWhole_9, k_Md_isWhole_11, k_Md_isWhole_12, k_Md_isWhole_14, x_aload, w_dupI, w_dupR, x_getf, w_goto, w_fall, w_i2l, w_iadd, w_iconst, w_if, w_icmp, x_iload, x_istore, w_isub, w_sipush, zadd_eq, zsub_eq, gf_48_15, gf_48_16, gf_48_17, gf_48_25, gf_48_26, xp_48_15, xp_48_25, xp_48_26, sa_60, sa_61, w_bret r_Md_isWhole, q_eq, q_ne, q_lt, q_ge, q_gt, q_le, g_I, g_L, g_R, g_V, t_0, t_I, t_R, t_U, t_L, t_s, List.getElem?_cons_zero, List.getElem?_cons_succ, Nat.reduceAdd, zif10, zif01b, zib, if_pos, if_neg, ↓reduceIte, not_true_eq_false, not_false_eq_true, Bool.true_eq_false, Bool.false_eq_true, Classical.not_not, eq_self, and_self, and_true, true_and, Int.reduceEq, Int.reduceLE, Int.reduceLT, Int.reduceNeg, Option.toList, List.cons_append, List.nil_append, zup_s, zup_n, zst_s, zup_zs, zup_zn, decide_true, decide_false, hw2, zup_d, h15', hn24, true_or, hm26, d60, hM1]
      exact h16 c60
  have hD : St.length < 24 := by omega
  -- what is opened
  have op : ∀ (kd : Nat), res = .inr (false, zNp q tb p + 1, kd, 0, 0) → (kd = 2 ∨ kd = 10) → zIwQ res n St M (some (zI 0)) (zup (zup (zup (zup (zup M1 48 25 ((zNp q tb p : Int) + 1)) 60 n kd) 64 (St.length : Int) n) 65 (St.length : Int) 0) 48 22 ((St.length : Int) + 1)) := by
    intro kd hr hkd
    subst hr
    refine ⟨⟨?_, ?_, ?_⟩, rfl, ⟨?_, ?_, ?_, ?_, ⟨?_, ?_, ?_⟩, ?_⟩, ?_, fun h => (by cases h), fun _ h1 h2 => by omega⟩
    · exact zRr_48 (zRr_up (zRr_up (zRr_up (zRr_48 gR (by omega)) (by decide)) (by decide)) (by decide)) (by omega)
    · exact zSmR_48 (zSmR_ot (zSmR_ot (zSmR_up (zSmR_48 gS) (Nat.le_refl n)) (Or.inl rfl)) (Or.inr rfl))
    · exact fun k hk => grng k hk
    · show (zNp q tb p : Int) + 1 = ((zNp q tb p + 1 : Nat) : Int); omega
    · exact g26
    · exact g15
    · rw [zup_s]; show (St.length : Int) + 1 = ((((n, false) : Nat × Bool) :: St).length : Int); simp
    · rw [zup_n (by decide), zup_n (by decide), zup_s]
    · rw [zup_n (by decide), zup_s]; rfl
    · refine zStR_k St gst fun i hi => ⟨?_, ?_⟩
      · rw [zup_n (by decide), zup_n (by decide), zup_d (by omega)]; rfl
      · rw [zup_n (by decide), zup_d (by omega)]; rfl
    · exact fun k hk => grng k hk
    · rw [zup_n (by decide), zup_n (by decide), zup_n (by decide), zup_s]
  have lfq : ∀ (kd one : Nat), res = .inr (true, zNp q tb p + 1, kd, one, 0) → one < 100 → zIwQ res n St M (some (zI 1)) (zup (zup (zup M1 48 25 ((zNp q tb p : Int) + 1)) 60 n kd) 61 n one) := by
    intro kd one hr ho
    subst hr
    refine ⟨⟨?_, ?_, ?_⟩, rfl, ⟨?_, ?_, ?_, ?_, ?_, ?_⟩, ?_, fun _ _ => ?_, fun h => by cases h⟩
    · exact zRr_up (zRr_up (zRr_48 gR (by omega)) (by decide)) (by decide)
    · exact zSmR_up (zSmR_up (zSmR_48 gS) (Nat.le_refl n)) (Nat.le_refl n)
    · exact zRng_up (zRng_up (zRng_up grng (fun h => by omega)) (fun h => by omega)) (fun _ => by omega)
    · show (zNp q tb p : Int) + 1 = ((zNp q tb p + 1 : Nat) : Int); omega
    · exact g26
    · exact g15
    · exact g22
    · exact zStR_k St gst fun i hi => ⟨rfl, rfl⟩
    · exact zRng_up (zRng_up (zRng_up grng (fun h => by omega)) (fun h => by omega)) (fun _ => by omega)
    · rw [zup_n (by decide), zup_s]
    · rw [zup_s]
  refine to14 _ (fun c60 => ?_) (fun c60 => ?_)
  · have gD : zup (zup M1 48 25 ((zNp q tb p : Int) + 1)) 60 n 0 48 22 = (St.length : Int) := g22
    have gD2 : zup M1 48 25 ((zNp q tb p : Int) + 1) 48 22 = (St.length : Int) := g22
    by_cases c84 : zNc q tb p = 84
    · rw [if_pos c84] at hres
      have := lfq 0 0 hres.symm (by omega)
      rw [k_Md_isWhole_16]
      simp (disch := first | omega | exact Nat.le_of_ble_eq_true rfl | assumption | (simp only [Int.natCast_add, Int.natCast_mul, Int.cast_ofNat_Int]; omega) | decide) only [k_Md_isWhole_17, k_Md_isWhole_22, k_Md_isWhole_23, k_Md_isWhole_25, k_Md_isWhole_26, k_Md_isWhole_28, x_aload, w_dupI, w_dupR, x_getf, w_goto, w_fall, w_i2l, w_iadd, w_iconst, w_if, w_icmp, x_iload, x_istore, w_isub, w_sipush, zadd_eq, zsub_eq, gf_48_15, gf_48_16, gf_48_17, gf_48_25, gf_48_26, xp_48_15, xp_48_25, xp_48_26, sa_60, sa_61, w_bret r_Md_isWhole, q_eq, q_ne, q_lt, q_ge, q_gt, q_le, g_I, g_L, g_R, g_V, t_0, t_I, t_R, t_U, t_L, t_s, List.getElem?_cons_zero, List.getElem?_cons_succ, Nat.reduceAdd, zif10, zif01b, zib, if_pos, if_neg, ↓reduceIte, not_true_eq_false, not_false_eq_true, Bool.true_eq_false, Bool.false_eq_true, Classical.not_not, eq_self, and_self, and_true, true_and, Int.reduceEq, Int.reduceLE, Int.reduceLT, Int.reduceNeg, Option.toList, List.cons_append, List.nil_append, zup_s, zup_n, zst_s, zup_zs, zup_zn, decide_true, decide_false, c84, show ((84 : Nat) : Int) = 84 from rfl, g25]
      exact this
    rw [if_neg c84] at hres
    have d84 : ¬ (zNc q tb p : Int) = 84 := by omega
    by_cases cl : 97 ≤ zNc q tb p ∧ zNc q tb p ≤ 104
    · rw [if_pos cl] at hres
      have := lfq 1 (zNc q tb p - 97) hres.symm (by omega)
      have e97 : (zNc q tb p : Int) - 97 = ((zNc q tb p - 97 : Nat) : Int) := by omega
      have d33 : ¬ (zNc q tb p : Int) = 33 := by omega
      have d40 : ¬ (zNc q tb p : Int) = 40 := by omega
      rw [k_Md_isWhole_16]
      simp (disch := first | omega | exact Nat.le_of_ble_eq_true rfl | assumption | (simp only [Int.natCast_add, Int.natCast_mul, Int.cast_ofNat_Int]; omega) | decide) only [k_Md_isWhole_17, k_Md_isWhole_22, k_Md_isWhole_24, k_Md_isWhole_25, k_Md_isWhole_27, k_Md_isWhole_28, x_aload, w_dupI, w_dupR, x_getf, w_goto, w_fall, w_i2l, w_iadd, w_iconst, w_if, w_icmp, x_iload, x_istore, w_isub, w_sipush, zadd_eq, zsub_eq, gf_48_15, gf_48_16, gf_48_17, gf_48_25, gf_48_26, xp_48_15, xp_48_25, xp_48_26, sa_60, sa_61, w_bret r_Md_isWhole, q_eq, q_ne, q_lt, q_ge, q_gt, q_le, g_I, g_L, g_R, g_V, t_0, t_I, t_R, t_U, t_L, t_s, List.getElem?_cons_zero, List.getElem?_cons_succ, Nat.reduceAdd, zif10, zif01b, zib, if_pos, if_neg, ↓reduceIte, not_true_eq_false, not_false_eq_true, Bool.true_eq_false, Bool.false_eq_true, Classical.not_not, eq_self, and_self, and_true, true_and, Int.reduceEq, Int.reduceLE, Int.reduceLT, Int.reduceNeg, Option.toList, List.cons_append, List.nil_append, zup_s, zup_n, zst_s, zup_zs, zup_zn, decide_true, decide_false, d84, d33, d40, g25, zsub_eq, e97]
      exact this
    rw [if_neg cl] at hres
    by_cases c33 : zNc q tb p = 33
    · rw [if_pos c33] at hres
      have := op 2 hres.symm (Or.inl rfl)
      rw [k_Md_isWhole_16]
      simp (disch := first | omega | exact Nat.le_of_ble_eq_true rfl | assumption | (simp only [Int.natCast_add, Int.natCast_mul, Int.cast_ofNat_Int]; omega) | decide) only [k_Md_isWhole_18, k_Md_isWhole_19, k_Md_isWhole_21, x_aload, w_dupI, w_dupR, x_getf, w_goto, w_fall, w_i2l, w_iadd, w_iconst, w_if, w_icmp, x_iload, x_istore, w_isub, w_sipush, zadd_eq, zsub_eq, gf_48_15, gf_48_16, gf_48_17, gf_48_25, gf_48_26, xp_48_15, xp_48_25, xp_48_26, sa_60, sa_61, w_bret r_Md_isWhole, q_eq, q_ne, q_lt, q_ge, q_gt, q_le, g_I, g_L, g_R, g_V, t_0, t_I, t_R, t_U, t_L, t_s, List.getElem?_cons_zero, List.getElem?_cons_succ, Nat.reduceAdd, zif10, zif01b, zib, if_pos, if_neg, ↓reduceIte, not_true_eq_false, not_false_eq_true, Bool.true_eq_false, Bool.false_eq_true, Classical.not_not, eq_self, and_self, and_true, true_and, Int.reduceEq, Int.reduceLE, Int.reduceLT, Int.reduceNeg, Option.toList, List.cons_append, List.nil_append, zup_s, zup_n, zst_s, zup_zs, zup_zn, decide_true, decide_false, c33, show ((33 : Nat) : Int) = 33 from rfl, g25, c_Md_opens (show n < 24 by omega) gD2 hD]
      exact this
    rw [if_neg c33] at hres
    have d33 : ¬ (zNc q tb p : Int) = 33 := by omega
    have c40 : zNc q tb p = 40 := by omega
    rw [if_pos c40] at hres
    have := op 10 hres.symm (Or.inr rfl)
    rw [k_Md_isWhole_16]
    simp (disch := first | omega | exact Nat.le_of_ble_eq_true rfl | assumption | (simp only [Int.natCast_add, Int.natCast_mul, Int.cast_ofNat_Int]; omega) | decide) only [k_Md_isWhole_17, k_Md_isWhole_18, k_Md_isWhole_20, k_Md_isWhole_21, x_aload, w_dupI, w_dupR, x_getf, w_goto, w_fall, w_i2l, w_iadd, w_iconst, w_if, w_icmp, x_iload, x_istore, w_isub, w_sipush, zadd_eq, zsub_eq, gf_48_15, gf_48_16, gf_48_17, gf_48_25, gf_48_26, xp_48_15, xp_48_25, xp_48_26, sa_60, sa_61, w_bret r_Md_isWhole, q_eq, q_ne, q_lt, q_ge, q_gt, q_le, g_I, g_L, g_R, g_V, t_0, t_I, t_R, t_U, t_L, t_s, List.getElem?_cons_zero, List.getElem?_cons_succ, Nat.reduceAdd, zif10, zif01b, zib, if_pos, if_neg, ↓reduceIte, not_true_eq_false, not_false_eq_true, Bool.true_eq_false, Bool.false_eq_true, Classical.not_not, eq_self, and_self, and_true, true_and, Int.reduceEq, Int.reduceLE, Int.reduceLT, Int.reduceNeg, Option.toList, List.cons_append, List.nil_append, zup_s, zup_n, zst_s, zup_zs, zup_zn, decide_true, decide_false, c40, show ((40 : Nat) : Int) = 40 from rfl, g25, c_Md_opens (show n < 24 by omega) gD2 hD]
    exact this
  · rw [if_neg (by omega), if_neg (by omega), if_neg (by omega), if_neg (by omega), if_pos c60] at hres
    rw [k_Md_isWhole_15]
    simp (disch := first | omega | exact Nat.le_of_ble_eq_true rfl | assumption | (simp only [Int.natCast_add, Int.natCast_mul, Int.cast_ofNat_Int]; omega) | decide) only [x_aload, w_dupI, w_dupR, x_getf, w_goto, w_fall, w_i2l, w_iadd, w_iconst, w_if, w_icmp, x_iload, x_istore, w_isub, w_sipush, zadd_eq, zsub_eq, gf_48_15, gf_48_16, gf_48_17, gf_48_25, gf_48_26, xp_48_15, xp_48_25, xp_48_26, sa_60, sa_61, w_bret r_Md_isWhole, q_eq, q_ne, q_lt, q_ge, q_gt, q_le, g_I, g_L, g_R, g_V, t_0, t_I, t_R, t_U, t_L, t_s, List.getElem?_cons_zero, List.getElem?_cons_succ, Nat.reduceAdd, zif10, zif01b, zib, if_pos, if_neg, ↓reduceIte, not_true_eq_false, not_false_eq_true, Bool.true_eq_false, Bool.false_eq_true, Classical.not_not, eq_self, and_self, and_true, true_and, Int.reduceEq, Int.reduceLE, Int.reduceLT, Int.reduceNeg, Option.toList, List.cons_append, List.nil_append, zup_s, zup_n, zst_s, zup_zs, zup_zn, decide_true, decide_false]
    refine c_Md_group (p := zNp q tb p) (k := n) (D := St.length) gT hq gP hP4 htb g25 hnp g26 (by omega) g22 hD (by rw [zNc_id]; exact c60) (by omega) (Nat.le_of_ble_eq_true rfl) ?_
    rintro _ M2 ⟨rfl, hg⟩
    rw [zNp_id] at hg
    have hrng2 : zRng M2 := fun k hk => by
      obtain ⟨⟨_, _, _, _, _, _, _, e1, e2⟩, _⟩ := hg
      rw [e1, e2]; exact grng k hk
    cases e1 : zGrR q P tb (zNp q tb p + 1) n with
    | inl e =>
      rw [e1] at hg hres
      obtain ⟨⟨a1, a2, _⟩, b1, b2⟩ := hg
      have hres : (.inl e : Nat ⊕ (Bool × Nat × Nat × Nat × Nat)) = res := hres
      subst hres
      simp (disch := first | omega | exact Nat.le_of_ble_eq_true rfl | assumption | (simp only [Int.natCast_add, Int.natCast_mul, Int.cast_ofNat_Int]; omega) | decide) only [x_aload, w_dupI, w_dupR, x_getf, w_goto, w_fall, w_i2l, w_iadd, w_iconst, w_if, w_icmp, x_iload, x_istore, w_isub, w_sipush, zadd_eq, zsub_eq, gf_48_15, gf_48_16, gf_48_17, gf_48_25, gf_48_26, xp_48_15, xp_48_25, xp_48_26, sa_60, sa_61, w_bret r_Md_isWhole, q_eq, q_ne, q_lt, q_ge, q_gt, q_le, g_I, g_L, g_R, g_V, t_0, t_I, t_R, t_U, t_L, t_s, List.getElem?_cons_zero, List.getElem?_cons_succ, Nat.reduceAdd, zif10, zif01b, zib, if_pos, if_neg, ↓reduceIte, not_true_eq_false, not_false_eq_true, Bool.true_eq_false, Bool.false_eq_true, Classical.not_not, eq_self, and_self, and_true, true_and, Int.reduceEq, Int.reduceLE, Int.reduceLT, Int.reduceNeg, Option.toList, List.cons_append, List.nil_append, zup_s, zup_n, zst_s, zup_zs, zup_zn, decide_true, decide_false]
      exact ⟨⟨zRr_tr gR a1, zSmR_tr gS a2, hrng2⟩, Or.inl rfl, b1, b2⟩
    | inr y =>
      obtain ⟨p', kd, g⟩ := y
      rw [e1] at hg hres
      obtain ⟨⟨a1, a2, a3, a4, a5, a6, a7, _, _⟩, b1, b2, b3, b4⟩ := hg
      have hres : (.inr (false, p', kd, 0, g) : Nat ⊕ (Bool × Nat × Nat × Nat × Nat)) = res := hres
      subst hres
      simp (disch := first | omega | exact Nat.le_of_ble_eq_true rfl | assumption | (simp only [Int.natCast_add, Int.natCast_mul, Int.cast_ofNat_Int]; omega) | decide) only [x_aload, w_dupI, w_dupR, x_getf, w_goto, w_fall, w_i2l, w_iadd, w_iconst, w_if, w_icmp, x_iload, x_istore, w_isub, w_sipush, zadd_eq, zsub_eq, gf_48_15, gf_48_16, gf_48_17, gf_48_25, gf_48_26, xp_48_15, xp_48_25, xp_48_26, sa_60, sa_61, w_bret r_Md_isWhole, q_eq, q_ne, q_lt, q_ge, q_gt, q_le, g_I, g_L, g_R, g_V, t_0, t_I, t_R, t_U, t_L, t_s, List.getElem?_cons_zero, List.getElem?_cons_succ, Nat.reduceAdd, zif10, zif01b, zib, if_pos, if_neg, ↓reduceIte, not_true_eq_false, not_false_eq_true, Bool.true_eq_false, Bool.false_eq_true, Classical.not_not, eq_self, and_self, and_true, true_and, Int.reduceEq, Int.reduceLE, Int.reduceLT, Int.reduceNeg, Option.toList, List.cons_append, List.nil_append, zup_s, zup_n, zst_s, zup_zs, zup_zn, decide_true, decide_false]
      exact ⟨⟨zRr_tr gR a1, zSmR_tr gS a2, hrng2⟩, rfl, ⟨b1, b2, a7.trans g15, a6, ⟨a4, a5, zStR_k St gst a3⟩, hrng2⟩, b3, fun h => (by cases h), fun _ _ _ => b4⟩
theorem c_Md_isWhole {d mi o b9 : Nat} {es : List zEnt} {L st : List zMV} {Q : Option zMV → (Nat → Int → Int) → Prop} {p n : Nat} {St : List (Nat × Bool)} (hT : zTpR q tb M) (hq : q ≤ 100) (hP : M 48 1 = P) (hP4 : P ≤ 4) (htb : ∀ j, j < q → 32 ≤ tb j ∧ tb j ≤ 126) (hE : zEn p n St M) (hpq : p ≤ q) (hn : n ≤ 24) (hSt : St.length ≤ n) (hd : 3 + 1 ≤ d) (hc : zcats st ≤ 8) (hpost : ∀ r M', (zIwQ (zIW q P tb p n) n St M r M') → zW (zSH Ln) d mi es L (r.toList ++ st) M' Q) : zW (zSH Ln) d mi ((.invokevirtual o, 193, b9) :: es) L (zR 48 :: st) M Q :=
  w_callv (ps := []) (by omega) rfl rfl (by omega) (by exact sh_48 Ln) hc (Nat.le_of_ble_eq_true rfl) (F_Md_isWhole hT hq hP hP4 htb hE hpq hn hSt (by omega)) hpost
end RR
