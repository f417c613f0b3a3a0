/-! how many plans; the reference's plans one by one -/
def zpr : Nat → (Nat → Nat) → Nat
  | 0, _ => 1
  | n + 1, f => zpr n f * f n
theorem zpr_congr {n : Nat} {f g : Nat → Nat} (h : ∀ i, i < n → f i = g i) : zpr n f = zpr n g := by
  induction n with
  | zero => rfl
  | succ n ih => unfold zpr; rw [ih (fun i hi => h i (by omega)), h n (by omega)]
theorem zpr_mul (f g : Nat → Nat) : ∀ n, zpr n (fun i => f i * g i) = zpr n f * zpr n g
  | 0 => rfl
  | n + 1 => by
    unfold zpr
    rw [zpr_mul f g n]
    rw [Nat.mul_assoc, Nat.mul_assoc, ← Nat.mul_assoc (zpr n g), Nat.mul_comm (zpr n g) (f n), Nat.mul_assoc (f n)]
theorem zpr_one (n : Nat) : zpr n (fun _ => 1) = 1 := by
  induction n with
  | zero => rfl
  | succ n ih => unfold zpr; rw [ih]; rfl
theorem zpr_swap (f : Nat → Nat → Nat) (S : Nat) : ∀ P, zpr P (fun p => zpr S fun s => f s p) = zpr S fun s => zpr P fun p => f s p
  | 0 => by
    show 1 = zpr S fun s => 1
    rw [zpr_one]
  | P + 1 => by
    show zpr P (fun p => zpr S fun s => f s p) * zpr S (fun s => f s P) = zpr S fun s => zpr P (fun p => f s p) * f s P
    rw [zpr_swap f S P, zpr_mul]
theorem zpr_add (f : Nat → Nat) (a : Nat) : ∀ b, zpr (a + b) f = zpr a f * zpr b fun i => f (a + i)
  | 0 => by show zpr a f = zpr a f * 1; rw [Nat.mul_one]
  | b + 1 => by
    show zpr (a + b) f * f (a + b) = zpr a f * (zpr b (fun i => f (a + i)) * f (a + b))
    rw [zpr_add f a b, Nat.mul_assoc]
theorem zcnt_pr (m : Nat → Nat) : ∀ n, zcnt m zall1 n = zpr n m
  | 0 => rfl
  | n + 1 => by unfold zcnt zpr; rw [zcnt_pr m n]; simp [zall1]
/-- how many plans there are -/
theorem zPt_pr (S P : Nat) (mv : Nat → Nat → Nat) : zPt S P mv = zpr S fun s => zcnt (mv s) zall1 P := by
  have h1 : ∀ P, zpr (P * S) (zPb S mv) = zpr P fun p => zpr S fun s => mv s p := by
    intro P
    induction P with
    | zero => rw [Nat.zero_mul]; rfl
    | succ P ih =>
      rw [Nat.add_mul, Nat.one_mul, zpr_add, ih]
      show _ = zpr P (fun p => zpr S fun s => mv s p) * zpr S fun s => mv s P
      congr 1
      refine zpr_congr fun s hs => ?_
      have := zdm (c := P) hs
      unfold zPb
      rw [this.1, this.2]
  unfold zPt
  rw [zcnt_pr, h1, zpr_swap]
  exact zpr_congr fun s _ => (zcnt_pr (mv s) P).symm
theorem zlc_le (x y : Int) : (zlcmp x y ≤ 0) = (x ≤ y) := by
  unfold zlcmp
  rw [eq_iff_iff]
  split
  · omega
  · split <;> omega
theorem zmin_mul {X m : Nat} (hm : 1 ≤ m) : min (min X 2000000000 * m) 2000000000 = min (X * m) 2000000000 := by
  rcases Nat.lt_or_ge 2000000000 X with h | h
  · have h1 : 2000000000 * 1 ≤ 2000000000 * m := Nat.mul_le_mul_left _ hm
    have h2 : X * 1 ≤ X * m := Nat.mul_le_mul_left _ hm
    rw [Nat.min_eq_right (Nat.le_of_lt h), Nat.min_eq_right (by omega), Nat.min_eq_right (by omega)]
  · rw [Nat.min_eq_left h]
theorem zplans_pr {S P : Nat} {mv : Nat → Nat → Nat} (hm : ∀ s, zmOK (mv s)) : ∀ s, zplans S P mv s = min (zpr s fun s => zcnt (mv s) zall1 P) 2000000000
  | 0 => by simp [zplans, zpr]
  | s + 1 => by
    unfold zplans
    rw [zplans_pr hm s]
    exact zmin_mul (zcnt_pos (hm s) zall1 P)
section RE
variable {Ln S P : Nat} {mv tg ch : Nat → Nat → Nat} {gl : Nat → Nat → Bool} {M : Nat → Int → Int}
theorem F_Md_plansOfAll {d : Nat} (hN : zNet S P mv tg) (hR : zNetR S P mv tg M) (hd : 0 ≤ d) : zF (zSH Ln) d i_Md_plansOfAll [zR 48] M fun r M' => r = some (zI (zplans S P mv S : Int)) ∧ M' = M := by
  rw [zF_en k_Md_plansOfAll_0 (L := [zR 48, zU, zU, zU, zU]) rfl]
  have hS := hN.2.1
  have hP := hN.2.2.2.1
  have hm := hN.2.2.2.2.1
  rw [zplans_pr hm]
  simp (disch := first | omega | exact Nat.le_of_ble_eq_true rfl | assumption | (simp only [Int.natCast_add, Int.natCast_mul, Int.cast_ofNat_Int]; omega) | decide) only [x_aload, x_getf, w_goto, w_fall, w_i2l, w_iadd, w_iconst, w_if, w_icmp, x_iinc, x_iload, w_imul, x_istore, w_l2i, w_lcmp, x_lload, w_lmul, x_lstore2, w_sipush, zadd_eq, zmul_eq, gf_48_0, gf_48_1, gf_48_2, ia_49, w_nret r_Md_plansOfAll, q_eq, q_ne, q_lt, q_ge, q_gt, q_le, g_I, g_L, g_R, g_V, t_0, t_I, t_R, t_U, t_L, t_s, List.getElem?_cons_zero, List.getElem?_cons_succ, Nat.reduceAdd, zif10, zif01b, zib, if_pos, if_neg, ↓reduceIte, not_true_eq_false, not_false_eq_true, Bool.true_eq_false, Bool.false_eq_true, Classical.not_not, eq_self, and_self, and_true, true_and, Int.reduceEq, Int.reduceLE, Int.reduceLT, Int.reduceNeg, Option.toList, List.cons_append, List.nil_append, zup_s, zup_n, zst_s, zup_zs, zup_zn, decide_true, decide_false, List.length_cons, List.length_nil, List.set_cons_succ, List.set_cons_zero, Nat.reduceLT]
  refine zfor (a := 0) (N := S) (b := 1) (fun p L0 M0 => ∃ (v4 : zMV), L0 = [zR 48, zL ((min (zpr p fun s => zcnt (mv s) zall1 P) 2000000000 : Nat) : Int), zU, zI (p : Int), v4] ∧ M0 = M) ?_ ?_ ?_ ?_
  · exact Nat.zero_le _
  · exact ⟨zU, rfl, rfl⟩
  · rintro s _ M _ hs ⟨v4, rfl, rfl⟩ ih
    rw [k_Md_plansOfAll_1]
    simp (disch := first | omega | exact Nat.le_of_ble_eq_true rfl | assumption | (simp only [Int.natCast_add, Int.natCast_mul, Int.cast_ofNat_Int]; omega) | decide) only [k_Md_plansOfAll_2, x_aload, x_getf, w_goto, w_fall, w_i2l, w_iadd, w_iconst, w_if, w_icmp, x_iinc, x_iload, w_imul, x_istore, w_l2i, w_lcmp, x_lload, w_lmul, x_lstore2, w_sipush, zadd_eq, zmul_eq, gf_48_0, gf_48_1, gf_48_2, ia_49, w_nret r_Md_plansOfAll, q_eq, q_ne, q_lt, q_ge, q_gt, q_le, g_I, g_L, g_R, g_V, t_0, t_I, t_R, t_U, t_L, t_s, List.getElem?_cons_zero, List.getElem?_cons_succ, Nat.reduceAdd, zif10, zif01b, zib, if_pos, if_neg, ↓reduceIte, not_true_eq_false, not_false_eq_true, Bool.true_eq_false, Bool.false_eq_true, Classical.not_not, eq_self, and_self, and_true, true_and, Int.reduceEq, Int.reduceLE, Int.reduceLT, Int.reduceNeg, Option.toList, List.cons_append, List.nil_append, zup_s, zup_n, zst_s, zup_zs, zup_zn, decide_true, decide_false, hR.1]
    refine zfor (a := 0) (N := P) (b := 3) (fun p L0 M0 => L0 = [zR 48, zL ((min ((zpr s fun s => zcnt (mv s) zall1 P) * zcnt (mv s) zall1 p) 2000000000 : Nat) : Int), zU, zI (s : Int), zI (p : Int)] ∧ M0 = M) ?_ ?_ ?_ ?_
    · exact Nat.zero_le _
    · exact ⟨by rw [show zcnt (mv s) zall1 0 = 1 from rfl, Nat.mul_one]; rfl, rfl⟩
    · rintro p _ M _ hp ⟨rfl, rfl⟩ ih2
      have hms := hR.2.2.1 s p (by omega) (by omega)
      have hmp := hm s p
      have hsu : min ((zpr s fun s => zcnt (mv s) zall1 P) * zcnt (mv s) zall1 (p + 1)) 2000000000 = min (min ((zpr s fun s => zcnt (mv s) zall1 P) * zcnt (mv s) zall1 p) 2000000000 * mv s p) 2000000000 := by
        rw [zmin_mul hmp.1, show zcnt (mv s) zall1 (p + 1) = zcnt (mv s) zall1 p * mv s p by simp [zcnt, zall1], Nat.mul_assoc]
      have hle : min ((zpr s fun s => zcnt (mv s) zall1 P) * zcnt (mv s) zall1 p) 2000000000 ≤ 2000000000 := Nat.min_le_right _ _
      generalize min ((zpr s fun s => zcnt (mv s) zall1 P) * zcnt (mv s) zall1 p) 2000000000 = c at hle hsu ⊢
      have h3 : c * mv s p ≤ 2000000000 * 3 := Nat.mul_le_mul hle hmp.2
      have e2 : zlmul (c : Int) (mv s p : Int) = ((c * mv s p : Nat) : Int) := by
        unfold zlmul
        rw [← Int64.ofInt_mul, show (c : Int) * (mv s p : Int) = ((c * mv s p : Nat) : Int) by simp, ztoL ⟨by omega, by omega⟩]
      generalize hcm : c * mv s p = cm at h3 e2 hsu
      rw [k_Md_plansOfAll_3]
      by_cases hb : 2000000000 < cm
      · have hb' : ¬ ((cm : Nat) : Int) ≤ 2000000000 := by omega
        simp (disch := first | omega | exact Nat.le_of_ble_eq_true rfl | assumption | (simp only [Int.natCast_add, Int.natCast_mul, Int.cast_ofNat_Int]; omega) | decide) only [k_Md_plansOfAll_4, k_Md_plansOfAll_5, k_Md_plansOfAll_7, x_aload, x_getf, w_goto, w_fall, w_i2l, w_iadd, w_iconst, w_if, w_icmp, x_iinc, x_iload, w_imul, x_istore, w_l2i, w_lcmp, x_lload, w_lmul, x_lstore2, w_sipush, zadd_eq, zmul_eq, gf_48_0, gf_48_1, gf_48_2, ia_49, w_nret r_Md_plansOfAll, q_eq, q_ne, q_lt, q_ge, q_gt, q_le, g_I, g_L, g_R, g_V, t_0, t_I, t_R, t_U, t_L, t_s, List.getElem?_cons_zero, List.getElem?_cons_succ, Nat.reduceAdd, zif10, zif01b, zib, if_pos, if_neg, ↓reduceIte, not_true_eq_false, not_false_eq_true, Bool.true_eq_false, Bool.false_eq_true, Classical.not_not, eq_self, and_self, and_true, true_and, Int.reduceEq, Int.reduceLE, Int.reduceLT, Int.reduceNeg, Option.toList, List.cons_append, List.nil_append, zup_s, zup_n, zst_s, zup_zs, zup_zn, decide_true, decide_false, hR.2.1, hms, e2, zlc_le, hb', List.length_cons, List.length_nil, List.set_cons_succ, List.set_cons_zero, Nat.reduceLT]
        refine ih2 _ _ ⟨?_, rfl⟩
        rw [hsu, Nat.min_eq_right (by omega)]; rfl
      · have hb' : ((cm : Nat) : Int) ≤ 2000000000 := by omega
        simp (disch := first | omega | exact Nat.le_of_ble_eq_true rfl | assumption | (simp only [Int.natCast_add, Int.natCast_mul, Int.cast_ofNat_Int]; omega) | decide) only [k_Md_plansOfAll_4, k_Md_plansOfAll_6, k_Md_plansOfAll_7, x_aload, x_getf, w_goto, w_fall, w_i2l, w_iadd, w_iconst, w_if, w_icmp, x_iinc, x_iload, w_imul, x_istore, w_l2i, w_lcmp, x_lload, w_lmul, x_lstore2, w_sipush, zadd_eq, zmul_eq, gf_48_0, gf_48_1, gf_48_2, ia_49, w_nret r_Md_plansOfAll, q_eq, q_ne, q_lt, q_ge, q_gt, q_le, g_I, g_L, g_R, g_V, t_0, t_I, t_R, t_U, t_L, t_s, List.getElem?_cons_zero, List.getElem?_cons_succ, Nat.reduceAdd, zif10, zif01b, zib, if_pos, if_neg, ↓reduceIte, not_true_eq_false, not_false_eq_true, Bool.true_eq_false, Bool.false_eq_true, Classical.not_not, eq_self, and_self, and_true, true_and, Int.reduceEq, Int.reduceLE, Int.reduceLT, Int.reduceNeg, Option.toList, List.cons_append, List.nil_append, zup_s, zup_n, zst_s, zup_zs, zup_zn, decide_true, decide_false, hR.2.1, hms, e2, zlc_le, hb', List.length_cons, List.length_nil, List.set_cons_succ, List.set_cons_zero, Nat.reduceLT]
        refine ih2 _ _ ⟨?_, rfl⟩
        rw [hsu, Nat.min_eq_left (by omega)]; rfl
    · rintro _ M ⟨rfl, rfl⟩
      rw [k_Md_plansOfAll_3]
      simp (disch := first | omega | exact Nat.le_of_ble_eq_true rfl | assumption | (simp only [Int.natCast_add, Int.natCast_mul, Int.cast_ofNat_Int]; omega) | decide) only [k_Md_plansOfAll_8, x_aload, x_getf, w_goto, w_fall, w_i2l, w_iadd, w_iconst, w_if, w_icmp, x_iinc, x_iload, w_imul, x_istore, w_l2i, w_lcmp, x_lload, w_lmul, x_lstore2, w_sipush, zadd_eq, zmul_eq, gf_48_0, gf_48_1, gf_48_2, ia_49, w_nret r_Md_plansOfAll, q_eq, q_ne, q_lt, q_ge, q_gt, q_le, g_I, g_L, g_R, g_V, t_0, t_I, t_R, t_U, t_L, t_s, List.getElem?_cons_zero, List.getElem?_cons_succ, Nat.reduceAdd, zif10, zif01b, zib, if_pos, if_neg, ↓reduceIte, not_true_eq_false, not_false_eq_true, Bool.true_eq_false, Bool.false_eq_true, Classical.not_not, eq_self, and_self, and_true, true_and, Int.reduceEq, Int.reduceLE, Int.reduceLT, Int.reduceNeg, Option.toList, List.cons_append, List.nil_append, zup_s, zup_n, zst_s, zup_zs, zup_zn, decide_true, decide_false, hR.2.1]
      exact ih _ _ ⟨_, rfl, rfl⟩
  · rintro _ M ⟨v4, rfl, rfl⟩
    have hle : min (zpr S fun s => zcnt (mv s) zall1 P) 2000000000 ≤ 2000000000 := Nat.min_le_right _ _
    generalize min (zpr S fun s => zcnt (mv s) zall1 P) 2000000000 = c at hle ⊢
    have e : zl2i (c : Int) = (c : Int) := by
      unfold zl2i
      rw [← zi32_i2l (x := (c : Int)) ⟨by omega, by omega⟩, Int32.toInt32_toInt64, ztoI ⟨by omega, by omega⟩]
    rw [k_Md_plansOfAll_1]
    simp (disch := first | omega | exact Nat.le_of_ble_eq_true rfl | assumption | (simp only [Int.natCast_add, Int.natCast_mul, Int.cast_ofNat_Int]; omega) | decide) only [k_Md_plansOfAll_9, x_aload, x_getf, w_goto, w_fall, w_i2l, w_iadd, w_iconst, w_if, w_icmp, x_iinc, x_iload, w_imul, x_istore, w_l2i, w_lcmp, x_lload, w_lmul, x_lstore2, w_sipush, zadd_eq, zmul_eq, gf_48_0, gf_48_1, gf_48_2, ia_49, w_nret r_Md_plansOfAll, q_eq, q_ne, q_lt, q_ge, q_gt, q_le, g_I, g_L, g_R, g_V, t_0, t_I, t_R, t_U, t_L, t_s, List.getElem?_cons_zero, List.getElem?_cons_succ, Nat.reduceAdd, zif10, zif01b, zib, if_pos, if_neg, ↓reduceIte, not_true_eq_false, not_false_eq_true, Bool.true_eq_false, Bool.false_eq_true, Classical.not_not, eq_self, and_self, and_true, true_and, Int.reduceEq, Int.reduceLE, Int.reduceLT, Int.reduceNeg, Option.toList, List.cons_append, List.nil_append, zup_s, zup_n, zst_s, zup_zs, zup_zn, decide_true, decide_false, hR.1, e]
theorem c_Md_plansOfAll {d mi o b9 : Nat} {es : List zEnt} {L st : List zMV} {Q : Option zMV → (Nat → Int → Int) → Prop} (hN : zNet S P mv tg) (hR : zNetR S P mv tg M) (hd : 0 + 1 ≤ d) (hc : zcats st ≤ 8) : zW (zSH Ln) d mi ((.invokevirtual o, 251, b9) :: es) L (zR 48 :: st) M Q = zW (zSH Ln) d mi es L (zI (zplans S P mv S : Int) :: st) (M) Q :=
  c_virt (ps := []) (by omega) rfl rfl (by omega) (by exact sh_48 Ln) hc (Nat.le_of_ble_eq_true rfl) (F_Md_plansOfAll hN hR (by omega))
def zTrR (S P : Nat) (mv : Nat → Nat → Nat) (n : Nat) (F : Int → Int) : Prop := ∀ s p : Nat, s < 12 → p < 4 → F (4 * (s : Int) + p) = zPk S P mv n s p
theorem F_Md_plansUp {d : Nat} {n : Nat} (hN : zNet S P mv tg) (hR : zNetR S P mv tg M) (hn : n < zPt S P mv) (hT : zTrR S P mv n (M 54)) (hd : 0 ≤ d) : zF (zSH Ln) d i_Md_plansUp [zR 48] M fun r M' => r = some (zI (if n + 1 < zPt S P mv then 1 else 0)) ∧ ∃ F, M' = zst M 54 F ∧ (n + 1 < zPt S P mv → zTrR S P mv (n + 1) F) := by
  rw [zF_en k_Md_plansUp_0 (L := [zR 48, zU, zU, zU]) rfl]
  have hS := hN.2.1
  have hP := hN.2.2.2.1
  have hm := hN.2.2.2.2.1
  have hb : ∀ i, 1 ≤ zPb S mv i := fun i => (hm _ _).1
  have hle : ∀ p q : Nat, p < q → p * S + S ≤ q * S := fun p q h => by
    have := Nat.mul_le_mul_right S (show p + 1 ≤ q by omega)
    rw [Nat.add_mul, Nat.one_mul] at this
    exact this
  simp (disch := first | omega | exact Nat.le_of_ble_eq_true rfl | assumption | (simp only [Int.natCast_add, Int.natCast_mul, Int.cast_ofNat_Int]; omega) | decide) only [x_aload, w_dup2, x_getf, w_goto, w_fall, w_iadd, w_iconst, w_if, w_icmp, x_iinc, x_iload, w_imul, x_istore, w_isub, zadd_eq, zsub_eq, zmul_eq, gf_48_0, gf_48_1, gf_48_2, gf_48_7, ia_49, sa_49, ia_54, sa_54, w_bret r_Md_plansUp, q_eq, q_ne, q_lt, q_ge, q_gt, q_le, g_I, g_L, g_R, g_V, t_0, t_I, t_R, t_U, t_L, t_s, List.getElem?_cons_zero, List.getElem?_cons_succ, Nat.reduceAdd, zif10, zif01b, zib, if_pos, if_neg, ↓reduceIte, not_true_eq_false, not_false_eq_true, Bool.true_eq_false, Bool.false_eq_true, Classical.not_not, eq_self, and_self, and_true, true_and, Int.reduceEq, Int.reduceLE, Int.reduceLT, Int.reduceNeg, Option.toList, List.cons_append, List.nil_append, zup_s, zup_n, zst_s, zup_zs, zup_zn, decide_true, decide_false, hR.2.1]
  refine zford (N := P) (b := 1) (fun p L0 M0 => ∃ (F : Int → Int) (v2 : zMV) (v3 : zMV), L0 = [zR 48, zI ((p : Int) - 1), v2, v3] ∧ M0 = zst M 54 F ∧ zcry (zPb S mv) (P * S) n (p * S) ∧ ∀ s q : Nat, s < 12 → q < 4 → F (4 * (s : Int) + q) = if q < p then zPk S P mv n s q else 0) ?_ ?_ ?_
  · refine ⟨M 54, zU, zU, rfl, (zst_id _ _).symm, zcry_0 _ _ _, fun s q hs hq => ?_⟩
    rw [hT s q hs hq]
    by_cases e : q < P
    · rw [if_pos e]
    · rw [if_neg e]; unfold zPk; rw [if_neg (fun z => e z.2)]
  · rintro p _ _ hp ⟨F, v2, v3, rfl, rfl, hc, hF⟩ ih
    have hpP := hle p P hp
    rw [k_Md_plansUp_1]
    simp (disch := first | omega | exact Nat.le_of_ble_eq_true rfl | assumption | (simp only [Int.natCast_add, Int.natCast_mul, Int.cast_ofNat_Int]; omega) | decide) only [k_Md_plansUp_2, x_aload, w_dup2, x_getf, w_goto, w_fall, w_iadd, w_iconst, w_if, w_icmp, x_iinc, x_iload, w_imul, x_istore, w_isub, zadd_eq, zsub_eq, zmul_eq, gf_48_0, gf_48_1, gf_48_2, gf_48_7, ia_49, sa_49, ia_54, sa_54, w_bret r_Md_plansUp, q_eq, q_ne, q_lt, q_ge, q_gt, q_le, g_I, g_L, g_R, g_V, t_0, t_I, t_R, t_U, t_L, t_s, List.getElem?_cons_zero, List.getElem?_cons_succ, Nat.reduceAdd, zif10, zif01b, zib, if_pos, if_neg, ↓reduceIte, not_true_eq_false, not_false_eq_true, Bool.true_eq_false, Bool.false_eq_true, Classical.not_not, eq_self, and_self, and_true, true_and, Int.reduceEq, Int.reduceLE, Int.reduceLT, Int.reduceNeg, Option.toList, List.cons_append, List.nil_append, zup_s, zup_n, zst_s, zup_zs, zup_zn, decide_true, decide_false, zst_n, hR.1, show ((p + 1 : Nat) : Int) - 1 = (p : Int) by omega]
    refine zford (N := S) (b := 3) (fun s L0 M0 => ∃ (F : Int → Int) (v3 : zMV), L0 = [zR 48, zI (p : Int), zI ((s : Int) - 1), v3] ∧ M0 = zst M 54 F ∧ zcry (zPb S mv) (P * S) n (p * S + s) ∧ ∀ t q : Nat, t < 12 → q < 4 → F (4 * (t : Int) + q) = if q < p ∨ q = p ∧ t < s then zPk S P mv n t q else 0) ?_ ?_ ?_
    · refine ⟨F, v3, rfl, rfl, by rw [Nat.add_mul, Nat.one_mul] at hc; exact hc, fun t q ht hq => ?_⟩
      rw [hF t q ht hq]
      by_cases e : q < p + 1
      · rw [if_pos e]
        by_cases e2 : q < p ∨ q = p ∧ t < S
        · rw [if_pos e2]
        · rw [if_neg e2]; unfold zPk; rw [if_neg (fun z => by omega)]
      · rw [if_neg e, if_neg (by omega)]
    · rintro s _ _ hs ⟨F, v3, rfl, rfl, hc, hF⟩ ih2
      have hFs := hF s p (by omega) (by omega)
      rw [if_pos (by omega)] at hFs
      have hms := hR.2.2.1 s p (by omega) (by omega)
      have hdg : zPk S P mv n s p = zdg (zPb S mv) (P * S) n (p * S + s) := by unfold zPk; rw [if_pos ⟨hs, hp⟩]
      have hbb : zPb S mv (p * S + s) = mv s p := by have e := zdm (c := p) hs; unfold zPb; rw [e.1, e.2]
      have hlt := zPk_lt hm n s p (S := S) (P := P)
      have hm3 := hm s p
      have hq : p * S + s < P * S := by omega
      rw [k_Md_plansUp_3]
      by_cases hd : zPk S P mv n s p + 1 < mv s p
      · have hup := zcry_up hb hq hc (by rw [hbb, ← hdg]; exact hd)
        have hmo : n + 1 < zPt S P mv := zcry_more hb hq hc (by rw [hbb, ← hdg]; exact hd) hn
        simp (disch := first | omega | exact Nat.le_of_ble_eq_true rfl | assumption | (simp only [Int.natCast_add, Int.natCast_mul, Int.cast_ofNat_Int]; omega) | decide) only [k_Md_plansUp_4, k_Md_plansUp_5, x_aload, w_dup2, x_getf, w_goto, w_fall, w_iadd, w_iconst, w_if, w_icmp, x_iinc, x_iload, w_imul, x_istore, w_isub, zadd_eq, zsub_eq, zmul_eq, gf_48_0, gf_48_1, gf_48_2, gf_48_7, ia_49, sa_49, ia_54, sa_54, w_bret r_Md_plansUp, q_eq, q_ne, q_lt, q_ge, q_gt, q_le, g_I, g_L, g_R, g_V, t_0, t_I, t_R, t_U, t_L, t_s, List.getElem?_cons_zero, List.getElem?_cons_succ, Nat.reduceAdd, zif10, zif01b, zib, if_pos, if_neg, ↓reduceIte, not_true_eq_false, not_false_eq_true, Bool.true_eq_false, Bool.false_eq_true, Classical.not_not, eq_self, and_self, and_true, true_and, Int.reduceEq, Int.reduceLE, Int.reduceLT, Int.reduceNeg, Option.toList, List.cons_append, List.nil_append, zup_s, zup_n, zst_s, zup_zs, zup_zn, decide_true, decide_false, show ((s + 1 : Nat) : Int) - 1 = (s : Int) by omega, zst_n, zst_s, hFs, hms, hmo]
        refine ⟨_, rfl, fun _ t q ht hq2 => ?_⟩
        by_cases e : t = s ∧ q = p
        · rw [e.1, e.2, zf_s]
          unfold zPk
          rw [if_pos ⟨hs, hp⟩, if_pos ⟨hs, hp⟩, hup.1]
          simp
        · rw [zf_n (by omega), hF t q ht hq2]
          by_cases e2 : q < p ∨ q = p ∧ t < s + 1
          · rw [if_pos e2]
            unfold zPk
            by_cases e3 : t < S ∧ q < P
            · rw [if_pos e3, if_pos e3]
              have : q * S + t < p * S + s := by
                rcases e2 with e2 | e2
                · have := hle q p e2; omega
                · have : q = p := e2.1
                  subst this; omega
              rw [hup.2 _ this]
            · rw [if_neg e3, if_neg e3]
          · rw [if_neg e2]
            unfold zPk
            by_cases e3 : t < S ∧ q < P
            · rw [if_pos e3]
              have h6 : p * S + (s + 1) ≤ q * S + t := by
                by_cases e4 : q = p
                · subst e4; omega
                · have := hle p q (by omega); omega
              have h7 := hle q P e3.2
              rw [hc.2 _ h6 (by omega)]
            · rw [if_neg e3]
      · have hon := zcry_on hb hq hc (by rw [hbb, ← hdg]; exact hd)
        simp (disch := first | omega | exact Nat.le_of_ble_eq_true rfl | assumption | (simp only [Int.natCast_add, Int.natCast_mul, Int.cast_ofNat_Int]; omega) | decide) only [k_Md_plansUp_4, k_Md_plansUp_6, x_aload, w_dup2, x_getf, w_goto, w_fall, w_iadd, w_iconst, w_if, w_icmp, x_iinc, x_iload, w_imul, x_istore, w_isub, zadd_eq, zsub_eq, zmul_eq, gf_48_0, gf_48_1, gf_48_2, gf_48_7, ia_49, sa_49, ia_54, sa_54, w_bret r_Md_plansUp, q_eq, q_ne, q_lt, q_ge, q_gt, q_le, g_I, g_L, g_R, g_V, t_0, t_I, t_R, t_U, t_L, t_s, List.getElem?_cons_zero, List.getElem?_cons_succ, Nat.reduceAdd, zif10, zif01b, zib, if_pos, if_neg, ↓reduceIte, not_true_eq_false, not_false_eq_true, Bool.true_eq_false, Bool.false_eq_true, Classical.not_not, eq_self, and_self, and_true, true_and, Int.reduceEq, Int.reduceLE, Int.reduceLT, Int.reduceNeg, Option.toList, List.cons_append, List.nil_append, zup_s, zup_n, zst_s, zup_zs, zup_zn, decide_true, decide_false, show ((s + 1 : Nat) : Int) - 1 = (s : Int) by omega, zst_n, zst_s, hFs, hms]
        refine ih2 _ _ ⟨_, _, rfl, rfl, hon, fun t q ht hq2 => ?_⟩
        by_cases e : t = s ∧ q = p
        · rw [e.1, e.2, zf_s, if_neg (by omega)]; rfl
        · rw [zf_n (by omega), hF t q ht hq2]
          by_cases e2 : q < p ∨ q = p ∧ t < s
          · rw [if_pos e2, if_pos (by omega)]
          · rw [if_neg e2, if_neg (by omega)]
    · rintro _ _ ⟨F, v3, rfl, rfl, hc, hF⟩
      rw [k_Md_plansUp_3]
      simp (disch := first | omega | exact Nat.le_of_ble_eq_true rfl | assumption | (simp only [Int.natCast_add, Int.natCast_mul, Int.cast_ofNat_Int]; omega) | decide) only [k_Md_plansUp_7, x_aload, w_dup2, x_getf, w_goto, w_fall, w_iadd, w_iconst, w_if, w_icmp, x_iinc, x_iload, w_imul, x_istore, w_isub, zadd_eq, zsub_eq, zmul_eq, gf_48_0, gf_48_1, gf_48_2, gf_48_7, ia_49, sa_49, ia_54, sa_54, w_bret r_Md_plansUp, q_eq, q_ne, q_lt, q_ge, q_gt, q_le, g_I, g_L, g_R, g_V, t_0, t_I, t_R, t_U, t_L, t_s, List.getElem?_cons_zero, List.getElem?_cons_succ, Nat.reduceAdd, zif10, zif01b, zib, if_pos, if_neg, ↓reduceIte, not_true_eq_false, not_false_eq_true, Bool.true_eq_false, Bool.false_eq_true, Classical.not_not, eq_self, and_self, and_true, true_and, Int.reduceEq, Int.reduceLE, Int.reduceLT, Int.reduceNeg, Option.toList, List.cons_append, List.nil_append, zup_s, zup_n, zst_s, zup_zs, zup_zn, decide_true, decide_false]
      refine ih _ _ ⟨F, _, _, rfl, rfl, hc, fun s q hs hq => ?_⟩
      rw [hF s q hs hq]
      by_cases e : q < p
      · rw [if_pos e, if_pos (Or.inl e)]
      · rw [if_neg e, if_neg (by omega)]
  · rintro _ _ ⟨F, v2, v3, rfl, rfl, hc, hF⟩
    rw [Nat.zero_mul] at hc
    have he := zcry_end hb hn hc
    have hno : ¬ n + 1 < zPt S P mv := by unfold zPt; omega
    rw [k_Md_plansUp_1]
    simp (disch := first | omega | exact Nat.le_of_ble_eq_true rfl | assumption | (simp only [Int.natCast_add, Int.natCast_mul, Int.cast_ofNat_Int]; omega) | decide) only [k_Md_plansUp_8, x_aload, w_dup2, x_getf, w_goto, w_fall, w_iadd, w_iconst, w_if, w_icmp, x_iinc, x_iload, w_imul, x_istore, w_isub, zadd_eq, zsub_eq, zmul_eq, gf_48_0, gf_48_1, gf_48_2, gf_48_7, ia_49, sa_49, ia_54, sa_54, w_bret r_Md_plansUp, q_eq, q_ne, q_lt, q_ge, q_gt, q_le, g_I, g_L, g_R, g_V, t_0, t_I, t_R, t_U, t_L, t_s, List.getElem?_cons_zero, List.getElem?_cons_succ, Nat.reduceAdd, zif10, zif01b, zib, if_pos, if_neg, ↓reduceIte, not_true_eq_false, not_false_eq_true, Bool.true_eq_false, Bool.false_eq_true, Classical.not_not, eq_self, and_self, and_true, true_and, Int.reduceEq, Int.reduceLE, Int.reduceLT, Int.reduceNeg, Option.toList, List.cons_append, List.nil_append, zup_s, zup_n, zst_s, zup_zs, zup_zn, decide_true, decide_false, hno]
    exact ⟨F, rfl, fun h => h.elim⟩
theorem c_Md_plansUp {d mi o b9 : Nat} {es : List zEnt} {L st : List zMV} {Q : Option zMV → (Nat → Int → Int) → Prop} {n : Nat} (hN : zNet S P mv tg) (hR : zNetR S P mv tg M) (hn : n < zPt S P mv) (hT : zTrR S P mv n (M 54)) (hd : 0 + 1 ≤ d) (hc : zcats st ≤ 8) (hpost : ∀ r M', (r = some (zI (if n + 1 < zPt S P mv then 1 else 0)) ∧ ∃ F, M' = zst M 54 F ∧ (n + 1 < zPt S P mv → zTrR S P mv (n + 1) F)) → zW (zSH Ln) d mi es L (r.toList ++ st) M' Q) : zW (zSH Ln) d mi ((.invokevirtual o, 252, b9) :: es) L (zR 48 :: st) M Q :=
  w_callv (ps := []) (by omega) rfl rfl (by omega) (by exact sh_48 Ln) hc (Nat.le_of_ble_eq_true rfl) (F_Md_plansUp hN hR hn hT (by omega)) hpost
end RE
