/-! rows of moves: does, prepare, fit, advance, search; the class -/
theorem zsb_all {S : Nat} {F one : Nat → Bool} {N : Nat → Nat → Bool} : zsb S (fun t => zan S fun s => F s && N s t) one = zsb S F (fun s => zsb S (N s) one) := by
  rw [Bool.eq_iff_iff, zsb_iff, zsb_iff]
  constructor
  · intro h s hs h2
    exact zsb_iff.mpr fun t ht h3 => h t ht ((zan_iff _ _).mpr ⟨s, hs, by rw [h2, h3]; rfl⟩)
  · intro h t ht h2
    obtain ⟨s, hs, h3⟩ := (zan_iff _ _).mp h2
    rw [Bool.and_eq_true] at h3
    exact zsb_iff.mp (h s hs h3.1) t ht h3.2
theorem zbt_iff {a b : Bool} {p q : Prop} (ha : a = true ↔ p) (hb : b = true ↔ q) (h : p ↔ q) : a = b := by
  rw [Bool.eq_iff_iff, ha, hb]; exact h
/-- how many moves there are for player i / 12 in heap i % 12; 0: not of the group, or no state -/
def zBb (S P : Nat) (mv hp : Nat → Nat → Nat) (g : Nat → Bool) (i : Nat) : Nat := if i / 12 < P ∧ g (i / 12) = true then zlm mv hp (i / 12) (i % 12) S else 0
def zBm (S P : Nat) (mv hp : Nat → Nat → Nat) (g : Nat → Bool) (i : Nat) : Nat := max (zBb S P mv hp g i) 1
def zcap (b : Nat → Nat) : Nat → Nat
  | 0 => 1
  | k + 1 => min (zcap b k * max (b k) 1) 5001
theorem zcap_le (b : Nat → Nat) : ∀ k, zcap b k ≤ 5001
  | 0 => by simp [zcap]
  | k + 1 => by unfold zcap; omega
theorem zcap_eq (b : Nat → Nat) : ∀ k, zcap b k = min (zcnt (fun i => max (b i) 1) zall1 k) 5001
  | 0 => by simp [zcap, zcnt]
  | k + 1 => by
    have ih := zcap_eq b k
    simp only [zcap, zcnt, zall1, if_true]
    have hm : 1 ≤ max (b k) 1 := by omega
    generalize max (b k) 1 = m at hm ⊢
    rw [ih]
    generalize zcnt (fun i => max (b i) 1) zall1 k = X
    rcases Nat.lt_or_ge 5001 X with h | h
    · rw [Nat.min_eq_right (Nat.le_of_lt h), Nat.min_eq_right (Nat.le_mul_of_pos_right _ hm), Nat.min_eq_right (Nat.le_trans (Nat.le_of_lt h) (Nat.le_mul_of_pos_right _ hm))]
    · rw [Nat.min_eq_left h]
theorem zlm_min {mv hp : Nat → Nat → Nat} (hm : ∀ s, zmOK (mv s)) (p h : Nat) : ∀ S s, s < S → hp p s = h → 1 ≤ zlm mv hp p h S ∧ zlm mv hp p h S ≤ mv s p
  | 0, _, hs, _ => by omega
  | S + 1, s, hs, hh => by
    have hS := hm S p
    unfold zlm
    by_cases e : s = S
    · subst e
      split
      · omega
      · next h2 =>
        have : ¬ (zlm mv hp p h s = 0 ∨ mv s p < zlm mv hp p h s) := fun z => h2 ⟨hh, z⟩
        omega
    · have ih := zlm_min hm p h S s (by omega) hh
      split
      · next h2 => have := h2.2; omega
      · exact ih
def zFt (P : Nat) (hp : Nat → Nat → Nat) (g : Nat → Bool) (s0 t : Nat) : Bool := decide (t = s0) || zan P fun p => g p && decide (hp p t = hp p s0)
def zRow (b : Nat → Nat) (n p h : Nat) : Nat := zdg b 48 n (p * 12 + h)
/-- the number of the first row that does for F; how many there are: none -/
def zSk (S P : Nat) (mv tg hp : Nat → Nat → Nat) (g : Nat → Bool) (kd : Nat) (one two F : Nat → Bool) : Nat := zfst (zcnt (zBm S P mv hp g) zall1 48) fun n => zsb S F (zDo S kd (zN P mv tg hp g (zRow (zBm S P mv hp g) n)) one two)
theorem zRow_ok {S P : Nat} {mv hp : Nat → Nat → Nat} (hm : ∀ s, zmOK (mv s)) (hhp : ∀ p s, hp p s < 12) (g : Nat → Bool) (n : Nat) : zRwOK S P mv hp g (zRow (zBm S P mv hp g) n) := by
  intro p s hp2 hg hs
  have h1 := zdg_lt (b := zBm S P mv hp g) (fun i => by unfold zBm; omega) 48 n (p * 12 + hp p s)
  have h2 := zlm_min hm p (hp p s) S s hs rfl
  have h3 := hhp p s
  have e1 : (p * 12 + hp p s) / 12 = p := by omega
  have e2 : (p * 12 + hp p s) % 12 = hp p s := by omega
  unfold zBm zBb at h1
  rw [e1, e2, if_pos ⟨hp2, hg⟩] at h1
  unfold zRow
  unfold zBm zBb
  omega
section BL
variable {Ln S P : Nat} {mv tg hp rw0 : Nat → Nat → Nat} {M : Nat → Int → Int} {gi : Int} {one two : Nat → Bool} {kd : Nat}
theorem F_Bl_does {d : Nat} {F : Nat → Bool} (hN : zNet S P mv tg) (hC : zNetC S P mv tg M) (hH : zHpC hp M) (hhp : ∀ p s, hp p s < 12) (hT : zTabC S P mv tg (zbit gi) M) (hg : M 32 5 = gi) (hR : zRwC rw0 M) (hok : zRwOK S P mv hp (zbit gi) rw0) (hkd : 5 ≤ kd ∧ kd ≤ 9) (h6 : M 32 6 = kd) (h7 : M 32 7 = zset S one) (h8 : kd = 8 → M 32 8 = zset S two) (hd : 4 ≤ d) : zF (zSH Ln) d i_Bl_does [zR 32, zI (zset S F)] M fun r M' => r = some (zI (if zsb S F (zDo S kd (zN P mv tg hp (zbit gi) rw0) one two) = true then 1 else 0)) ∧ ∃ E, M' = zst M 35 E := by
  rw [zF_en k_Bl_does_0 (L := [zR 32, zI (zset S F), zU]) rfl]
  have hS := hN.2.1
  simp (disch := first | omega | exact Nat.le_of_ble_eq_true rfl | assumption | (simp only [Int.natCast_add, Int.natCast_mul, Int.cast_ofNat_Int]; omega) | decide) only [x_aload, x_getf, w_goto, w_fall, w_iand, w_iconst, w_if, x_iload, x_istore, w_ixor, w_tsw, gf_32_6, gf_32_7, gf_32_8, w_bret r_Bl_does, q_eq, q_ne, q_lt, q_ge, q_gt, q_le, g_I, g_L, g_R, g_V, t_0, t_I, t_R, t_U, t_L, t_s, List.getElem?_cons_zero, List.getElem?_cons_succ, Nat.reduceAdd, zif10, zif01b, zib, if_pos, if_neg, reduceIte, not_true_eq_false, not_false_eq_true, Bool.true_eq_false, Bool.false_eq_true, Classical.not_not, eq_self, and_self, and_true, true_and, Int.reduceEq, Int.reduceLE, Int.reduceLT, Int.reduceNeg, Option.toList, List.cons_append, List.nil_append, zup_s, zup_n, zst_s, zup_zs, zup_zn, decide_true, decide_false]
  refine c_Bl_spread hN hC hH hhp hT hg hR hok (by omega) (Nat.le_of_ble_eq_true rfl) ?_
  rintro _ _ ⟨rfl, E, rfl, hE⟩
  generalize zN P mv tg hp (zbit gi) rw0 = N at hE ⊢
  have hC1 : zNetC S P mv tg (zst M 35 E) := hC
  have hE1 : ∀ s : Nat, s < S → F s = true → zst M 35 E 35 (s : Int) = zset S (N s) := fun s hs h => by rw [zst_s]; exact hE s hs (zRc_in 12 s hs h)
  have hE2 : ∀ s : Nat, s < S → zRc S N F 12 s = true → zst M 35 E 35 (s : Int) = zset S (N s) := fun s hs h => by rw [zst_s]; exact hE s hs h
  have e : kd = 5 ∨ kd = 6 ∨ kd = 7 ∨ kd = 8 ∨ kd = 9 := by omega
  rcases e with e | e | e | e | e <;> subst e
  · rw [show zDo S 5 N one two = fun s => zsb S (N s) one from rfl, ← zsb_all]
    cases hb : zsb S (fun t => zan S fun s => F s && N s t) one
    · simp (disch := first | omega | exact Nat.le_of_ble_eq_true rfl | assumption | (simp only [Int.natCast_add, Int.natCast_mul, Int.cast_ofNat_Int]; omega) | decide) only [k_Bl_does_1, k_Bl_does_3, k_Bl_does_4, x_aload, x_getf, w_goto, w_fall, w_iand, w_iconst, w_if, x_iload, x_istore, w_ixor, w_tsw, gf_32_6, gf_32_7, gf_32_8, w_bret r_Bl_does, q_eq, q_ne, q_lt, q_ge, q_gt, q_le, g_I, g_L, g_R, g_V, t_0, t_I, t_R, t_U, t_L, t_s, List.getElem?_cons_zero, List.getElem?_cons_succ, Nat.reduceAdd, zif10, zif01b, zib, if_pos, if_neg, reduceIte, not_true_eq_false, not_false_eq_true, Bool.true_eq_false, Bool.false_eq_true, Classical.not_not, eq_self, and_self, and_true, true_and, Int.reduceEq, Int.reduceLE, Int.reduceLT, Int.reduceNeg, Option.toList, List.cons_append, List.nil_append, zup_s, zup_n, zst_s, zup_zs, zup_zn, decide_true, decide_false, zst_n, h6, show ((5 : Nat) : Int) = 5 from rfl, w_tsw, show ztsw (Int.toNat 17) (5) (9) #[1, 5, 17, 13, 9] (5) = 1 from rfl, c_Bl_endsOfAll hS hC1 hE1, h7, zset_dif, zset_sb, hb]
      exact ⟨E, rfl⟩
    · simp (disch := first | omega | exact Nat.le_of_ble_eq_true rfl | assumption | (simp only [Int.natCast_add, Int.natCast_mul, Int.cast_ofNat_Int]; omega) | decide) only [k_Bl_does_1, k_Bl_does_2, k_Bl_does_4, x_aload, x_getf, w_goto, w_fall, w_iand, w_iconst, w_if, x_iload, x_istore, w_ixor, w_tsw, gf_32_6, gf_32_7, gf_32_8, w_bret r_Bl_does, q_eq, q_ne, q_lt, q_ge, q_gt, q_le, g_I, g_L, g_R, g_V, t_0, t_I, t_R, t_U, t_L, t_s, List.getElem?_cons_zero, List.getElem?_cons_succ, Nat.reduceAdd, zif10, zif01b, zib, if_pos, if_neg, reduceIte, not_true_eq_false, not_false_eq_true, Bool.true_eq_false, Bool.false_eq_true, Classical.not_not, eq_self, and_self, and_true, true_and, Int.reduceEq, Int.reduceLE, Int.reduceLT, Int.reduceNeg, Option.toList, List.cons_append, List.nil_append, zup_s, zup_n, zst_s, zup_zs, zup_zn, decide_true, decide_false, zst_n, h6, show ((5 : Nat) : Int) = 5 from rfl, w_tsw, show ztsw (Int.toNat 17) (5) (9) #[1, 5, 17, 13, 9] (5) = 1 from rfl, c_Bl_endsOfAll hS hC1 hE1, h7, zset_dif, zset_sb, hb]
      exact ⟨E, rfl⟩
  · rw [show zDo S 6 N one two = zNv S N one 12 from rfl, ← zbt_iff zsb_iff zsb_iff (zRc_G hS)]
    cases hb : zsb S (zRc S N F 12) one
    · simp (disch := first | omega | exact Nat.le_of_ble_eq_true rfl | assumption | (simp only [Int.natCast_add, Int.natCast_mul, Int.cast_ofNat_Int]; omega) | decide) only [k_Bl_does_5, k_Bl_does_7, k_Bl_does_8, x_aload, x_getf, w_goto, w_fall, w_iand, w_iconst, w_if, x_iload, x_istore, w_ixor, w_tsw, gf_32_6, gf_32_7, gf_32_8, w_bret r_Bl_does, q_eq, q_ne, q_lt, q_ge, q_gt, q_le, g_I, g_L, g_R, g_V, t_0, t_I, t_R, t_U, t_L, t_s, List.getElem?_cons_zero, List.getElem?_cons_succ, Nat.reduceAdd, zif10, zif01b, zib, if_pos, if_neg, reduceIte, not_true_eq_false, not_false_eq_true, Bool.true_eq_false, Bool.false_eq_true, Classical.not_not, eq_self, and_self, and_true, true_and, Int.reduceEq, Int.reduceLE, Int.reduceLT, Int.reduceNeg, Option.toList, List.cons_append, List.nil_append, zup_s, zup_n, zst_s, zup_zs, zup_zn, decide_true, decide_false, zst_n, h6, show ((6 : Nat) : Int) = 6 from rfl, w_tsw, show ztsw (Int.toNat 17) (5) (9) #[1, 5, 17, 13, 9] (6) = 5 from rfl, h7, zset_dif, zset_sb, hb]
      exact ⟨E, rfl⟩
    · simp (disch := first | omega | exact Nat.le_of_ble_eq_true rfl | assumption | (simp only [Int.natCast_add, Int.natCast_mul, Int.cast_ofNat_Int]; omega) | decide) only [k_Bl_does_5, k_Bl_does_6, k_Bl_does_8, x_aload, x_getf, w_goto, w_fall, w_iand, w_iconst, w_if, x_iload, x_istore, w_ixor, w_tsw, gf_32_6, gf_32_7, gf_32_8, w_bret r_Bl_does, q_eq, q_ne, q_lt, q_ge, q_gt, q_le, g_I, g_L, g_R, g_V, t_0, t_I, t_R, t_U, t_L, t_s, List.getElem?_cons_zero, List.getElem?_cons_succ, Nat.reduceAdd, zif10, zif01b, zib, if_pos, if_neg, reduceIte, not_true_eq_false, not_false_eq_true, Bool.true_eq_false, Bool.false_eq_true, Classical.not_not, eq_self, and_self, and_true, true_and, Int.reduceEq, Int.reduceLE, Int.reduceLT, Int.reduceNeg, Option.toList, List.cons_append, List.nil_append, zup_s, zup_n, zst_s, zup_zs, zup_zn, decide_true, decide_false, zst_n, h6, show ((6 : Nat) : Int) = 6 from rfl, w_tsw, show ztsw (Int.toNat 17) (5) (9) #[1, 5, 17, 13, 9] (6) = 5 from rfl, h7, zset_dif, zset_sb, hb]
      exact ⟨E, rfl⟩
  · rw [show zDo S 7 N one two = zSu S N (fun _ => true) one 12 from rfl, ← zbt_iff zsb_iff zsb_iff (zRc_U hS)]
    have ew : (fun s => zRc S N F 12 s && true) = zRc S N F 12 := by funext s; rw [Bool.and_true]
    rw [ew]
    cases hb : zsb S F (zSu S N (zRc S N F 12) one 12)
    · simp (disch := first | omega | exact Nat.le_of_ble_eq_true rfl | assumption | (simp only [Int.natCast_add, Int.natCast_mul, Int.cast_ofNat_Int]; omega) | decide) only [k_Bl_does_17, k_Bl_does_19, k_Bl_does_20, x_aload, x_getf, w_goto, w_fall, w_iand, w_iconst, w_if, x_iload, x_istore, w_ixor, w_tsw, gf_32_6, gf_32_7, gf_32_8, w_bret r_Bl_does, q_eq, q_ne, q_lt, q_ge, q_gt, q_le, g_I, g_L, g_R, g_V, t_0, t_I, t_R, t_U, t_L, t_s, List.getElem?_cons_zero, List.getElem?_cons_succ, Nat.reduceAdd, zif10, zif01b, zib, if_pos, if_neg, reduceIte, not_true_eq_false, not_false_eq_true, Bool.true_eq_false, Bool.false_eq_true, Classical.not_not, eq_self, and_self, and_true, true_and, Int.reduceEq, Int.reduceLE, Int.reduceLT, Int.reduceNeg, Option.toList, List.cons_append, List.nil_append, zup_s, zup_n, zst_s, zup_zs, zup_zn, decide_true, decide_false, zst_n, h6, show ((7 : Nat) : Int) = 7 from rfl, w_tsw, show ztsw (Int.toNat 17) (5) (9) #[1, 5, 17, 13, 9] (7) = 17 from rfl, h7, c_Bl_sure hS hC1 hE2, zset_dif, zset_sb, hb]
      exact ⟨E, rfl⟩
    · simp (disch := first | omega | exact Nat.le_of_ble_eq_true rfl | assumption | (simp only [Int.natCast_add, Int.natCast_mul, Int.cast_ofNat_Int]; omega) | decide) only [k_Bl_does_17, k_Bl_does_18, k_Bl_does_20, x_aload, x_getf, w_goto, w_fall, w_iand, w_iconst, w_if, x_iload, x_istore, w_ixor, w_tsw, gf_32_6, gf_32_7, gf_32_8, w_bret r_Bl_does, q_eq, q_ne, q_lt, q_ge, q_gt, q_le, g_I, g_L, g_R, g_V, t_0, t_I, t_R, t_U, t_L, t_s, List.getElem?_cons_zero, List.getElem?_cons_succ, Nat.reduceAdd, zif10, zif01b, zib, if_pos, if_neg, reduceIte, not_true_eq_false, not_false_eq_true, Bool.true_eq_false, Bool.false_eq_true, Classical.not_not, eq_self, and_self, and_true, true_and, Int.reduceEq, Int.reduceLE, Int.reduceLT, Int.reduceNeg, Option.toList, List.cons_append, List.nil_append, zup_s, zup_n, zst_s, zup_zs, zup_zn, decide_true, decide_false, zst_n, h6, show ((7 : Nat) : Int) = 7 from rfl, w_tsw, show ztsw (Int.toNat 17) (5) (9) #[1, 5, 17, 13, 9] (7) = 17 from rfl, h7, c_Bl_sure hS hC1 hE2, zset_dif, zset_sb, hb]
      exact ⟨E, rfl⟩
  · rw [show zDo S 8 N one two = zSu S N one two 12 from rfl, ← zbt_iff zsb_iff zsb_iff (zRc_U hS)]
    have h8 := h8 rfl
    have hE3 : ∀ s : Nat, s < S → (zRc S N F 12 s && one s) = true → zst M 35 E 35 (s : Int) = zset S (N s) := fun s hs h => hE2 s hs (by rw [Bool.and_eq_true] at h; exact h.1)
    cases hb : zsb S F (zSu S N (fun s => zRc S N F 12 s && one s) two 12)
    · simp (disch := first | omega | exact Nat.le_of_ble_eq_true rfl | assumption | (simp only [Int.natCast_add, Int.natCast_mul, Int.cast_ofNat_Int]; omega) | decide) only [k_Bl_does_13, k_Bl_does_15, k_Bl_does_16, x_aload, x_getf, w_goto, w_fall, w_iand, w_iconst, w_if, x_iload, x_istore, w_ixor, w_tsw, gf_32_6, gf_32_7, gf_32_8, w_bret r_Bl_does, q_eq, q_ne, q_lt, q_ge, q_gt, q_le, g_I, g_L, g_R, g_V, t_0, t_I, t_R, t_U, t_L, t_s, List.getElem?_cons_zero, List.getElem?_cons_succ, Nat.reduceAdd, zif10, zif01b, zib, if_pos, if_neg, reduceIte, not_true_eq_false, not_false_eq_true, Bool.true_eq_false, Bool.false_eq_true, Classical.not_not, eq_self, and_self, and_true, true_and, Int.reduceEq, Int.reduceLE, Int.reduceLT, Int.reduceNeg, Option.toList, List.cons_append, List.nil_append, zup_s, zup_n, zst_s, zup_zs, zup_zn, decide_true, decide_false, zst_n, h6, show ((8 : Nat) : Int) = 8 from rfl, w_tsw, show ztsw (Int.toNat 17) (5) (9) #[1, 5, 17, 13, 9] (8) = 13 from rfl, h7, h8, zset_and, c_Bl_sure hS hC1 hE3, zset_dif, zset_sb, hb]
      exact ⟨E, rfl⟩
    · simp (disch := first | omega | exact Nat.le_of_ble_eq_true rfl | assumption | (simp only [Int.natCast_add, Int.natCast_mul, Int.cast_ofNat_Int]; omega) | decide) only [k_Bl_does_13, k_Bl_does_14, k_Bl_does_16, x_aload, x_getf, w_goto, w_fall, w_iand, w_iconst, w_if, x_iload, x_istore, w_ixor, w_tsw, gf_32_6, gf_32_7, gf_32_8, w_bret r_Bl_does, q_eq, q_ne, q_lt, q_ge, q_gt, q_le, g_I, g_L, g_R, g_V, t_0, t_I, t_R, t_U, t_L, t_s, List.getElem?_cons_zero, List.getElem?_cons_succ, Nat.reduceAdd, zif10, zif01b, zib, if_pos, if_neg, reduceIte, not_true_eq_false, not_false_eq_true, Bool.true_eq_false, Bool.false_eq_true, Classical.not_not, eq_self, and_self, and_true, true_and, Int.reduceEq, Int.reduceLE, Int.reduceLT, Int.reduceNeg, Option.toList, List.cons_append, List.nil_append, zup_s, zup_n, zst_s, zup_zs, zup_zn, decide_true, decide_false, zst_n, h6, show ((8 : Nat) : Int) = 8 from rfl, w_tsw, show ztsw (Int.toNat 17) (5) (9) #[1, 5, 17, 13, 9] (8) = 13 from rfl, h7, h8, zset_and, c_Bl_sure hS hC1 hE3, zset_dif, zset_sb, hb]
      exact ⟨E, rfl⟩
  · rw [show zDo S 9 N one two = zNv S N (zSu S N (fun _ => true) one 12) 12 from rfl]
    have hE3 : ∀ s : Nat, s < S → (zRc S N F 12 s && !one s) = true → zst M 35 E 35 (s : Int) = zset S (N s) := fun s hs h => hE2 s hs (by rw [Bool.and_eq_true] at h; exact h.1)
    by_cases hz : zset S (zSy S N (fun s => zRc S N F 12 s && !one s) 12) = 0
    · have hb : zsb S F (zNv S N (zSu S N (fun _ => true) one 12) 12) = true := zsb_iff.mpr ((zRc_I hS).mp ((zset_eq0 (by omega)).mp hz))
      simp (disch := first | omega | exact Nat.le_of_ble_eq_true rfl | assumption | (simp only [Int.natCast_add, Int.natCast_mul, Int.cast_ofNat_Int]; omega) | decide) only [k_Bl_does_9, k_Bl_does_10, k_Bl_does_12, x_aload, x_getf, w_goto, w_fall, w_iand, w_iconst, w_if, x_iload, x_istore, w_ixor, w_tsw, gf_32_6, gf_32_7, gf_32_8, w_bret r_Bl_does, q_eq, q_ne, q_lt, q_ge, q_gt, q_le, g_I, g_L, g_R, g_V, t_0, t_I, t_R, t_U, t_L, t_s, List.getElem?_cons_zero, List.getElem?_cons_succ, Nat.reduceAdd, zif10, zif01b, zib, if_pos, if_neg, reduceIte, not_true_eq_false, not_false_eq_true, Bool.true_eq_false, Bool.false_eq_true, Classical.not_not, eq_self, and_self, and_true, true_and, Int.reduceEq, Int.reduceLE, Int.reduceLT, Int.reduceNeg, Option.toList, List.cons_append, List.nil_append, zup_s, zup_n, zst_s, zup_zs, zup_zn, decide_true, decide_false, zst_n, h6, show ((9 : Nat) : Int) = 9 from rfl, w_tsw, show ztsw (Int.toNat 17) (5) (9) #[1, 5, 17, 13, 9] (9) = 9 from rfl, h7, zset_dif, c_Bl_staying hS hC1 hE3, hz, hb]
      exact ⟨E, rfl⟩
    · have hb : ¬ zsb S F (zNv S N (zSu S N (fun _ => true) one 12) 12) = true := fun h => hz ((zset_eq0 (by omega)).mpr ((zRc_I hS).mpr (zsb_iff.mp h)))
      simp (disch := first | omega | exact Nat.le_of_ble_eq_true rfl | assumption | (simp only [Int.natCast_add, Int.natCast_mul, Int.cast_ofNat_Int]; omega) | decide) only [k_Bl_does_9, k_Bl_does_11, k_Bl_does_12, x_aload, x_getf, w_goto, w_fall, w_iand, w_iconst, w_if, x_iload, x_istore, w_ixor, w_tsw, gf_32_6, gf_32_7, gf_32_8, w_bret r_Bl_does, q_eq, q_ne, q_lt, q_ge, q_gt, q_le, g_I, g_L, g_R, g_V, t_0, t_I, t_R, t_U, t_L, t_s, List.getElem?_cons_zero, List.getElem?_cons_succ, Nat.reduceAdd, zif10, zif01b, zib, if_pos, if_neg, reduceIte, not_true_eq_false, not_false_eq_true, Bool.true_eq_false, Bool.false_eq_true, Classical.not_not, eq_self, and_self, and_true, true_and, Int.reduceEq, Int.reduceLE, Int.reduceLT, Int.reduceNeg, Option.toList, List.cons_append, List.nil_append, zup_s, zup_n, zst_s, zup_zs, zup_zn, decide_true, decide_false, zst_n, h6, show ((9 : Nat) : Int) = 9 from rfl, w_tsw, show ztsw (Int.toNat 17) (5) (9) #[1, 5, 17, 13, 9] (9) = 9 from rfl, h7, zset_dif, c_Bl_staying hS hC1 hE3, hz, hb]
      exact ⟨E, rfl⟩
theorem c_Bl_does {d mi o b9 : Nat} {es : List zEnt} {L st : List zMV} {Q : Option zMV → (Nat → Int → Int) → Prop} {F : Nat → Bool} (hN : zNet S P mv tg) (hC : zNetC S P mv tg M) (hH : zHpC hp M) (hhp : ∀ p s, hp p s < 12) (hT : zTabC S P mv tg (zbit gi) M) (hg : M 32 5 = gi) (hR : zRwC rw0 M) (hok : zRwOK S P mv hp (zbit gi) rw0) (hkd : 5 ≤ kd ∧ kd ≤ 9) (h6 : M 32 6 = kd) (h7 : M 32 7 = zset S one) (h8 : kd = 8 → M 32 8 = zset S two) (hd : 4 + 1 ≤ d) (hc : zcats st ≤ 8) (hpost : ∀ r M', (r = some (zI (if zsb S F (zDo S kd (zN P mv tg hp (zbit gi) rw0) one two) = true then 1 else 0)) ∧ ∃ E, M' = zst M 35 E) → zW (zSH Ln) d mi es L (r.toList ++ st) M' Q) : zW (zSH Ln) d mi ((.invokevirtual o, 6, b9) :: es) L (zI (zset S F) :: zR 32 :: st) M Q :=
  w_callv (ps := [zI (zset S F)]) (by omega) rfl rfl (by omega) (by exact sh_32 Ln) hc (Nat.le_of_ble_eq_true rfl) (F_Bl_does hN hC hH hhp hT hg hR hok hkd h6 h7 h8 (by omega)) hpost
theorem F_Bl_want {d : Nat} {x y z : Int} (hd : 0 ≤ d) : zF (zSH Ln) d i_Bl_want [zR 32, zI x, zI y, zI z] M fun r M' => r = none ∧ M' = zup (zup (zup M 32 6 x) 32 7 y) 32 8 z := by
  rw [zF_en k_Bl_want_0 (L := [zR 32, zI x, zI y, zI z]) rfl]
  simp (disch := first | omega | exact Nat.le_of_ble_eq_true rfl | assumption | (simp only [Int.natCast_add, Int.natCast_mul, Int.cast_ofNat_Int]; omega) | decide) only [x_aload, x_iload, xp_32_6, xp_32_7, xp_32_8, w_vret r_Bl_want, q_eq, q_ne, q_lt, q_ge, q_gt, q_le, g_I, g_L, g_R, g_V, t_0, t_I, t_R, t_U, t_L, t_s, List.getElem?_cons_zero, List.getElem?_cons_succ, Nat.reduceAdd, zif10, zif01b, zib, if_pos, if_neg, reduceIte, not_true_eq_false, not_false_eq_true, Bool.true_eq_false, Bool.false_eq_true, Classical.not_not, eq_self, and_self, and_true, true_and, Int.reduceEq, Int.reduceLE, Int.reduceLT, Int.reduceNeg, Option.toList, List.cons_append, List.nil_append, zup_s, zup_n, zst_s, zup_zs, zup_zn, decide_true, decide_false]
theorem c_Bl_want {d mi o b9 : Nat} {es : List zEnt} {L st : List zMV} {Q : Option zMV → (Nat → Int → Int) → Prop} {x y z : Int} (hd : 0 + 1 ≤ d) (hc : zcats st ≤ 8) : zW (zSH Ln) d mi ((.invokevirtual o, 2, b9) :: es) L (zI z :: zI y :: zI x :: zR 32 :: st) M Q = zW (zSH Ln) d mi es L (st) (zup (zup (zup M 32 6 x) 32 7 y) 32 8 z) Q :=
  c_virt (ps := [zI x, zI y, zI z]) (by omega) rfl rfl (by omega) (by exact sh_32 Ln) hc (Nat.le_of_ble_eq_true rfl) (F_Bl_want  (by omega))
theorem F_Bl_fit {d : Nat} {s0 : Nat} (hN : zNet S P mv tg) (hC : zNetC S P mv tg M) (hH : zHpC hp M) (hg : M 32 5 = gi) (hs : s0 < S) (hd : 2 ≤ d) : zF (zSH Ln) d i_Bl_fit [zR 32, zI (s0 : Int)] M fun r M' => r = some (zI (zset S (zFt P hp (zbit gi) s0))) ∧ M' = M := by
  rw [zF_en k_Bl_fit_0 (L := [zR 32, zI (s0 : Int), zU, zU, zU]) rfl]
  have hS := hN.2.1
  have hP := hN.2.2.2.1
  simp (disch := first | omega | exact Nat.le_of_ble_eq_true rfl | assumption | (simp only [Int.natCast_add, Int.natCast_mul, Int.cast_ofNat_Int]; omega) | decide) only [x_aload, x_getf, w_goto, w_fall, w_iconst, w_if, w_icmp, x_iinc, x_iload, w_ior, w_ishl, x_istore, zadd_eq, gf_32_0, gf_32_5, gf_3_0, gf_3_1, w_nret r_Bl_fit, q_eq, q_ne, q_lt, q_ge, q_gt, q_le, g_I, g_L, g_R, g_V, t_0, t_I, t_R, t_U, t_L, t_s, List.getElem?_cons_zero, List.getElem?_cons_succ, Nat.reduceAdd, zif10, zif01b, zib, if_pos, if_neg, reduceIte, not_true_eq_false, not_false_eq_true, Bool.true_eq_false, Bool.false_eq_true, Classical.not_not, eq_self, and_self, and_true, true_and, Int.reduceEq, Int.reduceLE, Int.reduceLT, Int.reduceNeg, Option.toList, List.cons_append, List.nil_append, zup_s, zup_n, zst_s, zup_zs, zup_zn, decide_true, decide_false]
  refine zfor (a := 0) (N := P) (b := 1) (fun p L0 M0 => ∃ (v4 : zMV), L0 = [zR 32, zI s0, zI (zset S (zFt p hp (zbit gi) s0)), zI (p : Int), v4] ∧ M0 = M) ?_ ?_ ?_ ?_
  · exact Nat.zero_le _
  · refine ⟨zU, ?_, rfl⟩
    rw [zset_one (by omega) hs, show zFt 0 hp (zbit gi) s0 = fun t => decide (t = s0) by funext t; simp [zFt, zan]]; rfl
  · rintro p _ M _ hp2 ⟨v4, rfl, rfl⟩ ih
    rw [k_Bl_fit_1]
    simp (disch := first | omega | exact Nat.le_of_ble_eq_true rfl | assumption | (simp only [Int.natCast_add, Int.natCast_mul, Int.cast_ofNat_Int]; omega) | decide) only [k_Bl_fit_2, x_aload, x_getf, w_goto, w_fall, w_iconst, w_if, w_icmp, x_iinc, x_iload, w_ior, w_ishl, x_istore, zadd_eq, gf_32_0, gf_32_5, gf_3_0, gf_3_1, w_nret r_Bl_fit, q_eq, q_ne, q_lt, q_ge, q_gt, q_le, g_I, g_L, g_R, g_V, t_0, t_I, t_R, t_U, t_L, t_s, List.getElem?_cons_zero, List.getElem?_cons_succ, Nat.reduceAdd, zif10, zif01b, zib, if_pos, if_neg, reduceIte, not_true_eq_false, not_false_eq_true, Bool.true_eq_false, Bool.false_eq_true, Classical.not_not, eq_self, and_self, and_true, true_and, Int.reduceEq, Int.reduceLE, Int.reduceLT, Int.reduceNeg, Option.toList, List.cons_append, List.nil_append, zup_s, zup_n, zst_s, zup_zs, zup_zn, decide_true, decide_false, hC.2.1]
    refine zfor (a := 0) (N := S) (b := 3) (fun s L0 M0 => L0 = [zR 32, zI s0, zI (zset S fun t => zFt p hp (zbit gi) s0 t || (decide (t < s) && (zbit gi p && decide (hp p t = hp p s0)))), zI (p : Int), zI (s : Int)] ∧ M0 = M) ?_ ?_ ?_ ?_
    · exact Nat.zero_le _
    · exact ⟨by simp, rfl⟩
    · rintro s _ M _ hs2 ⟨rfl, rfl⟩ ih2
      have nx : ∀ b : Bool, b = (zbit gi p && decide (hp p s = hp p s0)) → (zset S fun t => zFt p hp (zbit gi) s0 t || (decide (t < s + 1) && (zbit gi p && decide (hp p t = hp p s0)))) = zset S fun t => (zFt p hp (zbit gi) s0 t || (decide (t < s) && (zbit gi p && decide (hp p t = hp p s0)))) || (b && decide (t = s)) := by
        intro b hb
        refine zset_cong fun i hi => ?_
        by_cases e : i = s
        · subst e; simp [hb]
        · simp [e, show (i < s + 1) ↔ (i < s) by omega]
      rw [k_Bl_fit_3]
      cases hb : zbit gi p
      · simp (disch := first | omega | exact Nat.le_of_ble_eq_true rfl | assumption | (simp only [Int.natCast_add, Int.natCast_mul, Int.cast_ofNat_Int]; omega) | decide) only [k_Bl_fit_4, k_Bl_fit_7, x_aload, x_getf, w_goto, w_fall, w_iconst, w_if, w_icmp, x_iinc, x_iload, w_ior, w_ishl, x_istore, zadd_eq, gf_32_0, gf_32_5, gf_3_0, gf_3_1, w_nret r_Bl_fit, q_eq, q_ne, q_lt, q_ge, q_gt, q_le, g_I, g_L, g_R, g_V, t_0, t_I, t_R, t_U, t_L, t_s, List.getElem?_cons_zero, List.getElem?_cons_succ, Nat.reduceAdd, zif10, zif01b, zib, if_pos, if_neg, reduceIte, not_true_eq_false, not_false_eq_true, Bool.true_eq_false, Bool.false_eq_true, Classical.not_not, eq_self, and_self, and_true, true_and, Int.reduceEq, Int.reduceLE, Int.reduceLT, Int.reduceNeg, Option.toList, List.cons_append, List.nil_append, zup_s, zup_n, zst_s, zup_zs, zup_zn, decide_true, decide_false, hC.1, hg, c_has, hb]
        refine ih2 _ _ ⟨?_, rfl⟩
        have := nx false (by rw [hb]; rfl)
        rw [hb] at this
        rw [hb, this]
        simp
      · by_cases he : hp p s = hp p s0
        · simp (disch := first | omega | exact Nat.le_of_ble_eq_true rfl | assumption | (simp only [Int.natCast_add, Int.natCast_mul, Int.cast_ofNat_Int]; omega) | decide) only [k_Bl_fit_4, k_Bl_fit_5, k_Bl_fit_6, k_Bl_fit_7, x_aload, x_getf, w_goto, w_fall, w_iconst, w_if, w_icmp, x_iinc, x_iload, w_ior, w_ishl, x_istore, zadd_eq, gf_32_0, gf_32_5, gf_3_0, gf_3_1, w_nret r_Bl_fit, q_eq, q_ne, q_lt, q_ge, q_gt, q_le, g_I, g_L, g_R, g_V, t_0, t_I, t_R, t_U, t_L, t_s, List.getElem?_cons_zero, List.getElem?_cons_succ, Nat.reduceAdd, zif10, zif01b, zib, if_pos, if_neg, reduceIte, not_true_eq_false, not_false_eq_true, Bool.true_eq_false, Bool.false_eq_true, Classical.not_not, eq_self, and_self, and_true, true_and, Int.reduceEq, Int.reduceLE, Int.reduceLT, Int.reduceNeg, Option.toList, List.cons_append, List.nil_append, zup_s, zup_n, zst_s, zup_zs, zup_zn, decide_true, decide_false, hC.1, hg, c_has, hb, c_Ne_heapOf hH, he, zset_up]
          refine ih2 _ _ ⟨?_, rfl⟩
          have := nx true (by rw [hb, he]; simp)
          rw [hb] at this
          rw [hb, this]
          simp
        · have he' : ¬ ((hp p s : Nat) : Int) = ((hp p s0 : Nat) : Int) := by omega
          simp (disch := first | omega | exact Nat.le_of_ble_eq_true rfl | assumption | (simp only [Int.natCast_add, Int.natCast_mul, Int.cast_ofNat_Int]; omega) | decide) only [k_Bl_fit_4, k_Bl_fit_5, k_Bl_fit_7, x_aload, x_getf, w_goto, w_fall, w_iconst, w_if, w_icmp, x_iinc, x_iload, w_ior, w_ishl, x_istore, zadd_eq, gf_32_0, gf_32_5, gf_3_0, gf_3_1, w_nret r_Bl_fit, q_eq, q_ne, q_lt, q_ge, q_gt, q_le, g_I, g_L, g_R, g_V, t_0, t_I, t_R, t_U, t_L, t_s, List.getElem?_cons_zero, List.getElem?_cons_succ, Nat.reduceAdd, zif10, zif01b, zib, if_pos, if_neg, reduceIte, not_true_eq_false, not_false_eq_true, Bool.true_eq_false, Bool.false_eq_true, Classical.not_not, eq_self, and_self, and_true, true_and, Int.reduceEq, Int.reduceLE, Int.reduceLT, Int.reduceNeg, Option.toList, List.cons_append, List.nil_append, zup_s, zup_n, zst_s, zup_zs, zup_zn, decide_true, decide_false, hC.1, hg, c_has, hb, c_Ne_heapOf hH, he']
          refine ih2 _ _ ⟨?_, rfl⟩
          have := nx false (by rw [hb]; simp [he])
          rw [hb] at this
          rw [hb, this]
          simp
    · rintro _ M ⟨rfl, rfl⟩
      rw [k_Bl_fit_3]
      simp (disch := first | omega | exact Nat.le_of_ble_eq_true rfl | assumption | (simp only [Int.natCast_add, Int.natCast_mul, Int.cast_ofNat_Int]; omega) | decide) only [k_Bl_fit_8, x_aload, x_getf, w_goto, w_fall, w_iconst, w_if, w_icmp, x_iinc, x_iload, w_ior, w_ishl, x_istore, zadd_eq, gf_32_0, gf_32_5, gf_3_0, gf_3_1, w_nret r_Bl_fit, q_eq, q_ne, q_lt, q_ge, q_gt, q_le, g_I, g_L, g_R, g_V, t_0, t_I, t_R, t_U, t_L, t_s, List.getElem?_cons_zero, List.getElem?_cons_succ, Nat.reduceAdd, zif10, zif01b, zib, if_pos, if_neg, reduceIte, not_true_eq_false, not_false_eq_true, Bool.true_eq_false, Bool.false_eq_true, Classical.not_not, eq_self, and_self, and_true, true_and, Int.reduceEq, Int.reduceLE, Int.reduceLT, Int.reduceNeg, Option.toList, List.cons_append, List.nil_append, zup_s, zup_n, zst_s, zup_zs, zup_zn, decide_true, decide_false, hC.1]
      refine ih _ _ ⟨zI (S : Int), ?_, rfl⟩
      rw [show (zset S fun t => zFt p hp (zbit gi) s0 t || (decide (t < S) && (zbit gi p && decide (hp p t = hp p s0)))) = zset S (zFt (p + 1) hp (zbit gi) s0) from zset_cong fun i hi => by simp [zFt, zan, hi, Bool.or_assoc]]
      rfl
  · rintro _ M ⟨v4, rfl, rfl⟩
    rw [k_Bl_fit_1]
    simp (disch := first | omega | exact Nat.le_of_ble_eq_true rfl | assumption | (simp only [Int.natCast_add, Int.natCast_mul, Int.cast_ofNat_Int]; omega) | decide) only [k_Bl_fit_9, x_aload, x_getf, w_goto, w_fall, w_iconst, w_if, w_icmp, x_iinc, x_iload, w_ior, w_ishl, x_istore, zadd_eq, gf_32_0, gf_32_5, gf_3_0, gf_3_1, w_nret r_Bl_fit, q_eq, q_ne, q_lt, q_ge, q_gt, q_le, g_I, g_L, g_R, g_V, t_0, t_I, t_R, t_U, t_L, t_s, List.getElem?_cons_zero, List.getElem?_cons_succ, Nat.reduceAdd, zif10, zif01b, zib, if_pos, if_neg, reduceIte, not_true_eq_false, not_false_eq_true, Bool.true_eq_false, Bool.false_eq_true, Classical.not_not, eq_self, and_self, and_true, true_and, Int.reduceEq, Int.reduceLE, Int.reduceLT, Int.reduceNeg, Option.toList, List.cons_append, List.nil_append, zup_s, zup_n, zst_s, zup_zs, zup_zn, decide_true, decide_false, hC.2.1]
theorem c_Bl_fit {d mi o b9 : Nat} {es : List zEnt} {L st : List zMV} {Q : Option zMV → (Nat → Int → Int) → Prop} {s0 : Nat} (hN : zNet S P mv tg) (hC : zNetC S P mv tg M) (hH : zHpC hp M) (hg : M 32 5 = gi) (hs : s0 < S) (hd : 2 + 1 ≤ d) (hc : zcats st ≤ 8) : zW (zSH Ln) d mi ((.invokevirtual o, 3, b9) :: es) L (zI (s0 : Int) :: zR 32 :: st) M Q = zW (zSH Ln) d mi es L (zI (zset S (zFt P hp (zbit gi) s0)) :: st) (M) Q :=
  c_virt (ps := [zI (s0 : Int)]) (by omega) rfl rfl (by omega) (by exact sh_32 Ln) hc (Nat.le_of_ble_eq_true rfl) (F_Bl_fit hN hC hH hg hs (by omega))
end BL
