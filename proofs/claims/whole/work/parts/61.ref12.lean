/-! the reference: rows of moves, laid -/
def zHpR (hp : Nat → Nat → Nat) (M : Nat → Int → Int) : Prop := ∀ p s : Nat, p < 4 → s < 12 → M 53 (4 * (s : Int) + p) = hp p s
def zix (b : Nat → Nat) : Nat → Nat
  | 0 => 0
  | i + 1 => zix b i + if 0 < b i then 1 else 0
theorem zix_le (b : Nat → Nat) : ∀ i, zix b i ≤ i
  | 0 => Nat.le_refl _
  | i + 1 => by have := zix_le b i; unfold zix; split <;> omega
theorem zix_mono (b : Nat → Nat) {i j : Nat} (h : i ≤ j) : zix b i ≤ zix b j := by
  induction j with
  | zero => have : i = 0 := by omega
            subst this; exact Nat.le_refl _
  | succ j ih =>
    by_cases e : i = j + 1
    · subst e; exact Nat.le_refl _
    · have := ih (by omega)
      show _ ≤ zix b j + if 0 < b j then 1 else 0
      omega
theorem zix_lt (b : Nat → Nat) {i j : Nat} (h : i < j) (hi : 0 < b i) : zix b i < zix b j := by
  have := zix_mono b (show i + 1 ≤ j by omega)
  have e : zix b (i + 1) = zix b i + 1 := by show zix b i + (if 0 < b i then 1 else 0) = _; rw [if_pos hi]
  omega
theorem zix_inj (b : Nat → Nat) {i j : Nat} (hi : 0 < b i) (hj : 0 < b j) (h : zix b i = zix b j) : i = j := by
  rcases Nat.lt_trichotomy i j with h2 | h2 | h2
  · have := zix_lt b h2 hi; omega
  · exact h2
  · have := zix_lt b h2 hj; omega
/-- the d-th that is laid, the last one below q -/
theorem zix_pred (b : Nat → Nat) : ∀ q c, zix b q = c + 1 → ∃ j, j < q ∧ 0 < b j ∧ zix b j = c ∧ ∀ i, j < i → i < q → b i = 0
  | 0, c, h => by simp [zix] at h
  | q + 1, c, h => by
    have h : zix b q + (if 0 < b q then 1 else 0) = c + 1 := h
    by_cases hb : 0 < b q
    · rw [if_pos hb] at h
      exact ⟨q, by omega, hb, by omega, fun i h1 h2 => by omega⟩
    · rw [if_neg hb] at h
      obtain ⟨j, h1, h2, h3, h4⟩ := zix_pred b q c (by omega)
      exact ⟨j, by omega, h2, h3, fun i h5 h6 => by
        by_cases e : i = q
        · subst e; omega
        · exact h4 i h5 (by omega)⟩
theorem zix_surj (b : Nat → Nat) : ∀ q d, d < zix b q → ∃ j, j < q ∧ 0 < b j ∧ zix b j = d
  | 0, d, h => by simp [zix] at h
  | q + 1, d, h => by
    have h : d < zix b q + (if 0 < b q then 1 else 0) := h
    by_cases e : d < zix b q
    · obtain ⟨j, h1, h2, h3⟩ := zix_surj b q d e
      exact ⟨j, by omega, h2, h3⟩
    · by_cases hb : 0 < b q
      · rw [if_pos hb] at h
        exact ⟨q, by omega, hb, by omega⟩
      · rw [if_neg hb] at h; omega
theorem zix_skip {b : Nat → Nat} {q k : Nat} (h : ∀ i, q ≤ i → i < q + k → b i = 0) : zix b (q + k) = zix b q ∧ zcap b (q + k) = min (zcap b q) 5001 := by
  induction k with
  | zero => exact ⟨rfl, by have := zcap_le b q; show zcap b q = _; omega⟩
  | succ k ih =>
    obtain ⟨h1, h2⟩ := ih fun i h1 h2 => h i h1 (by omega)
    have h3 := h (q + k) (by omega) (by omega)
    constructor
    · show zix b (q + k) + (if 0 < b (q + k) then 1 else 0) = _
      rw [h1, h3]; rfl
    · show min (zcap b (q + k) * max (b (q + k)) 1) 5001 = _
      rw [h2, h3, show max 0 1 = 1 from rfl, Nat.mul_one]; omega
/-- the first q are laid -/
def zLay (b : Nat → Nat) (q : Nat) (M : Nat → Int → Int) : Prop := M 48 41 = zix b q ∧ ∀ j : Nat, j < q → 0 < b j → M 76 (zix b j : Int) = ((j / 12 : Nat) : Int) ∧ M 77 (zix b j : Int) = ((j % 12 : Nat) : Int) ∧ M 78 (zix b j : Int) = b j
section RE
variable {Ln S P n : Nat} {mv tg hp : Nat → Nat → Nat} {M : Nat → Int → Int} {g : Int} {b : Nat → Nat}
theorem F_Md_mostOf {d : Nat} {p h : Nat} (hN : zNet S P mv tg) (hR : zNetR S P mv tg M) (hH : zHpR hp M) (hp4 : p < 4) (hd : 0 ≤ d) : zF (zSH Ln) d i_Md_mostOf [zR 48, zI (p : Int), zI (h : Int)] M fun r M' => r = some (zI (zlm mv hp p h S : Int)) ∧ M' = M := by
  rw [zF_en k_Md_mostOf_0 (L := [zR 48, zI (p : Int), zI (h : Int), zU, zU, zU]) rfl]
  have hS := hN.2.1
  have hm := hN.2.2.2.2.1
  simp (disch := first | omega | exact Nat.le_of_ble_eq_true rfl | assumption | (simp only [Int.natCast_add, Int.natCast_mul, Int.cast_ofNat_Int]; omega) | decide) only [x_aload, x_getf, w_goto, w_fall, w_iadd, w_iconst, w_if, w_icmp, x_iinc, x_iload, w_imul, x_istore, zadd_eq, zmul_eq, gf_48_0, gf_48_2, gf_48_6, ia_49, ia_53, w_nret r_Md_mostOf, q_eq, q_ne, q_lt, q_ge, q_gt, q_le, g_I, g_L, g_R, g_V, t_0, t_I, t_R, t_U, t_L, t_s, List.getElem?_cons_zero, List.getElem?_cons_succ, Nat.reduceAdd, zif10, zif01b, zib, if_pos, if_neg, ↓reduceIte, not_true_eq_false, not_false_eq_true, Bool.true_eq_false, Bool.false_eq_true, Classical.not_not, eq_self, and_self, and_true, true_and, Int.reduceEq, Int.reduceLE, Int.reduceLT, Int.reduceNeg, Option.toList, List.cons_append, List.nil_append, zup_s, zup_n, zst_s, zup_zs, zup_zn, decide_true, decide_false]
  refine zfor (a := 0) (N := S) (b := 1) (fun s L0 M0 => ∃ (v5 : zMV), L0 = [zR 48, zI (p : Int), zI (h : Int), zI (zlm mv hp p h s : Int), zI (s : Int), v5] ∧ M0 = M) ?_ ?_ ?_ ?_
  · exact Nat.zero_le _
  · exact ⟨zU, rfl, rfl⟩
  · rintro s _ M _ hs ⟨v5, rfl, rfl⟩ ih
    have hms := hR.2.2.1 s p (by omega) hp4
    have hhs := hH p s hp4 (by omega)
    have hl3 := zlm_le (hp := hp) hm p h s
    have hsu : zlm mv hp p h (s + 1) = if hp p s = h ∧ (zlm mv hp p h s = 0 ∨ mv s p < zlm mv hp p h s) then mv s p else zlm mv hp p h s := rfl
    rw [k_Md_mostOf_1]
    by_cases h1 : hp p s = h
    · by_cases h2 : zlm mv hp p h s = 0
      · rw [if_pos ⟨h1, Or.inl h2⟩] at hsu
        simp (disch := first | omega | exact Nat.le_of_ble_eq_true rfl | assumption | (simp only [Int.natCast_add, Int.natCast_mul, Int.cast_ofNat_Int]; omega) | decide) only [k_Md_mostOf_2, k_Md_mostOf_3, k_Md_mostOf_5, k_Md_mostOf_7, x_aload, x_getf, w_goto, w_fall, w_iadd, w_iconst, w_if, w_icmp, x_iinc, x_iload, w_imul, x_istore, zadd_eq, zmul_eq, gf_48_0, gf_48_2, gf_48_6, ia_49, ia_53, w_nret r_Md_mostOf, q_eq, q_ne, q_lt, q_ge, q_gt, q_le, g_I, g_L, g_R, g_V, t_0, t_I, t_R, t_U, t_L, t_s, List.getElem?_cons_zero, List.getElem?_cons_succ, Nat.reduceAdd, zif10, zif01b, zib, if_pos, if_neg, ↓reduceIte, not_true_eq_false, not_false_eq_true, Bool.true_eq_false, Bool.false_eq_true, Classical.not_not, eq_self, and_self, and_true, true_and, Int.reduceEq, Int.reduceLE, Int.reduceLT, Int.reduceNeg, Option.toList, List.cons_append, List.nil_append, zup_s, zup_n, zst_s, zup_zs, zup_zn, decide_true, decide_false, hR.1, hms, hhs]
        exact ih _ _ ⟨_, by rw [hsu]; rfl, rfl⟩
      · by_cases h3 : mv s p < zlm mv hp p h s
        · rw [if_pos ⟨h1, Or.inr h3⟩] at hsu
          simp (disch := first | omega | exact Nat.le_of_ble_eq_true rfl | assumption | (simp only [Int.natCast_add, Int.natCast_mul, Int.cast_ofNat_Int]; omega) | decide) only [k_Md_mostOf_2, k_Md_mostOf_3, k_Md_mostOf_4, k_Md_mostOf_5, k_Md_mostOf_7, x_aload, x_getf, w_goto, w_fall, w_iadd, w_iconst, w_if, w_icmp, x_iinc, x_iload, w_imul, x_istore, zadd_eq, zmul_eq, gf_48_0, gf_48_2, gf_48_6, ia_49, ia_53, w_nret r_Md_mostOf, q_eq, q_ne, q_lt, q_ge, q_gt, q_le, g_I, g_L, g_R, g_V, t_0, t_I, t_R, t_U, t_L, t_s, List.getElem?_cons_zero, List.getElem?_cons_succ, Nat.reduceAdd, zif10, zif01b, zib, if_pos, if_neg, ↓reduceIte, not_true_eq_false, not_false_eq_true, Bool.true_eq_false, Bool.false_eq_true, Classical.not_not, eq_self, and_self, and_true, true_and, Int.reduceEq, Int.reduceLE, Int.reduceLT, Int.reduceNeg, Option.toList, List.cons_append, List.nil_append, zup_s, zup_n, zst_s, zup_zs, zup_zn, decide_true, decide_false, hR.1, hms, hhs]
          exact ih _ _ ⟨_, by rw [hsu]; rfl, rfl⟩
        · rw [if_neg (fun z => by omega)] at hsu
          simp (disch := first | omega | exact Nat.le_of_ble_eq_true rfl | assumption | (simp only [Int.natCast_add, Int.natCast_mul, Int.cast_ofNat_Int]; omega) | decide) only [k_Md_mostOf_2, k_Md_mostOf_3, k_Md_mostOf_4, k_Md_mostOf_6, k_Md_mostOf_7, x_aload, x_getf, w_goto, w_fall, w_iadd, w_iconst, w_if, w_icmp, x_iinc, x_iload, w_imul, x_istore, zadd_eq, zmul_eq, gf_48_0, gf_48_2, gf_48_6, ia_49, ia_53, w_nret r_Md_mostOf, q_eq, q_ne, q_lt, q_ge, q_gt, q_le, g_I, g_L, g_R, g_V, t_0, t_I, t_R, t_U, t_L, t_s, List.getElem?_cons_zero, List.getElem?_cons_succ, Nat.reduceAdd, zif10, zif01b, zib, if_pos, if_neg, ↓reduceIte, not_true_eq_false, not_false_eq_true, Bool.true_eq_false, Bool.false_eq_true, Classical.not_not, eq_self, and_self, and_true, true_and, Int.reduceEq, Int.reduceLE, Int.reduceLT, Int.reduceNeg, Option.toList, List.cons_append, List.nil_append, zup_s, zup_n, zst_s, zup_zs, zup_zn, decide_true, decide_false, hR.1, hms, hhs]
          exact ih _ _ ⟨_, by rw [hsu]; rfl, rfl⟩
    · rw [if_neg (fun z => h1 z.1)] at hsu
      have h1' : ¬ ((hp p s : Nat) : Int) = (h : Int) := by omega
      simp (disch := first | omega | exact Nat.le_of_ble_eq_true rfl | assumption | (simp only [Int.natCast_add, Int.natCast_mul, Int.cast_ofNat_Int]; omega) | decide) only [k_Md_mostOf_2, k_Md_mostOf_6, k_Md_mostOf_7, x_aload, x_getf, w_goto, w_fall, w_iadd, w_iconst, w_if, w_icmp, x_iinc, x_iload, w_imul, x_istore, zadd_eq, zmul_eq, gf_48_0, gf_48_2, gf_48_6, ia_49, ia_53, w_nret r_Md_mostOf, q_eq, q_ne, q_lt, q_ge, q_gt, q_le, g_I, g_L, g_R, g_V, t_0, t_I, t_R, t_U, t_L, t_s, List.getElem?_cons_zero, List.getElem?_cons_succ, Nat.reduceAdd, zif10, zif01b, zib, if_pos, if_neg, ↓reduceIte, not_true_eq_false, not_false_eq_true, Bool.true_eq_false, Bool.false_eq_true, Classical.not_not, eq_self, and_self, and_true, true_and, Int.reduceEq, Int.reduceLE, Int.reduceLT, Int.reduceNeg, Option.toList, List.cons_append, List.nil_append, zup_s, zup_n, zst_s, zup_zs, zup_zn, decide_true, decide_false, hR.1, hms, hhs, h1']
      exact ih _ _ ⟨_, by rw [hsu]; rfl, rfl⟩
  · rintro _ M ⟨v5, rfl, rfl⟩
    rw [k_Md_mostOf_1]
    simp (disch := first | omega | exact Nat.le_of_ble_eq_true rfl | assumption | (simp only [Int.natCast_add, Int.natCast_mul, Int.cast_ofNat_Int]; omega) | decide) only [k_Md_mostOf_8, x_aload, x_getf, w_goto, w_fall, w_iadd, w_iconst, w_if, w_icmp, x_iinc, x_iload, w_imul, x_istore, zadd_eq, zmul_eq, gf_48_0, gf_48_2, gf_48_6, ia_49, ia_53, w_nret r_Md_mostOf, q_eq, q_ne, q_lt, q_ge, q_gt, q_le, g_I, g_L, g_R, g_V, t_0, t_I, t_R, t_U, t_L, t_s, List.getElem?_cons_zero, List.getElem?_cons_succ, Nat.reduceAdd, zif10, zif01b, zib, if_pos, if_neg, ↓reduceIte, not_true_eq_false, not_false_eq_true, Bool.true_eq_false, Bool.false_eq_true, Classical.not_not, eq_self, and_self, and_true, true_and, Int.reduceEq, Int.reduceLE, Int.reduceLT, Int.reduceNeg, Option.toList, List.cons_append, List.nil_append, zup_s, zup_n, zst_s, zup_zs, zup_zn, decide_true, decide_false, hR.1]
theorem c_Md_mostOf {d mi o b9 : Nat} {es : List zEnt} {L st : List zMV} {Q : Option zMV → (Nat → Int → Int) → Prop} {p h : Nat} (hN : zNet S P mv tg) (hR : zNetR S P mv tg M) (hH : zHpR hp M) (hp4 : p < 4) (hd : 0 + 1 ≤ d) (hc : zcats st ≤ 8) : zW (zSH Ln) d mi ((.invokevirtual o, 221, b9) :: es) L (zI (h : Int) :: zI (p : Int) :: zR 48 :: st) M Q = zW (zSH Ln) d mi es L (zI (zlm mv hp p h S : Int) :: st) (M) Q :=
  c_virt (ps := [zI (p : Int), zI (h : Int)]) (by omega) rfl rfl (by omega) (by exact sh_48 Ln) hc (Nat.le_of_ble_eq_true rfl) (F_Md_mostOf hN hR hH hp4 (by omega))
theorem F_Md_lays {d : Nat} (hN : zNet S P mv tg) (hR : zNetR S P mv tg M) (hH : zHpR hp M) (hg : M 59 0 = g) (hd : 1 ≤ d) : zF (zSH Ln) d i_Md_lays [zR 48] M fun r M' => r = some (zI (zcap (zBb S P mv hp (zbit g)) 48 : Int)) ∧ zKp [48, 76, 77, 78, 79] M M' ∧ (∀ i : Int, i ≠ 41 → M' 48 i = M 48 i) ∧ zLay (zBb S P mv hp (zbit g)) 48 M' ∧ ∀ j : Nat, j < 48 → 0 < zBb S P mv hp (zbit g) j → M' 79 (zix (zBb S P mv hp (zbit g)) j : Int) = 0 := by
  rw [zF_en k_Md_lays_0 (L := [zR 48, zU, zU, zU, zU]) rfl]
  have hS := hN.2.1
  have hP := hN.2.2.2.1
  have hm := hN.2.2.2.2.1
  generalize hbb : zBb S P mv hp (zbit g) = b
  have hb3 : ∀ i, b i ≤ 3 := fun i => by
    rw [← hbb]; unfold zBb; split
    · exact zlm_le hm _ _ _
    · omega
  have hbv : ∀ p h : Nat, h < 12 → p < P → zbit g p = true → b (p * 12 + h) = zlm mv hp p h S := fun p h hh hp2 hgp => by
    rw [← hbb]; unfold zBb
    rw [show (p * 12 + h) / 12 = p by omega, show (p * 12 + h) % 12 = h by omega, if_pos ⟨hp2, hgp⟩]
  have hb0 : ∀ p h : Nat, h < 12 → (¬ p < P ∨ zbit g p = false) → b (p * 12 + h) = 0 := fun p h hh ho => by
    rw [← hbb]; unfold zBb
    rw [show (p * 12 + h) / 12 = p by omega, if_neg]
    rintro ⟨h1, h2⟩
    rcases ho with ho | ho
    · exact ho h1
    · rw [ho] at h2; cases h2
  simp (disch := first | omega | exact Nat.le_of_ble_eq_true rfl | assumption | (simp only [Int.natCast_add, Int.natCast_mul, Int.cast_ofNat_Int]; omega) | decide) only [x_aload, w_dupI, w_dupR, x_getf, w_goto, w_fall, w_iadd, w_iand, w_iconst, w_if, w_icmp, x_iinc, x_iload, w_imul, w_ishr, x_istore, zadd_eq, zmul_eq, gf_48_1, gf_48_14, gf_48_37, gf_48_38, gf_48_39, gf_48_40, gf_48_41, xp_48_41, ia_59, sa_59, ia_76, sa_76, ia_77, sa_77, ia_78, sa_78, ia_79, sa_79, w_nret r_Md_lays, q_eq, q_ne, q_lt, q_ge, q_gt, q_le, g_I, g_L, g_R, g_V, t_0, t_I, t_R, t_U, t_L, t_s, List.getElem?_cons_zero, List.getElem?_cons_succ, Nat.reduceAdd, zif10, zif01b, zib, if_pos, if_neg, ↓reduceIte, not_true_eq_false, not_false_eq_true, Bool.true_eq_false, Bool.false_eq_true, Classical.not_not, eq_self, and_self, and_true, true_and, Int.reduceEq, Int.reduceLE, Int.reduceLT, Int.reduceNeg, Option.toList, List.cons_append, List.nil_append, zup_s, zup_n, zst_s, zup_zs, zup_zn, decide_true, decide_false]
  refine zfor (a := 0) (N := P) (b := 1) (fun p L0 M0 => ∃ (M1 : Nat → Int → Int) (v3 : zMV) (v4 : zMV), L0 = [zR 48, zI (zcap b (p * 12) : Int), zI (p : Int), v3, v4] ∧ M0 = M1 ∧ (zKp [48, 76, 77, 78, 79] M M1 ∧ (∀ i : Int, i ≠ 41 → M1 48 i = M 48 i) ∧ zLay b (p * 12) M1 ∧ ∀ j : Nat, j < p * 12 → 0 < b j → M1 79 (zix b j : Int) = 0)) ?_ ?_ ?_ ?_
  · exact Nat.zero_le _
  · exact ⟨_, zU, zU, rfl, rfl, zKp_up (by decide) (zKp_rf _ _), fun i hi => zup_d hi, ⟨zup_s _ _ _ _, fun j hj => by omega⟩, fun j hj => by omega⟩
  · rintro p _ M1 _ hp2 ⟨_, v3, v4, rfl, rfl, hk, h48, hlay, hz⟩ ih
    have skip : zbit g p = false → ∀ q v3 v4, q = p * 12 → zW (zSH Ln) d i_Md_lays (zblk i_Md_lays 11) [zR 48, zI (zcap b q : Int), zI (p : Int), v3, v4] [] M1 fun r M' => r = some (zI (zcap b 48 : Int)) ∧ zKp [48, 76, 77, 78, 79] M M' ∧ (∀ i : Int, i ≠ 41 → M' 48 i = M 48 i) ∧ zLay b 48 M' ∧ ∀ j : Nat, j < 48 → 0 < b j → M' 79 (zix b j : Int) = 0 := by
      rintro hgp q v3 v4 rfl
      have hsk := zix_skip (b := b) (q := p * 12) (k := 12) fun i h1 h2 => by
        have := hb0 p (i - p * 12) (by omega) (Or.inr hgp)
        rw [show p * 12 + (i - p * 12) = i by omega] at this
        exact this
      have hcl := zcap_le b (p * 12)
      have hcap : zcap b ((p + 1) * 12) = zcap b (p * 12) := by rw [show (p + 1) * 12 = p * 12 + 12 by omega, hsk.2]; omega
      have hzero : ∀ j, p * 12 ≤ j → j < (p + 1) * 12 → ¬ 0 < b j := fun j h1 h2 => by
        have := hb0 p (j - p * 12) (by omega) (Or.inr hgp)
        rw [show p * 12 + (j - p * 12) = j by omega] at this
        omega
      rw [k_Md_lays_11]
      simp (disch := first | omega | exact Nat.le_of_ble_eq_true rfl | assumption | (simp only [Int.natCast_add, Int.natCast_mul, Int.cast_ofNat_Int]; omega) | decide) only [x_aload, w_dupI, w_dupR, x_getf, w_goto, w_fall, w_iadd, w_iand, w_iconst, w_if, w_icmp, x_iinc, x_iload, w_imul, w_ishr, x_istore, zadd_eq, zmul_eq, gf_48_1, gf_48_14, gf_48_37, gf_48_38, gf_48_39, gf_48_40, gf_48_41, xp_48_41, ia_59, sa_59, ia_76, sa_76, ia_77, sa_77, ia_78, sa_78, ia_79, sa_79, w_nret r_Md_lays, q_eq, q_ne, q_lt, q_ge, q_gt, q_le, g_I, g_L, g_R, g_V, t_0, t_I, t_R, t_U, t_L, t_s, List.getElem?_cons_zero, List.getElem?_cons_succ, Nat.reduceAdd, zif10, zif01b, zib, if_pos, if_neg, ↓reduceIte, not_true_eq_false, not_false_eq_true, Bool.true_eq_false, Bool.false_eq_true, Classical.not_not, eq_self, and_self, and_true, true_and, Int.reduceEq, Int.reduceLE, Int.reduceLT, Int.reduceNeg, Option.toList, List.cons_append, List.nil_append, zup_s, zup_n, zst_s, zup_zs, zup_zn, decide_true, decide_false]
      refine ih _ _ ⟨M1, v3, v4, by rw [hcap]; rfl, rfl, hk, h48, ⟨?_, fun j hj hbj => ?_⟩, fun j hj hbj => ?_⟩
      · rw [show (p + 1) * 12 = p * 12 + 12 by omega, hsk.1]; exact hlay.1
      · rcases Nat.lt_or_ge j (p * 12) with h | h
        · exact hlay.2 j h hbj
        · exact absurd hbj (hzero j h hj)
      · rcases Nat.lt_or_ge j (p * 12) with h | h
        · exact hz j h hbj
        · exact absurd hbj (hzero j h hj)
    have hP1 : M1 48 1 = P := by rw [h48 1 (by decide)]; exact hR.2.1
    have hg1 : M1 59 0 = g := by rw [hk 59 (by decide)]; exact hg
    rw [k_Md_lays_1]
    simp (disch := first | omega | exact Nat.le_of_ble_eq_true rfl | assumption | (simp only [Int.natCast_add, Int.natCast_mul, Int.cast_ofNat_Int]; omega) | decide) only [k_Md_lays_2, x_aload, w_dupI, w_dupR, x_getf, w_goto, w_fall, w_iadd, w_iand, w_iconst, w_if, w_icmp, x_iinc, x_iload, w_imul, w_ishr, x_istore, zadd_eq, zmul_eq, gf_48_1, gf_48_14, gf_48_37, gf_48_38, gf_48_39, gf_48_40, gf_48_41, xp_48_41, ia_59, sa_59, ia_76, sa_76, ia_77, sa_77, ia_78, sa_78, ia_79, sa_79, w_nret r_Md_lays, q_eq, q_ne, q_lt, q_ge, q_gt, q_le, g_I, g_L, g_R, g_V, t_0, t_I, t_R, t_U, t_L, t_s, List.getElem?_cons_zero, List.getElem?_cons_succ, Nat.reduceAdd, zif10, zif01b, zib, if_pos, if_neg, ↓reduceIte, not_true_eq_false, not_false_eq_true, Bool.true_eq_false, Bool.false_eq_true, Classical.not_not, eq_self, and_self, and_true, true_and, Int.reduceEq, Int.reduceLE, Int.reduceLT, Int.reduceNeg, Option.toList, List.cons_append, List.nil_append, zup_s, zup_n, zst_s, zup_zs, zup_zn, decide_true, decide_false, hP1]
    cases hgp : zbit g p
    · rw [k_Md_lays_3]
      simp (disch := first | omega | exact Nat.le_of_ble_eq_true rfl | assumption | (simp only [Int.natCast_add, Int.natCast_mul, Int.cast_ofNat_Int]; omega) | decide) only [k_Md_lays_4, x_aload, w_dupI, w_dupR, x_getf, w_goto, w_fall, w_iadd, w_iand, w_iconst, w_if, w_icmp, x_iinc, x_iload, w_imul, w_ishr, x_istore, zadd_eq, zmul_eq, gf_48_1, gf_48_14, gf_48_37, gf_48_38, gf_48_39, gf_48_40, gf_48_41, xp_48_41, ia_59, sa_59, ia_76, sa_76, ia_77, sa_77, ia_78, sa_78, ia_79, sa_79, w_nret r_Md_lays, q_eq, q_ne, q_lt, q_ge, q_gt, q_le, g_I, g_L, g_R, g_V, t_0, t_I, t_R, t_U, t_L, t_s, List.getElem?_cons_zero, List.getElem?_cons_succ, Nat.reduceAdd, zif10, zif01b, zib, if_pos, if_neg, ↓reduceIte, not_true_eq_false, not_false_eq_true, Bool.true_eq_false, Bool.false_eq_true, Classical.not_not, eq_self, and_self, and_true, true_and, Int.reduceEq, Int.reduceLE, Int.reduceLT, Int.reduceNeg, Option.toList, List.cons_append, List.nil_append, zup_s, zup_n, zst_s, zup_zs, zup_zn, decide_true, decide_false, hg1, zhas, hgp]
      exact skip hgp _ _ _ rfl
    · refine zfor (a := 0) (N := 12) (b := 3) (fun h L0 M0 => ∃ (M1 : Nat → Int → Int) (v4 : zMV), L0 = [zR 48, zI (zcap b (p * 12 + h) : Int), zI (p : Int), zI (h : Int), v4] ∧ M0 = M1 ∧ (zKp [48, 76, 77, 78, 79] M M1 ∧ (∀ i : Int, i ≠ 41 → M1 48 i = M 48 i) ∧ zLay b (p * 12 + h) M1 ∧ ∀ j : Nat, j < p * 12 + h → 0 < b j → M1 79 (zix b j : Int) = 0)) ?_ ?_ ?_ ?_
      · exact Nat.zero_le _
      · exact ⟨M1, v4, rfl, rfl, hk, h48, hlay, hz⟩
      · rintro h _ M1 _ hh ⟨_, v4, rfl, rfl, hk, h48, hlay, hz⟩ ih2
        have hg1 : M1 59 0 = g := by rw [hk 59 (by decide)]; exact hg
        have hR1 : zNetR S P mv tg M1 := zNetR_k hR (h48 0 (by decide)) (h48 1 (by decide)) (hk 49 (by decide)) (hk 50 (by decide))
        have hH1 : zHpR hp M1 := fun p s h1 h2 => by rw [hk 53 (by decide)]; exact hH p s h1 h2
        have hl41 := hlay.1
        have hixl := zix_le b (p * 12 + h)
        have hcl := zcap_le b (p * 12 + h)
        have hb3' := hb3 (p * 12 + h)
        have hval := hbv p h hh hp2 hgp
        have hcs : zcap b (p * 12 + (h + 1)) = min (zcap b (p * 12 + h) * max (b (p * 12 + h)) 1) 5001 := rfl
        have hixs : zix b (p * 12 + (h + 1)) = zix b (p * 12 + h) + if 0 < b (p * 12 + h) then 1 else 0 := rfl
        generalize hbk : b (p * 12 + h) = bk at hb3' hcs hixs hval
        generalize hck : zcap b (p * 12 + h) = c at hcl hcs
        generalize hik : zix b (p * 12 + h) = ix at hl41 hixl hixs
        rw [k_Md_lays_3]
        by_cases h0 : bk = 0
        · have hcs2 : zcap b (p * 12 + (h + 1)) = c := by rw [hcs, h0, show max 0 1 = 1 from rfl, Nat.mul_one]; omega
          have hixs2 : zix b (p * 12 + (h + 1)) = ix := by rw [hixs, h0]; rfl
          have hnb : ∀ j, j < p * 12 + (h + 1) → 0 < b j → j < p * 12 + h := fun j hj hbj => by
            by_cases e : j = p * 12 + h
            · subst e; omega
            · omega
          simp (disch := first | omega | exact Nat.le_of_ble_eq_true rfl | assumption | (simp only [Int.natCast_add, Int.natCast_mul, Int.cast_ofNat_Int]; omega) | decide) only [k_Md_lays_4, k_Md_lays_5, k_Md_lays_10, x_aload, w_dupI, w_dupR, x_getf, w_goto, w_fall, w_iadd, w_iand, w_iconst, w_if, w_icmp, x_iinc, x_iload, w_imul, w_ishr, x_istore, zadd_eq, zmul_eq, gf_48_1, gf_48_14, gf_48_37, gf_48_38, gf_48_39, gf_48_40, gf_48_41, xp_48_41, ia_59, sa_59, ia_76, sa_76, ia_77, sa_77, ia_78, sa_78, ia_79, sa_79, w_nret r_Md_lays, q_eq, q_ne, q_lt, q_ge, q_gt, q_le, g_I, g_L, g_R, g_V, t_0, t_I, t_R, t_U, t_L, t_s, List.getElem?_cons_zero, List.getElem?_cons_succ, Nat.reduceAdd, zif10, zif01b, zib, if_pos, if_neg, ↓reduceIte, not_true_eq_false, not_false_eq_true, Bool.true_eq_false, Bool.false_eq_true, Classical.not_not, eq_self, and_self, and_true, true_and, Int.reduceEq, Int.reduceLE, Int.reduceLT, Int.reduceNeg, Option.toList, List.cons_append, List.nil_append, zup_s, zup_n, zst_s, zup_zs, zup_zn, decide_true, decide_false, hg1, zhas, hgp, c_Md_mostOf hN hR1 hH1, hval.symm]
          refine ih2 _ _ ⟨M1, zI (bk : Int), by rw [hcs2]; rfl, rfl, hk, h48, ⟨by rw [hixs2]; exact hl41, fun j hj hbj => hlay.2 j (hnb j hj hbj) hbj⟩, fun j hj hbj => hz j (hnb j hj hbj) hbj⟩
        · have hixs2 : zix b (p * 12 + (h + 1)) = ix + 1 := by rw [hixs, if_pos (by omega)]
          have hcs2 : zcap b (p * 12 + (h + 1)) = min (c * bk) 5001 := by rw [hcs, show max bk 1 = bk by omega]
          have hmul : c * bk ≤ 5001 * 3 := Nat.mul_le_mul hcl hb3'
          have ez : zmul (c : Int) (bk : Int) = ((c * bk : Nat) : Int) := zmul_nat (by omega)
          generalize hcb : c * bk = cb at hmul ez hcs2
          have nxt : ∀ v : Int, v = ((min cb 5001 : Nat) : Int) → zW (zSH Ln) d i_Md_lays (zblk i_Md_lays 9) [zR 48, zI (c : Int), zI (p : Int), zI (h : Int), zI (bk : Int)] [zI v] (zup (zup (zup (zup (zup M1 76 ix p) 77 ix h) 78 ix bk) 79 ix 0) 48 41 ((ix : Int) + 1)) fun r M' => r = some (zI (zcap b 48 : Int)) ∧ zKp [48, 76, 77, 78, 79] M M' ∧ (∀ i : Int, i ≠ 41 → M' 48 i = M 48 i) ∧ zLay b 48 M' ∧ ∀ j : Nat, j < 48 → 0 < b j → M' 79 (zix b j : Int) = 0 := by
            rintro v rfl
            have hj2 : ∀ j, j < p * 12 + (h + 1) → 0 < b j → j = p * 12 + h ∨ (j < p * 12 + h ∧ ¬ (zix b j : Int) = (ix : Int)) := fun j hj hbj => by
              by_cases e : j = p * 12 + h
              · exact Or.inl e
              · have := zix_lt b (show j < p * 12 + h by omega) hbj
                exact Or.inr ⟨by omega, by omega⟩
            rw [k_Md_lays_9]
            simp (disch := first | omega | exact Nat.le_of_ble_eq_true rfl | assumption | (simp only [Int.natCast_add, Int.natCast_mul, Int.cast_ofNat_Int]; omega) | decide) only [k_Md_lays_10, x_aload, w_dupI, w_dupR, x_getf, w_goto, w_fall, w_iadd, w_iand, w_iconst, w_if, w_icmp, x_iinc, x_iload, w_imul, w_ishr, x_istore, zadd_eq, zmul_eq, gf_48_1, gf_48_14, gf_48_37, gf_48_38, gf_48_39, gf_48_40, gf_48_41, xp_48_41, ia_59, sa_59, ia_76, sa_76, ia_77, sa_77, ia_78, sa_78, ia_79, sa_79, w_nret r_Md_lays, q_eq, q_ne, q_lt, q_ge, q_gt, q_le, g_I, g_L, g_R, g_V, t_0, t_I, t_R, t_U, t_L, t_s, List.getElem?_cons_zero, List.getElem?_cons_succ, Nat.reduceAdd, zif10, zif01b, zib, if_pos, if_neg, ↓reduceIte, not_true_eq_false, not_false_eq_true, Bool.true_eq_false, Bool.false_eq_true, Classical.not_not, eq_self, and_self, and_true, true_and, Int.reduceEq, Int.reduceLE, Int.reduceLT, Int.reduceNeg, Option.toList, List.cons_append, List.nil_append, zup_s, zup_n, zst_s, zup_zs, zup_zn, decide_true, decide_false]
            refine ih2 _ _ ⟨_, zI (bk : Int), by rw [hcs2]; rfl, rfl, zKp_up (by decide) (zKp_up (by decide) (zKp_up (by decide) (zKp_up (by decide) (zKp_up (by decide) hk)))), fun i hi => ?_, ⟨?_, fun j hj hbj => ?_⟩, fun j hj hbj => ?_⟩
            · rw [zup_d hi]; exact h48 i hi
            · rw [zup_s, hixs2]; rfl
            · rcases hj2 j hj hbj with e | ⟨h1, h2⟩
              · subst e
                rw [hik, hbk]
                refine ⟨?_, ?_, ?_⟩ <;> simp [zup] <;> omega
              · have := hlay.2 j h1 hbj
                simpa [zup, h2] using this
            · rcases hj2 j hj hbj with e | ⟨h1, h2⟩
              · subst e
                rw [hik]
                simp [zup]
              · have := hz j h1 hbj
                simpa [zup, h2] using this
          by_cases h5 : 5001 < cb
          · have h5' : ¬ ((cb : Nat) : Int) ≤ 5001 := by omega
            simp (disch := first | omega | exact Nat.le_of_ble_eq_true rfl | assumption | (simp only [Int.natCast_add, Int.natCast_mul, Int.cast_ofNat_Int]; omega) | decide) only [k_Md_lays_4, k_Md_lays_5, k_Md_lays_6, k_Md_lays_7, x_aload, w_dupI, w_dupR, x_getf, w_goto, w_fall, w_iadd, w_iand, w_iconst, w_if, w_icmp, x_iinc, x_iload, w_imul, w_ishr, x_istore, zadd_eq, zmul_eq, gf_48_1, gf_48_14, gf_48_37, gf_48_38, gf_48_39, gf_48_40, gf_48_41, xp_48_41, ia_59, sa_59, ia_76, sa_76, ia_77, sa_77, ia_78, sa_78, ia_79, sa_79, w_nret r_Md_lays, q_eq, q_ne, q_lt, q_ge, q_gt, q_le, g_I, g_L, g_R, g_V, t_0, t_I, t_R, t_U, t_L, t_s, List.getElem?_cons_zero, List.getElem?_cons_succ, Nat.reduceAdd, zif10, zif01b, zib, if_pos, if_neg, ↓reduceIte, not_true_eq_false, not_false_eq_true, Bool.true_eq_false, Bool.false_eq_true, Classical.not_not, eq_self, and_self, and_true, true_and, Int.reduceEq, Int.reduceLE, Int.reduceLT, Int.reduceNeg, Option.toList, List.cons_append, List.nil_append, zup_s, zup_n, zst_s, zup_zs, zup_zn, decide_true, decide_false, hg1, zhas, hgp, c_Md_mostOf hN hR1 hH1, hval.symm, hl41, zup_n, zup_d, ez]
            exact nxt 5001 (by omega)
          · have h5' : ((cb : Nat) : Int) ≤ 5001 := by omega
            simp (disch := first | omega | exact Nat.le_of_ble_eq_true rfl | assumption | (simp only [Int.natCast_add, Int.natCast_mul, Int.cast_ofNat_Int]; omega) | decide) only [k_Md_lays_4, k_Md_lays_5, k_Md_lays_6, k_Md_lays_8, x_aload, w_dupI, w_dupR, x_getf, w_goto, w_fall, w_iadd, w_iand, w_iconst, w_if, w_icmp, x_iinc, x_iload, w_imul, w_ishr, x_istore, zadd_eq, zmul_eq, gf_48_1, gf_48_14, gf_48_37, gf_48_38, gf_48_39, gf_48_40, gf_48_41, xp_48_41, ia_59, sa_59, ia_76, sa_76, ia_77, sa_77, ia_78, sa_78, ia_79, sa_79, w_nret r_Md_lays, q_eq, q_ne, q_lt, q_ge, q_gt, q_le, g_I, g_L, g_R, g_V, t_0, t_I, t_R, t_U, t_L, t_s, List.getElem?_cons_zero, List.getElem?_cons_succ, Nat.reduceAdd, zif10, zif01b, zib, if_pos, if_neg, ↓reduceIte, not_true_eq_false, not_false_eq_true, Bool.true_eq_false, Bool.false_eq_true, Classical.not_not, eq_self, and_self, and_true, true_and, Int.reduceEq, Int.reduceLE, Int.reduceLT, Int.reduceNeg, Option.toList, List.cons_append, List.nil_append, zup_s, zup_n, zst_s, zup_zs, zup_zn, decide_true, decide_false, hg1, zhas, hgp, c_Md_mostOf hN hR1 hH1, hval.symm, hl41, zup_n, zup_d, ez]
            exact nxt ((c : Int) * (bk : Int)) (by rw [show (c : Int) * (bk : Int) = ((cb : Nat) : Int) by rw [← hcb]; simp]; omega)
      · rintro _ M1 ⟨_, v4, rfl, rfl, hk, h48, hlay, hz⟩
        rw [k_Md_lays_3]
        simp (disch := first | omega | exact Nat.le_of_ble_eq_true rfl | assumption | (simp only [Int.natCast_add, Int.natCast_mul, Int.cast_ofNat_Int]; omega) | decide) only [k_Md_lays_11, x_aload, w_dupI, w_dupR, x_getf, w_goto, w_fall, w_iadd, w_iand, w_iconst, w_if, w_icmp, x_iinc, x_iload, w_imul, w_ishr, x_istore, zadd_eq, zmul_eq, gf_48_1, gf_48_14, gf_48_37, gf_48_38, gf_48_39, gf_48_40, gf_48_41, xp_48_41, ia_59, sa_59, ia_76, sa_76, ia_77, sa_77, ia_78, sa_78, ia_79, sa_79, w_nret r_Md_lays, q_eq, q_ne, q_lt, q_ge, q_gt, q_le, g_I, g_L, g_R, g_V, t_0, t_I, t_R, t_U, t_L, t_s, List.getElem?_cons_zero, List.getElem?_cons_succ, Nat.reduceAdd, zif10, zif01b, zib, if_pos, if_neg, ↓reduceIte, not_true_eq_false, not_false_eq_true, Bool.true_eq_false, Bool.false_eq_true, Classical.not_not, eq_self, and_self, and_true, true_and, Int.reduceEq, Int.reduceLE, Int.reduceLT, Int.reduceNeg, Option.toList, List.cons_append, List.nil_append, zup_s, zup_n, zst_s, zup_zs, zup_zn, decide_true, decide_false]
        refine ih _ _ ⟨M1, zI ((12 : Nat) : Int), v4, ?_, rfl, hk, h48, ?_, fun j hj => hz j (by omega)⟩
        · rw [show (p + 1) * 12 = p * 12 + 12 by omega]; rfl
        · rw [show (p + 1) * 12 = p * 12 + 12 by omega]; exact hlay
  · rintro _ M1 ⟨_, v3, v4, rfl, rfl, hk, h48, hlay, hz⟩
    have hP1 : M1 48 1 = P := by rw [h48 1 (by decide)]; exact hR.2.1
    have hzero : ∀ j, P * 12 ≤ j → j < 48 → b j = 0 := fun j h1 h2 => by
      have := hb0 (j / 12) (j % 12) (by omega) (Or.inl (by omega))
      rw [show j / 12 * 12 + j % 12 = j by omega] at this
      exact this
    have hsk := zix_skip (b := b) (q := P * 12) (k := 48 - P * 12) fun i h1 h2 => hzero i h1 (by omega)
    rw [show P * 12 + (48 - P * 12) = 48 by omega] at hsk
    have hcl := zcap_le b (P * 12)
    have hcap : zcap b (P * 12) = zcap b 48 := by omega
    rw [k_Md_lays_1]
    simp (disch := first | omega | exact Nat.le_of_ble_eq_true rfl | assumption | (simp only [Int.natCast_add, Int.natCast_mul, Int.cast_ofNat_Int]; omega) | decide) only [k_Md_lays_12, x_aload, w_dupI, w_dupR, x_getf, w_goto, w_fall, w_iadd, w_iand, w_iconst, w_if, w_icmp, x_iinc, x_iload, w_imul, w_ishr, x_istore, zadd_eq, zmul_eq, gf_48_1, gf_48_14, gf_48_37, gf_48_38, gf_48_39, gf_48_40, gf_48_41, xp_48_41, ia_59, sa_59, ia_76, sa_76, ia_77, sa_77, ia_78, sa_78, ia_79, sa_79, w_nret r_Md_lays, q_eq, q_ne, q_lt, q_ge, q_gt, q_le, g_I, g_L, g_R, g_V, t_0, t_I, t_R, t_U, t_L, t_s, List.getElem?_cons_zero, List.getElem?_cons_succ, Nat.reduceAdd, zif10, zif01b, zib, if_pos, if_neg, ↓reduceIte, not_true_eq_false, not_false_eq_true, Bool.true_eq_false, Bool.false_eq_true, Classical.not_not, eq_self, and_self, and_true, true_and, Int.reduceEq, Int.reduceLE, Int.reduceLT, Int.reduceNeg, Option.toList, List.cons_append, List.nil_append, zup_s, zup_n, zst_s, zup_zs, zup_zn, decide_true, decide_false, hP1, hcap]
    refine ⟨hk, h48, ⟨by rw [hsk.1]; exact hlay.1, fun j hj hbj => ?_⟩, fun j hj hbj => ?_⟩
    · rcases Nat.lt_or_ge j (P * 12) with h | h
      · exact hlay.2 j h hbj
      · have := hzero j h hj; omega
    · rcases Nat.lt_or_ge j (P * 12) with h | h
      · exact hz j h hbj
      · have := hzero j h hj; omega
theorem c_Md_lays {d mi o b9 : Nat} {es : List zEnt} {L st : List zMV} {Q : Option zMV → (Nat → Int → Int) → Prop} (hN : zNet S P mv tg) (hR : zNetR S P mv tg M) (hH : zHpR hp M) (hg : M 59 0 = g) (hd : 1 + 1 ≤ d) (hc : zcats st ≤ 8) (hpost : ∀ r M', (r = some (zI (zcap (zBb S P mv hp (zbit g)) 48 : Int)) ∧ zKp [48, 76, 77, 78, 79] M M' ∧ (∀ i : Int, i ≠ 41 → M' 48 i = M 48 i) ∧ zLay (zBb S P mv hp (zbit g)) 48 M' ∧ ∀ j : Nat, j < 48 → 0 < zBb S P mv hp (zbit g) j → M' 79 (zix (zBb S P mv hp (zbit g)) j : Int) = 0) → zW (zSH Ln) d mi es L (r.toList ++ st) M' Q) : zW (zSH Ln) d mi ((.invokevirtual o, 222, b9) :: es) L (zR 48 :: st) M Q :=
  w_callv (ps := []) (by omega) rfl rfl (by omega) (by exact sh_48 Ln) hc (Nat.le_of_ble_eq_true rfl) (F_Md_lays hN hR hH hg (by omega)) hpost
end RE
