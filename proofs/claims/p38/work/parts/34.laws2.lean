/-! where all parts hold -/
theorem zJ_congr {C : (Nat → Bool) → Nat → Bool} {lt : Nat → Nat} {kd lf : Nat} {one two one' two' : Nat → Bool} (h1 : 2 ≤ kd → one = one') (h2 : ztwo kd = true → two = two') : zJ C lt kd lf one two = zJ C lt kd lf one' two' := by
  by_cases h : 2 ≤ kd
  · rw [h1 h]
    by_cases h3 : ztwo kd = true
    · rw [h2 h3]
    · have e3 : ¬ kd = 3 := fun e => h3 (by rw [e]; rfl)
      have e4 : ¬ kd = 4 := fun e => h3 (by rw [e]; rfl)
      have e8 : ¬ kd = 8 := fun e => h3 (by rw [e]; rfl)
      unfold zJ
      rw [if_neg e3, if_neg e4, if_neg e8, if_neg e3, if_neg e4, if_neg e8]
  · have e : kd = 0 ∨ kd = 1 := by omega
    rcases e with e | e
    · subst e; simp [zJ]
    · subst e; simp [zJ]
/-- where part k holds -/
def zHd (mv tg : Nat → Nat → Nat) (P : Nat) (lt kd lf rt gp : Nat → Nat) : Nat → Nat → Nat → Bool
  | 0, _ => fun _ => false
  | f + 1, k => zJ (zCn mv tg P (zbit (gp k : Int))) lt (kd k) (lf k) (zHd mv tg P lt kd lf rt gp f (lf k)) (zHd mv tg P lt kd lf rt gp f (rt k))
def zHp (mv tg : Nat → Nat → Nat) (P : Nat) (lt kd lf rt gp : Nat → Nat) (k : Nat) : Nat → Bool := zHd mv tg P lt kd lf rt gp 24 k
theorem zHd_st {mv tg : Nat → Nat → Nat} {P n : Nat} {lt kd lf rt gp : Nat → Nat} (hF : zForm P n kd lf rt gp) : ∀ f f' k, k < n → n ≤ k + f → n ≤ k + f' → zHd mv tg P lt kd lf rt gp f k = zHd mv tg P lt kd lf rt gp f' k
  | 0, _, k, hk, h1, _ => by omega
  | f + 1, 0, k, hk, _, h2 => by omega
  | f + 1, f' + 1, k, hk, h1, h2 => by
    obtain ⟨_, _, h3, h4, _⟩ := hF.2.2 k hk
    exact zJ_congr (fun h => zHd_st hF f f' (lf k) (h3 h).2 (by have := h3 h; omega) (by have := h3 h; omega)) (fun h => zHd_st hF f f' (rt k) (h4 h).2 (by have := h4 h; omega) (by have := h4 h; omega))
theorem zHp_eq {mv tg : Nat → Nat → Nat} {P n : Nat} {lt kd lf rt gp : Nat → Nat} (hF : zForm P n kd lf rt gp) {k : Nat} (hk : k < n) : zHp mv tg P lt kd lf rt gp k = zJ (zCn mv tg P (zbit (gp k : Int))) lt (kd k) (lf k) (zHp mv tg P lt kd lf rt gp (lf k)) (zHp mv tg P lt kd lf rt gp (rt k)) := by
  have hn := hF.2.1
  obtain ⟨_, _, h3, h4, _⟩ := hF.2.2 k hk
  exact zJ_congr (fun h => zHd_st hF 23 24 (lf k) (h3 h).2 (by have := h3 h; omega) (by have := h3 h; omega)) (fun h => zHd_st hF 23 24 (rt k) (h4 h).2 (by have := h4 h; omega) (by have := h4 h; omega))
/-- the rounds of the outermost -/
def zRd (mv tg : Nat → Nat → Nat) (P : Nat) (lt kd lf rt gp : Nat → Nat) (s : Nat) : Nat := zrd (zCn mv tg P (zbit (gp 0 : Int))) (zJA (kd 0) (zHp mv tg P lt kd lf rt gp (lf 0))) (zJB (zCn mv tg P (zbit (gp 0 : Int))) (kd 0) (zHp mv tg P lt kd lf rt gp (lf 0)) (zHp mv tg P lt kd lf rt gp (rt 0))) s
/-- what the class knows of where the form holds -/
def zLawC (S P n : Nat) (mv tg : Nat → Nat → Nat) (lt kd lf rt gp : Nat → Nat) (M : Nat → Int → Int) : Prop := (∀ k : Nat, k < n → M 20 (k : Int) = zset S (zHp mv tg P lt kd lf rt gp k)) ∧ (7 ≤ kd 0 → ∀ s : Nat, s < S → M 21 (s : Int) = zneg1 (zRd mv tg P lt kd lf rt gp s)) ∧ (5 ≤ kd 0 → zTabC S P mv tg (zbit (gp 0 : Int)) M)
def zV15 (M M' : Nat → Int → Int) : Prop := M' 15 5 = M 15 5 ∨ M' 15 5 = M 3 2
theorem zV15_rf (M : Nat → Int → Int) : zV15 M M := Or.inl rfl
def zLawI (S P n : Nat) (mv tg : Nat → Nat → Nat) (lt kd lf rt gp : Nat → Nat) (M : Nat → Int → Int) : Prop := M 19 5 = M 3 2 → M 19 6 = M 10 1 → zLawC S P n mv tg lt kd lf rt gp M
theorem zNetC_k {S P : Nat} {mv tg : Nat → Nat → Nat} {M M' : Nat → Int → Int} (h : zNetC S P mv tg M) (h3 : M' 3 = M 3) (h4 : M' 4 = M 4) (h7 : M' 7 = M 7) : zNetC S P mv tg M' := ⟨by rw [h3]; exact h.1, by rw [h3]; exact h.2.1, by rw [h4]; exact h.2.2.1, by rw [h7]; exact h.2.2.2⟩
theorem zFormC_k {n : Nat} {kd lf rt gp : Nat → Nat} {M M' : Nat → Int → Int} (h : zFormC n kd lf rt gp M) (h0 : M' 10 0 = M 10 0) (h1 : M' 11 = M 11) (h2 : M' 12 = M 12) (h3 : M' 13 = M 13) (h4 : M' 14 = M 14) : zFormC n kd lf rt gp M' := ⟨by rw [h0]; exact h.1, by rw [h1, h2, h3, h4]; exact h.2⟩
theorem zTabC_k {S P : Nat} {mv tg : Nat → Nat → Nat} {g : Nat → Bool} {M M' : Nat → Int → Int} (h : zTabC S P mv tg g M) (h3 : M' 16 = M 16) (h4 : M' 17 = M 17) : zTabC S P mv tg g M' := ⟨by rw [h4]; exact h.1, by rw [h3]; exact h.2⟩
section LA
variable {Ln S P n : Nat} {mv tg : Nat → Nat → Nat} {lt kd lf rt gp : Nat → Nat} {M : Nat → Int → Int}
theorem F_La_judge {d : Nat} {k : Nat} {one two g : Nat → Bool} (hN : zNet S P mv tg) (hC : zNetC S P mv tg M) (hL : zLetC lt M) (hlt : ∀ s, lt s < 256) (hF : zForm P n kd lf rt gp) (hFC : zFormC n kd lf rt gp M) (hT : 5 ≤ kd k → zTabC S P mv tg g M) (hk : k < n) (h1 : 2 ≤ kd k → M 20 (lf k : Int) = zset S one) (h2 : ztwo (kd k) = true → M 20 (rt k : Int) = zset S two) (hd : 5 ≤ d) : zF (zSH Ln) d i_La_judge [zR 19, zI (k : Int)] M fun r M' => r = some (zI (zset S (zJ (zCn mv tg P g) lt (kd k) (lf k) one two))) ∧ ∃ R, M' = zst M 21 R ∧ (7 ≤ kd k → ∀ s : Nat, s < S → R s = zneg1 (zrd (zCn mv tg P g) (zJA (kd k) one) (zJB (zCn mv tg P g) (kd k) one two) s)) := by
  rw [zF_en k_La_judge_0 (L := [zR 19, zI (k : Int), zU, zU, zU]) rfl]
  have hn := hF.2.1
  have hS := hN.2.1
  obtain ⟨f1, f2, f3, f4, f5⟩ := hF.2.2 k hk
  obtain ⟨g1, g2, g3, g4⟩ := hFC.2 k hk
  have hM : ∃ R, M = zst M 21 R := ⟨M 21, (zst_id _ _).symm⟩
  have e : kd k = 0 ∨ kd k = 1 ∨ kd k = 2 ∨ kd k = 3 ∨ kd k = 4 ∨ kd k = 5 ∨ kd k = 6 ∨ kd k = 7 ∨ kd k = 8 ∨ kd k = 9 := by omega
  rcases e with e | e | e | e | e | e | e | e | e | e <;> rw [e] at f2 f3 f4 f5 g1 g2 g3 g4 h1 h2 hT ⊢
  · simp (disch := first | omega | exact Nat.le_of_ble_eq_true rfl | assumption | (simp only [Int.natCast_add, Int.natCast_mul, Int.cast_ofNat_Int]; omega) | decide) only [k_La_judge_1, x_aload, x_getf, w_iand, w_iconst, x_iload, w_ior, x_istore, w_ixor, w_tsw, gf_19_0, gf_19_1, gf_19_2, gf_19_3, at_20, ao_20, w_nret r_La_judge, q_eq, q_ne, q_lt, q_ge, q_gt, q_le, g_I, g_L, g_R, g_V, t_0, t_I, t_R, t_U, t_L, t_s, List.getElem?_cons_zero, List.getElem?_cons_succ, Nat.reduceAdd, zif10, zif01b, zib, if_pos, if_neg, ↓reduceIte, not_true_eq_false, not_false_eq_true, Bool.true_eq_false, Bool.false_eq_true, Classical.not_not, eq_self, and_self, and_true, true_and, Int.reduceEq, Int.reduceLE, Int.reduceLT, Int.reduceNeg, Option.toList, List.cons_append, List.nil_append, zup_s, zup_n, zst_s, zup_zs, zup_zn, decide_true, decide_false, ax_20, c_Fo_left, c_Fo_right, c_Fo_kind, c_Ne_everywhere hN hC, g1, show ((0 : Nat) : Int) = 0 from rfl, show ztsw (Int.toNat 10) (0) (8) #[1, 2, 3, 4, 5, 6, 7, 8, 9] (0) = 1 from rfl]
    exact ⟨rfl, M 21, (zst_id _ _).symm, fun h => by omega⟩
  · have f2 := f2 rfl
    have g2 := g2 (by omega)
    simp (disch := first | omega | exact Nat.le_of_ble_eq_true rfl | assumption | (simp only [Int.natCast_add, Int.natCast_mul, Int.cast_ofNat_Int]; omega) | decide) only [k_La_judge_2, x_aload, x_getf, w_iand, w_iconst, x_iload, w_ior, x_istore, w_ixor, w_tsw, gf_19_0, gf_19_1, gf_19_2, gf_19_3, at_20, ao_20, w_nret r_La_judge, q_eq, q_ne, q_lt, q_ge, q_gt, q_le, g_I, g_L, g_R, g_V, t_0, t_I, t_R, t_U, t_L, t_s, List.getElem?_cons_zero, List.getElem?_cons_succ, Nat.reduceAdd, zif10, zif01b, zib, if_pos, if_neg, ↓reduceIte, not_true_eq_false, not_false_eq_true, Bool.true_eq_false, Bool.false_eq_true, Classical.not_not, eq_self, and_self, and_true, true_and, Int.reduceEq, Int.reduceLE, Int.reduceLT, Int.reduceNeg, Option.toList, List.cons_append, List.nil_append, zup_s, zup_n, zst_s, zup_zs, zup_zn, decide_true, decide_false, ax_20, c_Fo_left, c_Fo_right, c_Fo_kind, c_Ne_everywhere hN hC, g1, show ((1 : Nat) : Int) = 1 from rfl, show ztsw (Int.toNat 10) (0) (8) #[1, 2, 3, 4, 5, 6, 7, 8, 9] (1) = 2 from rfl, g2, c_Ne_bearing hN hC hL f2 hlt]
    exact ⟨rfl, M 21, (zst_id _ _).symm, fun h => by omega⟩
  · have f3 := f3 (by omega)
    have g2 := g2 (by omega)
    have h1 := h1 (by omega)
    simp (disch := first | omega | exact Nat.le_of_ble_eq_true rfl | assumption | (simp only [Int.natCast_add, Int.natCast_mul, Int.cast_ofNat_Int]; omega) | decide) only [k_La_judge_3, x_aload, x_getf, w_iand, w_iconst, x_iload, w_ior, x_istore, w_ixor, w_tsw, gf_19_0, gf_19_1, gf_19_2, gf_19_3, at_20, ao_20, w_nret r_La_judge, q_eq, q_ne, q_lt, q_ge, q_gt, q_le, g_I, g_L, g_R, g_V, t_0, t_I, t_R, t_U, t_L, t_s, List.getElem?_cons_zero, List.getElem?_cons_succ, Nat.reduceAdd, zif10, zif01b, zib, if_pos, if_neg, ↓reduceIte, not_true_eq_false, not_false_eq_true, Bool.true_eq_false, Bool.false_eq_true, Classical.not_not, eq_self, and_self, and_true, true_and, Int.reduceEq, Int.reduceLE, Int.reduceLT, Int.reduceNeg, Option.toList, List.cons_append, List.nil_append, zup_s, zup_n, zst_s, zup_zs, zup_zn, decide_true, decide_false, ax_20, c_Fo_left, c_Fo_right, c_Fo_kind, c_Ne_everywhere hN hC, g1, show ((2 : Nat) : Int) = 2 from rfl, show ztsw (Int.toNat 10) (0) (8) #[1, 2, 3, 4, 5, 6, 7, 8, 9] (2) = 3 from rfl, g2, h1, zset_dif]
    exact ⟨rfl, M 21, (zst_id _ _).symm, fun h => by omega⟩
  · have f3 := f3 (by omega)
    have f4 := f4 rfl
    have g2 := g2 (by omega)
    have g3 := g3 rfl
    have h1 := h1 (by omega)
    have h2 := h2 rfl
    simp (disch := first | omega | exact Nat.le_of_ble_eq_true rfl | assumption | (simp only [Int.natCast_add, Int.natCast_mul, Int.cast_ofNat_Int]; omega) | decide) only [k_La_judge_4, x_aload, x_getf, w_iand, w_iconst, x_iload, w_ior, x_istore, w_ixor, w_tsw, gf_19_0, gf_19_1, gf_19_2, gf_19_3, at_20, ao_20, w_nret r_La_judge, q_eq, q_ne, q_lt, q_ge, q_gt, q_le, g_I, g_L, g_R, g_V, t_0, t_I, t_R, t_U, t_L, t_s, List.getElem?_cons_zero, List.getElem?_cons_succ, Nat.reduceAdd, zif10, zif01b, zib, if_pos, if_neg, ↓reduceIte, not_true_eq_false, not_false_eq_true, Bool.true_eq_false, Bool.false_eq_true, Classical.not_not, eq_self, and_self, and_true, true_and, Int.reduceEq, Int.reduceLE, Int.reduceLT, Int.reduceNeg, Option.toList, List.cons_append, List.nil_append, zup_s, zup_n, zst_s, zup_zs, zup_zn, decide_true, decide_false, ax_20, c_Fo_left, c_Fo_right, c_Fo_kind, c_Ne_everywhere hN hC, g1, show ((3 : Nat) : Int) = 3 from rfl, show ztsw (Int.toNat 10) (0) (8) #[1, 2, 3, 4, 5, 6, 7, 8, 9] (3) = 4 from rfl, g2, h1, g3, h2, zset_and]
    exact ⟨rfl, M 21, (zst_id _ _).symm, fun h => by omega⟩
  · have f3 := f3 (by omega)
    have f4 := f4 rfl
    have g2 := g2 (by omega)
    have g3 := g3 rfl
    have h1 := h1 (by omega)
    have h2 := h2 rfl
    simp (disch := first | omega | exact Nat.le_of_ble_eq_true rfl | assumption | (simp only [Int.natCast_add, Int.natCast_mul, Int.cast_ofNat_Int]; omega) | decide) only [k_La_judge_5, x_aload, x_getf, w_iand, w_iconst, x_iload, w_ior, x_istore, w_ixor, w_tsw, gf_19_0, gf_19_1, gf_19_2, gf_19_3, at_20, ao_20, w_nret r_La_judge, q_eq, q_ne, q_lt, q_ge, q_gt, q_le, g_I, g_L, g_R, g_V, t_0, t_I, t_R, t_U, t_L, t_s, List.getElem?_cons_zero, List.getElem?_cons_succ, Nat.reduceAdd, zif10, zif01b, zib, if_pos, if_neg, ↓reduceIte, not_true_eq_false, not_false_eq_true, Bool.true_eq_false, Bool.false_eq_true, Classical.not_not, eq_self, and_self, and_true, true_and, Int.reduceEq, Int.reduceLE, Int.reduceLT, Int.reduceNeg, Option.toList, List.cons_append, List.nil_append, zup_s, zup_n, zst_s, zup_zs, zup_zn, decide_true, decide_false, ax_20, c_Fo_left, c_Fo_right, c_Fo_kind, c_Ne_everywhere hN hC, g1, show ((4 : Nat) : Int) = 4 from rfl, show ztsw (Int.toNat 10) (0) (8) #[1, 2, 3, 4, 5, 6, 7, 8, 9] (4) = 5 from rfl, g2, h1, g3, h2, zset_or]
    exact ⟨rfl, M 21, (zst_id _ _).symm, fun h => by omega⟩
  · have f3 := f3 (by omega)
    have g2 := g2 (by omega)
    have h1 := h1 (by omega)
    have hT := hT (by omega)
    simp (disch := first | omega | exact Nat.le_of_ble_eq_true rfl | assumption | (simp only [Int.natCast_add, Int.natCast_mul, Int.cast_ofNat_Int]; omega) | decide) only [k_La_judge_6, x_aload, x_getf, w_iand, w_iconst, x_iload, w_ior, x_istore, w_ixor, w_tsw, gf_19_0, gf_19_1, gf_19_2, gf_19_3, at_20, ao_20, w_nret r_La_judge, q_eq, q_ne, q_lt, q_ge, q_gt, q_le, g_I, g_L, g_R, g_V, t_0, t_I, t_R, t_U, t_L, t_s, List.getElem?_cons_zero, List.getElem?_cons_succ, Nat.reduceAdd, zif10, zif01b, zib, if_pos, if_neg, ↓reduceIte, not_true_eq_false, not_false_eq_true, Bool.true_eq_false, Bool.false_eq_true, Classical.not_not, eq_self, and_self, and_true, true_and, Int.reduceEq, Int.reduceLE, Int.reduceLT, Int.reduceNeg, Option.toList, List.cons_append, List.nil_append, zup_s, zup_n, zst_s, zup_zs, zup_zn, decide_true, decide_false, ax_20, c_Fo_left, c_Fo_right, c_Fo_kind, c_Ne_everywhere hN hC, g1, show ((5 : Nat) : Int) = 5 from rfl, show ztsw (Int.toNat 10) (0) (8) #[1, 2, 3, 4, 5, 6, 7, 8, 9] (5) = 6 from rfl, g2, h1, c_Ta_forcing hN hC hT, Bool.true_and]
    exact ⟨rfl, M 21, (zst_id _ _).symm, fun h => by omega⟩
  · have f3 := f3 (by omega)
    have g2 := g2 (by omega)
    have h1 := h1 (by omega)
    have hT := hT (by omega)
    simp (disch := first | omega | exact Nat.le_of_ble_eq_true rfl | assumption | (simp only [Int.natCast_add, Int.natCast_mul, Int.cast_ofNat_Int]; omega) | decide) only [k_La_judge_7, x_aload, x_getf, w_iand, w_iconst, x_iload, w_ior, x_istore, w_ixor, w_tsw, gf_19_0, gf_19_1, gf_19_2, gf_19_3, at_20, ao_20, w_nret r_La_judge, q_eq, q_ne, q_lt, q_ge, q_gt, q_le, g_I, g_L, g_R, g_V, t_0, t_I, t_R, t_U, t_L, t_s, List.getElem?_cons_zero, List.getElem?_cons_succ, Nat.reduceAdd, zif10, zif01b, zib, if_pos, if_neg, ↓reduceIte, not_true_eq_false, not_false_eq_true, Bool.true_eq_false, Bool.false_eq_true, Classical.not_not, eq_self, and_self, and_true, true_and, Int.reduceEq, Int.reduceLE, Int.reduceLT, Int.reduceNeg, Option.toList, List.cons_append, List.nil_append, zup_s, zup_n, zst_s, zup_zs, zup_zn, decide_true, decide_false, ax_20, c_Fo_left, c_Fo_right, c_Fo_kind, c_Ne_everywhere hN hC, g1, show ((6 : Nat) : Int) = 6 from rfl, show ztsw (Int.toNat 10) (0) (8) #[1, 2, 3, 4, 5, 6, 7, 8, 9] (6) = 7 from rfl, g2, h1, c_La_always hN hC hT]
    exact ⟨rfl, M 21, (zst_id _ _).symm, fun h => by omega⟩
  · have f3 := f3 (by omega)
    have g2 := g2 (by omega)
    have h1 := h1 (by omega)
    have hT := hT (by omega)
    simp (disch := first | omega | exact Nat.le_of_ble_eq_true rfl | assumption | (simp only [Int.natCast_add, Int.natCast_mul, Int.cast_ofNat_Int]; omega) | decide) only [k_La_judge_8, x_aload, x_getf, w_iand, w_iconst, x_iload, w_ior, x_istore, w_ixor, w_tsw, gf_19_0, gf_19_1, gf_19_2, gf_19_3, at_20, ao_20, w_nret r_La_judge, q_eq, q_ne, q_lt, q_ge, q_gt, q_le, g_I, g_L, g_R, g_V, t_0, t_I, t_R, t_U, t_L, t_s, List.getElem?_cons_zero, List.getElem?_cons_succ, Nat.reduceAdd, zif10, zif01b, zib, if_pos, if_neg, ↓reduceIte, not_true_eq_false, not_false_eq_true, Bool.true_eq_false, Bool.false_eq_true, Classical.not_not, eq_self, and_self, and_true, true_and, Int.reduceEq, Int.reduceLE, Int.reduceLT, Int.reduceNeg, Option.toList, List.cons_append, List.nil_append, zup_s, zup_n, zst_s, zup_zs, zup_zn, decide_true, decide_false, ax_20, c_Fo_left, c_Fo_right, c_Fo_kind, c_Ne_everywhere hN hC, g1, show ((7 : Nat) : Int) = 7 from rfl, show ztsw (Int.toNat 10) (0) (8) #[1, 2, 3, 4, 5, 6, 7, 8, 9] (7) = 8 from rfl, g2, h1]
    refine c_La_until hN hC hT (by omega) (Nat.le_of_ble_eq_true rfl) ?_
    rintro _ _ ⟨rfl, R, rfl, h3⟩
    simp (disch := first | omega | exact Nat.le_of_ble_eq_true rfl | assumption | (simp only [Int.natCast_add, Int.natCast_mul, Int.cast_ofNat_Int]; omega) | decide) only [x_aload, x_getf, w_iand, w_iconst, x_iload, w_ior, x_istore, w_ixor, w_tsw, gf_19_0, gf_19_1, gf_19_2, gf_19_3, at_20, ao_20, w_nret r_La_judge, q_eq, q_ne, q_lt, q_ge, q_gt, q_le, g_I, g_L, g_R, g_V, t_0, t_I, t_R, t_U, t_L, t_s, List.getElem?_cons_zero, List.getElem?_cons_succ, Nat.reduceAdd, zif10, zif01b, zib, if_pos, if_neg, ↓reduceIte, not_true_eq_false, not_false_eq_true, Bool.true_eq_false, Bool.false_eq_true, Classical.not_not, eq_self, and_self, and_true, true_and, Int.reduceEq, Int.reduceLE, Int.reduceLT, Int.reduceNeg, Option.toList, List.cons_append, List.nil_append, zup_s, zup_n, zst_s, zup_zs, zup_zn, decide_true, decide_false]
    exact ⟨rfl, R, rfl, fun _ => h3⟩
  · have f3 := f3 (by omega)
    have f4 := f4 rfl
    have g2 := g2 (by omega)
    have g3 := g3 rfl
    have h1 := h1 (by omega)
    have h2 := h2 rfl
    have hT := hT (by omega)
    simp (disch := first | omega | exact Nat.le_of_ble_eq_true rfl | assumption | (simp only [Int.natCast_add, Int.natCast_mul, Int.cast_ofNat_Int]; omega) | decide) only [k_La_judge_9, x_aload, x_getf, w_iand, w_iconst, x_iload, w_ior, x_istore, w_ixor, w_tsw, gf_19_0, gf_19_1, gf_19_2, gf_19_3, at_20, ao_20, w_nret r_La_judge, q_eq, q_ne, q_lt, q_ge, q_gt, q_le, g_I, g_L, g_R, g_V, t_0, t_I, t_R, t_U, t_L, t_s, List.getElem?_cons_zero, List.getElem?_cons_succ, Nat.reduceAdd, zif10, zif01b, zib, if_pos, if_neg, ↓reduceIte, not_true_eq_false, not_false_eq_true, Bool.true_eq_false, Bool.false_eq_true, Classical.not_not, eq_self, and_self, and_true, true_and, Int.reduceEq, Int.reduceLE, Int.reduceLT, Int.reduceNeg, Option.toList, List.cons_append, List.nil_append, zup_s, zup_n, zst_s, zup_zs, zup_zn, decide_true, decide_false, ax_20, c_Fo_left, c_Fo_right, c_Fo_kind, c_Ne_everywhere hN hC, g1, show ((8 : Nat) : Int) = 8 from rfl, show ztsw (Int.toNat 10) (0) (8) #[1, 2, 3, 4, 5, 6, 7, 8, 9] (8) = 9 from rfl, g2, h1, g3, h2]
    refine c_La_until hN hC hT (by omega) (Nat.le_of_ble_eq_true rfl) ?_
    rintro _ _ ⟨rfl, R, rfl, h3⟩
    simp (disch := first | omega | exact Nat.le_of_ble_eq_true rfl | assumption | (simp only [Int.natCast_add, Int.natCast_mul, Int.cast_ofNat_Int]; omega) | decide) only [x_aload, x_getf, w_iand, w_iconst, x_iload, w_ior, x_istore, w_ixor, w_tsw, gf_19_0, gf_19_1, gf_19_2, gf_19_3, at_20, ao_20, w_nret r_La_judge, q_eq, q_ne, q_lt, q_ge, q_gt, q_le, g_I, g_L, g_R, g_V, t_0, t_I, t_R, t_U, t_L, t_s, List.getElem?_cons_zero, List.getElem?_cons_succ, Nat.reduceAdd, zif10, zif01b, zib, if_pos, if_neg, ↓reduceIte, not_true_eq_false, not_false_eq_true, Bool.true_eq_false, Bool.false_eq_true, Classical.not_not, eq_self, and_self, and_true, true_and, Int.reduceEq, Int.reduceLE, Int.reduceLT, Int.reduceNeg, Option.toList, List.cons_append, List.nil_append, zup_s, zup_n, zst_s, zup_zs, zup_zn, decide_true, decide_false]
    exact ⟨rfl, R, rfl, fun _ => h3⟩
  · have f3 := f3 (by omega)
    have g2 := g2 (by omega)
    have h1 := h1 (by omega)
    have hT := hT (by omega)
    simp (disch := first | omega | exact Nat.le_of_ble_eq_true rfl | assumption | (simp only [Int.natCast_add, Int.natCast_mul, Int.cast_ofNat_Int]; omega) | decide) only [k_La_judge_10, x_aload, x_getf, w_iand, w_iconst, x_iload, w_ior, x_istore, w_ixor, w_tsw, gf_19_0, gf_19_1, gf_19_2, gf_19_3, at_20, ao_20, w_nret r_La_judge, q_eq, q_ne, q_lt, q_ge, q_gt, q_le, g_I, g_L, g_R, g_V, t_0, t_I, t_R, t_U, t_L, t_s, List.getElem?_cons_zero, List.getElem?_cons_succ, Nat.reduceAdd, zif10, zif01b, zib, if_pos, if_neg, ↓reduceIte, not_true_eq_false, not_false_eq_true, Bool.true_eq_false, Bool.false_eq_true, Classical.not_not, eq_self, and_self, and_true, true_and, Int.reduceEq, Int.reduceLE, Int.reduceLT, Int.reduceNeg, Option.toList, List.cons_append, List.nil_append, zup_s, zup_n, zst_s, zup_zs, zup_zn, decide_true, decide_false, ax_20, c_Fo_left, c_Fo_right, c_Fo_kind, c_Ne_everywhere hN hC, g1, show ((9 : Nat) : Int) = 9 from rfl, show ztsw (Int.toNat 10) (0) (8) #[1, 2, 3, 4, 5, 6, 7, 8, 9] (9) = 10 from rfl, g2, h1]
    refine c_La_again hN hC hT (by omega) (Nat.le_of_ble_eq_true rfl) ?_
    rintro _ _ ⟨rfl, R, rfl, h3⟩
    simp (disch := first | omega | exact Nat.le_of_ble_eq_true rfl | assumption | (simp only [Int.natCast_add, Int.natCast_mul, Int.cast_ofNat_Int]; omega) | decide) only [x_aload, x_getf, w_iand, w_iconst, x_iload, w_ior, x_istore, w_ixor, w_tsw, gf_19_0, gf_19_1, gf_19_2, gf_19_3, at_20, ao_20, w_nret r_La_judge, q_eq, q_ne, q_lt, q_ge, q_gt, q_le, g_I, g_L, g_R, g_V, t_0, t_I, t_R, t_U, t_L, t_s, List.getElem?_cons_zero, List.getElem?_cons_succ, Nat.reduceAdd, zif10, zif01b, zib, if_pos, if_neg, ↓reduceIte, not_true_eq_false, not_false_eq_true, Bool.true_eq_false, Bool.false_eq_true, Classical.not_not, eq_self, and_self, and_true, true_and, Int.reduceEq, Int.reduceLE, Int.reduceLT, Int.reduceNeg, Option.toList, List.cons_append, List.nil_append, zup_s, zup_n, zst_s, zup_zs, zup_zn, decide_true, decide_false]
    exact ⟨rfl, R, rfl, fun _ => h3⟩
theorem c_La_judge {d mi o b9 : Nat} {es : List zEnt} {L st : List zMV} {Q : Option zMV → (Nat → Int → Int) → Prop} {k : Nat} {one two g : Nat → Bool} (hN : zNet S P mv tg) (hC : zNetC S P mv tg M) (hL : zLetC lt M) (hlt : ∀ s, lt s < 256) (hF : zForm P n kd lf rt gp) (hFC : zFormC n kd lf rt gp M) (hT : 5 ≤ kd k → zTabC S P mv tg g M) (hk : k < n) (h1 : 2 ≤ kd k → M 20 (lf k : Int) = zset S one) (h2 : ztwo (kd k) = true → M 20 (rt k : Int) = zset S two) (hd : 5 + 1 ≤ d) (hc : zcats st ≤ 8) (hpost : ∀ r M', (r = some (zI (zset S (zJ (zCn mv tg P g) lt (kd k) (lf k) one two))) ∧ ∃ R, M' = zst M 21 R ∧ (7 ≤ kd k → ∀ s : Nat, s < S → R s = zneg1 (zrd (zCn mv tg P g) (zJA (kd k) one) (zJB (zCn mv tg P g) (kd k) one two) s))) → zW (zSH Ln) d mi es L (r.toList ++ st) M' Q) : zW (zSH Ln) d mi ((.invokevirtual o, 20, b9) :: es) L (zI (k : Int) :: zR 19 :: st) M Q :=
  w_callv (ps := [zI (k : Int)]) (by omega) rfl rfl (by omega) (by exact sh_19 Ln) hc (Nat.le_of_ble_eq_true rfl) (F_La_judge hN hC hL hlt hF hFC hT hk h1 h2 (by omega)) hpost
theorem F_La_refresh {d : Nat} (hN : zNet S P mv tg) (hC : zNetC S P mv tg M) (hL : zLetC lt M) (hlt : ∀ s, lt s < 256) (hF : zForm P n kd lf rt gp) (hFC : zFormC n kd lf rt gp M) (hT : zTabI S P mv tg M) (hI : zLawI S P n mv tg lt kd lf rt gp M) (hd : 6 ≤ d) : zF (zSH Ln) d i_La_refresh [zR 19] M fun r M' => r = none ∧ zKp [15, 16, 17, 18, 19, 20, 21] M M' ∧ zTabI S P mv tg M' ∧ zV15 M M' ∧ M' 19 5 = M 3 2 ∧ M' 19 6 = M 10 1 ∧ zLawC S P n mv tg lt kd lf rt gp M' := by
  rw [zF_en k_La_refresh_0 (L := [zR 19, zU]) rfl]
  have hn := hF.2.1
  have hS := hN.2.1
  have fin : ¬ (M 19 5 = M 3 2 ∧ M 19 6 = M 10 1) → zW (zSH Ln) d i_La_refresh (zblk i_La_refresh 2) [zR 19, zU] [] M fun r M' => r = none ∧ zKp [15, 16, 17, 18, 19, 20, 21] M M' ∧ zTabI S P mv tg M' ∧ zV15 M M' ∧ M' 19 5 = M 3 2 ∧ M' 19 6 = M 10 1 ∧ zLawC S P n mv tg lt kd lf rt gp M' := by
    intro _
    rw [k_La_refresh_2]
    simp (disch := first | omega | exact Nat.le_of_ble_eq_true rfl | assumption | (simp only [Int.natCast_add, Int.natCast_mul, Int.cast_ofNat_Int]; omega) | decide) only [x_aload, x_getf, w_goto, w_fall, w_iconst, w_if, w_icmp, x_iinc, x_iload, x_istore, w_isub, zsub_eq, zadd_eq, gf_10_0, gf_24_0, gf_10_1, gf_24_1, gf_19_0, gf_19_1, gf_19_2, gf_19_3, gf_19_5, gf_19_6, gf_3_2, xp_19_5, xp_19_6, pu_20, w_vret r_La_refresh, q_eq, q_ne, q_lt, q_ge, q_gt, q_le, g_I, g_L, g_R, g_V, t_0, t_I, t_R, t_U, t_L, t_s, List.getElem?_cons_zero, List.getElem?_cons_succ, Nat.reduceAdd, zif10, zif01b, zib, if_pos, if_neg, ↓reduceIte, not_true_eq_false, not_false_eq_true, Bool.true_eq_false, Bool.false_eq_true, Classical.not_not, eq_self, and_self, and_true, true_and, Int.reduceEq, Int.reduceLE, Int.reduceLT, Int.reduceNeg, Option.toList, List.cons_append, List.nil_append, zup_s, zup_n, zst_s, zup_zs, zup_zn, decide_true, decide_false, hFC.1]
    refine zford (N := n) (b := 3) (fun q L0 M0 => ∃ M1, L0 = [zR 19, zI ((q : Int) - 1)] ∧ M0 = M1 ∧ (zKp [15, 16, 17, 18, 19, 20, 21] M M1 ∧ zTabI S P mv tg M1 ∧ zV15 M M1 ∧ M1 19 = M 19 ∧ (∀ k : Nat, q ≤ k → k < n → M1 20 (k : Int) = zset S (zHp mv tg P lt kd lf rt gp k)) ∧ (q = 0 → (7 ≤ kd 0 → ∀ s : Nat, s < S → M1 21 (s : Int) = zneg1 (zRd mv tg P lt kd lf rt gp s)) ∧ (5 ≤ kd 0 → zTabC S P mv tg (zbit (gp 0 : Int)) M1)))) ?_ ?_ ?_
    · exact ⟨_, rfl, rfl, zKp_rf _ _, hT, zV15_rf _, rfl, fun k h1 h2 => by omega, fun h => by have := hF.1; omega⟩
    · rintro q _ M1 hq ⟨_, rfl, rfl, hk, hT1, hV, h19, h20, _⟩ ih
      have hFC1 : zFormC n kd lf rt gp M1 := zFormC_k hFC (by rw [hk 10 (by decide)]) (hk 11 (by decide)) (hk 12 (by decide)) (hk 13 (by decide)) (hk 14 (by decide))
      have hC1 : zNetC S P mv tg M1 := zNetC_k hC (hk 3 (by decide)) (hk 4 (by decide)) (hk 7 (by decide))
      obtain ⟨f1, f2, f3, f4, f5⟩ := hF.2.2 q hq
      obtain ⟨g1, g2, g3, g4⟩ := hFC1.2 q hq
      have step : ∀ M2, zKp [15, 16, 17, 18] M1 M2 → zTabI S P mv tg M2 → zV15 M M2 → (5 ≤ kd q → zTabC S P mv tg (zbit (gp q : Int)) M2) → zW (zSH Ln) d i_La_refresh (zblk i_La_refresh 6) [zR 19, zI (q : Int)] [] M2 fun r M' => r = none ∧ zKp [15, 16, 17, 18, 19, 20, 21] M M' ∧ zTabI S P mv tg M' ∧ zV15 M M' ∧ M' 19 5 = M 3 2 ∧ M' 19 6 = M 10 1 ∧ zLawC S P n mv tg lt kd lf rt gp M' := by
        intro M2 hk2 hT2 hV2 hT3
        have hFC2 : zFormC n kd lf rt gp M2 := zFormC_k hFC1 (by rw [hk2 10 (by decide)]) (hk2 11 (by decide)) (hk2 12 (by decide)) (hk2 13 (by decide)) (hk2 14 (by decide))
        have hC2 : zNetC S P mv tg M2 := zNetC_k hC1 (hk2 3 (by decide)) (hk2 4 (by decide)) (hk2 7 (by decide))
        have hL2 : zLetC lt M2 := fun s hs => by rw [hk2 8 (by decide), hk 8 (by decide)]; exact hL s hs
        have h202 : M2 20 = M1 20 := hk2 20 (by decide)
        rw [k_La_refresh_6]
        simp (disch := first | omega | exact Nat.le_of_ble_eq_true rfl | assumption | (simp only [Int.natCast_add, Int.natCast_mul, Int.cast_ofNat_Int]; omega) | decide) only [x_aload, x_getf, w_goto, w_fall, w_iconst, w_if, w_icmp, x_iinc, x_iload, x_istore, w_isub, zsub_eq, zadd_eq, gf_10_0, gf_24_0, gf_10_1, gf_24_1, gf_19_0, gf_19_1, gf_19_2, gf_19_3, gf_19_5, gf_19_6, gf_3_2, xp_19_5, xp_19_6, pu_20, w_vret r_La_refresh, q_eq, q_ne, q_lt, q_ge, q_gt, q_le, g_I, g_L, g_R, g_V, t_0, t_I, t_R, t_U, t_L, t_s, List.getElem?_cons_zero, List.getElem?_cons_succ, Nat.reduceAdd, zif10, zif01b, zib, if_pos, if_neg, ↓reduceIte, not_true_eq_false, not_false_eq_true, Bool.true_eq_false, Bool.false_eq_true, Classical.not_not, eq_self, and_self, and_true, true_and, Int.reduceEq, Int.reduceLE, Int.reduceLT, Int.reduceNeg, Option.toList, List.cons_append, List.nil_append, zup_s, zup_n, zst_s, zup_zs, zup_zn, decide_true, decide_false]
        refine c_La_judge (k := q) hN hC2 hL2 hlt hF hFC2 hT3 hq (fun h => by rw [h202]; exact h20 (lf q) (by have := f3 h; omega) (f3 h).2) (fun h => by rw [h202]; exact h20 (rt q) (by have := f4 h; omega) (f4 h).2) (by omega) (Nat.le_of_ble_eq_true rfl) ?_
        rintro _ _ ⟨rfl, R, rfl, h3⟩
        rw [← zHp_eq hF hq]
        simp (disch := first | omega | exact Nat.le_of_ble_eq_true rfl | assumption | (simp only [Int.natCast_add, Int.natCast_mul, Int.cast_ofNat_Int]; omega) | decide) only [x_aload, x_getf, w_goto, w_fall, w_iconst, w_if, w_icmp, x_iinc, x_iload, x_istore, w_isub, zsub_eq, zadd_eq, gf_10_0, gf_24_0, gf_10_1, gf_24_1, gf_19_0, gf_19_1, gf_19_2, gf_19_3, gf_19_5, gf_19_6, gf_3_2, xp_19_5, xp_19_6, pu_20, w_vret r_La_refresh, q_eq, q_ne, q_lt, q_ge, q_gt, q_le, g_I, g_L, g_R, g_V, t_0, t_I, t_R, t_U, t_L, t_s, List.getElem?_cons_zero, List.getElem?_cons_succ, Nat.reduceAdd, zif10, zif01b, zib, if_pos, if_neg, ↓reduceIte, not_true_eq_false, not_false_eq_true, Bool.true_eq_false, Bool.false_eq_true, Classical.not_not, eq_self, and_self, and_true, true_and, Int.reduceEq, Int.reduceLE, Int.reduceLT, Int.reduceNeg, Option.toList, List.cons_append, List.nil_append, zup_s, zup_n, zst_s, zup_zs, zup_zn, decide_true, decide_false]
        refine ih _ _ ⟨_, rfl, rfl, ?_, ?_, ?_, ?_, ?_, ?_⟩
        · exact zKp_st (by decide) (zKp_up (by decide) (zKp_tr hk (zKp_mo hk2 (by decide))))
        · exact hT2
        · exact hV2
        · show M2 19 = _
          rw [hk2 19 (by decide)]; exact h19
        · intro k h4 h5
          show zup M2 20 _ _ 20 (k : Int) = _
          by_cases e : k = q
          · subst e; rw [zup_s]
          · rw [zup_d (by omega)]
            rw [h202]; exact h20 k (by omega) h5
        · intro h4
          subst h4
          exact ⟨h3, hT3⟩
      rw [k_La_refresh_3]
      by_cases h5 : 5 ≤ kd q
      · simp (disch := first | omega | exact Nat.le_of_ble_eq_true rfl | assumption | (simp only [Int.natCast_add, Int.natCast_mul, Int.cast_ofNat_Int]; omega) | decide) only [k_La_refresh_4, k_La_refresh_5, x_aload, x_getf, w_goto, w_fall, w_iconst, w_if, w_icmp, x_iinc, x_iload, x_istore, w_isub, zsub_eq, zadd_eq, gf_10_0, gf_24_0, gf_10_1, gf_24_1, gf_19_0, gf_19_1, gf_19_2, gf_19_3, gf_19_5, gf_19_6, gf_3_2, xp_19_5, xp_19_6, pu_20, w_vret r_La_refresh, q_eq, q_ne, q_lt, q_ge, q_gt, q_le, g_I, g_L, g_R, g_V, t_0, t_I, t_R, t_U, t_L, t_s, List.getElem?_cons_zero, List.getElem?_cons_succ, Nat.reduceAdd, zif10, zif01b, zib, if_pos, if_neg, ↓reduceIte, not_true_eq_false, not_false_eq_true, Bool.true_eq_false, Bool.false_eq_true, Classical.not_not, eq_self, and_self, and_true, true_and, Int.reduceEq, Int.reduceLE, Int.reduceLT, Int.reduceNeg, Option.toList, List.cons_append, List.nil_append, zup_s, zup_n, zst_s, zup_zs, zup_zn, decide_true, decide_false, show ((q + 1 : Nat) : Int) - 1 = (q : Int) by omega, c_Fo_isLaw (show (0 : Int) ≤ q by omega) (show (q : Int) < 24 by omega) g1, c_Fo_group, g4 h5]
        refine c_Ta_prepare hN hC1 hT1 (by omega) (Nat.le_of_ble_eq_true rfl) ?_
        rintro _ M2 ⟨rfl, hk2, h6, h7, _, h8⟩
        simp (disch := first | omega | exact Nat.le_of_ble_eq_true rfl | assumption | (simp only [Int.natCast_add, Int.natCast_mul, Int.cast_ofNat_Int]; omega) | decide) only [x_aload, x_getf, w_goto, w_fall, w_iconst, w_if, w_icmp, x_iinc, x_iload, x_istore, w_isub, zsub_eq, zadd_eq, gf_10_0, gf_24_0, gf_10_1, gf_24_1, gf_19_0, gf_19_1, gf_19_2, gf_19_3, gf_19_5, gf_19_6, gf_3_2, xp_19_5, xp_19_6, pu_20, w_vret r_La_refresh, q_eq, q_ne, q_lt, q_ge, q_gt, q_le, g_I, g_L, g_R, g_V, t_0, t_I, t_R, t_U, t_L, t_s, List.getElem?_cons_zero, List.getElem?_cons_succ, Nat.reduceAdd, zif10, zif01b, zib, if_pos, if_neg, ↓reduceIte, not_true_eq_false, not_false_eq_true, Bool.true_eq_false, Bool.false_eq_true, Classical.not_not, eq_self, and_self, and_true, true_and, Int.reduceEq, Int.reduceLE, Int.reduceLT, Int.reduceNeg, Option.toList, List.cons_append, List.nil_append, zup_s, zup_n, zst_s, zup_zs, zup_zn, decide_true, decide_false]
        refine step M2 hk2 (fun _ => by rw [h6]; exact h8) (Or.inr (by rw [h7, hk 3 (by decide)])) (fun _ => h8)
      · simp (disch := first | omega | exact Nat.le_of_ble_eq_true rfl | assumption | (simp only [Int.natCast_add, Int.natCast_mul, Int.cast_ofNat_Int]; omega) | decide) only [k_La_refresh_4, x_aload, x_getf, w_goto, w_fall, w_iconst, w_if, w_icmp, x_iinc, x_iload, x_istore, w_isub, zsub_eq, zadd_eq, gf_10_0, gf_24_0, gf_10_1, gf_24_1, gf_19_0, gf_19_1, gf_19_2, gf_19_3, gf_19_5, gf_19_6, gf_3_2, xp_19_5, xp_19_6, pu_20, w_vret r_La_refresh, q_eq, q_ne, q_lt, q_ge, q_gt, q_le, g_I, g_L, g_R, g_V, t_0, t_I, t_R, t_U, t_L, t_s, List.getElem?_cons_zero, List.getElem?_cons_succ, Nat.reduceAdd, zif10, zif01b, zib, if_pos, if_neg, ↓reduceIte, not_true_eq_false, not_false_eq_true, Bool.true_eq_false, Bool.false_eq_true, Classical.not_not, eq_self, and_self, and_true, true_and, Int.reduceEq, Int.reduceLE, Int.reduceLT, Int.reduceNeg, Option.toList, List.cons_append, List.nil_append, zup_s, zup_n, zst_s, zup_zs, zup_zn, decide_true, decide_false, show ((q + 1 : Nat) : Int) - 1 = (q : Int) by omega, c_Fo_isLaw (show (0 : Int) ≤ q by omega) (show (q : Int) < 24 by omega) g1]
        exact step M1 (zKp_rf _ _) hT1 hV (fun h => absurd h h5)
    · rintro _ M1 ⟨_, rfl, rfl, hk, hT1, hV, h19, h20, h0⟩
      have e3 := hk 3 (by decide)
      have e10 := hk 10 (by decide)
      rw [k_La_refresh_3]
      simp (disch := first | omega | exact Nat.le_of_ble_eq_true rfl | assumption | (simp only [Int.natCast_add, Int.natCast_mul, Int.cast_ofNat_Int]; omega) | decide) only [k_La_refresh_7, k_La_refresh_8, x_aload, x_getf, w_goto, w_fall, w_iconst, w_if, w_icmp, x_iinc, x_iload, x_istore, w_isub, zsub_eq, zadd_eq, gf_10_0, gf_24_0, gf_10_1, gf_24_1, gf_19_0, gf_19_1, gf_19_2, gf_19_3, gf_19_5, gf_19_6, gf_3_2, xp_19_5, xp_19_6, pu_20, w_vret r_La_refresh, q_eq, q_ne, q_lt, q_ge, q_gt, q_le, g_I, g_L, g_R, g_V, t_0, t_I, t_R, t_U, t_L, t_s, List.getElem?_cons_zero, List.getElem?_cons_succ, Nat.reduceAdd, zif10, zif01b, zib, if_pos, if_neg, ↓reduceIte, not_true_eq_false, not_false_eq_true, Bool.true_eq_false, Bool.false_eq_true, Classical.not_not, eq_self, and_self, and_true, true_and, Int.reduceEq, Int.reduceLE, Int.reduceLT, Int.reduceNeg, Option.toList, List.cons_append, List.nil_append, zup_s, zup_n, zst_s, zup_zs, zup_zn, decide_true, decide_false, e3, e10, zup_n]
      refine ⟨zKp_up (by decide) (zKp_up (by decide) hk), hT1, hV, ?_, fun k hk => h20 k (Nat.zero_le _) hk, (h0 rfl).1, (h0 rfl).2⟩
      rw [zup_d (by decide), zup_s]
  by_cases h1 : M 19 5 = M 3 2
  · by_cases h2 : M 19 6 = M 10 1
    · simp (disch := first | omega | exact Nat.le_of_ble_eq_true rfl | assumption | (simp only [Int.natCast_add, Int.natCast_mul, Int.cast_ofNat_Int]; omega) | decide) only [k_La_refresh_1, k_La_refresh_8, x_aload, x_getf, w_goto, w_fall, w_iconst, w_if, w_icmp, x_iinc, x_iload, x_istore, w_isub, zsub_eq, zadd_eq, gf_10_0, gf_24_0, gf_10_1, gf_24_1, gf_19_0, gf_19_1, gf_19_2, gf_19_3, gf_19_5, gf_19_6, gf_3_2, xp_19_5, xp_19_6, pu_20, w_vret r_La_refresh, q_eq, q_ne, q_lt, q_ge, q_gt, q_le, g_I, g_L, g_R, g_V, t_0, t_I, t_R, t_U, t_L, t_s, List.getElem?_cons_zero, List.getElem?_cons_succ, Nat.reduceAdd, zif10, zif01b, zib, if_pos, if_neg, ↓reduceIte, not_true_eq_false, not_false_eq_true, Bool.true_eq_false, Bool.false_eq_true, Classical.not_not, eq_self, and_self, and_true, true_and, Int.reduceEq, Int.reduceLE, Int.reduceLT, Int.reduceNeg, Option.toList, List.cons_append, List.nil_append, zup_s, zup_n, zst_s, zup_zs, zup_zn, decide_true, decide_false, h1, h2]
      exact ⟨zKp_rf _ _, hT, zV15_rf _, hI h1 h2⟩
    · simp (disch := first | omega | exact Nat.le_of_ble_eq_true rfl | assumption | (simp only [Int.natCast_add, Int.natCast_mul, Int.cast_ofNat_Int]; omega) | decide) only [k_La_refresh_1, x_aload, x_getf, w_goto, w_fall, w_iconst, w_if, w_icmp, x_iinc, x_iload, x_istore, w_isub, zsub_eq, zadd_eq, gf_10_0, gf_24_0, gf_10_1, gf_24_1, gf_19_0, gf_19_1, gf_19_2, gf_19_3, gf_19_5, gf_19_6, gf_3_2, xp_19_5, xp_19_6, pu_20, w_vret r_La_refresh, q_eq, q_ne, q_lt, q_ge, q_gt, q_le, g_I, g_L, g_R, g_V, t_0, t_I, t_R, t_U, t_L, t_s, List.getElem?_cons_zero, List.getElem?_cons_succ, Nat.reduceAdd, zif10, zif01b, zib, if_pos, if_neg, ↓reduceIte, not_true_eq_false, not_false_eq_true, Bool.true_eq_false, Bool.false_eq_true, Classical.not_not, eq_self, and_self, and_true, true_and, Int.reduceEq, Int.reduceLE, Int.reduceLT, Int.reduceNeg, Option.toList, List.cons_append, List.nil_append, zup_s, zup_n, zst_s, zup_zs, zup_zn, decide_true, decide_false, h1, h2]
      exact fin (fun z => h2 z.2)
  · simp (disch := first | omega | exact Nat.le_of_ble_eq_true rfl | assumption | (simp only [Int.natCast_add, Int.natCast_mul, Int.cast_ofNat_Int]; omega) | decide) only [x_aload, x_getf, w_goto, w_fall, w_iconst, w_if, w_icmp, x_iinc, x_iload, x_istore, w_isub, zsub_eq, zadd_eq, gf_10_0, gf_24_0, gf_10_1, gf_24_1, gf_19_0, gf_19_1, gf_19_2, gf_19_3, gf_19_5, gf_19_6, gf_3_2, xp_19_5, xp_19_6, pu_20, w_vret r_La_refresh, q_eq, q_ne, q_lt, q_ge, q_gt, q_le, g_I, g_L, g_R, g_V, t_0, t_I, t_R, t_U, t_L, t_s, List.getElem?_cons_zero, List.getElem?_cons_succ, Nat.reduceAdd, zif10, zif01b, zib, if_pos, if_neg, ↓reduceIte, not_true_eq_false, not_false_eq_true, Bool.true_eq_false, Bool.false_eq_true, Classical.not_not, eq_self, and_self, and_true, true_and, Int.reduceEq, Int.reduceLE, Int.reduceLT, Int.reduceNeg, Option.toList, List.cons_append, List.nil_append, zup_s, zup_n, zst_s, zup_zs, zup_zn, decide_true, decide_false, h1]
    exact fin (fun z => h1 z.1)
theorem c_La_refresh {d mi o b9 : Nat} {es : List zEnt} {L st : List zMV} {Q : Option zMV → (Nat → Int → Int) → Prop} (hN : zNet S P mv tg) (hC : zNetC S P mv tg M) (hL : zLetC lt M) (hlt : ∀ s, lt s < 256) (hF : zForm P n kd lf rt gp) (hFC : zFormC n kd lf rt gp M) (hT : zTabI S P mv tg M) (hI : zLawI S P n mv tg lt kd lf rt gp M) (hd : 6 + 1 ≤ d) (hc : zcats st ≤ 8) (hpost : ∀ r M', (r = none ∧ zKp [15, 16, 17, 18, 19, 20, 21] M M' ∧ zTabI S P mv tg M' ∧ zV15 M M' ∧ M' 19 5 = M 3 2 ∧ M' 19 6 = M 10 1 ∧ zLawC S P n mv tg lt kd lf rt gp M') → zW (zSH Ln) d mi es L (r.toList ++ st) M' Q) : zW (zSH Ln) d mi ((.invokevirtual o, 19, b9) :: es) L (zR 19 :: st) M Q :=
  w_callv (ps := []) (by omega) rfl rfl (by omega) (by exact sh_19 Ln) hc (Nat.le_of_ble_eq_true rfl) (F_La_refresh hN hC hL hlt hF hFC hT hI (by omega)) hpost
end LA
