/-! the form by cells -/
abbrev yT : Type := Nat × (Nat → Nat)
/-- another tape -/
def ytp (a : zAbs) (t : yT) : zAbs := (a.S, a.P, a.mv, a.tg, a.lt, a.hp, a.pr, a.ch, a.lo, a.n, a.kd, a.lf, a.rt, a.gp, t.1, t.2, a.ln, a.sz, a.it, a.gl, a.tn, a.tr)
def yt1 (t : yT) (w : Int) (n : Nat) : yT := (t.1 + n, zTb t.1 t.2 w n)
/-- a group as a text -/
def yg_ (g : Nat) (t : yT) : Nat → yT
  | 0 => yt1 t 60 1
  | p + 1 => if g.testBit p = true then yt1 (yg_ g t p) (48 + (p : Int)) 1 else yg_ g t p
theorem yg_len (g : Nat) (t : yT) : ∀ p, (yg_ g t p).1 ≤ t.1 + 1 + p
  | 0 => by show t.1 + 1 ≤ _; omega
  | p + 1 => by
    have := yg_len g t p
    unfold yg_
    split
    · show (yg_ g t p).1 + 1 ≤ _
      omega
    · omega
def yg4 (g : Nat) (t : yT) : yT := yt1 (yg_ g t 4) 62 1
theorem yg4_len (g : Nat) (t : yT) : (yg4 g t).1 ≤ t.1 + 6 := by
  have := yg_len g t 4
  show (yg_ g t 4).1 + 1 ≤ _
  omega
def yw_ (which : Nat) : Int := if which = 0 then 22625 else if which = 1 then 18273 else if which = 2 then 18017 else if which = 3 then 18785 else 173431677481
def yo_ (g which : Nat) : yT := yt1 (yg4 g (0, fun _ => 0)) (yw_ which) (if which = 4 then 5 else 2)
def yk_k (which : Nat) : Nat := if which = 0 then 5 else if which = 1 then 6 else if which = 2 then 7 else if which = 3 then 9 else 8
def yl_ (g which : Nat) : List zqP := if which = 4 then [(8, 1, 2, g), (1, 0, 0, 0), (1, 1, 0, 0)] else [(yk_k which, 1, 0, g), (1, 0, 0, 0)]
def yeq_ : Nat ⊕ List zqP → List zqP → Bool
  | .inl _, _ => false
  | .inr l, l' => decide (l = l')
theorem yeq_eq {x : Nat ⊕ List zqP} {l : List zqP} (h : yeq_ x l = true) : x = .inr l := by
  match x, h with
  | .inr l', h => rw [of_decide_eq_true h]
theorem yo_okb : ∀ P, P < 4 → ∀ g, g < 8 → ∀ w, w < 5 → 1 ≤ P → g < 2 ^ P → yeq_ (zqT (yo_ g w).1 P (yo_ g w).2) (yl_ g w) = true := by decide +kernel
theorem yo_ok {P g w : Nat} (hP : P < 4) (hg : g < 8) (hw : w < 5) (h1 : 1 ≤ P) (h2 : g < 2 ^ P) : zqT (yo_ g w).1 P (yo_ g w).2 = .inr (yl_ g w) := yeq_eq (yo_okb P hP g hg w hw h1 h2)
theorem yby_ok : (∀ w, w < 5 → zbyOk (yw_ w) (if w = 4 then 5 else 2) = true) ∧ zbyOk 60 1 = true ∧ zbyOk 62 1 = true ∧ ∀ p : Nat, p < 4 → zbyOk (48 + (p : Int)) 1 = true := by decide +kernel
theorem yl48 : ∀ p : Nat, p < 4 → zladd 48 (p : Int) = 48 + (p : Int) := by decide +kernel
theorem yty {a : zAbs} {t : yT} {w : Int} {n : Nat} (hn : 1 ≤ n ∧ n ≤ 8) (hw : zbyOk w n = true) (hq : t.1 ≤ 50) : zU_type (ytp a t) w (n : Int) = ytp a (yt1 t w n) ∧ zTyA (ytp a t).q w (n : Int) = ((t.1 + n : Nat) : Int) := by
  have h1 : (1 : Int) ≤ n ∧ (n : Int) ≤ 8 := ⟨by omega, by omega⟩
  have h2 : (t.1 : Int) + (n : Int) ≤ 100 := by omega
  have h3 : zbyOk w (n : Int).toNat = true := by rw [Int.toNat_natCast]; exact hw
  constructor
  · unfold zU_type
    rw [if_pos (show zTyG (ytp a t).q w (n : Int) from ⟨h1, h3, h2⟩), Int.toNat_natCast]
    rfl
  · unfold zTyA
    rw [if_pos h1, if_pos h3, if_pos (show ((ytp a t).q : Int) + n ≤ 100 from h2)]
    show (t.1 : Int) + n = _
    omega
section YM
variable {Ln d : Nat} {F0 : Int → Int} {M : Nat → Int → Int} {a : zAbs} {vn : Nat} {t : yT}
theorem yk_ty {mi o b9 : Nat} {es : List zEnt} {L st : List zMV} {Q : Option zMV → (Nat → Int → Int) → Prop} {w n : Int} {k : Nat} (hn : n = (k : Int)) (hk8 : 1 ≤ k ∧ k ≤ 8) (hw : zbyOk w k = true) (hq : t.1 ≤ 50) (hd : 101 ≤ d) (hc : zcats st ≤ 8) (hJ : yJ (ytp a t) vn F0 M) (hk : ∀ M1, yJ (ytp a (yt1 t w k)) (vn + 100) F0 M1 → zW (zSH Ln) d mi es L (zI ((t.1 + k : Nat) : Int) :: st) M1 Q) : zW (zSH Ln) d mi ((.invokevirtual o, 93, b9) :: es) L (zI n :: zL w :: zR 2 :: st) M Q := by
  subst hn
  obtain ⟨e1, e2⟩ := yty (a := a) hk8 hw hq
  refine yk_type hd hc hJ fun M1 h => ?_
  rw [e2]
  rw [e1] at h
  exact hk M1 h
set_option maxHeartbeats 20000000 in
theorem F_LW_group {g : Nat} (hd : 110 ≤ d) (hq : t.1 ≤ 20) (hJ : yJ (ytp a t) vn F0 M) : zF (zSH Ln) d i_LW_group [zR 2, zI (g : Int)] M fun r M' => r = some (zI 1) ∧ yJ (ytp a (yg4 g t)) (vn + 700) F0 M' := by
  rw [zF_en k_LW_group_0 (L := [zR 2, zI (g : Int), zU, zU]) rfl]
  simp (disch := first | omega | exact Nat.le_of_ble_eq_true rfl | assumption | (simp only [Int.natCast_add, Int.natCast_mul, Int.cast_ofNat_Int]; omega) | decide) only [x_aload, w_goto, w_fall, w_i2l, w_iand, w_iconst, w_if, w_icmp, x_iinc, x_iload, w_ishr, x_istore, w_ladd, w_sipush, zadd_eq, w_bret r_LW_group, q_eq, q_ne, q_lt, q_ge, q_gt, q_le, g_I, g_L, g_R, g_V, t_0, t_I, t_R, t_U, t_L, t_s, List.getElem?_cons_zero, List.getElem?_cons_succ, Nat.reduceAdd, zif10, zif01b, zib, if_pos, if_neg, ↓reduceIte, not_true_eq_false, not_false_eq_true, Bool.true_eq_false, Bool.false_eq_true, Classical.not_not, eq_self, and_self, and_true, true_and, Int.reduceEq, Int.reduceLE, Int.reduceLT, Int.reduceNeg, Option.toList, List.cons_append, List.nil_append, zup_s, zup_n, zst_s, zup_zs, zup_zn, decide_true, decide_false]
  refine yk_ty (k := 1) rfl (by omega) yby_ok.2.1 (by omega) (by omega) (Nat.le_of_ble_eq_true rfl) hJ fun M1 hJ1 => ?_
  simp (disch := first | omega | exact Nat.le_of_ble_eq_true rfl | assumption | (simp only [Int.natCast_add, Int.natCast_mul, Int.cast_ofNat_Int]; omega) | decide) only [k_LW_group_1, k_LW_group_3, x_aload, w_goto, w_fall, w_i2l, w_iand, w_iconst, w_if, w_icmp, x_iinc, x_iload, w_ishr, x_istore, w_ladd, w_sipush, zadd_eq, w_bret r_LW_group, q_eq, q_ne, q_lt, q_ge, q_gt, q_le, g_I, g_L, g_R, g_V, t_0, t_I, t_R, t_U, t_L, t_s, List.getElem?_cons_zero, List.getElem?_cons_succ, Nat.reduceAdd, zif10, zif01b, zib, if_pos, if_neg, ↓reduceIte, not_true_eq_false, not_false_eq_true, Bool.true_eq_false, Bool.false_eq_true, Classical.not_not, eq_self, and_self, and_true, true_and, Int.reduceEq, Int.reduceLE, Int.reduceLT, Int.reduceNeg, Option.toList, List.cons_append, List.nil_append, zup_s, zup_n, zst_s, zup_zs, zup_zn, decide_true, decide_false]
  refine zfor (a := 0) (N := 4) (b := 4) (fun p L M => L = [zR 2, zI (g : Int), zI 1, zI (p : Int)] ∧ yJ (ytp a (yg_ g t p)) (vn + 100 + 100 * p) F0 M) (by omega) ⟨rfl, hJ1⟩ ?_ ?_
  · rintro p _ M - hp ⟨rfl, hJ⟩ next
    have hl := yg_len g t p
    rw [k_LW_group_4]
    by_cases hb : g.testBit p = true
    · have hz : zbit (g : Int) p = true := by rw [zbit_nat _ (by omega)]; exact hb
      simp (disch := first | omega | exact Nat.le_of_ble_eq_true rfl | assumption | (simp only [Int.natCast_add, Int.natCast_mul, Int.cast_ofNat_Int]; omega) | decide) only [k_LW_group_5, k_LW_group_6, k_LW_group_7, x_aload, w_goto, w_fall, w_i2l, w_iand, w_iconst, w_if, w_icmp, x_iinc, x_iload, w_ishr, x_istore, w_ladd, w_sipush, zadd_eq, w_bret r_LW_group, q_eq, q_ne, q_lt, q_ge, q_gt, q_le, g_I, g_L, g_R, g_V, t_0, t_I, t_R, t_U, t_L, t_s, List.getElem?_cons_zero, List.getElem?_cons_succ, Nat.reduceAdd, zif10, zif01b, zib, if_pos, if_neg, ↓reduceIte, not_true_eq_false, not_false_eq_true, Bool.true_eq_false, Bool.false_eq_true, Classical.not_not, eq_self, and_self, and_true, true_and, Int.reduceEq, Int.reduceLE, Int.reduceLT, Int.reduceNeg, Option.toList, List.cons_append, List.nil_append, zup_s, zup_n, zst_s, zup_zs, zup_zn, decide_true, decide_false, zhas, hz, yl48]
      refine yk_ty (k := 1) rfl (by omega) (yby_ok.2.2.2 p hp) (by omega) (by omega) (Nat.le_of_ble_eq_true rfl) hJ fun M1 hJ1 => ?_
      simp (disch := first | omega | exact Nat.le_of_ble_eq_true rfl | assumption | (simp only [Int.natCast_add, Int.natCast_mul, Int.cast_ofNat_Int]; omega) | decide) only [k_LW_group_8, k_LW_group_10, x_aload, w_goto, w_fall, w_i2l, w_iand, w_iconst, w_if, w_icmp, x_iinc, x_iload, w_ishr, x_istore, w_ladd, w_sipush, zadd_eq, w_bret r_LW_group, q_eq, q_ne, q_lt, q_ge, q_gt, q_le, g_I, g_L, g_R, g_V, t_0, t_I, t_R, t_U, t_L, t_s, List.getElem?_cons_zero, List.getElem?_cons_succ, Nat.reduceAdd, zif10, zif01b, zib, if_pos, if_neg, ↓reduceIte, not_true_eq_false, not_false_eq_true, Bool.true_eq_false, Bool.false_eq_true, Classical.not_not, eq_self, and_self, and_true, true_and, Int.reduceEq, Int.reduceLE, Int.reduceLT, Int.reduceNeg, Option.toList, List.cons_append, List.nil_append, zup_s, zup_n, zst_s, zup_zs, zup_zn, decide_true, decide_false]
      refine next _ _ ⟨rfl, ?_⟩
      have e : yg_ g t (p + 1) = yt1 (yg_ g t p) (48 + (p : Int)) 1 := by
        show (if g.testBit p = true then _ else _) = _
        rw [if_pos hb]
      rw [e]
      exact yJ_up hJ1 (by omega)
    · have hz : zbit (g : Int) p = false := by rw [zbit_nat _ (by omega)]; simpa using hb
      simp (disch := first | omega | exact Nat.le_of_ble_eq_true rfl | assumption | (simp only [Int.natCast_add, Int.natCast_mul, Int.cast_ofNat_Int]; omega) | decide) only [k_LW_group_5, k_LW_group_6, k_LW_group_8, k_LW_group_10, x_aload, w_goto, w_fall, w_i2l, w_iand, w_iconst, w_if, w_icmp, x_iinc, x_iload, w_ishr, x_istore, w_ladd, w_sipush, zadd_eq, w_bret r_LW_group, q_eq, q_ne, q_lt, q_ge, q_gt, q_le, g_I, g_L, g_R, g_V, t_0, t_I, t_R, t_U, t_L, t_s, List.getElem?_cons_zero, List.getElem?_cons_succ, Nat.reduceAdd, zif10, zif01b, zib, if_pos, if_neg, ↓reduceIte, not_true_eq_false, not_false_eq_true, Bool.true_eq_false, Bool.false_eq_true, Classical.not_not, eq_self, and_self, and_true, true_and, Int.reduceEq, Int.reduceLE, Int.reduceLT, Int.reduceNeg, Option.toList, List.cons_append, List.nil_append, zup_s, zup_n, zst_s, zup_zs, zup_zn, decide_true, decide_false, zhas, hz]
      refine next _ _ ⟨rfl, ?_⟩
      have e : yg_ g t (p + 1) = yg_ g t p := by
        show (if g.testBit p = true then _ else _) = _
        rw [if_neg hb]
      rw [e]
      exact yJ_up hJ (by omega)
  · rintro _ M ⟨rfl, hJ⟩
    have hl := yg_len g t 4
    rw [k_LW_group_4]
    simp (disch := first | omega | exact Nat.le_of_ble_eq_true rfl | assumption | (simp only [Int.natCast_add, Int.natCast_mul, Int.cast_ofNat_Int]; omega) | decide) only [k_LW_group_11, k_LW_group_12, x_aload, w_goto, w_fall, w_i2l, w_iand, w_iconst, w_if, w_icmp, x_iinc, x_iload, w_ishr, x_istore, w_ladd, w_sipush, zadd_eq, w_bret r_LW_group, q_eq, q_ne, q_lt, q_ge, q_gt, q_le, g_I, g_L, g_R, g_V, t_0, t_I, t_R, t_U, t_L, t_s, List.getElem?_cons_zero, List.getElem?_cons_succ, Nat.reduceAdd, zif10, zif01b, zib, if_pos, if_neg, ↓reduceIte, not_true_eq_false, not_false_eq_true, Bool.true_eq_false, Bool.false_eq_true, Classical.not_not, eq_self, and_self, and_true, true_and, Int.reduceEq, Int.reduceLE, Int.reduceLT, Int.reduceNeg, Option.toList, List.cons_append, List.nil_append, zup_s, zup_n, zst_s, zup_zs, zup_zn, decide_true, decide_false]
    refine yk_ty (k := 1) rfl (by omega) yby_ok.2.2.1 (by omega) (by omega) (Nat.le_of_ble_eq_true rfl) hJ fun M1 hJ1 => ?_
    simp (disch := first | omega | exact Nat.le_of_ble_eq_true rfl | assumption | (simp only [Int.natCast_add, Int.natCast_mul, Int.cast_ofNat_Int]; omega) | decide) only [k_LW_group_13, k_LW_group_15, x_aload, w_goto, w_fall, w_i2l, w_iand, w_iconst, w_if, w_icmp, x_iinc, x_iload, w_ishr, x_istore, w_ladd, w_sipush, zadd_eq, w_bret r_LW_group, q_eq, q_ne, q_lt, q_ge, q_gt, q_le, g_I, g_L, g_R, g_V, t_0, t_I, t_R, t_U, t_L, t_s, List.getElem?_cons_zero, List.getElem?_cons_succ, Nat.reduceAdd, zif10, zif01b, zib, if_pos, if_neg, ↓reduceIte, not_true_eq_false, not_false_eq_true, Bool.true_eq_false, Bool.false_eq_true, Classical.not_not, eq_self, and_self, and_true, true_and, Int.reduceEq, Int.reduceLE, Int.reduceLT, Int.reduceNeg, Option.toList, List.cons_append, List.nil_append, zup_s, zup_n, zst_s, zup_zs, zup_zn, decide_true, decide_false]
    exact yJ_up hJ1 (by omega)
set_option maxHeartbeats 20000000 in
theorem F_LW_outermost {g w : Nat} (hd : 112 ≤ d) (hv : vn ≤ 90000) (hP : 1 ≤ a.P ∧ a.P ≤ 3) (hg : g < 2 ^ a.P) (hw : w < 5) (hq : a.q = 0) (htb : a.tb = fun _ => 0) (hJ : yJ a vn F0 M) : zF (zSH Ln) d i_LW_outermost [zR 2, zI (g : Int), zI (w : Int)] M fun r M' => r = some (zI 1) ∧ yJ (zU_form (ytp a (yo_ g w))) (vn + 900) F0 M' := by
  rw [zF_en k_LW_outermost_0 (L := [zR 2, zI (g : Int), zI (w : Int), zU]) rfl]
  have hJ0 : yJ (ytp a (0, fun _ => 0)) vn F0 M := by
    have e : ytp a (0, fun _ => 0) = a := by
      have e2 : ytp a (0, fun _ => 0) = ytp a (a.q, a.tb) := by rw [hq, htb]
      rw [e2]
      rfl
    rw [e]
    exact hJ
  have hg8 : g < 8 := Nat.lt_of_lt_of_le hg (show 2 ^ a.P ≤ 2 ^ 3 from Nat.pow_le_pow_right (n := 2) (by omega) hP.2)
  have hf := yo_ok (P := a.P) (by omega) hg8 hw hP.1 hg
  have hln := yg4_len g (0, fun _ => 0)
  simp (disch := first | omega | exact Nat.le_of_ble_eq_true rfl | assumption | (simp only [Int.natCast_add, Int.natCast_mul, Int.cast_ofNat_Int]; omega) | decide) only [x_aload, w_goto, w_fall, w_iconst, w_if, w_icmp, x_iload, x_istore, w_sipush, w_bret r_LW_outermost, q_eq, q_ne, q_lt, q_ge, q_gt, q_le, g_I, g_L, g_R, g_V, t_0, t_I, t_R, t_U, t_L, t_s, List.getElem?_cons_zero, List.getElem?_cons_succ, Nat.reduceAdd, zif10, zif01b, zib, if_pos, if_neg, ↓reduceIte, not_true_eq_false, not_false_eq_true, Bool.true_eq_false, Bool.false_eq_true, Classical.not_not, eq_self, and_self, and_true, true_and, Int.reduceEq, Int.reduceLE, Int.reduceLT, Int.reduceNeg, Option.toList, List.cons_append, List.nil_append, zup_s, zup_n, zst_s, zup_zs, zup_zn, decide_true, decide_false]
  refine w_calls (vs := [zR 2, zI (g : Int)]) (st' := []) (by omega) rfl rfl (Nat.le_of_ble_eq_true rfl) (Nat.le_of_ble_eq_true rfl) (F_LW_group (g := g) (by omega) (by show 0 ≤ 20; omega) hJ0) ?_
  rintro _ M1 ⟨rfl, hJ1⟩
  have fin : ∀ (M2 : Nat → Int → Int), yJ (ytp a (yo_ g w)) (vn + 800) F0 M2 → zW (zSH Ln) d i_LW_outermost (zblk i_LW_outermost 12) [zR 2, zI (g : Int), zI (w : Int), zI 1] [] M2 fun r M' => r = some (zI 1) ∧ yJ (zU_form (ytp a (yo_ g w))) (vn + 900) F0 M' := by
    intro M2 hJ2
    rw [k_LW_outermost_12]
    simp (disch := first | omega | exact Nat.le_of_ble_eq_true rfl | assumption | (simp only [Int.natCast_add, Int.natCast_mul, Int.cast_ofNat_Int]; omega) | decide) only [x_aload, w_goto, w_fall, w_iconst, w_if, w_icmp, x_iload, x_istore, w_sipush, w_bret r_LW_outermost, q_eq, q_ne, q_lt, q_ge, q_gt, q_le, g_I, g_L, g_R, g_V, t_0, t_I, t_R, t_U, t_L, t_s, List.getElem?_cons_zero, List.getElem?_cons_succ, Nat.reduceAdd, zif10, zif01b, zib, if_pos, if_neg, ↓reduceIte, not_true_eq_false, not_false_eq_true, Bool.true_eq_false, Bool.false_eq_true, Classical.not_not, eq_self, and_self, and_true, true_and, Int.reduceEq, Int.reduceLE, Int.reduceLT, Int.reduceNeg, Option.toList, List.cons_append, List.nil_append, zup_s, zup_n, zst_s, zup_zs, zup_zn, decide_true, decide_false]
    refine yk_form (by omega) (Nat.le_of_ble_eq_true rfl) (by omega) hJ2 fun M3 hJ3 => ?_
    have e : zFoR (zqT (ytp a (yo_ g w)).q (ytp a (yo_ g w)).P (ytp a (yo_ g w)).tb) = if w = 4 then 3 else 2 := by
      show zFoR (zqT (yo_ g w).1 a.P (yo_ g w).2) = _
      rw [hf]
      unfold yl_
      split <;> rfl
    rw [e]
    by_cases h4 : w = 4
    · have h4' : (w : Int) = 4 := by omega
      rw [if_pos h4]
      simp (disch := first | omega | exact Nat.le_of_ble_eq_true rfl | assumption | (simp only [Int.natCast_add, Int.natCast_mul, Int.cast_ofNat_Int]; omega) | decide) only [k_LW_outermost_13, k_LW_outermost_15, k_LW_outermost_16, k_LW_outermost_18, x_aload, w_goto, w_fall, w_iconst, w_if, w_icmp, x_iload, x_istore, w_sipush, w_bret r_LW_outermost, q_eq, q_ne, q_lt, q_ge, q_gt, q_le, g_I, g_L, g_R, g_V, t_0, t_I, t_R, t_U, t_L, t_s, List.getElem?_cons_zero, List.getElem?_cons_succ, Nat.reduceAdd, zif10, zif01b, zib, if_pos, if_neg, ↓reduceIte, not_true_eq_false, not_false_eq_true, Bool.true_eq_false, Bool.false_eq_true, Classical.not_not, eq_self, and_self, and_true, true_and, Int.reduceEq, Int.reduceLE, Int.reduceLT, Int.reduceNeg, Option.toList, List.cons_append, List.nil_append, zup_s, zup_n, zst_s, zup_zs, zup_zn, decide_true, decide_false, h4']
      exact yJ_up hJ3 (by omega)
    · have h4' : ¬ (w : Int) = 4 := by omega
      rw [if_neg h4]
      simp (disch := first | omega | exact Nat.le_of_ble_eq_true rfl | assumption | (simp only [Int.natCast_add, Int.natCast_mul, Int.cast_ofNat_Int]; omega) | decide) only [k_LW_outermost_14, k_LW_outermost_15, k_LW_outermost_16, k_LW_outermost_18, x_aload, w_goto, w_fall, w_iconst, w_if, w_icmp, x_iload, x_istore, w_sipush, w_bret r_LW_outermost, q_eq, q_ne, q_lt, q_ge, q_gt, q_le, g_I, g_L, g_R, g_V, t_0, t_I, t_R, t_U, t_L, t_s, List.getElem?_cons_zero, List.getElem?_cons_succ, Nat.reduceAdd, zif10, zif01b, zib, if_pos, if_neg, ↓reduceIte, not_true_eq_false, not_false_eq_true, Bool.true_eq_false, Bool.false_eq_true, Classical.not_not, eq_self, and_self, and_true, true_and, Int.reduceEq, Int.reduceLE, Int.reduceLT, Int.reduceNeg, Option.toList, List.cons_append, List.nil_append, zup_s, zup_n, zst_s, zup_zs, zup_zn, decide_true, decide_false, h4']
      exact yJ_up hJ3 (by omega)
  have hb := yby_ok.1 w hw
  obtain rfl | rfl | rfl | rfl | rfl : w = 0 ∨ w = 1 ∨ w = 2 ∨ w = 3 ∨ w = 4 := by omega
  · simp (disch := first | omega | exact Nat.le_of_ble_eq_true rfl | assumption | (simp only [Int.natCast_add, Int.natCast_mul, Int.cast_ofNat_Int]; omega) | decide) only [k_LW_outermost_1, k_LW_outermost_4, k_LW_outermost_5, k_LW_outermost_11, x_aload, w_goto, w_fall, w_iconst, w_if, w_icmp, x_iload, x_istore, w_sipush, w_bret r_LW_outermost, q_eq, q_ne, q_lt, q_ge, q_gt, q_le, g_I, g_L, g_R, g_V, t_0, t_I, t_R, t_U, t_L, t_s, List.getElem?_cons_zero, List.getElem?_cons_succ, Nat.reduceAdd, zif10, zif01b, zib, if_pos, if_neg, ↓reduceIte, not_true_eq_false, not_false_eq_true, Bool.true_eq_false, Bool.false_eq_true, Classical.not_not, eq_self, and_self, and_true, true_and, Int.reduceEq, Int.reduceLE, Int.reduceLT, Int.reduceNeg, Option.toList, List.cons_append, List.nil_append, zup_s, zup_n, zst_s, zup_zs, zup_zn, decide_true, decide_false, Int.cast_ofNat_Int]
    refine yk_ty (k := 2) rfl (by omega) hb (by show (yg4 g (0, fun _ => 0)).1 ≤ 50; omega) (by omega) (Nat.le_of_ble_eq_true rfl) hJ1 fun M1 hJ1 => ?_
    simp (disch := first | omega | exact Nat.le_of_ble_eq_true rfl | assumption | (simp only [Int.natCast_add, Int.natCast_mul, Int.cast_ofNat_Int]; omega) | decide) only [x_aload, w_goto, w_fall, w_iconst, w_if, w_icmp, x_iload, x_istore, w_sipush, w_bret r_LW_outermost, q_eq, q_ne, q_lt, q_ge, q_gt, q_le, g_I, g_L, g_R, g_V, t_0, t_I, t_R, t_U, t_L, t_s, List.getElem?_cons_zero, List.getElem?_cons_succ, Nat.reduceAdd, zif10, zif01b, zib, if_pos, if_neg, ↓reduceIte, not_true_eq_false, not_false_eq_true, Bool.true_eq_false, Bool.false_eq_true, Classical.not_not, eq_self, and_self, and_true, true_and, Int.reduceEq, Int.reduceLE, Int.reduceLT, Int.reduceNeg, Option.toList, List.cons_append, List.nil_append, zup_s, zup_n, zst_s, zup_zs, zup_zn, decide_true, decide_false]
    exact fin _ (yJ_up hJ1 (by omega))
  · simp (disch := first | omega | exact Nat.le_of_ble_eq_true rfl | assumption | (simp only [Int.natCast_add, Int.natCast_mul, Int.cast_ofNat_Int]; omega) | decide) only [k_LW_outermost_1, k_LW_outermost_4, k_LW_outermost_6, k_LW_outermost_7, k_LW_outermost_11, x_aload, w_goto, w_fall, w_iconst, w_if, w_icmp, x_iload, x_istore, w_sipush, w_bret r_LW_outermost, q_eq, q_ne, q_lt, q_ge, q_gt, q_le, g_I, g_L, g_R, g_V, t_0, t_I, t_R, t_U, t_L, t_s, List.getElem?_cons_zero, List.getElem?_cons_succ, Nat.reduceAdd, zif10, zif01b, zib, if_pos, if_neg, ↓reduceIte, not_true_eq_false, not_false_eq_true, Bool.true_eq_false, Bool.false_eq_true, Classical.not_not, eq_self, and_self, and_true, true_and, Int.reduceEq, Int.reduceLE, Int.reduceLT, Int.reduceNeg, Option.toList, List.cons_append, List.nil_append, zup_s, zup_n, zst_s, zup_zs, zup_zn, decide_true, decide_false, Int.cast_ofNat_Int]
    refine yk_ty (k := 2) rfl (by omega) hb (by omega) (by omega) (Nat.le_of_ble_eq_true rfl) hJ1 fun M1 hJ1 => ?_
    simp (disch := first | omega | exact Nat.le_of_ble_eq_true rfl | assumption | (simp only [Int.natCast_add, Int.natCast_mul, Int.cast_ofNat_Int]; omega) | decide) only [x_aload, w_goto, w_fall, w_iconst, w_if, w_icmp, x_iload, x_istore, w_sipush, w_bret r_LW_outermost, q_eq, q_ne, q_lt, q_ge, q_gt, q_le, g_I, g_L, g_R, g_V, t_0, t_I, t_R, t_U, t_L, t_s, List.getElem?_cons_zero, List.getElem?_cons_succ, Nat.reduceAdd, zif10, zif01b, zib, if_pos, if_neg, ↓reduceIte, not_true_eq_false, not_false_eq_true, Bool.true_eq_false, Bool.false_eq_true, Classical.not_not, eq_self, and_self, and_true, true_and, Int.reduceEq, Int.reduceLE, Int.reduceLT, Int.reduceNeg, Option.toList, List.cons_append, List.nil_append, zup_s, zup_n, zst_s, zup_zs, zup_zn, decide_true, decide_false]
    exact fin _ (yJ_up hJ1 (by omega))
  · simp (disch := first | omega | exact Nat.le_of_ble_eq_true rfl | assumption | (simp only [Int.natCast_add, Int.natCast_mul, Int.cast_ofNat_Int]; omega) | decide) only [k_LW_outermost_1, k_LW_outermost_4, k_LW_outermost_6, k_LW_outermost_8, k_LW_outermost_9, k_LW_outermost_11, x_aload, w_goto, w_fall, w_iconst, w_if, w_icmp, x_iload, x_istore, w_sipush, w_bret r_LW_outermost, q_eq, q_ne, q_lt, q_ge, q_gt, q_le, g_I, g_L, g_R, g_V, t_0, t_I, t_R, t_U, t_L, t_s, List.getElem?_cons_zero, List.getElem?_cons_succ, Nat.reduceAdd, zif10, zif01b, zib, if_pos, if_neg, ↓reduceIte, not_true_eq_false, not_false_eq_true, Bool.true_eq_false, Bool.false_eq_true, Classical.not_not, eq_self, and_self, and_true, true_and, Int.reduceEq, Int.reduceLE, Int.reduceLT, Int.reduceNeg, Option.toList, List.cons_append, List.nil_append, zup_s, zup_n, zst_s, zup_zs, zup_zn, decide_true, decide_false, Int.cast_ofNat_Int]
    refine yk_ty (k := 2) rfl (by omega) hb (by omega) (by omega) (Nat.le_of_ble_eq_true rfl) hJ1 fun M1 hJ1 => ?_
    simp (disch := first | omega | exact Nat.le_of_ble_eq_true rfl | assumption | (simp only [Int.natCast_add, Int.natCast_mul, Int.cast_ofNat_Int]; omega) | decide) only [x_aload, w_goto, w_fall, w_iconst, w_if, w_icmp, x_iload, x_istore, w_sipush, w_bret r_LW_outermost, q_eq, q_ne, q_lt, q_ge, q_gt, q_le, g_I, g_L, g_R, g_V, t_0, t_I, t_R, t_U, t_L, t_s, List.getElem?_cons_zero, List.getElem?_cons_succ, Nat.reduceAdd, zif10, zif01b, zib, if_pos, if_neg, ↓reduceIte, not_true_eq_false, not_false_eq_true, Bool.true_eq_false, Bool.false_eq_true, Classical.not_not, eq_self, and_self, and_true, true_and, Int.reduceEq, Int.reduceLE, Int.reduceLT, Int.reduceNeg, Option.toList, List.cons_append, List.nil_append, zup_s, zup_n, zst_s, zup_zs, zup_zn, decide_true, decide_false]
    exact fin _ (yJ_up hJ1 (by omega))
  · simp (disch := first | omega | exact Nat.le_of_ble_eq_true rfl | assumption | (simp only [Int.natCast_add, Int.natCast_mul, Int.cast_ofNat_Int]; omega) | decide) only [k_LW_outermost_1, k_LW_outermost_4, k_LW_outermost_6, k_LW_outermost_8, k_LW_outermost_10, k_LW_outermost_11, x_aload, w_goto, w_fall, w_iconst, w_if, w_icmp, x_iload, x_istore, w_sipush, w_bret r_LW_outermost, q_eq, q_ne, q_lt, q_ge, q_gt, q_le, g_I, g_L, g_R, g_V, t_0, t_I, t_R, t_U, t_L, t_s, List.getElem?_cons_zero, List.getElem?_cons_succ, Nat.reduceAdd, zif10, zif01b, zib, if_pos, if_neg, ↓reduceIte, not_true_eq_false, not_false_eq_true, Bool.true_eq_false, Bool.false_eq_true, Classical.not_not, eq_self, and_self, and_true, true_and, Int.reduceEq, Int.reduceLE, Int.reduceLT, Int.reduceNeg, Option.toList, List.cons_append, List.nil_append, zup_s, zup_n, zst_s, zup_zs, zup_zn, decide_true, decide_false, Int.cast_ofNat_Int]
    refine yk_ty (k := 2) rfl (by omega) hb (by omega) (by omega) (Nat.le_of_ble_eq_true rfl) hJ1 fun M1 hJ1 => ?_
    simp (disch := first | omega | exact Nat.le_of_ble_eq_true rfl | assumption | (simp only [Int.natCast_add, Int.natCast_mul, Int.cast_ofNat_Int]; omega) | decide) only [x_aload, w_goto, w_fall, w_iconst, w_if, w_icmp, x_iload, x_istore, w_sipush, w_bret r_LW_outermost, q_eq, q_ne, q_lt, q_ge, q_gt, q_le, g_I, g_L, g_R, g_V, t_0, t_I, t_R, t_U, t_L, t_s, List.getElem?_cons_zero, List.getElem?_cons_succ, Nat.reduceAdd, zif10, zif01b, zib, if_pos, if_neg, ↓reduceIte, not_true_eq_false, not_false_eq_true, Bool.true_eq_false, Bool.false_eq_true, Classical.not_not, eq_self, and_self, and_true, true_and, Int.reduceEq, Int.reduceLE, Int.reduceLT, Int.reduceNeg, Option.toList, List.cons_append, List.nil_append, zup_s, zup_n, zst_s, zup_zs, zup_zn, decide_true, decide_false]
    exact fin _ (yJ_up hJ1 (by omega))
  · simp (disch := first | omega | exact Nat.le_of_ble_eq_true rfl | assumption | (simp only [Int.natCast_add, Int.natCast_mul, Int.cast_ofNat_Int]; omega) | decide) only [k_LW_outermost_1, k_LW_outermost_2, x_aload, w_goto, w_fall, w_iconst, w_if, w_icmp, x_iload, x_istore, w_sipush, w_bret r_LW_outermost, q_eq, q_ne, q_lt, q_ge, q_gt, q_le, g_I, g_L, g_R, g_V, t_0, t_I, t_R, t_U, t_L, t_s, List.getElem?_cons_zero, List.getElem?_cons_succ, Nat.reduceAdd, zif10, zif01b, zib, if_pos, if_neg, ↓reduceIte, not_true_eq_false, not_false_eq_true, Bool.true_eq_false, Bool.false_eq_true, Classical.not_not, eq_self, and_self, and_true, true_and, Int.reduceEq, Int.reduceLE, Int.reduceLT, Int.reduceNeg, Option.toList, List.cons_append, List.nil_append, zup_s, zup_n, zst_s, zup_zs, zup_zn, decide_true, decide_false, Int.cast_ofNat_Int]
    refine yk_ty (k := 5) rfl (by omega) hb (by omega) (by omega) (Nat.le_of_ble_eq_true rfl) hJ1 fun M1 hJ1 => ?_
    simp (disch := first | omega | exact Nat.le_of_ble_eq_true rfl | assumption | (simp only [Int.natCast_add, Int.natCast_mul, Int.cast_ofNat_Int]; omega) | decide) only [k_LW_outermost_3, x_aload, w_goto, w_fall, w_iconst, w_if, w_icmp, x_iload, x_istore, w_sipush, w_bret r_LW_outermost, q_eq, q_ne, q_lt, q_ge, q_gt, q_le, g_I, g_L, g_R, g_V, t_0, t_I, t_R, t_U, t_L, t_s, List.getElem?_cons_zero, List.getElem?_cons_succ, Nat.reduceAdd, zif10, zif01b, zib, if_pos, if_neg, ↓reduceIte, not_true_eq_false, not_false_eq_true, Bool.true_eq_false, Bool.false_eq_true, Classical.not_not, eq_self, and_self, and_true, true_and, Int.reduceEq, Int.reduceLE, Int.reduceLT, Int.reduceNeg, Option.toList, List.cons_append, List.nil_append, zup_s, zup_n, zst_s, zup_zs, zup_zn, decide_true, decide_false]
    exact fin _ (yJ_up hJ1 (by omega))
end YM
