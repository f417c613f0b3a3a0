/-! chances: the class's face -/
theorem zSta_le : ∀ {S : Nat} {T : List Nat}, zSta S T → T.length ≤ S
  | 0, T, h => by
    cases T with
    | nil => exact Nat.le_refl _
    | cons x T => exact absurd (h.2 x (by simp)) (by omega)
  | S + 1, T, h => by
    by_cases hS : S ∈ T
    · obtain ⟨h1, h2, h3⟩ := zSta_er h hS
      have : zSta S (T.erase S) := ⟨h1.1, fun x hx => by
        have := h1.2 x hx
        have : x ≠ S := fun e => by subst e; exact h2 hx
        omega⟩
      have := zSta_le this
      omega
    · have : zSta S T := ⟨h.1, fun x hx => by
        have := h.2 x hx
        have : x ≠ S := fun e => by subst e; exact hS hx
        omega⟩
      have := zSta_le this
      omega
theorem z3_12 {n : Nat} (h : n ≤ 12) : ((3 ^ n : Nat) : Int) ≤ 531441 := by
  have : 3 ^ n ≤ 3 ^ 12 := Nat.pow_le_pow_right (by omega) h
  have e : 3 ^ 12 = 531441 := by decide
  omega
def zTk (O : List Nat) : Nat → List Nat
  | 0 => []
  | k + 1 => O.getD k 0 :: zTk O k
theorem zTk_mem {O : List Nat} {x : Nat} : ∀ {k : Nat}, x ∈ zTk O k ↔ ∃ i, i < k ∧ x = O.getD i 0
  | 0 => by simp [zTk]
  | k + 1 => by
    unfold zTk
    rw [List.mem_cons, zTk_mem (k := k)]
    constructor
    · rintro (h | ⟨i, a, b⟩)
      · exact ⟨k, by omega, h⟩
      · exact ⟨i, by omega, b⟩
    · rintro ⟨i, a, b⟩
      by_cases e : i = k
      · subst e; exact Or.inl b
      · exact Or.inr ⟨i, by omega, b⟩
/-- all but one, whatever their row -/
theorem zD_all {S s : Nat} {A : Nat → Nat → Int} (h0 : zSg S A []) (hs : s < S) {T : List Nat} (hT : zSta S T) (hm : ∀ x, x ∈ T ↔ x < S ∧ x ≠ s) (j : Nat) : zD A T s j = zD A (zRs S s) s j := by
  obtain ⟨r1, _, _, r4⟩ := zRs_sta hs
  have hp : T.Perm (zRs S s) := (List.perm_ext_iff_of_nodup hT.1 r1.1).mpr fun x => by rw [hm, r4]
  exact (zD_perm (zEvI_all h0 S) hp hT (zSta_le hT)).2 s j
theorem zCh_b {S s : Nat} {A : Nat → Nat → Int} (h0 : zSg S A []) (hS : S ≤ 12) (hs : s < S) : ((zChN S A s : Nat) : Int) = zD A (zRs S s) s 12 ∧ ((zChD S A s : Nat) : Int) = zD A (zRs S s) s s ∧ 0 < zChD S A s ∧ zChD S A s ≤ 531441 ∧ zChN S A s ≤ zChD S A s := by
  obtain ⟨r1, r2, r3, _⟩ := zRs_sta hs
  have hg := (zEvI_all h0 S (zRs S s) r1 (zSta_le r1)).2.2
  have a := zSg_dia hg hs r2
  have b := zSg_rhs hg hs r2
  have c := zp_le h0 (s :: zRs S s) (zSta_c.mpr ⟨r2, hs, r1⟩)
  have e := z3_12 (n := (s :: zRs S s).length) (by rw [List.length_cons]; omega)
  rw [zp_c] at c
  unfold zChN zChD
  omega
theorem zCh_cl {S s : Nat} {A : Nat → Nat → Int} (h0 : zSg S A []) (hS : S ≤ 12) (hs : s < S) (hrow : ∀ t, t < 12 → t ≠ s → A s t = 0) (hd : A s s = 1) : (A s 12 = 1 → zChN S A s = zChD S A s) ∧ (A s 12 = 0 → zChN S A s = 0) := by
  obtain ⟨r1, r2, r3, _⟩ := zRs_sta hs
  have hA := (zEvI_all h0 S (zRs S s) r1 (zSta_le r1)).1
  have hc := zD_cl hrow hA r2 (fun x hx => by have := r1.2 x hx; omega)
  have h12 := hc 12
  have hss := hc s
  rw [hd, Int.mul_one] at hss
  constructor
  · intro e
    rw [e, Int.mul_one] at h12
    unfold zChN zChD
    rw [h12, hss]
  · intro e
    rw [e, Int.mul_zero] at h12
    unfold zChN
    rw [h12]; rfl
section LO
variable {Ln S P n : Nat} {mv tg ch : Nat → Nat → Nat} {lt kd lf rt gp : Nat → Nat} {M : Nat → Int → Int} {lo : Int} {X : Nat → Bool}
def zMx (S : Nat) (mv tg : Nat → Nat → Nat) (P : Nat) (ch : Nat → Nat → Nat) (lo : Int) (X : Nat → Bool) : Nat → Nat → Int := zAm (zKc mv tg P ch lo) (zLm mv lo) X (zRc S (zEc (zKc mv tg P ch lo)) X 12)
theorem zMx_sum (hN : zNet S P mv tg) (hch : ∀ s p, ch s p < mv s p) : ∀ s, s < S → zSn S (zKc mv tg P ch lo s) = zLm mv lo s := fun s hs => zcard_sum (f := zLt mv tg P ch lo s) _ fun k hk => zLt_lt hN hch hs hk
theorem zMx_sg (hN : zNet S P mv tg) (hch : ∀ s p, ch s p < mv s p) : zSg S (zMx S mv tg P ch lo X) [] := zAm_sg hN.2.1 (zMx_sum hN hch) (fun s => (zLm_3 hN.2.2.2.2.1 lo s).2) rfl
set_option maxHeartbeats 20000000 in
theorem F_Lo_weigh {d : Nat} {s : Nat} (hN : zNet S P mv tg) (hC : zNetC S P mv tg M) (hK : zPkC 5 ch M) (hch : ∀ s p, ch s p < mv s p) (hlo : M 36 1 = lo) (hlr : -1 ≤ lo ∧ lo < P) (hs : s < S) (hd : 5 ≤ d) : zF (zSH Ln) d i_Lo_weigh [zR 36, zI (s : Int), zI (zset S X)] M fun r M' => r = none ∧ zKp [36, 37, 38, 39, 40] M M' ∧ (∀ i : Int, i ≠ 2 → i ≠ 3 → M' 36 i = M 36 i) ∧ M' 36 2 = ((zChN S (zMx S mv tg P ch lo X) s / Nat.gcd (zChN S (zMx S mv tg P ch lo X) s) (zChD S (zMx S mv tg P ch lo X) s) : Nat) : Int) ∧ M' 36 3 = ((zChD S (zMx S mv tg P ch lo X) s / Nat.gcd (zChN S (zMx S mv tg P ch lo X) s) (zChD S (zMx S mv tg P ch lo X) s) : Nat) : Int) := by
  rw [zF_en k_Lo_weigh_0 (L := [zR 36, zI (s : Int), zI (zset S X), zU, zU]) rfl]
  have hS := hN.2.1
  have h0 := zMx_sg (lo := lo) (X := X) hN hch
  obtain ⟨q1, q2, q3, q4, q5⟩ := zCh_b h0 hS hs
  have hcl := fun h1 h2 => zCh_cl h0 hS hs h1 h2
  have hXY : ∀ u, u < S → X u = true → zRc S (zEc (zKc mv tg P ch lo)) X 12 u = true := zRc_in 12
  have hc3 : ∀ s t, zKc mv tg P ch lo s t ≤ 3 := fun s t => zKc_3 hN.2.2.2.2.1 s t
  have hlm := fun s => zLm_3 hN.2.2.2.2.1 lo s
  have hall := fun (T : List Nat) hT hm j => zD_all (T := T) h0 hs hT hm j
  have hNl := zNl_D (c := zKc mv tg P ch lo) (lm := zLm mv lo) hS hXY S (Nat.le_refl S)
  have hM : zMx S mv tg P ch lo X = zAm (zKc mv tg P ch lo) (zLm mv lo) X (zRc S (zEc (zKc mv tg P ch lo)) X 12) := rfl
  rw [← hM] at hNl
  generalize hA : zMx S mv tg P ch lo X = A at *
  have hev := zEvI_all h0
  have hple := zp_le h0
  cases hx : X s
  rotate_left
  · -- the form holds there
    have e1 : A s s = 1 := by rw [hM]; unfold zAm; rw [if_pos (Or.inl hx), if_pos rfl]
    have e2 : ∀ t, t < 12 → t ≠ s → A s t = 0 := fun t ht hts => by rw [hM]; unfold zAm; rw [if_pos (Or.inl hx), if_neg hts, if_neg (by omega)]
    have e3 : A s 12 = 1 := by rw [hM]; unfold zAm; rw [if_pos (Or.inl hx), if_neg (by omega), if_pos rfl, if_pos hx]
    have e4 := (hcl e2 e1).1 e3
    rw [e4, Nat.gcd_self, Nat.div_self q3]
    simp (disch := first | omega | exact Nat.le_of_ble_eq_true rfl | assumption | (simp only [Int.natCast_add, Int.natCast_mul, Int.cast_ofNat_Int]; omega) | decide) only [k_Lo_weigh_1, k_Lo_weigh_3, k_Lo_weigh_4, x_aload, x_getf, w_goto, w_fall, w_iand, w_iconst, w_if, x_iload, x_istore, w_isub, w_ixor, w_lcmp, w_sipush, zsub_eq, gf_36_2, xp_36_2, xp_36_3, w_vret r_Lo_weigh, q_eq, q_ne, q_lt, q_ge, q_gt, q_le, g_I, g_L, g_R, g_V, t_0, t_I, t_R, t_U, t_L, t_s, List.getElem?_cons_zero, List.getElem?_cons_succ, Nat.reduceAdd, zif10, zif01b, zib, if_pos, if_neg, ↓reduceIte, not_true_eq_false, not_false_eq_true, Bool.true_eq_false, Bool.false_eq_true, Classical.not_not, eq_self, and_self, and_true, true_and, Int.reduceEq, Int.reduceLE, Int.reduceLT, Int.reduceNeg, Option.toList, List.cons_append, List.nil_append, zup_s, zup_n, zst_s, zup_zs, zup_zn, decide_true, decide_false, c_hasS, hx, show zlcmp 1 1 = 0 from rfl, zup_d]
    exact ⟨zKp_up (by decide) (zKp_up (by decide) (zKp_rf _ _)), fun i a b => by rw [zup_d b, zup_d a], rfl⟩
  generalize hY : zRc S (zEc (zKc mv tg P ch lo)) X 12 = Y at *
  simp (disch := first | omega | exact Nat.le_of_ble_eq_true rfl | assumption | (simp only [Int.natCast_add, Int.natCast_mul, Int.cast_ofNat_Int]; omega) | decide) only [k_Lo_weigh_2, k_Lo_weigh_3, k_Lo_weigh_5, x_aload, x_getf, w_goto, w_fall, w_iand, w_iconst, w_if, x_iload, x_istore, w_isub, w_ixor, w_lcmp, w_sipush, zsub_eq, gf_36_2, xp_36_2, xp_36_3, w_vret r_Lo_weigh, q_eq, q_ne, q_lt, q_ge, q_gt, q_le, g_I, g_L, g_R, g_V, t_0, t_I, t_R, t_U, t_L, t_s, List.getElem?_cons_zero, List.getElem?_cons_succ, Nat.reduceAdd, zif10, zif01b, zib, if_pos, if_neg, ↓reduceIte, not_true_eq_false, not_false_eq_true, Bool.true_eq_false, Bool.false_eq_true, Classical.not_not, eq_self, and_self, and_true, true_and, Int.reduceEq, Int.reduceLE, Int.reduceLT, Int.reduceNeg, Option.toList, List.cons_append, List.nil_append, zup_s, zup_n, zst_s, zup_zs, zup_zn, decide_true, decide_false, c_hasS, hx, show zlcmp 0 1 = -1 from rfl, zup_d]
  generalize hM0 : zup (zup M 36 2 0) 36 3 1 = M0
  have k0 : zKp [36] M M0 := by rw [← hM0]; exact zKp_up (by decide) (zKp_up (by decide) (zKp_rf _ _))
  have f0 : ∀ i : Int, i ≠ 2 → i ≠ 3 → M0 36 i = M 36 i := fun i a b => by rw [← hM0, zup_d b, zup_d a]
  have f2 : M0 36 2 = 0 ∧ M0 36 3 = 1 := by rw [← hM0]; exact ⟨rfl, rfl⟩
  have hC0 : zNetC S P mv tg M0 := zNetC_k hC (k0 3 (by decide)) (k0 4 (by decide)) (k0 7 (by decide))
  have hK0 : zPkC 5 ch M0 := fun s p a b => by rw [k0 5 (by decide)]; exact hK s p a b
  refine c_Lo_countAll hN hC0 hK0 hch (by rw [f0 1 (by omega) (by omega)]; exact hlo) hlr (by omega) (Nat.le_of_ble_eq_true rfl) ?_
  rintro _ _ ⟨rfl, F, G, rfl, hF, hG⟩
  have hCt : zCtC S (zKc mv tg P ch lo) (zst (zst M0 37 F) 38 G) := hF
  have e30 : zst (zst M0 37 F) 38 G 3 0 = (S : Int) := hC0.1
  have hcom := fun {d mi o b9 : Nat} {es : List zEnt} {L st : List zMV} {Q : Option zMV → (Nat → Int → Int) → Prop} (h1 : 2 + 1 ≤ d) (h2 : zcats st ≤ 8) => c_Lo_coming (Ln := Ln) (d := d) (mi := mi) (o := o) (b9 := b9) (es := es) (L := L) (st := st) (Q := Q) (X := X) hS e30 hc3 hCt h1 h2
  rw [hY] at hcom
  cases hyo : Y s
  · -- the form is never come to
    have e1 : A s s = 1 := by rw [hM]; unfold zAm; rw [if_pos (Or.inr hyo), if_pos rfl]
    have e2 : ∀ t, t < 12 → t ≠ s → A s t = 0 := fun t ht hts => by rw [hM]; unfold zAm; rw [if_pos (Or.inr hyo), if_neg hts, if_neg (by omega)]
    have e3 : A s 12 = 0 := by rw [hM]; unfold zAm; rw [if_pos (Or.inr hyo), if_neg (by omega), if_pos rfl, if_neg (by rw [hx]; simp)]
    have e4 := (hcl e2 e1).2 e3
    rw [e4, Nat.gcd_zero_left, Nat.zero_div, Nat.div_self q3]
    simp (disch := first | omega | exact Nat.le_of_ble_eq_true rfl | assumption | (simp only [Int.natCast_add, Int.natCast_mul, Int.cast_ofNat_Int]; omega) | decide) only [k_Lo_weigh_7, x_aload, x_getf, w_goto, w_fall, w_iand, w_iconst, w_if, x_iload, x_istore, w_isub, w_ixor, w_lcmp, w_sipush, zsub_eq, gf_36_2, xp_36_2, xp_36_3, w_vret r_Lo_weigh, q_eq, q_ne, q_lt, q_ge, q_gt, q_le, g_I, g_L, g_R, g_V, t_0, t_I, t_R, t_U, t_L, t_s, List.getElem?_cons_zero, List.getElem?_cons_succ, Nat.reduceAdd, zif10, zif01b, zib, if_pos, if_neg, ↓reduceIte, not_true_eq_false, not_false_eq_true, Bool.true_eq_false, Bool.false_eq_true, Classical.not_not, eq_self, and_self, and_true, true_and, Int.reduceEq, Int.reduceLE, Int.reduceLT, Int.reduceNeg, Option.toList, List.cons_append, List.nil_append, zup_s, zup_n, zst_s, zup_zs, zup_zn, decide_true, decide_false, hcom, zset_dif, c_hasS, hyo, Bool.false_and]
    exact ⟨zKp_st (by decide) (zKp_st (by decide) (zKp_mo k0 (by decide))), f0, f2.1, f2.2⟩
  -- an open state
  have hopen : (Y s && !X s) = true := by rw [hyo, hx]; rfl
  have hop : ∀ u, (Y u && !X u) = true ↔ ¬ (X u = true ∨ Y u = false) := fun u => by
    cases X u <;> cases Y u <;> simp
  simp (disch := first | omega | exact Nat.le_of_ble_eq_true rfl | assumption | (simp only [Int.natCast_add, Int.natCast_mul, Int.cast_ofNat_Int]; omega) | decide) only [k_Lo_weigh_6, x_aload, x_getf, w_goto, w_fall, w_iand, w_iconst, w_if, x_iload, x_istore, w_isub, w_ixor, w_lcmp, w_sipush, zsub_eq, gf_36_2, xp_36_2, xp_36_3, w_vret r_Lo_weigh, q_eq, q_ne, q_lt, q_ge, q_gt, q_le, g_I, g_L, g_R, g_V, t_0, t_I, t_R, t_U, t_L, t_s, List.getElem?_cons_zero, List.getElem?_cons_succ, Nat.reduceAdd, zif10, zif01b, zib, if_pos, if_neg, ↓reduceIte, not_true_eq_false, not_false_eq_true, Bool.true_eq_false, Bool.false_eq_true, Classical.not_not, eq_self, and_self, and_true, true_and, Int.reduceEq, Int.reduceLE, Int.reduceLT, Int.reduceNeg, Option.toList, List.cons_append, List.nil_append, zup_s, zup_n, zst_s, zup_zs, zup_zn, decide_true, decide_false, hcom, zset_dif, c_hasS, hopen]
  refine c_Lo_line (X := fun i => Y i && !X i) (l := s) hS e30 hs (by omega) (Nat.le_of_ble_eq_true rfl) ?_
  rintro _ _ ⟨rfl, G2, rfl, hO⟩
  have hlen := zOrd_len (X := fun i => Y i && !X i) hs
  have hnd := zOrd_nd (S := S) (X := fun i => Y i && !X i) (l := s)
  have hlt := fun x => zOrd_lt (X := fun i => Y i && !X i) (x := x) hs
  have hOmem : ∀ x, x ∈ zOrd S (fun i => Y i && !X i) s ↔ x < S ∧ (Y x && !X x) = true := fun x => by
    unfold zOrd
    rw [List.mem_append, List.mem_singleton, zOl_mem]
    constructor
    · rintro (h | rfl)
      · exact ⟨h.1, h.2.1⟩
      · exact ⟨hs, hopen⟩
    · rintro ⟨a, b⟩
      by_cases e : x = s
      · exact Or.inr e
      · exact Or.inl ⟨a, b, e⟩
  have hlast : (zOrd S (fun i => Y i && !X i) s).getD ((zOrd S (fun i => Y i && !X i) s).length - 1) 0 = s := by
    have e : (zOrd S (fun i => Y i && !X i) s).length - 1 = (zOl (fun i => Y i && !X i) s S).length := by omega
    rw [e]
    unfold zOrd
    exact zgetD_r _ _
  generalize zOrd S (fun i => Y i && !X i) s = O at *
  have hm1 : 1 ≤ O.length := by omega
  have hO' : ∀ i : Nat, i < O.length → zst (zst (zst M0 37 F) 38 G) 39 G2 39 (i : Int) = (O.getD i 0 : Int) ∧ O.getD i 0 < S := fun i hi => ⟨hO i hi, hlt _ (zgetD_mem hi)⟩
  simp (disch := first | omega | exact Nat.le_of_ble_eq_true rfl | assumption | (simp only [Int.natCast_add, Int.natCast_mul, Int.cast_ofNat_Int]; omega) | decide) only [x_aload, x_getf, w_goto, w_fall, w_iand, w_iconst, w_if, x_iload, x_istore, w_isub, w_ixor, w_lcmp, w_sipush, zsub_eq, gf_36_2, xp_36_2, xp_36_3, w_vret r_Lo_weigh, q_eq, q_ne, q_lt, q_ge, q_gt, q_le, g_I, g_L, g_R, g_V, t_0, t_I, t_R, t_U, t_L, t_s, List.getElem?_cons_zero, List.getElem?_cons_succ, Nat.reduceAdd, zif10, zif01b, zib, if_pos, if_neg, ↓reduceIte, not_true_eq_false, not_false_eq_true, Bool.true_eq_false, Bool.false_eq_true, Classical.not_not, eq_self, and_self, and_true, true_and, Int.reduceEq, Int.reduceLE, Int.reduceLT, Int.reduceNeg, Option.toList, List.cons_append, List.nil_append, zup_s, zup_n, zst_s, zup_zs, zup_zn, decide_true, decide_false]
  refine c_Lo_write (m := O.length) (od := fun i => O.getD i 0) (lm := zLm mv lo) (c := zKc mv tg P ch lo) hS e30 hc3 hCt (by omega) hO' (fun u hu => ⟨hG u hu, (hlm u).2⟩) (by omega) (Nat.le_of_ble_eq_true rfl) ?_
  rintro _ _ ⟨rfl, F3, rfl, hF3⟩
  -- the pivots
  have nOp : ∀ i, i < O.length → O.getD i 0 ∉ zNl X Y S := fun i hi z => by
    have := ((hOmem _).mp (zgetD_mem hi)).2
    exact (hop _).mp this (zNl_mem.mp z).2
  have hSt : ∀ k, k ≤ O.length → zSta S (zTk O k ++ zNl X Y S) := by
    intro k
    induction k with
    | zero => exact fun _ => zNl_sta S S (Nat.le_refl S)
    | succ k ih =>
      intro hk
      refine zSta_c.mpr ⟨fun z => ?_, hlt _ (zgetD_mem (by omega)), ih (by omega)⟩
      rcases List.mem_append.mp z with z | z
      · obtain ⟨i, a, b⟩ := zTk_mem.mp z
        have := zgetD_inj hnd (by omega) (by omega) b
        omega
      · exact nOp k (by omega) z
  have hSt2 : ∀ k i, k ≤ i → i < O.length → zSta S (O.getD i 0 :: (zTk O k ++ zNl X Y S)) := fun k i hki hi => by
    refine zSta_c.mpr ⟨fun z => ?_, hlt _ (zgetD_mem hi), hSt k (by omega)⟩
    rcases List.mem_append.mp z with z | z
    · obtain ⟨u, a, b⟩ := zTk_mem.mp z
      have := zgetD_inj hnd (by omega) (by omega) b
      omega
    · exact nOp i hi z
  have hpe : ∀ T, zSta S T → 0 < zp A T ∧ zp A T ≤ 531441 := fun T hT => ⟨(hev S T hT (zSta_le hT)).2.2.1, Int.le_trans (hple T hT) (z3_12 (by have := zSta_le hT; omega))⟩
  have hkap : ∀ j : Nat, j < O.length → (if j < O.length then O.getD j 0 else 12) = O.getD j 0 := fun j hj => if_pos hj
  simp (disch := first | omega | exact Nat.le_of_ble_eq_true rfl | assumption | (simp only [Int.natCast_add, Int.natCast_mul, Int.cast_ofNat_Int]; omega) | decide) only [x_aload, x_getf, w_goto, w_fall, w_iand, w_iconst, w_if, x_iload, x_istore, w_isub, w_ixor, w_lcmp, w_sipush, zsub_eq, gf_36_2, xp_36_2, xp_36_3, w_vret r_Lo_weigh, q_eq, q_ne, q_lt, q_ge, q_gt, q_le, g_I, g_L, g_R, g_V, t_0, t_I, t_R, t_U, t_L, t_s, List.getElem?_cons_zero, List.getElem?_cons_succ, Nat.reduceAdd, zif10, zif01b, zib, if_pos, if_neg, ↓reduceIte, not_true_eq_false, not_false_eq_true, Bool.true_eq_false, Bool.false_eq_true, Classical.not_not, eq_self, and_self, and_true, true_and, Int.reduceEq, Int.reduceLE, Int.reduceLT, Int.reduceNeg, Option.toList, List.cons_append, List.nil_append, zup_s, zup_n, zst_s, zup_zs, zup_zn, decide_true, decide_false]
  refine c_Lo_solve (m := O.length) (V := fun k i j => zD A (zTk O k ++ zNl X Y S) (O.getD i 0) (if j < O.length then O.getD j 0 else 12)) (pv := fun k => zp A (zTk O k ++ zNl X Y S)) ⟨hm1, by omega⟩ (fun i j hi hj => ?_) hNl.1 (fun k hk => ?_) (fun k hk => ?_) (fun k i j a b e f => ?_) (fun k i j a b e => ?_) (by omega) (Nat.le_of_ble_eq_true rfl) ?_
  · -- what was written
    have hOi := hlt _ (zgetD_mem hi)
    have nX : ¬ (X (O.getD i 0) = true ∨ Y (O.getD i 0) = false) := (hop _).mp ((hOmem _).mp (zgetD_mem hi)).2
    show zst (zst (zst (zst M0 37 F) 38 G) 39 G2) 40 F3 40 _ = zD A (zNl X Y S) _ _
    rw [zst_s]
    by_cases hjm : j < O.length
    · have hOj := hlt _ (zgetD_mem hjm)
      rw [if_pos hjm, hNl.2.1 _ _ (nOp i hi) (nOp j hjm) hOi hOj, (hF3 i hi).1 j hjm, hM]
      unfold zAm
      rw [if_neg nX, if_neg (show ¬ O.getD j 0 = 12 by omega)]
      by_cases e : i = j
      · subst e; rw [if_pos rfl, if_pos rfl]
      · rw [if_neg e, if_neg (fun z => e (zgetD_inj hnd hi hjm z.symm))]
    · obtain rfl : j = O.length := by omega
      rw [if_neg hjm, hNl.2.2 _ hOi (nOp i hi), (hF3 i hi).2, if_neg nX, hM]
      unfold zAm
      rw [if_neg nX, if_pos rfl, Int.zero_add]
      rfl
  · show zp A (O.getD k 0 :: (zTk O k ++ zNl X Y S)) = _
    rw [zp_c, hkap k (by omega)]
  · have := hpe _ (hSt k (by omega))
    exact ⟨this.1, by omega⟩
  · have hx := (hev S _ (hSt (k + 1) (by omega)) (zSta_le (hSt (k + 1) (by omega)))).1
    have hx : zEx A (O.getD k 0) (zTk O k ++ zNl X Y S) := hx.2.1
    have := hx (O.getD i 0) (if j < O.length then O.getD j 0 else 12)
    rw [hkap k (by omega)]
    exact this.symm
  · have hst := hSt2 k i a b
    obtain ⟨n1, n2, n3⟩ := zSta_c.mp hst
    have hg := (hev S _ n3 (zSta_le n3)).2.2
    have h6 := (hpe _ hst).2
    rw [zp_c] at h6
    have hdia := zSg_dia hg n2 n1
    by_cases hjm : j < O.length
    · rw [if_pos hjm]
      have hOj := hlt _ (zgetD_mem hjm)
      by_cases ej : O.getD j 0 = O.getD i 0
      · rw [ej]; exact ⟨by omega, by omega⟩
      · have := zSg_off hg n2 n1 hOj ej
        exact ⟨by omega, by omega⟩
    · rw [if_neg hjm]
      have := zSg_rhs hg n2 n1
      exact ⟨by omega, by omega⟩
  rintro _ _ ⟨rfl, F4, rfl, hF4⟩
  have hT : zSta S (zTk O (O.length - 1) ++ zNl X Y S) := hSt _ (by omega)
  have hTm : ∀ x, x ∈ zTk O (O.length - 1) ++ zNl X Y S ↔ x < S ∧ x ≠ s := fun x => by
    rw [List.mem_append, zTk_mem, zNl_mem]
    constructor
    · rintro (⟨i, a, b⟩ | ⟨a, b⟩)
      · refine ⟨by rw [b]; exact hlt _ (zgetD_mem (by omega)), fun e => ?_⟩
        have := zgetD_inj hnd (i := i) (j := O.length - 1) (by omega) (by omega) (by rw [← b, hlast, e])
        omega
      · exact ⟨a, fun e => by subst e; exact (hop _).mp hopen b⟩
    · rintro ⟨a, b⟩
      by_cases e : X x = true ∨ Y x = false
      · exact Or.inr ⟨a, e⟩
      · have hxO : x ∈ O := (hOmem x).mpr ⟨a, (hop x).mpr e⟩
        obtain ⟨i, hi, hix⟩ := List.getElem_of_mem hxO
        have hgd : O.getD i 0 = x := by rw [List.getD_eq_getElem?_getD, List.getElem?_eq_getElem hi]; exact hix
        refine Or.inl ⟨i, ?_, hgd.symm⟩
        rcases Nat.lt_or_ge i (O.length - 1) with h | h
        · exact h
        · have : i = O.length - 1 := by omega
          subst this
          rw [hlast] at hgd
          exact absurd hgd.symm b
  have v1 := hF4 O.length (by omega) (Nat.le_refl _)
  have v2 := hF4 (O.length - 1) (Nat.le_refl _) (by omega)
  rw [hlast, if_neg (Nat.lt_irrefl _), hall _ hT hTm, ← q1] at v1
  rw [hkap _ (by omega), hlast, hall _ hT hTm, ← q2] at v2
  have ec : (O.length : Int) - 1 = ((O.length - 1 : Nat) : Int) := by omega
  have w2 : ∀ v, zup (zup (zst (zst (zst (zst M0 37 F) 38 G) 39 G2) 40 F4) 36 2 (zChN S A s : Int)) 36 3 v 36 2 = (zChN S A s : Int) := fun v => by rw [zup_d (by omega), zup_s]
  rw [zst_zst]
  simp (disch := first | omega | exact Nat.le_of_ble_eq_true rfl | assumption | (simp only [Int.natCast_add, Int.natCast_mul, Int.cast_ofNat_Int]; omega) | decide) only [x_aload, x_getf, w_goto, w_fall, w_iand, w_iconst, w_if, x_iload, x_istore, w_isub, w_ixor, w_lcmp, w_sipush, zsub_eq, gf_36_2, xp_36_2, xp_36_3, w_vret r_Lo_weigh, q_eq, q_ne, q_lt, q_ge, q_gt, q_le, g_I, g_L, g_R, g_V, t_0, t_I, t_R, t_U, t_L, t_s, List.getElem?_cons_zero, List.getElem?_cons_succ, Nat.reduceAdd, zif10, zif01b, zib, if_pos, if_neg, ↓reduceIte, not_true_eq_false, not_false_eq_true, Bool.true_eq_false, Bool.false_eq_true, Classical.not_not, eq_self, and_self, and_true, true_and, Int.reduceEq, Int.reduceLE, Int.reduceLT, Int.reduceNeg, Option.toList, List.cons_append, List.nil_append, zup_s, zup_n, zst_s, zup_zs, zup_zn, decide_true, decide_false, c_Lo_cell, zsub_eq, ec, v1, v2]
  generalize hM9 : zst (zst (zst (zst (zup (zup M0 36 2 (zChN S A s : Int)) 36 3 (zChD S A s : Int)) 37 F) 38 G) 39 G2) 40 F4 = M9
  have m2 : M9 36 2 = (zChN S A s : Int) := by rw [← hM9]; rfl
  have m3 : M9 36 3 = (zChD S A s : Int) := by rw [← hM9]; rfl
  have k9 : zKp [36, 37, 38, 39, 40] M M9 := by
    rw [← hM9]
    exact zKp_st (by decide) (zKp_st (by decide) (zKp_st (by decide) (zKp_st (by decide) (zKp_up (by decide) (zKp_up (by decide) (zKp_mo k0 (by decide)))))))
  have f9 : ∀ i : Int, i ≠ 2 → i ≠ 3 → M9 36 i = M 36 i := fun i a b => by
    rw [← hM9, zst_n (by decide), zst_n (by decide), zst_n (by decide), zst_n (by decide), zup_d b, zup_d a]
    exact f0 i a b
  simp (disch := first | omega | exact Nat.le_of_ble_eq_true rfl | assumption | (simp only [Int.natCast_add, Int.natCast_mul, Int.cast_ofNat_Int]; omega) | decide) only [k_Lo_weigh_7, x_aload, x_getf, w_goto, w_fall, w_iand, w_iconst, w_if, x_iload, x_istore, w_isub, w_ixor, w_lcmp, w_sipush, zsub_eq, gf_36_2, xp_36_2, xp_36_3, w_vret r_Lo_weigh, q_eq, q_ne, q_lt, q_ge, q_gt, q_le, g_I, g_L, g_R, g_V, t_0, t_I, t_R, t_U, t_L, t_s, List.getElem?_cons_zero, List.getElem?_cons_succ, Nat.reduceAdd, zif10, zif01b, zib, if_pos, if_neg, ↓reduceIte, not_true_eq_false, not_false_eq_true, Bool.true_eq_false, Bool.false_eq_true, Classical.not_not, eq_self, and_self, and_true, true_and, Int.reduceEq, Int.reduceLE, Int.reduceLT, Int.reduceNeg, Option.toList, List.cons_append, List.nil_append, zup_s, zup_n, zst_s, zup_zs, zup_zn, decide_true, decide_false, c_Lo_shorten m2 m3 q3 (show zChN S A s ≤ 1000000 by omega) (show zChD S A s ≤ 1000000 by omega)]
  exact ⟨zKp_up (by decide) (zKp_up (by decide) k9), fun i a b => by rw [zup_d b, zup_d a]; exact f9 i a b, by rw [zup_d (by omega), zup_s]⟩
theorem c_Lo_weigh {d mi o b9 : Nat} {es : List zEnt} {L st : List zMV} {Q : Option zMV → (Nat → Int → Int) → Prop} {s : Nat} (hN : zNet S P mv tg) (hC : zNetC S P mv tg M) (hK : zPkC 5 ch M) (hch : ∀ s p, ch s p < mv s p) (hlo : M 36 1 = lo) (hlr : -1 ≤ lo ∧ lo < P) (hs : s < S) (hd : 5 + 1 ≤ d) (hc : zcats st ≤ 8) (hpost : ∀ r M', (r = none ∧ zKp [36, 37, 38, 39, 40] M M' ∧ (∀ i : Int, i ≠ 2 → i ≠ 3 → M' 36 i = M 36 i) ∧ M' 36 2 = ((zChN S (zMx S mv tg P ch lo X) s / Nat.gcd (zChN S (zMx S mv tg P ch lo X) s) (zChD S (zMx S mv tg P ch lo X) s) : Nat) : Int) ∧ M' 36 3 = ((zChD S (zMx S mv tg P ch lo X) s / Nat.gcd (zChN S (zMx S mv tg P ch lo X) s) (zChD S (zMx S mv tg P ch lo X) s) : Nat) : Int)) → zW (zSH Ln) d mi es L (r.toList ++ st) M' Q) : zW (zSH Ln) d mi ((.invokevirtual o, 45, b9) :: es) L (zI (zset S X) :: zI (s : Int) :: zR 36 :: st) M Q :=
  w_callv (ps := [zI (s : Int), zI (zset S X)]) (by omega) rfl rfl (by omega) (by exact sh_36 Ln) hc (Nat.le_of_ble_eq_true rfl) (F_Lo_weigh hN hC hK hch hlo hlr hs (by omega)) hpost
end LO
