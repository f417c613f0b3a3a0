/-! the tape's reader: the reference goes through a form as told -/
def zHoR1 (k : Nat) (x : zqP) (M : Nat → Int → Int) : Prop := M 60 k = zkr x.1 ∧ (1 ≤ x.1 → M 61 k = x.2.1) ∧ (ztwo x.1 = true → M 62 k = x.2.2.1) ∧ (5 ≤ x.1 → M 63 k = x.2.2.2)
def zHoR : Nat → List zqP → (Nat → Int → Int) → Prop
  | _, [], _ => True
  | k, x :: l, M => zHoR1 k x M ∧ zHoR (k + 1) l M
def zSamR (a b : Nat) (M M' : Nat → Int → Int) : Prop := ∀ i : Nat, a ≤ i → i < b → M' 60 i = M 60 i ∧ M' 61 i = M 61 i ∧ M' 62 i = M 62 i ∧ M' 63 i = M 63 i
theorem zHoR1_k {k : Nat} {x : zqP} {M M' : Nat → Int → Int} (h : zHoR1 k x M) (e : M' 60 k = M 60 k ∧ M' 61 k = M 61 k ∧ M' 62 k = M 62 k ∧ M' 63 k = M 63 k) : zHoR1 k x M' := by
  obtain ⟨e1, e2, e3, e4⟩ := e
  exact ⟨by rw [e1]; exact h.1, by rw [e2]; exact h.2.1, by rw [e3]; exact h.2.2.1, by rw [e4]; exact h.2.2.2⟩
theorem zHoR_k {M M' : Nat → Int → Int} : ∀ (l : List zqP) (k : Nat), zHoR k l M → zSamR k (k + l.length) M M' → zHoR k l M'
  | [], _, _, _ => trivial
  | x :: l, k, h, e => ⟨zHoR1_k h.1 (e k (Nat.le_refl _) (by simp)), zHoR_k l (k + 1) h.2 fun i h1 h2 => e i (by omega) (by rw [List.length_cons]; omega)⟩
theorem zHoR_app {M : Nat → Int → Int} : ∀ (l l2 : List zqP) (k : Nat), zHoR k l M → zHoR (k + l.length) l2 M → zHoR k (l ++ l2) M
  | [], _, _, _, h => h
  | x :: l, l2, k, h, h2 => ⟨h.1, zHoR_app l l2 (k + 1) h.2 (by rw [show k + 1 + l.length = k + (x :: l).length by simp; omega]; exact h2)⟩
theorem zHoR_at {M : Nat → Int → Int} : ∀ (l : List zqP) (k i : Nat), zHoR k l M → i < l.length → zHoR1 (k + i) (l.getD i (0, 0, 0, 0)) M
  | [], _, i, _, h => by simp at h
  | x :: l, k, 0, h, _ => h.1
  | x :: l, k, i + 1, h, hi => by
    have := zHoR_at l (k + 1) i h.2 (by simpa using hi)
    rw [show k + 1 + i = k + (i + 1) by omega] at this
    exact this
theorem zSamR_of {a b n : Nat} {M M' : Nat → Int → Int} (h : zSmR n M M') (hb : b ≤ n) : zSamR a b M M' := fun i _ h2 => h i (by omega)
theorem zRr_tp {q : Nat} {tb : Nat → Nat} {M M' : Nat → Int → Int} (hT : zTpR q tb M) (h : zRr M M') : zTpR q tb M' := ⟨by rw [h.2 24 (by omega) (by omega) (by omega) (by omega)]; exact hT.1, by rw [h.1 66 (by decide)]; exact hT.2⟩
theorem zRr_P {P : Int} {M M' : Nat → Int → Int} (hP : M 48 1 = P) (h : zRr M M') : M' 48 1 = P := by rw [h.2 1 (by omega) (by omega) (by omega) (by omega)]; exact hP
theorem zkr_2 : ∀ k, k ≤ 9 → zkr (zkr k) = k := by decide
theorem zqF_IW {q P : Nat} {tb : Nat → Nat} {f p n : Nat} : zqF q P tb (f + 1) p n = match zIW q P tb p n with
    | .inl e => .inl e
    | .inr (true, p', kd, one, _) => .inr (p', [(kd, one, 0, 0)])
    | .inr (false, p', kd, _, g) => if kd = 2 then zqC (2, n + 1, 0, 0) (zqF q P tb f p' (n + 1)) else if kd = 10 then zqPair (zqF q P tb f) q tb false p' n 0 else if kd = 9 then zqPair (zqF q P tb f) q tb true p' n g else zqC (zkr kd, n + 1, 0, g) (zqF q P tb f p' (n + 1)) := by
  generalize hF : zqF q P tb f = F
  unfold zqF zIW
  simp only [hF]
  by_cases h24 : 24 ≤ n
  · rw [if_pos h24, if_pos h24]
  rw [if_neg h24, if_neg h24]
  by_cases c1 : zNc q tb p = 84
  · rw [if_pos c1, if_pos c1]
  rw [if_neg c1, if_neg c1]
  by_cases c2 : 97 ≤ zNc q tb p ∧ zNc q tb p ≤ 104
  · rw [if_pos c2, if_pos c2]
  rw [if_neg c2, if_neg c2]
  by_cases c3 : zNc q tb p = 33
  · rw [if_pos c3, if_pos c3]; dsimp only; rw [if_pos rfl]
  rw [if_neg c3, if_neg c3]
  by_cases c4 : zNc q tb p = 40
  · rw [if_pos c4, if_pos c4]; rfl
  rw [if_neg c4, if_neg c4]
  by_cases c5 : zNc q tb p = 60
  · rw [if_pos c5, if_pos c5]
    unfold zGrR
    generalize zGd q P tb 4 (zNp q tb p + 1) 0 0 = G
    by_cases c6 : zNc q tb G.1 = 62
    · rw [if_pos c6, if_pos c6]
      by_cases c7 : zNc q tb (zNp q tb G.1 + 1) = 40
      · rw [if_pos c7, if_pos c7]; rfl
      rw [if_neg c7, if_neg c7]
      by_cases c8 : zqL (zNc q tb (zNp q tb G.1 + 1)) = 0
      · rw [if_pos c8, if_pos c8]
      rw [if_neg c8, if_neg c8]
      have := zqL_k c8
      generalize zqL (zNc q tb (zNp q tb G.1 + 1)) = kd at *
      dsimp only
      rcases this with rfl | rfl | rfl | rfl <;> rw [if_neg (by decide), if_neg (by decide), if_neg (by decide), zkr_2 _ (by decide)]
    · rw [if_neg c6, if_neg c6]
  · rw [if_neg c5, if_neg c5]
/-- the form's loop, and the loop of what closes -/
def zFL (Ln d : Nat) (Q : Option zMV → (Nat → Int → Int) → Prop) (M : Nat → Int → Int) (more : Int) (v2 : zMV) : Prop := zW (zSH Ln) d i_Md_form (zblk i_Md_form 1) [zR 48, zI more, v2] [] M Q
def zCL (Ln d : Nat) (Q : Option zMV → (Nat → Int → Int) → Prop) (e : Int) (M : Nat → Int → Int) : Prop := ∀ (e1 : Int) (v3 v4 v5 v6 : zMV), zW (zSH Ln) (d - 1) i_Md_closes (zblk i_Md_closes 1) [zR 48, zI e1, zI e, v3, v4, v5, v6] [] M fun r M' => r = none ∧ ∀ v2, zFL Ln d Q M' (if 0 < M' 48 22 then 1 else 0) v2
def zBdH (Ln d : Nat) (Q : Option zMV → (Nat → Int → Int) → Prop) (e : Nat) (M : Nat → Int → Int) : Prop := ∀ M', zRr M M' → zRng M' → M' 48 25 = (e : Int) → M' 48 26 = 1 → ∀ more v2, zFL Ln d Q M' more v2
def zSiH (Ln d : Nat) (Q : Option zMV → (Nat → Int → Int) → Prop) (res : zqR) (n : Nat) (St : List (Nat × Bool)) (M : Nat → Int → Int) : Prop := match res with
  | .inl e => zBdH Ln d Q e M
  | .inr (p', l) => ∀ M', zRr M M' → zSmR n M M' → zEn p' (n + l.length) St M' → zHoR n l M' → zCL Ln d Q (n : Int) M'
section RR
variable {Ln q P d : Nat} {tb : Nat → Nat} {Q : Option zMV → (Nat → Int → Int) → Prop}
theorem zBdH_mo {e : Nat} {M M1 : Nat → Int → Int} (h : zBdH Ln d Q e M) (h1 : zRr M M1) : zBdH Ln d Q e M1 := fun M' a b c g => h M' (zRr_tr h1 a) b c g
/-- what was wrong ends it -/
theorem zCL_bad {p e : Nat} {en : Int} {M M1 : Nat → Int → Int} (hd : 3 ≤ d) (hB : zBdH Ln d Q e M) (hr : zRr M M1) (hg : zRng M1) (h25 : M1 48 25 = (e : Int)) (h26 : M1 48 26 = 1) : zCL Ln d Q en M1 := by
  intro e1 v3 v4 v5 v6
  have hend : ∀ v2, zFL Ln d Q M1 (if 0 < M1 48 22 then 1 else 0) v2 := fun v2 => hB M1 hr hg h25 h26 _ _
  rw [k_Md_closes_1]
  by_cases c1 : M1 48 22 ≤ 0
  · have c1' : ¬ 0 < M1 48 22 := by omega
    rw [if_neg c1'] at hend
    simp (disch := first | omega | exact Nat.le_of_ble_eq_true rfl | assumption | (simp only [Int.natCast_add, Int.natCast_mul, Int.cast_ofNat_Int]; omega) | decide) only [k_Md_closes_30, x_aload, w_dupI, w_dupR, x_getf, w_goto, w_fall, w_iadd, w_iconst, w_if, w_icmp, x_iload, x_istore, w_isub, zadd_eq, zsub_eq, gf_48_16, gf_48_17, gf_48_18, gf_48_20, gf_48_21, gf_48_22, gf_48_25, gf_48_26, xp_48_22, xp_48_25, xp_48_26, ia_60, sa_60, ia_61, sa_61, ia_62, sa_62, ia_64, sa_64, ia_65, sa_65, w_vret r_Md_closes, q_eq, q_ne, q_lt, q_ge, q_gt, q_le, g_I, g_L, g_R, g_V, t_0, t_I, t_R, t_U, t_L, t_s, List.getElem?_cons_zero, List.getElem?_cons_succ, Nat.reduceAdd, zif10, zif01b, zib, if_pos, if_neg, ↓reduceIte, not_true_eq_false, not_false_eq_true, Bool.true_eq_false, Bool.false_eq_true, Classical.not_not, eq_self, and_self, and_true, true_and, Int.reduceEq, Int.reduceLE, Int.reduceLT, Int.reduceNeg, Option.toList, List.cons_append, List.nil_append, zup_s, zup_n, zst_s, zup_zs, zup_zn, decide_true, decide_false, c1]
    exact hend
  · have c1' : 0 < M1 48 22 := by omega
    rw [if_pos c1'] at hend
    by_cases c2 : en < 0
    · simp (disch := first | omega | exact Nat.le_of_ble_eq_true rfl | assumption | (simp only [Int.natCast_add, Int.natCast_mul, Int.cast_ofNat_Int]; omega) | decide) only [k_Md_closes_2, k_Md_closes_30, x_aload, w_dupI, w_dupR, x_getf, w_goto, w_fall, w_iadd, w_iconst, w_if, w_icmp, x_iload, x_istore, w_isub, zadd_eq, zsub_eq, gf_48_16, gf_48_17, gf_48_18, gf_48_20, gf_48_21, gf_48_22, gf_48_25, gf_48_26, xp_48_22, xp_48_25, xp_48_26, ia_60, sa_60, ia_61, sa_61, ia_62, sa_62, ia_64, sa_64, ia_65, sa_65, w_vret r_Md_closes, q_eq, q_ne, q_lt, q_ge, q_gt, q_le, g_I, g_L, g_R, g_V, t_0, t_I, t_R, t_U, t_L, t_s, List.getElem?_cons_zero, List.getElem?_cons_succ, Nat.reduceAdd, zif10, zif01b, zib, if_pos, if_neg, ↓reduceIte, not_true_eq_false, not_false_eq_true, Bool.true_eq_false, Bool.false_eq_true, Classical.not_not, eq_self, and_self, and_true, true_and, Int.reduceEq, Int.reduceLE, Int.reduceLT, Int.reduceNeg, Option.toList, List.cons_append, List.nil_append, zup_s, zup_n, zst_s, zup_zs, zup_zn, decide_true, decide_false, c1, c2, c1']
      exact hend
    · simp (disch := first | omega | exact Nat.le_of_ble_eq_true rfl | assumption | (simp only [Int.natCast_add, Int.natCast_mul, Int.cast_ofNat_Int]; omega) | decide) only [k_Md_closes_2, k_Md_closes_3, k_Md_closes_30, x_aload, w_dupI, w_dupR, x_getf, w_goto, w_fall, w_iadd, w_iconst, w_if, w_icmp, x_iload, x_istore, w_isub, zadd_eq, zsub_eq, gf_48_16, gf_48_17, gf_48_18, gf_48_20, gf_48_21, gf_48_22, gf_48_25, gf_48_26, xp_48_22, xp_48_25, xp_48_26, ia_60, sa_60, ia_61, sa_61, ia_62, sa_62, ia_64, sa_64, ia_65, sa_65, w_vret r_Md_closes, q_eq, q_ne, q_lt, q_ge, q_gt, q_le, g_I, g_L, g_R, g_V, t_0, t_I, t_R, t_U, t_L, t_s, List.getElem?_cons_zero, List.getElem?_cons_succ, Nat.reduceAdd, zif10, zif01b, zib, if_pos, if_neg, ↓reduceIte, not_true_eq_false, not_false_eq_true, Bool.true_eq_false, Bool.false_eq_true, Classical.not_not, eq_self, and_self, and_true, true_and, Int.reduceEq, Int.reduceLE, Int.reduceLT, Int.reduceNeg, Option.toList, List.cons_append, List.nil_append, zup_s, zup_n, zst_s, zup_zs, zup_zn, decide_true, decide_false, c1, c2, h26, c1']
      exact hend
/-- a part that has one within, at its end -/
theorem zCL_one {n m : Nat} {St : List (Nat × Bool)} {p' kd : Nat} {M1 : Nat → Int → Int} (hd : 3 ≤ d) (hE : zEn p' m ((n, false) :: St) M1) (hn : n < 24) (hD : St.length < 24) (hk : M1 60 n = (kd : Int)) (hkd : kd = 2 ∨ kd = 5 ∨ kd = 6 ∨ kd = 7 ∨ kd = 8) (hnext : zCL Ln d Q (n : Int) (zup (zup M1 61 n ((n : Int) + 1)) 48 22 (St.length : Int))) : zCL Ln d Q ((n : Int) + 1) M1 := by
  intro e1 v3 v4 v5 v6
  obtain ⟨h25, h26, h15, h22, ⟨h64, h65, _⟩, _⟩ := hE
  have h22' : M1 48 22 = (St.length : Int) + 1 := by rw [h22]; simp
  have c1 : ¬ ((St.length : Int) + 1 ≤ 0) := by omega
  have c2 : ¬ ((n : Int) + 1 < 0) := by omega
  have k1 : ¬ (kd : Int) = 10 := by omega
  have k2 : ¬ (kd : Int) = 3 := by omega
  have k3 : ¬ (kd : Int) = 4 := by omega
  have k4 : ¬ (kd : Int) = 9 := by omega
  rw [k_Md_closes_1]
  simp (disch := first | omega | exact Nat.le_of_ble_eq_true rfl | assumption | (simp only [Int.natCast_add, Int.natCast_mul, Int.cast_ofNat_Int]; omega) | decide) only [k_Md_closes_2, k_Md_closes_3, k_Md_closes_4, k_Md_closes_5, k_Md_closes_6, k_Md_closes_7, k_Md_closes_9, k_Md_closes_10, k_Md_closes_11, k_Md_closes_29, x_aload, w_dupI, w_dupR, x_getf, w_goto, w_fall, w_iadd, w_iconst, w_if, w_icmp, x_iload, x_istore, w_isub, zadd_eq, zsub_eq, gf_48_16, gf_48_17, gf_48_18, gf_48_20, gf_48_21, gf_48_22, gf_48_25, gf_48_26, xp_48_22, xp_48_25, xp_48_26, ia_60, sa_60, ia_61, sa_61, ia_62, sa_62, ia_64, sa_64, ia_65, sa_65, w_vret r_Md_closes, q_eq, q_ne, q_lt, q_ge, q_gt, q_le, g_I, g_L, g_R, g_V, t_0, t_I, t_R, t_U, t_L, t_s, List.getElem?_cons_zero, List.getElem?_cons_succ, Nat.reduceAdd, zif10, zif01b, zib, if_pos, if_neg, ↓reduceIte, not_true_eq_false, not_false_eq_true, Bool.true_eq_false, Bool.false_eq_true, Classical.not_not, eq_self, and_self, and_true, true_and, Int.reduceEq, Int.reduceLE, Int.reduceLT, Int.reduceNeg, Option.toList, List.cons_append, List.nil_append, zup_s, zup_n, zst_s, zup_zs, zup_zn, decide_true, decide_false, h22', c1, c2, h26, zsub_eq, Int.add_sub_cancel, h64, hk, k1, k2, k3, k4]
  exact hnext _ _ _ _ _
end RR
