/-! the reference: plans -/
/-- where the outermost has rounds, it holds where there is one -/
theorem zRd_iff {S P n : Nat} {mv tg : Nat → Nat → Nat} {lt kd lf rt gp : Nat → Nat} (hN : zNet S P mv tg) (hF : zForm P n kd lf rt gp) (h7 : 7 ≤ kd 0) {s : Nat} (hs : s < S) : zHp mv tg P lt kd lf rt gp 0 s = true ↔ zRd mv tg P lt kd lf rt gp s < 13 := by
  have hCg : zCg S (zCn mv tg P (zbit (gp 0 : Int))) := zcan_Cg hN _
  have hk9 := (hF.2.2 0 hF.1).1
  have hS := hN.2.1
  unfold zRd
  rw [← zrd_iff hs, zHp_eq hF hF.1]
  generalize zHp mv tg P lt kd lf rt gp (lf 0) = one
  generalize zHp mv tg P lt kd lf rt gp (rt 0) = two
  generalize zCn mv tg P (zbit (gp 0 : Int)) = C at hCg
  have e : kd 0 = 7 ∨ kd 0 = 8 ∨ kd 0 = 9 := by omega
  rcases e with e | e | e <;> rw [e]
  · have e1 : zJ C lt 7 (lf 0) one two = zUn C (fun _ => true) one 12 := by simp [zJ]
    rw [e1]; simp only [zJA, zJB, Nat.reduceEqDiff, if_true, if_false]
  · have e1 : zJ C lt 8 (lf 0) one two = zUn C one two 12 := by simp [zJ]
    rw [e1]; simp only [zJA, zJB, Nat.reduceEqDiff, if_true, if_false]
  · have e1 : zJ C lt 9 (lf 0) one two = zAg C one 13 := by simp [zJ]
    rw [e1]; simp only [zJA, zJB, Nat.reduceEqDiff, if_true, if_false]
    have e2 := zAg_stay (A := one) hCg 13 14 (Or.inr (by omega)) (by omega) s hs
    rw [← e2]
    exact Iff.rfl
theorem zleast_no {m t : Nat → Nat} (hm : zmOK m) (g : Nat → Bool) (P : Nat) {X : Nat → Bool} (hX : ∀ i, X i = false) : zleast m t g P X = zcnt m g P := zfst_none fun a _ => by
  unfold zinto
  cases e : zfa (zcnt m (znot g) P) fun b => X (t (zcomb m g P a b)) with
  | false => rfl
  | true => have := (zfa_iff _ _).mp e 0 (zcnt_pos hm (znot g) P); rw [hX] at this; cases this
section RE
variable {Ln S P n : Nat} {mv tg : Nat → Nat → Nat} {lt kd lf rt gp : Nat → Nat} {M : Nat → Int → Int} {g : Int}
theorem zkr_5 {k : Nat} (h : k ≤ 9) : (5 : Int) ≤ (zkr k : Int) ↔ 5 ≤ k := by
  unfold zkr; split
  · omega
  · split <;> omega
theorem F_Md_isOfGroup {d : Nat} (hF : zForm P n kd lf rt gp) (hFR : zFormR n kd lf rt gp M) (hd : 0 ≤ d) : zF (zSH Ln) d i_Md_isOfGroup [zR 48] M fun r M' => r = some (zI (if 5 ≤ kd 0 then 1 else 0)) ∧ M' = M := by
  rw [zF_en k_Md_isOfGroup_0 (L := [zR 48]) rfl]
  have g1 : M 56 0 = zkr (kd 0) := (hFR.2.1 0 hF.1).1
  have hk := zkr_5 (hF.2.2 0 hF.1).1
  by_cases h : 5 ≤ kd 0
  · have h' := hk.mpr h
    simp (disch := first | omega | exact Nat.le_of_ble_eq_true rfl | assumption | (simp only [Int.natCast_add, Int.natCast_mul, Int.cast_ofNat_Int]; omega) | decide) only [k_Md_isOfGroup_1, k_Md_isOfGroup_3, x_aload, x_getf, w_goto, w_fall, w_iconst, w_icmp, gf_48_11, ia_56, w_bret r_Md_isOfGroup, q_eq, q_ne, q_lt, q_ge, q_gt, q_le, g_I, g_L, g_R, g_V, t_0, t_I, t_R, t_U, t_L, t_s, List.getElem?_cons_zero, List.getElem?_cons_succ, Nat.reduceAdd, zif10, zif01b, zib, if_pos, if_neg, ↓reduceIte, not_true_eq_false, not_false_eq_true, Bool.true_eq_false, Bool.false_eq_true, Classical.not_not, eq_self, and_self, and_true, true_and, Int.reduceEq, Int.reduceLE, Int.reduceLT, Int.reduceNeg, Option.toList, List.cons_append, List.nil_append, zup_s, zup_n, zst_s, zup_zs, zup_zn, decide_true, decide_false, g1, h]
  · have h' : ¬ (5 : Int) ≤ (zkr (kd 0) : Int) := fun z => h (hk.mp z)
    simp (disch := first | omega | exact Nat.le_of_ble_eq_true rfl | assumption | (simp only [Int.natCast_add, Int.natCast_mul, Int.cast_ofNat_Int]; omega) | decide) only [k_Md_isOfGroup_2, k_Md_isOfGroup_3, x_aload, x_getf, w_goto, w_fall, w_iconst, w_icmp, gf_48_11, ia_56, w_bret r_Md_isOfGroup, q_eq, q_ne, q_lt, q_ge, q_gt, q_le, g_I, g_L, g_R, g_V, t_0, t_I, t_R, t_U, t_L, t_s, List.getElem?_cons_zero, List.getElem?_cons_succ, Nat.reduceAdd, zif10, zif01b, zib, if_pos, if_neg, ↓reduceIte, not_true_eq_false, not_false_eq_true, Bool.true_eq_false, Bool.false_eq_true, Classical.not_not, eq_self, and_self, and_true, true_and, Int.reduceEq, Int.reduceLE, Int.reduceLT, Int.reduceNeg, Option.toList, List.cons_append, List.nil_append, zup_s, zup_n, zst_s, zup_zs, zup_zn, decide_true, decide_false, g1, h]
theorem c_Md_isOfGroup {d mi o b9 : Nat} {es : List zEnt} {L st : List zMV} {Q : Option zMV → (Nat → Int → Int) → Prop} (hF : zForm P n kd lf rt gp) (hFR : zFormR n kd lf rt gp M) (hd : 0 + 1 ≤ d) (hc : zcats st ≤ 8) : zW (zSH Ln) d mi ((.invokevirtual o, 205, b9) :: es) L (zR 48 :: st) M Q = zW (zSH Ln) d mi es L (zI (if 5 ≤ kd 0 then 1 else 0) :: st) (M) Q :=
  c_virt (ps := []) (by omega) rfl rfl (by omega) (by exact sh_48 Ln) hc (Nat.le_of_ble_eq_true rfl) (F_Md_isOfGroup hF hFR (by omega))
theorem F_Md_hasRounds {d : Nat} (hF : zForm P n kd lf rt gp) (hFR : zFormR n kd lf rt gp M) (hd : 0 ≤ d) : zF (zSH Ln) d i_Md_hasRounds [zR 48] M fun r M' => r = some (zI (if 7 ≤ kd 0 then 1 else 0)) ∧ M' = M := by
  rw [zF_en k_Md_hasRounds_0 (L := [zR 48]) rfl]
  have g1 : M 56 0 = zkr (kd 0) := (hFR.2.1 0 hF.1).1
  have hk9 := (hF.2.2 0 hF.1).1
  by_cases h : 7 ≤ kd 0
  · have e : kd 0 = 7 ∨ kd 0 = 8 ∨ kd 0 = 9 := by omega
    rcases e with e | e | e <;> rw [e] at g1 ⊢
    · have g1 : M 56 0 = 7 := g1
      simp (disch := first | omega | exact Nat.le_of_ble_eq_true rfl | assumption | (simp only [Int.natCast_add, Int.natCast_mul, Int.cast_ofNat_Int]; omega) | decide) only [k_Md_hasRounds_3, k_Md_hasRounds_5, x_aload, x_getf, w_goto, w_fall, w_iconst, w_icmp, gf_48_11, ia_56, w_bret r_Md_hasRounds, q_eq, q_ne, q_lt, q_ge, q_gt, q_le, g_I, g_L, g_R, g_V, t_0, t_I, t_R, t_U, t_L, t_s, List.getElem?_cons_zero, List.getElem?_cons_succ, Nat.reduceAdd, zif10, zif01b, zib, if_pos, if_neg, ↓reduceIte, not_true_eq_false, not_false_eq_true, Bool.true_eq_false, Bool.false_eq_true, Classical.not_not, eq_self, and_self, and_true, true_and, Int.reduceEq, Int.reduceLE, Int.reduceLT, Int.reduceNeg, Option.toList, List.cons_append, List.nil_append, zup_s, zup_n, zst_s, zup_zs, zup_zn, decide_true, decide_false, g1, Nat.reduceLeDiff]
    · have g1 : M 56 0 = 9 := g1
      simp (disch := first | omega | exact Nat.le_of_ble_eq_true rfl | assumption | (simp only [Int.natCast_add, Int.natCast_mul, Int.cast_ofNat_Int]; omega) | decide) only [k_Md_hasRounds_1, k_Md_hasRounds_2, k_Md_hasRounds_3, k_Md_hasRounds_5, x_aload, x_getf, w_goto, w_fall, w_iconst, w_icmp, gf_48_11, ia_56, w_bret r_Md_hasRounds, q_eq, q_ne, q_lt, q_ge, q_gt, q_le, g_I, g_L, g_R, g_V, t_0, t_I, t_R, t_U, t_L, t_s, List.getElem?_cons_zero, List.getElem?_cons_succ, Nat.reduceAdd, zif10, zif01b, zib, if_pos, if_neg, ↓reduceIte, not_true_eq_false, not_false_eq_true, Bool.true_eq_false, Bool.false_eq_true, Classical.not_not, eq_self, and_self, and_true, true_and, Int.reduceEq, Int.reduceLE, Int.reduceLT, Int.reduceNeg, Option.toList, List.cons_append, List.nil_append, zup_s, zup_n, zst_s, zup_zs, zup_zn, decide_true, decide_false, g1, Nat.reduceLeDiff]
    · have g1 : M 56 0 = 8 := g1
      simp (disch := first | omega | exact Nat.le_of_ble_eq_true rfl | assumption | (simp only [Int.natCast_add, Int.natCast_mul, Int.cast_ofNat_Int]; omega) | decide) only [k_Md_hasRounds_1, k_Md_hasRounds_3, k_Md_hasRounds_5, x_aload, x_getf, w_goto, w_fall, w_iconst, w_icmp, gf_48_11, ia_56, w_bret r_Md_hasRounds, q_eq, q_ne, q_lt, q_ge, q_gt, q_le, g_I, g_L, g_R, g_V, t_0, t_I, t_R, t_U, t_L, t_s, List.getElem?_cons_zero, List.getElem?_cons_succ, Nat.reduceAdd, zif10, zif01b, zib, if_pos, if_neg, ↓reduceIte, not_true_eq_false, not_false_eq_true, Bool.true_eq_false, Bool.false_eq_true, Classical.not_not, eq_self, and_self, and_true, true_and, Int.reduceEq, Int.reduceLE, Int.reduceLT, Int.reduceNeg, Option.toList, List.cons_append, List.nil_append, zup_s, zup_n, zst_s, zup_zs, zup_zn, decide_true, decide_false, g1, Nat.reduceLeDiff]
  · have h1 : (zkr (kd 0) : Int) < 7 := by unfold zkr; rw [if_neg (by omega), if_neg (by omega)]; omega
    simp (disch := first | omega | exact Nat.le_of_ble_eq_true rfl | assumption | (simp only [Int.natCast_add, Int.natCast_mul, Int.cast_ofNat_Int]; omega) | decide) only [k_Md_hasRounds_1, k_Md_hasRounds_2, k_Md_hasRounds_4, k_Md_hasRounds_5, x_aload, x_getf, w_goto, w_fall, w_iconst, w_icmp, gf_48_11, ia_56, w_bret r_Md_hasRounds, q_eq, q_ne, q_lt, q_ge, q_gt, q_le, g_I, g_L, g_R, g_V, t_0, t_I, t_R, t_U, t_L, t_s, List.getElem?_cons_zero, List.getElem?_cons_succ, Nat.reduceAdd, zif10, zif01b, zib, if_pos, if_neg, ↓reduceIte, not_true_eq_false, not_false_eq_true, Bool.true_eq_false, Bool.false_eq_true, Classical.not_not, eq_self, and_self, and_true, true_and, Int.reduceEq, Int.reduceLE, Int.reduceLT, Int.reduceNeg, Option.toList, List.cons_append, List.nil_append, zup_s, zup_n, zst_s, zup_zs, zup_zn, decide_true, decide_false, g1, h]
theorem c_Md_hasRounds {d mi o b9 : Nat} {es : List zEnt} {L st : List zMV} {Q : Option zMV → (Nat → Int → Int) → Prop} (hF : zForm P n kd lf rt gp) (hFR : zFormR n kd lf rt gp M) (hd : 0 + 1 ≤ d) (hc : zcats st ≤ 8) : zW (zSH Ln) d mi ((.invokevirtual o, 206, b9) :: es) L (zR 48 :: st) M Q = zW (zSH Ln) d mi es L (zI (if 7 ≤ kd 0 then 1 else 0) :: st) (M) Q :=
  c_virt (ps := []) (by omega) rfl rfl (by omega) (by exact sh_48 Ln) hc (Nat.le_of_ble_eq_true rfl) (F_Md_hasRounds hF hFR (by omega))
theorem F_Md_aim {d : Nat} {s : Nat} (hN : zNet S P mv tg) (hR : zNetR S P mv tg M) (hL : zLetR lt M) (hlt : ∀ s, lt s < 256) (hF : zForm P n kd lf rt gp) (hFR : zFormR n kd lf rt gp M) (h5 : 5 ≤ kd 0) (hs : s < S) (hd : 8 ≤ d) : zF (zSH Ln) d i_Md_aim [zR 48, zI (s : Int)] M fun r M' => r = some (zI (if zHp mv tg P lt kd lf rt gp 0 s = true ∧ ¬ ((kd 0 = 7 ∨ kd 0 = 8) ∧ zRd mv tg P lt kd lf rt gp s = 0) then zset S (zAim (kd 0) (zHp mv tg P lt kd lf rt gp (lf 0)) (zHp mv tg P lt kd lf rt gp 0) (zRd mv tg P lt kd lf rt gp) s) else -1)) ∧ ∃ H R, M' = zst (zst M 67 H) 68 R ∧ zLawR S P n mv tg lt kd lf rt gp M' := by
  rw [zF_en k_Md_aim_0 (L := [zR 48, zI (s : Int), zU, zU, zU]) rfl]
  have hn := hF.1
  have hn2 := hF.2.1
  have hS := hN.2.1
  obtain ⟨f1, f2, f3, f4, f5⟩ := hF.2.2 0 hn
  obtain ⟨g1, g2, g3, g4⟩ := hFR.2.1 0 hn
  have f3 := f3 (by omega)
  have g2 := g2 (by omega)
  simp only [show ((0 : Nat) : Int) = 0 from rfl] at g1 g2
  simp (disch := first | omega | exact Nat.le_of_ble_eq_true rfl | assumption | (simp only [Int.natCast_add, Int.natCast_mul, Int.cast_ofNat_Int]; omega) | decide) only [x_aload, x_getf, w_goto, w_fall, w_iand, w_iconst, w_if, w_icmp, x_iinc, x_iload, w_ior, w_ishl, w_ishr, x_istore, zadd_eq, gf_48_0, gf_48_11, gf_48_12, gf_48_27, gf_48_28, ia_56, ia_57, ia_67, ia_68, w_nret r_Md_aim, q_eq, q_ne, q_lt, q_ge, q_gt, q_le, g_I, g_L, g_R, g_V, t_0, t_I, t_R, t_U, t_L, t_s, List.getElem?_cons_zero, List.getElem?_cons_succ, Nat.reduceAdd, zif10, zif01b, zib, if_pos, if_neg, ↓reduceIte, not_true_eq_false, not_false_eq_true, Bool.true_eq_false, Bool.false_eq_true, Classical.not_not, eq_self, and_self, and_true, true_and, Int.reduceEq, Int.reduceLE, Int.reduceLT, Int.reduceNeg, Option.toList, List.cons_append, List.nil_append, zup_s, zup_n, zst_s, zup_zs, zup_zn, decide_true, decide_false]
  refine c_Md_tell hN hR hL hlt hF hFR (by omega) (Nat.le_of_ble_eq_true rfl) ?_
  rintro _ _ ⟨rfl, H, R, rfl, hW⟩
  have hW1 : H (lf 0 : Int) = zset S (zHp mv tg P lt kd lf rt gp (lf 0)) := hW.1 (lf 0) f3.2
  have hW2 : 7 ≤ kd 0 → ∀ s : Nat, s < S → R (s : Int) = zneg4 (zRd mv tg P lt kd lf rt gp s) := hW.2
  have hend : ∃ H1 R1, zst (zst M 67 H) 68 R = zst (zst M 67 H1) 68 R1 ∧ zLawR S P n mv tg lt kd lf rt gp (zst (zst M 67 H) 68 R) := ⟨H, R, rfl, hW⟩
  have hiff : 7 ≤ kd 0 → (zHp mv tg P lt kd lf rt gp 0 s = true → zRd mv tg P lt kd lf rt gp s < 13) := fun h h2 => (zRd_iff hN hF h hs).mp h2
  generalize zHp mv tg P lt kd lf rt gp (lf 0) = one at *
  generalize zHp mv tg P lt kd lf rt gp 0 = whole at *
  generalize zRd mv tg P lt kd lf rt gp = Q at *
  generalize hans : (if whole s = true ∧ ¬ ((kd 0 = 7 ∨ kd 0 = 8) ∧ Q s = 0) then zset S (zAim (kd 0) one whole Q s) else -1) = ans
  by_cases hw : whole s = true
  rotate_left
  · have hwf : whole s = false := by simpa using hw
    have ha : ans = -1 := by rw [← hans, if_neg (fun z => hw z.1)]
    simp (disch := first | omega | exact Nat.le_of_ble_eq_true rfl | assumption | (simp only [Int.natCast_add, Int.natCast_mul, Int.cast_ofNat_Int]; omega) | decide) only [k_Md_aim_1, x_aload, x_getf, w_goto, w_fall, w_iand, w_iconst, w_if, w_icmp, x_iinc, x_iload, w_ior, w_ishl, w_ishr, x_istore, zadd_eq, gf_48_0, gf_48_11, gf_48_12, gf_48_27, gf_48_28, ia_56, ia_57, ia_67, ia_68, w_nret r_Md_aim, q_eq, q_ne, q_lt, q_ge, q_gt, q_le, g_I, g_L, g_R, g_V, t_0, t_I, t_R, t_U, t_L, t_s, List.getElem?_cons_zero, List.getElem?_cons_succ, Nat.reduceAdd, zif10, zif01b, zib, if_pos, if_neg, ↓reduceIte, not_true_eq_false, not_false_eq_true, Bool.true_eq_false, Bool.false_eq_true, Classical.not_not, eq_self, and_self, and_true, true_and, Int.reduceEq, Int.reduceLE, Int.reduceLT, Int.reduceNeg, Option.toList, List.cons_append, List.nil_append, zup_s, zup_n, zst_s, zup_zs, zup_zn, decide_true, decide_false, zset_has, hwf, ha]
    exact hend
  · -- it holds there
    have less : 7 ≤ kd 0 → ¬ kd 0 = 5 → ¬ (kd 0 = 6 ∨ kd 0 = 9 ∧ Q s = 0) → zW (zSH Ln) d i_Md_aim (zblk i_Md_aim 8) [zR 48, zI s, zI (zset S whole), zU, zU] [] (zst (zst M 67 H) 68 R) fun r M' => r = some (zI ans) ∧ ∃ H R, M' = zst (zst M 67 H) 68 R ∧ zLawR S P n mv tg lt kd lf rt gp M' := by
      intro h7 n5 n69
      have hRs := hW2 h7
      have hq := hiff h7 hw
      have hrs : R (s : Int) = (Q s : Int) := by rw [hRs s hs, zneg4, if_pos hq]
      have hA : zAim (kd 0) one whole Q s = fun t => decide (Q t < 13) && decide (Q t < Q s) := by unfold zAim; rw [if_neg n5, if_neg n69]
      rw [k_Md_aim_8]
      simp (disch := first | omega | exact Nat.le_of_ble_eq_true rfl | assumption | (simp only [Int.natCast_add, Int.natCast_mul, Int.cast_ofNat_Int]; omega) | decide) only [x_aload, x_getf, w_goto, w_fall, w_iand, w_iconst, w_if, w_icmp, x_iinc, x_iload, w_ior, w_ishl, w_ishr, x_istore, zadd_eq, gf_48_0, gf_48_11, gf_48_12, gf_48_27, gf_48_28, ia_56, ia_57, ia_67, ia_68, w_nret r_Md_aim, q_eq, q_ne, q_lt, q_ge, q_gt, q_le, g_I, g_L, g_R, g_V, t_0, t_I, t_R, t_U, t_L, t_s, List.getElem?_cons_zero, List.getElem?_cons_succ, Nat.reduceAdd, zif10, zif01b, zib, if_pos, if_neg, ↓reduceIte, not_true_eq_false, not_false_eq_true, Bool.true_eq_false, Bool.false_eq_true, Classical.not_not, eq_self, and_self, and_true, true_and, Int.reduceEq, Int.reduceLE, Int.reduceLT, Int.reduceNeg, Option.toList, List.cons_append, List.nil_append, zup_s, zup_n, zst_s, zup_zs, zup_zn, decide_true, decide_false]
      refine zfor (a := 0) (N := S) (b := 9) (fun p L0 M0 => L0 = [zR 48, zI s, zI (zset S whole), zI (zset S fun t => decide (t < p) && (decide (Q t < 13) && decide (Q t < Q s))), zI (p : Int)] ∧ M0 = zst (zst M 67 H) 68 R) ?_ ?_ ?_ ?_
      · exact Nat.zero_le _
      · exact ⟨by simp [zset_none], rfl⟩
      · rintro p _ _ _ hp ⟨rfl, rfl⟩ ih
        have nx : ∀ b : Bool, b = (decide (Q p < 13) && decide (Q p < Q s)) → (zset S fun t => decide (t < p + 1) && (decide (Q t < 13) && decide (Q t < Q s))) = zset S fun t => (decide (t < p) && (decide (Q t < 13) && decide (Q t < Q s))) || (b && decide (t = p)) := by
          intro b hb
          refine zset_cong fun i hi => ?_
          by_cases e : i = p
          · subst e; simp [hb]
          · simp [e, show (i < p + 1) ↔ (i < p) by omega]
        have hRp := hRs p hp
        rw [k_Md_aim_9]
        by_cases h1 : Q p < 13
        · rw [zneg4, if_pos h1] at hRp
          by_cases h2 : Q p < Q s
          · simp (disch := first | omega | exact Nat.le_of_ble_eq_true rfl | assumption | (simp only [Int.natCast_add, Int.natCast_mul, Int.cast_ofNat_Int]; omega) | decide) only [k_Md_aim_10, k_Md_aim_11, k_Md_aim_12, k_Md_aim_14, x_aload, x_getf, w_goto, w_fall, w_iand, w_iconst, w_if, w_icmp, x_iinc, x_iload, w_ior, w_ishl, w_ishr, x_istore, zadd_eq, gf_48_0, gf_48_11, gf_48_12, gf_48_27, gf_48_28, ia_56, ia_57, ia_67, ia_68, w_nret r_Md_aim, q_eq, q_ne, q_lt, q_ge, q_gt, q_le, g_I, g_L, g_R, g_V, t_0, t_I, t_R, t_U, t_L, t_s, List.getElem?_cons_zero, List.getElem?_cons_succ, Nat.reduceAdd, zif10, zif01b, zib, if_pos, if_neg, ↓reduceIte, not_true_eq_false, not_false_eq_true, Bool.true_eq_false, Bool.false_eq_true, Classical.not_not, eq_self, and_self, and_true, true_and, Int.reduceEq, Int.reduceLE, Int.reduceLT, Int.reduceNeg, Option.toList, List.cons_append, List.nil_append, zup_s, zup_n, zst_s, zup_zs, zup_zn, decide_true, decide_false, hR.1, zst_n, zst_s, hRp, hrs, zset_up]
            refine ih _ _ ⟨?_, rfl⟩
            rw [nx true (by simp [h1, h2])]
            simp
          · simp (disch := first | omega | exact Nat.le_of_ble_eq_true rfl | assumption | (simp only [Int.natCast_add, Int.natCast_mul, Int.cast_ofNat_Int]; omega) | decide) only [k_Md_aim_10, k_Md_aim_11, k_Md_aim_13, k_Md_aim_14, x_aload, x_getf, w_goto, w_fall, w_iand, w_iconst, w_if, w_icmp, x_iinc, x_iload, w_ior, w_ishl, w_ishr, x_istore, zadd_eq, gf_48_0, gf_48_11, gf_48_12, gf_48_27, gf_48_28, ia_56, ia_57, ia_67, ia_68, w_nret r_Md_aim, q_eq, q_ne, q_lt, q_ge, q_gt, q_le, g_I, g_L, g_R, g_V, t_0, t_I, t_R, t_U, t_L, t_s, List.getElem?_cons_zero, List.getElem?_cons_succ, Nat.reduceAdd, zif10, zif01b, zib, if_pos, if_neg, ↓reduceIte, not_true_eq_false, not_false_eq_true, Bool.true_eq_false, Bool.false_eq_true, Classical.not_not, eq_self, and_self, and_true, true_and, Int.reduceEq, Int.reduceLE, Int.reduceLT, Int.reduceNeg, Option.toList, List.cons_append, List.nil_append, zup_s, zup_n, zst_s, zup_zs, zup_zn, decide_true, decide_false, hR.1, zst_n, zst_s, hRp, hrs, zor_z]
            refine ih _ _ ⟨?_, rfl⟩
            rw [nx false (by simp [h1, h2])]
            simp
        · rw [zneg4, if_neg h1] at hRp
          simp (disch := first | omega | exact Nat.le_of_ble_eq_true rfl | assumption | (simp only [Int.natCast_add, Int.natCast_mul, Int.cast_ofNat_Int]; omega) | decide) only [k_Md_aim_10, k_Md_aim_13, k_Md_aim_14, x_aload, x_getf, w_goto, w_fall, w_iand, w_iconst, w_if, w_icmp, x_iinc, x_iload, w_ior, w_ishl, w_ishr, x_istore, zadd_eq, gf_48_0, gf_48_11, gf_48_12, gf_48_27, gf_48_28, ia_56, ia_57, ia_67, ia_68, w_nret r_Md_aim, q_eq, q_ne, q_lt, q_ge, q_gt, q_le, g_I, g_L, g_R, g_V, t_0, t_I, t_R, t_U, t_L, t_s, List.getElem?_cons_zero, List.getElem?_cons_succ, Nat.reduceAdd, zif10, zif01b, zib, if_pos, if_neg, ↓reduceIte, not_true_eq_false, not_false_eq_true, Bool.true_eq_false, Bool.false_eq_true, Classical.not_not, eq_self, and_self, and_true, true_and, Int.reduceEq, Int.reduceLE, Int.reduceLT, Int.reduceNeg, Option.toList, List.cons_append, List.nil_append, zup_s, zup_n, zst_s, zup_zs, zup_zn, decide_true, decide_false, hR.1, zst_n, zst_s, hRp, zor_z]
          refine ih _ _ ⟨?_, rfl⟩
          rw [nx false (by simp [h1])]
          simp
      · rintro _ _ ⟨rfl, rfl⟩
        have eq1 : (zset S fun t => decide (t < S) && (decide (Q t < 13) && decide (Q t < Q s))) = zset S (zAim (kd 0) one whole Q s) := by
          rw [hA]; exact zset_cong fun i hi => by simp [hi]
        rw [k_Md_aim_9]
        by_cases hz : Q s = 0
        · have hz' : ((Q s : Nat) : Int) = 0 := by omega
          have hc : ¬ (whole s = true ∧ ¬ ((kd 0 = 7 ∨ kd 0 = 8) ∧ Q s = 0)) := fun z => z.2 ⟨by have := fun e => n69 (Or.inr ⟨e, hz⟩); omega, hz⟩
          have ha : ans = -1 := by rw [← hans, if_neg hc]
          simp (disch := first | omega | exact Nat.le_of_ble_eq_true rfl | assumption | (simp only [Int.natCast_add, Int.natCast_mul, Int.cast_ofNat_Int]; omega) | decide) only [k_Md_aim_15, k_Md_aim_16, k_Md_aim_18, x_aload, x_getf, w_goto, w_fall, w_iand, w_iconst, w_if, w_icmp, x_iinc, x_iload, w_ior, w_ishl, w_ishr, x_istore, zadd_eq, gf_48_0, gf_48_11, gf_48_12, gf_48_27, gf_48_28, ia_56, ia_57, ia_67, ia_68, w_nret r_Md_aim, q_eq, q_ne, q_lt, q_ge, q_gt, q_le, g_I, g_L, g_R, g_V, t_0, t_I, t_R, t_U, t_L, t_s, List.getElem?_cons_zero, List.getElem?_cons_succ, Nat.reduceAdd, zif10, zif01b, zib, if_pos, if_neg, ↓reduceIte, not_true_eq_false, not_false_eq_true, Bool.true_eq_false, Bool.false_eq_true, Classical.not_not, eq_self, and_self, and_true, true_and, Int.reduceEq, Int.reduceLE, Int.reduceLT, Int.reduceNeg, Option.toList, List.cons_append, List.nil_append, zup_s, zup_n, zst_s, zup_zs, zup_zn, decide_true, decide_false, hR.1, zst_n, zst_s, hrs, hz', ha]
          exact hend
        · have hz' : ¬ ((Q s : Nat) : Int) = 0 := by omega
          have hc : whole s = true ∧ ¬ ((kd 0 = 7 ∨ kd 0 = 8) ∧ Q s = 0) := ⟨hw, fun z => hz z.2⟩
          have ha : ans = zset S (zAim (kd 0) one whole Q s) := by rw [← hans, if_pos hc]
          simp (disch := first | omega | exact Nat.le_of_ble_eq_true rfl | assumption | (simp only [Int.natCast_add, Int.natCast_mul, Int.cast_ofNat_Int]; omega) | decide) only [k_Md_aim_15, k_Md_aim_17, k_Md_aim_18, x_aload, x_getf, w_goto, w_fall, w_iand, w_iconst, w_if, w_icmp, x_iinc, x_iload, w_ior, w_ishl, w_ishr, x_istore, zadd_eq, gf_48_0, gf_48_11, gf_48_12, gf_48_27, gf_48_28, ia_56, ia_57, ia_67, ia_68, w_nret r_Md_aim, q_eq, q_ne, q_lt, q_ge, q_gt, q_le, g_I, g_L, g_R, g_V, t_0, t_I, t_R, t_U, t_L, t_s, List.getElem?_cons_zero, List.getElem?_cons_succ, Nat.reduceAdd, zif10, zif01b, zib, if_pos, if_neg, ↓reduceIte, not_true_eq_false, not_false_eq_true, Bool.true_eq_false, Bool.false_eq_true, Classical.not_not, eq_self, and_self, and_true, true_and, Int.reduceEq, Int.reduceLE, Int.reduceLT, Int.reduceNeg, Option.toList, List.cons_append, List.nil_append, zup_s, zup_n, zst_s, zup_zs, zup_zn, decide_true, decide_false, hR.1, zst_n, zst_s, hrs, hz', eq1, ha]
          exact hend
    have e : kd 0 = 5 ∨ kd 0 = 6 ∨ kd 0 = 7 ∨ kd 0 = 8 ∨ kd 0 = 9 := by omega
    rcases e with e | e | e | e | e
    · have g1 : M 56 0 = 5 := by rw [g1, e]; rfl
      have hc : whole s = true ∧ ¬ ((kd 0 = 7 ∨ kd 0 = 8) ∧ Q s = 0) := ⟨hw, fun z => by omega⟩
      have ha : ans = zset S one := by rw [← hans, if_pos hc, show zAim (kd 0) one whole Q s = one by unfold zAim; rw [if_pos e]]
      simp (disch := first | omega | exact Nat.le_of_ble_eq_true rfl | assumption | (simp only [Int.natCast_add, Int.natCast_mul, Int.cast_ofNat_Int]; omega) | decide) only [k_Md_aim_2, k_Md_aim_3, x_aload, x_getf, w_goto, w_fall, w_iand, w_iconst, w_if, w_icmp, x_iinc, x_iload, w_ior, w_ishl, w_ishr, x_istore, zadd_eq, gf_48_0, gf_48_11, gf_48_12, gf_48_27, gf_48_28, ia_56, ia_57, ia_67, ia_68, w_nret r_Md_aim, q_eq, q_ne, q_lt, q_ge, q_gt, q_le, g_I, g_L, g_R, g_V, t_0, t_I, t_R, t_U, t_L, t_s, List.getElem?_cons_zero, List.getElem?_cons_succ, Nat.reduceAdd, zif10, zif01b, zib, if_pos, if_neg, ↓reduceIte, not_true_eq_false, not_false_eq_true, Bool.true_eq_false, Bool.false_eq_true, Classical.not_not, eq_self, and_self, and_true, true_and, Int.reduceEq, Int.reduceLE, Int.reduceLT, Int.reduceNeg, Option.toList, List.cons_append, List.nil_append, zup_s, zup_n, zst_s, zup_zs, zup_zn, decide_true, decide_false, zset_has, hw, zst_n, zst_s, g1, g2, hW1, ha]
      exact hend
    · have g1 : M 56 0 = 6 := by rw [g1, e]; rfl
      have hc : whole s = true ∧ ¬ ((kd 0 = 7 ∨ kd 0 = 8) ∧ Q s = 0) := ⟨hw, fun z => by omega⟩
      have ha : ans = zset S whole := by rw [← hans, if_pos hc, show zAim (kd 0) one whole Q s = whole by unfold zAim; rw [if_neg (by omega), if_pos (Or.inl e)]]
      simp (disch := first | omega | exact Nat.le_of_ble_eq_true rfl | assumption | (simp only [Int.natCast_add, Int.natCast_mul, Int.cast_ofNat_Int]; omega) | decide) only [k_Md_aim_2, k_Md_aim_4, k_Md_aim_7, x_aload, x_getf, w_goto, w_fall, w_iand, w_iconst, w_if, w_icmp, x_iinc, x_iload, w_ior, w_ishl, w_ishr, x_istore, zadd_eq, gf_48_0, gf_48_11, gf_48_12, gf_48_27, gf_48_28, ia_56, ia_57, ia_67, ia_68, w_nret r_Md_aim, q_eq, q_ne, q_lt, q_ge, q_gt, q_le, g_I, g_L, g_R, g_V, t_0, t_I, t_R, t_U, t_L, t_s, List.getElem?_cons_zero, List.getElem?_cons_succ, Nat.reduceAdd, zif10, zif01b, zib, if_pos, if_neg, ↓reduceIte, not_true_eq_false, not_false_eq_true, Bool.true_eq_false, Bool.false_eq_true, Classical.not_not, eq_self, and_self, and_true, true_and, Int.reduceEq, Int.reduceLE, Int.reduceLT, Int.reduceNeg, Option.toList, List.cons_append, List.nil_append, zup_s, zup_n, zst_s, zup_zs, zup_zn, decide_true, decide_false, zset_has, hw, zst_n, zst_s, g1, ha]
      exact hend
    · have g1 : M 56 0 = 7 := by rw [g1, e]; rfl
      have := less (by omega) (by omega) (by omega)
      simp (disch := first | omega | exact Nat.le_of_ble_eq_true rfl | assumption | (simp only [Int.natCast_add, Int.natCast_mul, Int.cast_ofNat_Int]; omega) | decide) only [k_Md_aim_2, k_Md_aim_4, k_Md_aim_5, x_aload, x_getf, w_goto, w_fall, w_iand, w_iconst, w_if, w_icmp, x_iinc, x_iload, w_ior, w_ishl, w_ishr, x_istore, zadd_eq, gf_48_0, gf_48_11, gf_48_12, gf_48_27, gf_48_28, ia_56, ia_57, ia_67, ia_68, w_nret r_Md_aim, q_eq, q_ne, q_lt, q_ge, q_gt, q_le, g_I, g_L, g_R, g_V, t_0, t_I, t_R, t_U, t_L, t_s, List.getElem?_cons_zero, List.getElem?_cons_succ, Nat.reduceAdd, zif10, zif01b, zib, if_pos, if_neg, ↓reduceIte, not_true_eq_false, not_false_eq_true, Bool.true_eq_false, Bool.false_eq_true, Classical.not_not, eq_self, and_self, and_true, true_and, Int.reduceEq, Int.reduceLE, Int.reduceLT, Int.reduceNeg, Option.toList, List.cons_append, List.nil_append, zup_s, zup_n, zst_s, zup_zs, zup_zn, decide_true, decide_false, zset_has, hw, zst_n, zst_s, g1]
      exact this
    · have g1 : M 56 0 = 9 := by rw [g1, e]; rfl
      have := less (by omega) (by omega) (by omega)
      simp (disch := first | omega | exact Nat.le_of_ble_eq_true rfl | assumption | (simp only [Int.natCast_add, Int.natCast_mul, Int.cast_ofNat_Int]; omega) | decide) only [k_Md_aim_2, k_Md_aim_4, k_Md_aim_5, x_aload, x_getf, w_goto, w_fall, w_iand, w_iconst, w_if, w_icmp, x_iinc, x_iload, w_ior, w_ishl, w_ishr, x_istore, zadd_eq, gf_48_0, gf_48_11, gf_48_12, gf_48_27, gf_48_28, ia_56, ia_57, ia_67, ia_68, w_nret r_Md_aim, q_eq, q_ne, q_lt, q_ge, q_gt, q_le, g_I, g_L, g_R, g_V, t_0, t_I, t_R, t_U, t_L, t_s, List.getElem?_cons_zero, List.getElem?_cons_succ, Nat.reduceAdd, zif10, zif01b, zib, if_pos, if_neg, ↓reduceIte, not_true_eq_false, not_false_eq_true, Bool.true_eq_false, Bool.false_eq_true, Classical.not_not, eq_self, and_self, and_true, true_and, Int.reduceEq, Int.reduceLE, Int.reduceLT, Int.reduceNeg, Option.toList, List.cons_append, List.nil_append, zup_s, zup_n, zst_s, zup_zs, zup_zn, decide_true, decide_false, zset_has, hw, zst_n, zst_s, g1]
      exact this
    · have g1 : M 56 0 = 8 := by rw [g1, e]; rfl
      have hrs : R (s : Int) = (Q s : Int) := by rw [hW2 (by omega) s hs, zneg4, if_pos (hiff (by omega) hw)]
      by_cases hz : Q s = 0
      · have hz' : ((Q s : Nat) : Int) = 0 := by omega
        have hc : whole s = true ∧ ¬ ((kd 0 = 7 ∨ kd 0 = 8) ∧ Q s = 0) := ⟨hw, fun z => by omega⟩
        have ha : ans = zset S whole := by rw [← hans, if_pos hc, show zAim (kd 0) one whole Q s = whole by unfold zAim; rw [if_neg (by omega), if_pos (Or.inr ⟨e, hz⟩)]]
        simp (disch := first | omega | exact Nat.le_of_ble_eq_true rfl | assumption | (simp only [Int.natCast_add, Int.natCast_mul, Int.cast_ofNat_Int]; omega) | decide) only [k_Md_aim_2, k_Md_aim_4, k_Md_aim_5, k_Md_aim_6, k_Md_aim_7, x_aload, x_getf, w_goto, w_fall, w_iand, w_iconst, w_if, w_icmp, x_iinc, x_iload, w_ior, w_ishl, w_ishr, x_istore, zadd_eq, gf_48_0, gf_48_11, gf_48_12, gf_48_27, gf_48_28, ia_56, ia_57, ia_67, ia_68, w_nret r_Md_aim, q_eq, q_ne, q_lt, q_ge, q_gt, q_le, g_I, g_L, g_R, g_V, t_0, t_I, t_R, t_U, t_L, t_s, List.getElem?_cons_zero, List.getElem?_cons_succ, Nat.reduceAdd, zif10, zif01b, zib, if_pos, if_neg, ↓reduceIte, not_true_eq_false, not_false_eq_true, Bool.true_eq_false, Bool.false_eq_true, Classical.not_not, eq_self, and_self, and_true, true_and, Int.reduceEq, Int.reduceLE, Int.reduceLT, Int.reduceNeg, Option.toList, List.cons_append, List.nil_append, zup_s, zup_n, zst_s, zup_zs, zup_zn, decide_true, decide_false, zset_has, hw, zst_n, zst_s, g1, hrs, hz', ha]
        exact hend
      · have hz' : ¬ ((Q s : Nat) : Int) = 0 := by omega
        have := less (by omega) (by omega) (fun z => by omega)
        simp (disch := first | omega | exact Nat.le_of_ble_eq_true rfl | assumption | (simp only [Int.natCast_add, Int.natCast_mul, Int.cast_ofNat_Int]; omega) | decide) only [k_Md_aim_2, k_Md_aim_4, k_Md_aim_5, k_Md_aim_6, x_aload, x_getf, w_goto, w_fall, w_iand, w_iconst, w_if, w_icmp, x_iinc, x_iload, w_ior, w_ishl, w_ishr, x_istore, zadd_eq, gf_48_0, gf_48_11, gf_48_12, gf_48_27, gf_48_28, ia_56, ia_57, ia_67, ia_68, w_nret r_Md_aim, q_eq, q_ne, q_lt, q_ge, q_gt, q_le, g_I, g_L, g_R, g_V, t_0, t_I, t_R, t_U, t_L, t_s, List.getElem?_cons_zero, List.getElem?_cons_succ, Nat.reduceAdd, zif10, zif01b, zib, if_pos, if_neg, ↓reduceIte, not_true_eq_false, not_false_eq_true, Bool.true_eq_false, Bool.false_eq_true, Classical.not_not, eq_self, and_self, and_true, true_and, Int.reduceEq, Int.reduceLE, Int.reduceLT, Int.reduceNeg, Option.toList, List.cons_append, List.nil_append, zup_s, zup_n, zst_s, zup_zs, zup_zn, decide_true, decide_false, zset_has, hw, zst_n, zst_s, g1, hrs, hz']
        exact this
theorem c_Md_aim {d mi o b9 : Nat} {es : List zEnt} {L st : List zMV} {Q : Option zMV → (Nat → Int → Int) → Prop} {s : Nat} (hN : zNet S P mv tg) (hR : zNetR S P mv tg M) (hL : zLetR lt M) (hlt : ∀ s, lt s < 256) (hF : zForm P n kd lf rt gp) (hFR : zFormR n kd lf rt gp M) (h5 : 5 ≤ kd 0) (hs : s < S) (hd : 8 + 1 ≤ d) (hc : zcats st ≤ 8) (hpost : ∀ r M', (r = some (zI (if zHp mv tg P lt kd lf rt gp 0 s = true ∧ ¬ ((kd 0 = 7 ∨ kd 0 = 8) ∧ zRd mv tg P lt kd lf rt gp s = 0) then zset S (zAim (kd 0) (zHp mv tg P lt kd lf rt gp (lf 0)) (zHp mv tg P lt kd lf rt gp 0) (zRd mv tg P lt kd lf rt gp) s) else -1)) ∧ ∃ H R, M' = zst (zst M 67 H) 68 R ∧ zLawR S P n mv tg lt kd lf rt gp M') → zW (zSH Ln) d mi es L (r.toList ++ st) M' Q) : zW (zSH Ln) d mi ((.invokevirtual o, 208, b9) :: es) L (zI (s : Int) :: zR 48 :: st) M Q :=
  w_callv (ps := [zI (s : Int)]) (by omega) rfl rfl (by omega) (by exact sh_48 Ln) hc (Nat.le_of_ble_eq_true rfl) (F_Md_aim hN hR hL hlt hF hFR h5 hs (by omega)) hpost
theorem F_Md_planOf {d : Nat} {s : Nat} (hN : zNet S P mv tg) (hR : zNetR S P mv tg M) (hL : zLetR lt M) (hlt : ∀ s, lt s < 256) (hF : zForm P n kd lf rt gp) (hFR : zFormR n kd lf rt gp M) (h5 : 5 ≤ kd 0) (hs : s < S) (hd : 9 ≤ d) : zF (zSH Ln) d i_Md_planOf [zR 48, zI (s : Int)] M fun r M' => r = some (zI (zPlan (mv s) (tg s) (zbit (gp 0 : Int)) P (zHp mv tg P lt kd lf rt gp 0 s) (zAim (kd 0) (zHp mv tg P lt kd lf rt gp (lf 0)) (zHp mv tg P lt kd lf rt gp 0) (zRd mv tg P lt kd lf rt gp) s))) ∧ ∃ H R, M' = zst (zst M 67 H) 68 R ∧ zLawR S P n mv tg lt kd lf rt gp M' := by
  rw [zF_en k_Md_planOf_0 (L := [zR 48, zI (s : Int), zU]) rfl]
  have hS := hN.2.1
  have hm := hN.2.2.2.2.1 s
  have g4 := (hFR.2.1 0 hF.1).2.2.2 h5
  simp only [show ((0 : Nat) : Int) = 0 from rfl] at g4
  simp (disch := first | omega | exact Nat.le_of_ble_eq_true rfl | assumption | (simp only [Int.natCast_add, Int.natCast_mul, Int.cast_ofNat_Int]; omega) | decide) only [x_aload, x_getf, w_goto, w_fall, w_iconst, w_if, x_iload, x_istore, gf_48_14, ia_59, w_nret r_Md_planOf, q_eq, q_ne, q_lt, q_ge, q_gt, q_le, g_I, g_L, g_R, g_V, t_0, t_I, t_R, t_U, t_L, t_s, List.getElem?_cons_zero, List.getElem?_cons_succ, Nat.reduceAdd, zif10, zif01b, zib, if_pos, if_neg, ↓reduceIte, not_true_eq_false, not_false_eq_true, Bool.true_eq_false, Bool.false_eq_true, Classical.not_not, eq_self, and_self, and_true, true_and, Int.reduceEq, Int.reduceLE, Int.reduceLT, Int.reduceNeg, Option.toList, List.cons_append, List.nil_append, zup_s, zup_n, zst_s, zup_zs, zup_zn, decide_true, decide_false]
  refine c_Md_aim hN hR hL hlt hF hFR h5 hs (by omega) (Nat.le_of_ble_eq_true rfl) ?_
  rintro _ _ ⟨rfl, H, R, rfl, hW⟩
  have hend : ∃ H1 R1, zst (zst M 67 H) 68 R = zst (zst M 67 H1) 68 R1 ∧ zLawR S P n mv tg lt kd lf rt gp (zst (zst M 67 H) 68 R) := ⟨H, R, rfl, hW⟩
  have hR1 : zNetR S P mv tg (zst (zst M 67 H) 68 R) := hR
  generalize zHp mv tg P lt kd lf rt gp (lf 0) = one at *
  generalize zHp mv tg P lt kd lf rt gp 0 = whole at *
  generalize zRd mv tg P lt kd lf rt gp = Q at *
  by_cases hc : whole s = true ∧ ¬ ((kd 0 = 7 ∨ kd 0 = 8) ∧ Q s = 0)
  · have h0 := zset_0 S (zAim (kd 0) one whole Q s)
    have e : zleast (mv s) (tg s) (zbit (gp 0 : Int)) P (zbit (zset S (zAim (kd 0) one whole Q s))) = zleast (mv s) (tg s) (zbit (gp 0 : Int)) P (zAim (kd 0) one whole Q s) := zleast_congr (hN.2.2.2.2.1 s) (zNet_t hN hs) fun i hi => by rw [zset_bit (by omega)]; simp [hi]
    rw [if_pos hc]
    simp (disch := first | omega | exact Nat.le_of_ble_eq_true rfl | assumption | (simp only [Int.natCast_add, Int.natCast_mul, Int.cast_ofNat_Int]; omega) | decide) only [k_Md_planOf_2, k_Md_planOf_3, x_aload, x_getf, w_goto, w_fall, w_iconst, w_if, x_iload, x_istore, gf_48_14, ia_59, w_nret r_Md_planOf, q_eq, q_ne, q_lt, q_ge, q_gt, q_le, g_I, g_L, g_R, g_V, t_0, t_I, t_R, t_U, t_L, t_s, List.getElem?_cons_zero, List.getElem?_cons_succ, Nat.reduceAdd, zif10, zif01b, zib, if_pos, if_neg, ↓reduceIte, not_true_eq_false, not_false_eq_true, Bool.true_eq_false, Bool.false_eq_true, Classical.not_not, eq_self, and_self, and_true, true_and, Int.reduceEq, Int.reduceLE, Int.reduceLT, Int.reduceNeg, Option.toList, List.cons_append, List.nil_append, zup_s, zup_n, zst_s, zup_zs, zup_zn, decide_true, decide_false, zst_n, g4, c_Md_forces hN hR1 hs, e]
    refine ⟨?_, hend⟩
    rw [zPlan, if_pos hc.1]
  · rw [if_neg hc]
    simp (disch := first | omega | exact Nat.le_of_ble_eq_true rfl | assumption | (simp only [Int.natCast_add, Int.natCast_mul, Int.cast_ofNat_Int]; omega) | decide) only [k_Md_planOf_1, k_Md_planOf_3, x_aload, x_getf, w_goto, w_fall, w_iconst, w_if, x_iload, x_istore, gf_48_14, ia_59, w_nret r_Md_planOf, q_eq, q_ne, q_lt, q_ge, q_gt, q_le, g_I, g_L, g_R, g_V, t_0, t_I, t_R, t_U, t_L, t_s, List.getElem?_cons_zero, List.getElem?_cons_succ, Nat.reduceAdd, zif10, zif01b, zib, if_pos, if_neg, ↓reduceIte, not_true_eq_false, not_false_eq_true, Bool.true_eq_false, Bool.false_eq_true, Classical.not_not, eq_self, and_self, and_true, true_and, Int.reduceEq, Int.reduceLE, Int.reduceLT, Int.reduceNeg, Option.toList, List.cons_append, List.nil_append, zup_s, zup_n, zst_s, zup_zs, zup_zn, decide_true, decide_false]
    refine ⟨?_, hend⟩
    unfold zPlan
    by_cases hw : whole s = true
    · have hc2 : (kd 0 = 7 ∨ kd 0 = 8) ∧ Q s = 0 := Classical.byContradiction fun z => hc ⟨hw, z⟩
      have hA : ∀ i, zAim (kd 0) one whole Q s i = false := fun i => by
        unfold zAim; rw [if_neg (by omega), if_neg (by omega), hc2.2]; simp
      rw [if_pos hw, zleast_no hm _ _ hA, if_neg (Nat.lt_irrefl _)]
    · rw [if_neg hw]
theorem c_Md_planOf {d mi o b9 : Nat} {es : List zEnt} {L st : List zMV} {Q : Option zMV → (Nat → Int → Int) → Prop} {s : Nat} (hN : zNet S P mv tg) (hR : zNetR S P mv tg M) (hL : zLetR lt M) (hlt : ∀ s, lt s < 256) (hF : zForm P n kd lf rt gp) (hFR : zFormR n kd lf rt gp M) (h5 : 5 ≤ kd 0) (hs : s < S) (hd : 9 + 1 ≤ d) (hc : zcats st ≤ 8) (hpost : ∀ r M', (r = some (zI (zPlan (mv s) (tg s) (zbit (gp 0 : Int)) P (zHp mv tg P lt kd lf rt gp 0 s) (zAim (kd 0) (zHp mv tg P lt kd lf rt gp (lf 0)) (zHp mv tg P lt kd lf rt gp 0) (zRd mv tg P lt kd lf rt gp) s))) ∧ ∃ H R, M' = zst (zst M 67 H) 68 R ∧ zLawR S P n mv tg lt kd lf rt gp M') → zW (zSH Ln) d mi es L (r.toList ++ st) M' Q) : zW (zSH Ln) d mi ((.invokevirtual o, 209, b9) :: es) L (zI (s : Int) :: zR 48 :: st) M Q :=
  w_callv (ps := [zI (s : Int)]) (by omega) rfl rfl (by omega) (by exact sh_48 Ln) hc (Nat.le_of_ble_eq_true rfl) (F_Md_planOf hN hR hL hlt hF hFR h5 hs (by omega)) hpost
end RE
