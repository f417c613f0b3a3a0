/-! the reference: always, again, all parts -/
section RE
variable {Ln S P n : Nat} {mv tg : Nat → Nat → Nat} {lt kd lf rt gp : Nat → Nat} {M : Nat → Int → Int} {g : Int}
theorem F_Md_always {d : Nat} {A : Nat → Bool} (hN : zNet S P mv tg) (hR : zNetR S P mv tg M) (hd : 4 ≤ d) : zF (zSH Ln) d i_Md_always [zR 48, zI g, zI (zset S A)] M fun r M' => r = some (zI (zset S (zAl (zCn mv tg P (zbit g)) A 12))) ∧ M' = M := by
  rw [zF_en k_Md_always_0 (L := [zR 48, zI g, zI (zset S A), zU, zU]) rfl]
  have hS := hN.2.1
  have hCg : zCg S (zCn mv tg P (zbit g)) := zcan_Cg hN (zbit g)
  have hin : ∀ i, zleS S (zAl (zCn mv tg P (zbit g)) A i) A := by
    intro i
    induction i with
    | zero => exact fun _ _ h => h
    | succ i ih => exact fun s hs h => ih s hs (by simp only [zAl, Bool.and_eq_true] at h; exact h.1)
  simp (disch := first | omega | exact Nat.le_of_ble_eq_true rfl | assumption | (simp only [Int.natCast_add, Int.natCast_mul, Int.cast_ofNat_Int]; omega) | decide) only [x_aload, w_goto, w_fall, w_iand, w_iconst, w_icmp, x_iload, x_istore, w_ixor, w_nret r_Md_always, q_eq, q_ne, q_lt, q_ge, q_gt, q_le, g_I, g_L, g_R, g_V, t_0, t_I, t_R, t_U, t_L, t_s, List.getElem?_cons_zero, List.getElem?_cons_succ, Nat.reduceAdd, zif10, zif01b, zib, if_pos, if_neg, ↓reduceIte, not_true_eq_false, not_false_eq_true, Bool.true_eq_false, Bool.false_eq_true, Classical.not_not, eq_self, and_self, and_true, true_and, Int.reduceEq, Int.reduceLE, Int.reduceLT, Int.reduceNeg, Option.toList, List.cons_append, List.nil_append, zup_s, zup_n, zst_s, zup_zs, zup_zn, decide_true, decide_false]
  refine zfor (a := 0) (N := 14) (b := 1) (fun i L0 M0 => ∃ (w : Int), L0 = [zR 48, zI g, zI (zset S A), zI (zset S (zAl (zCn mv tg P (zbit g)) A i)), zI w] ∧ M0 = M ∧ (¬ zset S (zAl (zCn mv tg P (zbit g)) A i) = w) ∧ ∀ j, j < i → ¬ zeqS S (zAl (zCn mv tg P (zbit g)) A (j + 1)) (zAl (zCn mv tg P (zbit g)) A j)) ?_ ?_ ?_ ?_
  · exact Nat.zero_le _
  · exact ⟨_, rfl, rfl, zxor_ne (by omega) A, fun j hj => by omega⟩
  · rintro i _ M _ hi ⟨w, rfl, rfl, hw, hne⟩ ih
    have hi12 : i ≤ 12 := by
      rcases Nat.lt_or_ge 12 i with h | h
      · exact absurd (zAl_stay hCg 12 13 (Or.inr hS) (by omega)) (hne 12 h)
      · exact h
    have e1 : zset S (fun s => (A s && zAl (zCn mv tg P (zbit g)) A i s) && zCn mv tg P (zbit g) (zAl (zCn mv tg P (zbit g)) A i) s) = zset S (zAl (zCn mv tg P (zbit g)) A (i + 1)) := zset_cong fun s hs => by
      show _ = (_ && _)
      cases h : zAl (zCn mv tg P (zbit g)) A i s with
      | false => simp
      | true => rw [hin i s hs h]; rfl
    rw [k_Md_always_1]
    simp (disch := first | omega | exact Nat.le_of_ble_eq_true rfl | assumption | (simp only [Int.natCast_add, Int.natCast_mul, Int.cast_ofNat_Int]; omega) | decide) only [k_Md_always_2, x_aload, w_goto, w_fall, w_iand, w_iconst, w_icmp, x_iload, x_istore, w_ixor, w_nret r_Md_always, q_eq, q_ne, q_lt, q_ge, q_gt, q_le, g_I, g_L, g_R, g_V, t_0, t_I, t_R, t_U, t_L, t_s, List.getElem?_cons_zero, List.getElem?_cons_succ, Nat.reduceAdd, zif10, zif01b, zib, if_pos, if_neg, ↓reduceIte, not_true_eq_false, not_false_eq_true, Bool.true_eq_false, Bool.false_eq_true, Classical.not_not, eq_self, and_self, and_true, true_and, Int.reduceEq, Int.reduceLE, Int.reduceLT, Int.reduceNeg, Option.toList, List.cons_append, List.nil_append, zup_s, zup_n, zst_s, zup_zs, zup_zn, decide_true, decide_false, hw, zset_and, c_Md_forcing hN hR, e1]
    by_cases he : zeqS S (zAl (zCn mv tg P (zbit g)) A (i + 1)) (zAl (zCn mv tg P (zbit g)) A i)
    · have e2 := zset_cong he
      have e3 := zAl_stay hCg i 12 (Or.inl he) hi12
      rw [k_Md_always_1]
      simp (disch := first | omega | exact Nat.le_of_ble_eq_true rfl | assumption | (simp only [Int.natCast_add, Int.natCast_mul, Int.cast_ofNat_Int]; omega) | decide) only [k_Md_always_3, x_aload, w_goto, w_fall, w_iand, w_iconst, w_icmp, x_iload, x_istore, w_ixor, w_nret r_Md_always, q_eq, q_ne, q_lt, q_ge, q_gt, q_le, g_I, g_L, g_R, g_V, t_0, t_I, t_R, t_U, t_L, t_s, List.getElem?_cons_zero, List.getElem?_cons_succ, Nat.reduceAdd, zif10, zif01b, zib, if_pos, if_neg, ↓reduceIte, not_true_eq_false, not_false_eq_true, Bool.true_eq_false, Bool.false_eq_true, Classical.not_not, eq_self, and_self, and_true, true_and, Int.reduceEq, Int.reduceLE, Int.reduceLT, Int.reduceNeg, Option.toList, List.cons_append, List.nil_append, zup_s, zup_n, zst_s, zup_zs, zup_zn, decide_true, decide_false, e2]
      rw [zset_cong e3]
    · exact ih _ _ ⟨_, rfl, rfl, fun z => he ((zset_iff (by omega)).mp z), fun j hj => by
        by_cases e : j = i
        · subst e; exact he
        · exact hne j (by omega)⟩
  · rintro _ M ⟨w, rfl, rfl, hw, hne⟩
    exact absurd (zAl_stay hCg 12 13 (Or.inr hS) (by omega)) (hne 12 (by omega))
theorem c_Md_always {d mi o b9 : Nat} {es : List zEnt} {L st : List zMV} {Q : Option zMV → (Nat → Int → Int) → Prop} {A : Nat → Bool} (hN : zNet S P mv tg) (hR : zNetR S P mv tg M) (hd : 4 + 1 ≤ d) (hc : zcats st ≤ 8) : zW (zSH Ln) d mi ((.invokevirtual o, 199, b9) :: es) L (zI (zset S A) :: zI g :: zR 48 :: st) M Q = zW (zSH Ln) d mi es L (zI (zset S (zAl (zCn mv tg P (zbit g)) A 12)) :: st) (M) Q :=
  c_virt (ps := [zI g, zI (zset S A)]) (by omega) rfl rfl (by omega) (by exact sh_48 Ln) hc (Nat.le_of_ble_eq_true rfl) (F_Md_always hN hR (by omega))
theorem F_Md_again {d : Nat} {A : Nat → Bool} (hN : zNet S P mv tg) (hR : zNetR S P mv tg M) (hd : 5 ≤ d) : zF (zSH Ln) d i_Md_again [zR 48, zI g, zI (zset S A)] M fun r M' => r = some (zI (zset S (zAg (zCn mv tg P (zbit g)) A 13))) ∧ ∃ R, M' = zst M 68 R ∧ ∀ s : Nat, s < S → R s = zneg4 (zrd (zCn mv tg P (zbit g)) (fun _ => true) (fun s => A s && zCn mv tg P (zbit g) (zAg (zCn mv tg P (zbit g)) A 13) s) s) := by
  rw [zF_en k_Md_again_0 (L := [zR 48, zI g, zI (zset S A), zU, zU]) rfl]
  have hS := hN.2.1
  have hS2 := hN.1
  have hCg : zCg S (zCn mv tg P (zbit g)) := zcan_Cg hN (zbit g)
  have hR1 : ∀ R, zNetR S P mv tg (zst M 68 R) := fun _ => hR
  have hn0 : ¬ zset S (fun _ => true) = 0 := fun h => by have := (zset_eq0 (by omega)).mp h 0 (by omega); cases this
  simp (disch := first | omega | exact Nat.le_of_ble_eq_true rfl | assumption | (simp only [Int.natCast_add, Int.natCast_mul, Int.cast_ofNat_Int]; omega) | decide) only [x_aload, w_goto, w_fall, w_iand, w_iconst, w_icmp, x_iload, x_istore, w_nret r_Md_again, q_eq, q_ne, q_lt, q_ge, q_gt, q_le, g_I, g_L, g_R, g_V, t_0, t_I, t_R, t_U, t_L, t_s, List.getElem?_cons_zero, List.getElem?_cons_succ, Nat.reduceAdd, zif10, zif01b, zib, if_pos, if_neg, ↓reduceIte, not_true_eq_false, not_false_eq_true, Bool.true_eq_false, Bool.false_eq_true, Classical.not_not, eq_self, and_self, and_true, true_and, Int.reduceEq, Int.reduceLE, Int.reduceLT, Int.reduceNeg, Option.toList, List.cons_append, List.nil_append, zup_s, zup_n, zst_s, zup_zs, zup_zn, decide_true, decide_false, c_Md_whole hN hR]
  refine zfor (a := 0) (N := 14) (b := 1) (fun i L0 M0 => ∃ (w : Int) (R : Int → Int), L0 = [zR 48, zI g, zI (zset S A), zI (zset S (zAg (zCn mv tg P (zbit g)) A i)), zI w] ∧ M0 = zst M 68 R ∧ (¬ zset S (zAg (zCn mv tg P (zbit g)) A i) = w) ∧ ∀ j, j < i → ¬ zeqS S (zAg (zCn mv tg P (zbit g)) A (j + 1)) (zAg (zCn mv tg P (zbit g)) A j)) ?_ ?_ ?_ ?_
  · exact Nat.zero_le _
  · exact ⟨_, M 68, rfl, (zst_id _ _).symm, hn0, fun j hj => by omega⟩
  · rintro i _ _ _ hi ⟨w, R, rfl, rfl, hw, hne⟩ ih
    have hi12 : i ≤ 12 := by
      rcases Nat.lt_or_ge 12 i with h | h
      · exact absurd (zAg_stay hCg 12 13 (Or.inr hS) (by omega)) (hne 12 h)
      · exact h
    rw [k_Md_again_1]
    simp (disch := first | omega | exact Nat.le_of_ble_eq_true rfl | assumption | (simp only [Int.natCast_add, Int.natCast_mul, Int.cast_ofNat_Int]; omega) | decide) only [k_Md_again_2, x_aload, w_goto, w_fall, w_iand, w_iconst, w_icmp, x_iload, x_istore, w_nret r_Md_again, q_eq, q_ne, q_lt, q_ge, q_gt, q_le, g_I, g_L, g_R, g_V, t_0, t_I, t_R, t_U, t_L, t_s, List.getElem?_cons_zero, List.getElem?_cons_succ, Nat.reduceAdd, zif10, zif01b, zib, if_pos, if_neg, ↓reduceIte, not_true_eq_false, not_false_eq_true, Bool.true_eq_false, Bool.false_eq_true, Classical.not_not, eq_self, and_self, and_true, true_and, Int.reduceEq, Int.reduceLE, Int.reduceLT, Int.reduceNeg, Option.toList, List.cons_append, List.nil_append, zup_s, zup_n, zst_s, zup_zs, zup_zn, decide_true, decide_false, hw, c_Md_whole hN (hR1 _), c_Md_forcing hN (hR1 _), zset_and]
    refine c_Md_until hN (hR1 _) (by omega) (Nat.le_of_ble_eq_true rfl) ?_
    rintro _ _ ⟨rfl, R', rfl, h2⟩
    have e0 : zset S (zUn (zCn mv tg P (zbit g)) (fun _ => true) (fun s => A s && zCn mv tg P (zbit g) (zAg (zCn mv tg P (zbit g)) A i) s) 12) = zset S (zAg (zCn mv tg P (zbit g)) A (i + 1)) := rfl
    simp (disch := first | omega | exact Nat.le_of_ble_eq_true rfl | assumption | (simp only [Int.natCast_add, Int.natCast_mul, Int.cast_ofNat_Int]; omega) | decide) only [x_aload, w_goto, w_fall, w_iand, w_iconst, w_icmp, x_iload, x_istore, w_nret r_Md_again, q_eq, q_ne, q_lt, q_ge, q_gt, q_le, g_I, g_L, g_R, g_V, t_0, t_I, t_R, t_U, t_L, t_s, List.getElem?_cons_zero, List.getElem?_cons_succ, Nat.reduceAdd, zif10, zif01b, zib, if_pos, if_neg, ↓reduceIte, not_true_eq_false, not_false_eq_true, Bool.true_eq_false, Bool.false_eq_true, Classical.not_not, eq_self, and_self, and_true, true_and, Int.reduceEq, Int.reduceLE, Int.reduceLT, Int.reduceNeg, Option.toList, List.cons_append, List.nil_append, zup_s, zup_n, zst_s, zup_zs, zup_zn, decide_true, decide_false, zst_zst, e0]
    by_cases he : zeqS S (zAg (zCn mv tg P (zbit g)) A (i + 1)) (zAg (zCn mv tg P (zbit g)) A i)
    · have e2 := zset_cong he
      have e3 := zAg_stay hCg i 13 (Or.inl he) (by omega)
      rw [k_Md_again_1]
      simp (disch := first | omega | exact Nat.le_of_ble_eq_true rfl | assumption | (simp only [Int.natCast_add, Int.natCast_mul, Int.cast_ofNat_Int]; omega) | decide) only [k_Md_again_3, x_aload, w_goto, w_fall, w_iand, w_iconst, w_icmp, x_iload, x_istore, w_nret r_Md_again, q_eq, q_ne, q_lt, q_ge, q_gt, q_le, g_I, g_L, g_R, g_V, t_0, t_I, t_R, t_U, t_L, t_s, List.getElem?_cons_zero, List.getElem?_cons_succ, Nat.reduceAdd, zif10, zif01b, zib, if_pos, if_neg, ↓reduceIte, not_true_eq_false, not_false_eq_true, Bool.true_eq_false, Bool.false_eq_true, Classical.not_not, eq_self, and_self, and_true, true_and, Int.reduceEq, Int.reduceLE, Int.reduceLT, Int.reduceNeg, Option.toList, List.cons_append, List.nil_append, zup_s, zup_n, zst_s, zup_zs, zup_zn, decide_true, decide_false, e2]
      refine ⟨by rw [zset_cong e3], R', rfl, fun s hs => ?_⟩
      have e4 : zrd (zCn mv tg P (zbit g)) (fun _ => true) (fun s => A s && zCn mv tg P (zbit g) (zAg (zCn mv tg P (zbit g)) A i) s) s = zrd (zCn mv tg P (zbit g)) (fun _ => true) (fun s => A s && zCn mv tg P (zbit g) (zAg (zCn mv tg P (zbit g)) A 13) s) s := zrd_congr hCg (zeqS.rf _) (fun t ht => by rw [hCg.1 _ _ e3 t ht]) hs
      rw [h2 s hs, e4]
    · exact ih _ _ ⟨_, R', rfl, rfl, fun z => he ((zset_iff (by omega)).mp z), fun j hj => by
        by_cases e : j = i
        · subst e; exact he
        · exact hne j (by omega)⟩
  · rintro _ _ ⟨w, R, rfl, rfl, hw, hne⟩
    exact absurd (zAg_stay hCg 12 13 (Or.inr hS) (by omega)) (hne 12 (by omega))
theorem c_Md_again {d mi o b9 : Nat} {es : List zEnt} {L st : List zMV} {Q : Option zMV → (Nat → Int → Int) → Prop} {A : Nat → Bool} (hN : zNet S P mv tg) (hR : zNetR S P mv tg M) (hd : 5 + 1 ≤ d) (hc : zcats st ≤ 8) (hpost : ∀ r M', (r = some (zI (zset S (zAg (zCn mv tg P (zbit g)) A 13))) ∧ ∃ R, M' = zst M 68 R ∧ ∀ s : Nat, s < S → R s = zneg4 (zrd (zCn mv tg P (zbit g)) (fun _ => true) (fun s => A s && zCn mv tg P (zbit g) (zAg (zCn mv tg P (zbit g)) A 13) s) s)) → zW (zSH Ln) d mi es L (r.toList ++ st) M' Q) : zW (zSH Ln) d mi ((.invokevirtual o, 200, b9) :: es) L (zI (zset S A) :: zI g :: zR 48 :: st) M Q :=
  w_callv (ps := [zI g, zI (zset S A)]) (by omega) rfl rfl (by omega) (by exact sh_48 Ln) hc (Nat.le_of_ble_eq_true rfl) (F_Md_again hN hR (by omega)) hpost
theorem F_Md_heldOf {d : Nat} {k : Nat} {one two : Nat → Bool} (hN : zNet S P mv tg) (hR : zNetR S P mv tg M) (hL : zLetR lt M) (hlt : ∀ s, lt s < 256) (hF : zForm P n kd lf rt gp) (hFR : zFormR n kd lf rt gp M) (hk : k < n) (h1 : 2 ≤ kd k → M 67 (lf k : Int) = zset S one) (h2 : ztwo (kd k) = true → M 67 (rt k : Int) = zset S two) (hd : 6 ≤ d) : zF (zSH Ln) d i_Md_heldOf [zR 48, zI (k : Int), zI g] M fun r M' => r = some (zI (zset S (zJ (zCn mv tg P (zbit g)) lt (kd k) (lf k) one two))) ∧ ∃ R, M' = zst M 68 R ∧ (7 ≤ kd k → ∀ s : Nat, s < S → R s = zneg4 (zrd (zCn mv tg P (zbit g)) (zJA (kd k) one) (zJB (zCn mv tg P (zbit g)) (kd k) one two) s)) := by
  rw [zF_en k_Md_heldOf_0 (L := [zR 48, zI (k : Int), zI g, zU, zU, zU, zU]) rfl]
  have hn := hF.2.1
  have hS := hN.2.1
  obtain ⟨f1, f2, f3, f4, f5⟩ := hF.2.2 k hk
  obtain ⟨g1, g2, g3, g4⟩ := hFR.2.1 k hk
  obtain ⟨⟨n1, n2⟩, n3, n4⟩ := hFR.2.2 k (by omega)
  obtain ⟨i1, hi1⟩ : ∃ i : Nat, M 57 k = (i : Int) := ⟨(M 57 k).toNat, by omega⟩
  obtain ⟨i2, hi2⟩ : ∃ i : Nat, M 58 k = (i : Int) := ⟨(M 58 k).toNat, by omega⟩
  have m1 := Nat.mod_lt i1 (show 0 < 24 by omega)
  have m2 := Nat.mod_lt i2 (show 0 < 24 by omega)
  have z1 : zrem (i1 : Int) 24 = ((i1 % 24 : Nat) : Int) := zrem_nat (d := 24) (by omega) (by omega) (by omega)
  have z2 : zrem (i2 : Int) 24 = ((i2 % 24 : Nat) : Int) := zrem_nat (d := 24) (by omega) (by omega) (by omega)
  have o1 : 2 ≤ kd k → M 67 ((i1 % 24 : Nat) : Int) = zset S one := fun h => by
    have e1 := g2 (by omega)
    have e2 := f3 h
    rw [show i1 % 24 = lf k by rw [Nat.mod_eq_of_lt (by omega)]; omega]; exact h1 h
  have o2 : ztwo (kd k) = true → M 67 ((i2 % 24 : Nat) : Int) = zset S two := fun h => by
    have e1 := g3 h
    have e2 := f4 h
    rw [show i2 % 24 = rt k by rw [Nat.mod_eq_of_lt (by omega)]; omega]; exact h2 h
  have hM : ∃ R, M = zst M 68 R := ⟨M 68, (zst_id _ _).symm⟩
  have e : kd k = 0 ∨ kd k = 1 ∨ kd k = 2 ∨ kd k = 3 ∨ kd k = 4 ∨ kd k = 5 ∨ kd k = 6 ∨ kd k = 7 ∨ kd k = 8 ∨ kd k = 9 := by omega
  rcases e with e | e | e | e | e | e | e | e | e | e <;> rw [e] at f2 f3 f4 f5 g1 g2 g3 g4 o1 o2 ⊢ <;> simp only [zkr, Nat.reduceEqDiff, if_true, if_false] at g1
  · have g1 : M 56 k = 0 := g1
    simp (disch := first | omega | exact Nat.le_of_ble_eq_true rfl | assumption | (simp only [Int.natCast_add, Int.natCast_mul, Int.cast_ofNat_Int]; omega) | decide) only [k_Md_heldOf_1, x_aload, x_getf, w_goto, w_fall, w_iand, w_iconst, w_icmp, x_iinc, x_iload, w_ior, w_irem, w_ishl, w_ishr, x_istore, w_ixor, w_tsw, zadd_eq, gf_48_0, gf_48_5, gf_48_11, gf_48_12, gf_48_13, gf_48_27, ia_52, ia_56, ia_57, ia_58, ia_67, w_nret r_Md_heldOf, q_eq, q_ne, q_lt, q_ge, q_gt, q_le, g_I, g_L, g_R, g_V, t_0, t_I, t_R, t_U, t_L, t_s, List.getElem?_cons_zero, List.getElem?_cons_succ, Nat.reduceAdd, zif10, zif01b, zib, if_pos, if_neg, ↓reduceIte, not_true_eq_false, not_false_eq_true, Bool.true_eq_false, Bool.false_eq_true, Classical.not_not, eq_self, and_self, and_true, true_and, Int.reduceEq, Int.reduceLE, Int.reduceLT, Int.reduceNeg, Option.toList, List.cons_append, List.nil_append, zup_s, zup_n, zst_s, zup_zs, zup_zn, decide_true, decide_false, hi1, hi2, z1, z2, g1, w_tsw, show ztsw (Int.toNat 13) (0) (8) #[1, 2, 6, 7, 8, 9, 10, 11, 12] (0) = 1 from rfl, c_Md_whole hN hR]
    exact ⟨rfl, M 68, (zst_id _ _).symm, fun h => by omega⟩
  · have g1 : M 56 k = 1 := g1
    have f2 := f2 rfl
    have g2 := g2 (by omega)
    simp (disch := first | omega | exact Nat.le_of_ble_eq_true rfl | assumption | (simp only [Int.natCast_add, Int.natCast_mul, Int.cast_ofNat_Int]; omega) | decide) only [k_Md_heldOf_2, x_aload, x_getf, w_goto, w_fall, w_iand, w_iconst, w_icmp, x_iinc, x_iload, w_ior, w_irem, w_ishl, w_ishr, x_istore, w_ixor, w_tsw, zadd_eq, gf_48_0, gf_48_5, gf_48_11, gf_48_12, gf_48_13, gf_48_27, ia_52, ia_56, ia_57, ia_58, ia_67, w_nret r_Md_heldOf, q_eq, q_ne, q_lt, q_ge, q_gt, q_le, g_I, g_L, g_R, g_V, t_0, t_I, t_R, t_U, t_L, t_s, List.getElem?_cons_zero, List.getElem?_cons_succ, Nat.reduceAdd, zif10, zif01b, zib, if_pos, if_neg, ↓reduceIte, not_true_eq_false, not_false_eq_true, Bool.true_eq_false, Bool.false_eq_true, Classical.not_not, eq_self, and_self, and_true, true_and, Int.reduceEq, Int.reduceLE, Int.reduceLT, Int.reduceNeg, Option.toList, List.cons_append, List.nil_append, zup_s, zup_n, zst_s, zup_zs, zup_zn, decide_true, decide_false, hi1, hi2, z1, z2, g1, w_tsw, show ztsw (Int.toNat 13) (0) (8) #[1, 2, 6, 7, 8, 9, 10, 11, 12] (1) = 2 from rfl]
    refine zfor (a := 0) (N := S) (b := 3) (fun p L0 M0 => L0 = [zR 48, zI (k : Int), zI g, zI (M 67 ((i1 % 24 : Nat) : Int)), zI (M 67 ((i2 % 24 : Nat) : Int)), zI (zset S fun s => decide (s < p) && (lt s).testBit (lf k)), zI (p : Int)] ∧ M0 = M) ?_ ?_ ?_ ?_
    · exact Nat.zero_le _
    · exact ⟨by simp [zset_none], rfl⟩
    · rintro p _ M _ hp ⟨rfl, rfl⟩ ih
      have hlp := hL p (by omega)
      have nx : ∀ b : Bool, b = (lt p).testBit (lf k) → (zset S fun s => decide (s < p + 1) && (lt s).testBit (lf k)) = zset S fun s => (decide (s < p) && (lt s).testBit (lf k)) || (b && decide (s = p)) := by
        intro b hb
        refine zset_cong fun i hi => ?_
        by_cases e : i = p
        · subst e; simp [hb]
        · simp [e, show (i < p + 1) ↔ (i < p) by omega]
      rw [k_Md_heldOf_3]
      cases hb : (lt p).testBit (lf k)
      · simp (disch := first | omega | exact Nat.le_of_ble_eq_true rfl | assumption | (simp only [Int.natCast_add, Int.natCast_mul, Int.cast_ofNat_Int]; omega) | decide) only [k_Md_heldOf_4, x_aload, x_getf, w_goto, w_fall, w_iand, w_iconst, w_icmp, x_iinc, x_iload, w_ior, w_irem, w_ishl, w_ishr, x_istore, w_ixor, w_tsw, zadd_eq, gf_48_0, gf_48_5, gf_48_11, gf_48_12, gf_48_13, gf_48_27, ia_52, ia_56, ia_57, ia_58, ia_67, w_nret r_Md_heldOf, q_eq, q_ne, q_lt, q_ge, q_gt, q_le, g_I, g_L, g_R, g_V, t_0, t_I, t_R, t_U, t_L, t_s, List.getElem?_cons_zero, List.getElem?_cons_succ, Nat.reduceAdd, zif10, zif01b, zib, if_pos, if_neg, ↓reduceIte, not_true_eq_false, not_false_eq_true, Bool.true_eq_false, Bool.false_eq_true, Classical.not_not, eq_self, and_self, and_true, true_and, Int.reduceEq, Int.reduceLE, Int.reduceLT, Int.reduceNeg, Option.toList, List.cons_append, List.nil_append, zup_s, zup_n, zst_s, zup_zs, zup_zn, decide_true, decide_false, hR.1, g2, hlp, zhas, zbit_nat, hb, zshl_z, zor_z]
        refine ih _ _ ⟨?_, rfl⟩
        rw [nx false hb.symm]
        simp
      · simp (disch := first | omega | exact Nat.le_of_ble_eq_true rfl | assumption | (simp only [Int.natCast_add, Int.natCast_mul, Int.cast_ofNat_Int]; omega) | decide) only [k_Md_heldOf_4, x_aload, x_getf, w_goto, w_fall, w_iand, w_iconst, w_icmp, x_iinc, x_iload, w_ior, w_irem, w_ishl, w_ishr, x_istore, w_ixor, w_tsw, zadd_eq, gf_48_0, gf_48_5, gf_48_11, gf_48_12, gf_48_13, gf_48_27, ia_52, ia_56, ia_57, ia_58, ia_67, w_nret r_Md_heldOf, q_eq, q_ne, q_lt, q_ge, q_gt, q_le, g_I, g_L, g_R, g_V, t_0, t_I, t_R, t_U, t_L, t_s, List.getElem?_cons_zero, List.getElem?_cons_succ, Nat.reduceAdd, zif10, zif01b, zib, if_pos, if_neg, ↓reduceIte, not_true_eq_false, not_false_eq_true, Bool.true_eq_false, Bool.false_eq_true, Classical.not_not, eq_self, and_self, and_true, true_and, Int.reduceEq, Int.reduceLE, Int.reduceLT, Int.reduceNeg, Option.toList, List.cons_append, List.nil_append, zup_s, zup_n, zst_s, zup_zs, zup_zn, decide_true, decide_false, hR.1, g2, hlp, zhas, zbit_nat, hb, zset_up]
        refine ih _ _ ⟨?_, rfl⟩
        rw [nx true hb.symm]
        simp
    · rintro _ M ⟨rfl, rfl⟩
      have e9 : (zset S fun s => decide (s < S) && (lt s).testBit (lf k)) = zset S (zJ (zCn mv tg P (zbit g)) lt 1 (lf k) one two) := zset_cong fun i hi => by simp [hi, zJ]
      rw [k_Md_heldOf_3]
      simp (disch := first | omega | exact Nat.le_of_ble_eq_true rfl | assumption | (simp only [Int.natCast_add, Int.natCast_mul, Int.cast_ofNat_Int]; omega) | decide) only [k_Md_heldOf_5, x_aload, x_getf, w_goto, w_fall, w_iand, w_iconst, w_icmp, x_iinc, x_iload, w_ior, w_irem, w_ishl, w_ishr, x_istore, w_ixor, w_tsw, zadd_eq, gf_48_0, gf_48_5, gf_48_11, gf_48_12, gf_48_13, gf_48_27, ia_52, ia_56, ia_57, ia_58, ia_67, w_nret r_Md_heldOf, q_eq, q_ne, q_lt, q_ge, q_gt, q_le, g_I, g_L, g_R, g_V, t_0, t_I, t_R, t_U, t_L, t_s, List.getElem?_cons_zero, List.getElem?_cons_succ, Nat.reduceAdd, zif10, zif01b, zib, if_pos, if_neg, ↓reduceIte, not_true_eq_false, not_false_eq_true, Bool.true_eq_false, Bool.false_eq_true, Classical.not_not, eq_self, and_self, and_true, true_and, Int.reduceEq, Int.reduceLE, Int.reduceLT, Int.reduceNeg, Option.toList, List.cons_append, List.nil_append, zup_s, zup_n, zst_s, zup_zs, zup_zn, decide_true, decide_false, hR.1, e9]
      exact ⟨M 68, (zst_id _ _).symm, fun h => by omega⟩
  · have g1 : M 56 k = 2 := g1
    have o1 := o1 (by omega)
    simp (disch := first | omega | exact Nat.le_of_ble_eq_true rfl | assumption | (simp only [Int.natCast_add, Int.natCast_mul, Int.cast_ofNat_Int]; omega) | decide) only [k_Md_heldOf_6, x_aload, x_getf, w_goto, w_fall, w_iand, w_iconst, w_icmp, x_iinc, x_iload, w_ior, w_irem, w_ishl, w_ishr, x_istore, w_ixor, w_tsw, zadd_eq, gf_48_0, gf_48_5, gf_48_11, gf_48_12, gf_48_13, gf_48_27, ia_52, ia_56, ia_57, ia_58, ia_67, w_nret r_Md_heldOf, q_eq, q_ne, q_lt, q_ge, q_gt, q_le, g_I, g_L, g_R, g_V, t_0, t_I, t_R, t_U, t_L, t_s, List.getElem?_cons_zero, List.getElem?_cons_succ, Nat.reduceAdd, zif10, zif01b, zib, if_pos, if_neg, ↓reduceIte, not_true_eq_false, not_false_eq_true, Bool.true_eq_false, Bool.false_eq_true, Classical.not_not, eq_self, and_self, and_true, true_and, Int.reduceEq, Int.reduceLE, Int.reduceLT, Int.reduceNeg, Option.toList, List.cons_append, List.nil_append, zup_s, zup_n, zst_s, zup_zs, zup_zn, decide_true, decide_false, hi1, hi2, z1, z2, g1, w_tsw, show ztsw (Int.toNat 13) (0) (8) #[1, 2, 6, 7, 8, 9, 10, 11, 12] (2) = 6 from rfl, c_Md_whole hN hR, o1, zset_dif]
    exact ⟨rfl, M 68, (zst_id _ _).symm, fun h => by omega⟩
  · have g1 : M 56 k = 3 := g1
    have o1 := o1 (by omega)
    have o2 := o2 rfl
    simp (disch := first | omega | exact Nat.le_of_ble_eq_true rfl | assumption | (simp only [Int.natCast_add, Int.natCast_mul, Int.cast_ofNat_Int]; omega) | decide) only [k_Md_heldOf_7, x_aload, x_getf, w_goto, w_fall, w_iand, w_iconst, w_icmp, x_iinc, x_iload, w_ior, w_irem, w_ishl, w_ishr, x_istore, w_ixor, w_tsw, zadd_eq, gf_48_0, gf_48_5, gf_48_11, gf_48_12, gf_48_13, gf_48_27, ia_52, ia_56, ia_57, ia_58, ia_67, w_nret r_Md_heldOf, q_eq, q_ne, q_lt, q_ge, q_gt, q_le, g_I, g_L, g_R, g_V, t_0, t_I, t_R, t_U, t_L, t_s, List.getElem?_cons_zero, List.getElem?_cons_succ, Nat.reduceAdd, zif10, zif01b, zib, if_pos, if_neg, ↓reduceIte, not_true_eq_false, not_false_eq_true, Bool.true_eq_false, Bool.false_eq_true, Classical.not_not, eq_self, and_self, and_true, true_and, Int.reduceEq, Int.reduceLE, Int.reduceLT, Int.reduceNeg, Option.toList, List.cons_append, List.nil_append, zup_s, zup_n, zst_s, zup_zs, zup_zn, decide_true, decide_false, hi1, hi2, z1, z2, g1, w_tsw, show ztsw (Int.toNat 13) (0) (8) #[1, 2, 6, 7, 8, 9, 10, 11, 12] (3) = 7 from rfl, o1, o2, zset_and]
    exact ⟨rfl, M 68, (zst_id _ _).symm, fun h => by omega⟩
  · have g1 : M 56 k = 4 := g1
    have o1 := o1 (by omega)
    have o2 := o2 rfl
    simp (disch := first | omega | exact Nat.le_of_ble_eq_true rfl | assumption | (simp only [Int.natCast_add, Int.natCast_mul, Int.cast_ofNat_Int]; omega) | decide) only [k_Md_heldOf_8, x_aload, x_getf, w_goto, w_fall, w_iand, w_iconst, w_icmp, x_iinc, x_iload, w_ior, w_irem, w_ishl, w_ishr, x_istore, w_ixor, w_tsw, zadd_eq, gf_48_0, gf_48_5, gf_48_11, gf_48_12, gf_48_13, gf_48_27, ia_52, ia_56, ia_57, ia_58, ia_67, w_nret r_Md_heldOf, q_eq, q_ne, q_lt, q_ge, q_gt, q_le, g_I, g_L, g_R, g_V, t_0, t_I, t_R, t_U, t_L, t_s, List.getElem?_cons_zero, List.getElem?_cons_succ, Nat.reduceAdd, zif10, zif01b, zib, if_pos, if_neg, ↓reduceIte, not_true_eq_false, not_false_eq_true, Bool.true_eq_false, Bool.false_eq_true, Classical.not_not, eq_self, and_self, and_true, true_and, Int.reduceEq, Int.reduceLE, Int.reduceLT, Int.reduceNeg, Option.toList, List.cons_append, List.nil_append, zup_s, zup_n, zst_s, zup_zs, zup_zn, decide_true, decide_false, hi1, hi2, z1, z2, g1, w_tsw, show ztsw (Int.toNat 13) (0) (8) #[1, 2, 6, 7, 8, 9, 10, 11, 12] (4) = 8 from rfl, o1, o2, zset_or]
    exact ⟨rfl, M 68, (zst_id _ _).symm, fun h => by omega⟩
  · have g1 : M 56 k = 5 := g1
    have o1 := o1 (by omega)
    simp (disch := first | omega | exact Nat.le_of_ble_eq_true rfl | assumption | (simp only [Int.natCast_add, Int.natCast_mul, Int.cast_ofNat_Int]; omega) | decide) only [k_Md_heldOf_9, x_aload, x_getf, w_goto, w_fall, w_iand, w_iconst, w_icmp, x_iinc, x_iload, w_ior, w_irem, w_ishl, w_ishr, x_istore, w_ixor, w_tsw, zadd_eq, gf_48_0, gf_48_5, gf_48_11, gf_48_12, gf_48_13, gf_48_27, ia_52, ia_56, ia_57, ia_58, ia_67, w_nret r_Md_heldOf, q_eq, q_ne, q_lt, q_ge, q_gt, q_le, g_I, g_L, g_R, g_V, t_0, t_I, t_R, t_U, t_L, t_s, List.getElem?_cons_zero, List.getElem?_cons_succ, Nat.reduceAdd, zif10, zif01b, zib, if_pos, if_neg, ↓reduceIte, not_true_eq_false, not_false_eq_true, Bool.true_eq_false, Bool.false_eq_true, Classical.not_not, eq_self, and_self, and_true, true_and, Int.reduceEq, Int.reduceLE, Int.reduceLT, Int.reduceNeg, Option.toList, List.cons_append, List.nil_append, zup_s, zup_n, zst_s, zup_zs, zup_zn, decide_true, decide_false, hi1, hi2, z1, z2, g1, w_tsw, show ztsw (Int.toNat 13) (0) (8) #[1, 2, 6, 7, 8, 9, 10, 11, 12] (5) = 9 from rfl, o1, c_Md_forcing hN hR]
    exact ⟨rfl, M 68, (zst_id _ _).symm, fun h => by omega⟩
  · have g1 : M 56 k = 6 := g1
    have o1 := o1 (by omega)
    simp (disch := first | omega | exact Nat.le_of_ble_eq_true rfl | assumption | (simp only [Int.natCast_add, Int.natCast_mul, Int.cast_ofNat_Int]; omega) | decide) only [k_Md_heldOf_10, x_aload, x_getf, w_goto, w_fall, w_iand, w_iconst, w_icmp, x_iinc, x_iload, w_ior, w_irem, w_ishl, w_ishr, x_istore, w_ixor, w_tsw, zadd_eq, gf_48_0, gf_48_5, gf_48_11, gf_48_12, gf_48_13, gf_48_27, ia_52, ia_56, ia_57, ia_58, ia_67, w_nret r_Md_heldOf, q_eq, q_ne, q_lt, q_ge, q_gt, q_le, g_I, g_L, g_R, g_V, t_0, t_I, t_R, t_U, t_L, t_s, List.getElem?_cons_zero, List.getElem?_cons_succ, Nat.reduceAdd, zif10, zif01b, zib, if_pos, if_neg, ↓reduceIte, not_true_eq_false, not_false_eq_true, Bool.true_eq_false, Bool.false_eq_true, Classical.not_not, eq_self, and_self, and_true, true_and, Int.reduceEq, Int.reduceLE, Int.reduceLT, Int.reduceNeg, Option.toList, List.cons_append, List.nil_append, zup_s, zup_n, zst_s, zup_zs, zup_zn, decide_true, decide_false, hi1, hi2, z1, z2, g1, w_tsw, show ztsw (Int.toNat 13) (0) (8) #[1, 2, 6, 7, 8, 9, 10, 11, 12] (6) = 10 from rfl, o1, c_Md_always hN hR]
    exact ⟨rfl, M 68, (zst_id _ _).symm, fun h => by omega⟩
  · have g1 : M 56 k = 7 := g1
    have o1 := o1 (by omega)
    simp (disch := first | omega | exact Nat.le_of_ble_eq_true rfl | assumption | (simp only [Int.natCast_add, Int.natCast_mul, Int.cast_ofNat_Int]; omega) | decide) only [k_Md_heldOf_11, x_aload, x_getf, w_goto, w_fall, w_iand, w_iconst, w_icmp, x_iinc, x_iload, w_ior, w_irem, w_ishl, w_ishr, x_istore, w_ixor, w_tsw, zadd_eq, gf_48_0, gf_48_5, gf_48_11, gf_48_12, gf_48_13, gf_48_27, ia_52, ia_56, ia_57, ia_58, ia_67, w_nret r_Md_heldOf, q_eq, q_ne, q_lt, q_ge, q_gt, q_le, g_I, g_L, g_R, g_V, t_0, t_I, t_R, t_U, t_L, t_s, List.getElem?_cons_zero, List.getElem?_cons_succ, Nat.reduceAdd, zif10, zif01b, zib, if_pos, if_neg, ↓reduceIte, not_true_eq_false, not_false_eq_true, Bool.true_eq_false, Bool.false_eq_true, Classical.not_not, eq_self, and_self, and_true, true_and, Int.reduceEq, Int.reduceLE, Int.reduceLT, Int.reduceNeg, Option.toList, List.cons_append, List.nil_append, zup_s, zup_n, zst_s, zup_zs, zup_zn, decide_true, decide_false, hi1, hi2, z1, z2, g1, w_tsw, show ztsw (Int.toNat 13) (0) (8) #[1, 2, 6, 7, 8, 9, 10, 11, 12] (7) = 11 from rfl, o1, c_Md_whole hN hR]
    refine c_Md_until hN hR (by omega) (Nat.le_of_ble_eq_true rfl) ?_
    rintro _ _ ⟨rfl, R, rfl, h3⟩
    simp (disch := first | omega | exact Nat.le_of_ble_eq_true rfl | assumption | (simp only [Int.natCast_add, Int.natCast_mul, Int.cast_ofNat_Int]; omega) | decide) only [x_aload, x_getf, w_goto, w_fall, w_iand, w_iconst, w_icmp, x_iinc, x_iload, w_ior, w_irem, w_ishl, w_ishr, x_istore, w_ixor, w_tsw, zadd_eq, gf_48_0, gf_48_5, gf_48_11, gf_48_12, gf_48_13, gf_48_27, ia_52, ia_56, ia_57, ia_58, ia_67, w_nret r_Md_heldOf, q_eq, q_ne, q_lt, q_ge, q_gt, q_le, g_I, g_L, g_R, g_V, t_0, t_I, t_R, t_U, t_L, t_s, List.getElem?_cons_zero, List.getElem?_cons_succ, Nat.reduceAdd, zif10, zif01b, zib, if_pos, if_neg, ↓reduceIte, not_true_eq_false, not_false_eq_true, Bool.true_eq_false, Bool.false_eq_true, Classical.not_not, eq_self, and_self, and_true, true_and, Int.reduceEq, Int.reduceLE, Int.reduceLT, Int.reduceNeg, Option.toList, List.cons_append, List.nil_append, zup_s, zup_n, zst_s, zup_zs, zup_zn, decide_true, decide_false]
    exact ⟨rfl, R, rfl, fun _ => h3⟩
  · have g1 : M 56 k = 9 := g1
    have o1 := o1 (by omega)
    have o2 := o2 rfl
    simp (disch := first | omega | exact Nat.le_of_ble_eq_true rfl | assumption | (simp only [Int.natCast_add, Int.natCast_mul, Int.cast_ofNat_Int]; omega) | decide) only [k_Md_heldOf_13, x_aload, x_getf, w_goto, w_fall, w_iand, w_iconst, w_icmp, x_iinc, x_iload, w_ior, w_irem, w_ishl, w_ishr, x_istore, w_ixor, w_tsw, zadd_eq, gf_48_0, gf_48_5, gf_48_11, gf_48_12, gf_48_13, gf_48_27, ia_52, ia_56, ia_57, ia_58, ia_67, w_nret r_Md_heldOf, q_eq, q_ne, q_lt, q_ge, q_gt, q_le, g_I, g_L, g_R, g_V, t_0, t_I, t_R, t_U, t_L, t_s, List.getElem?_cons_zero, List.getElem?_cons_succ, Nat.reduceAdd, zif10, zif01b, zib, if_pos, if_neg, ↓reduceIte, not_true_eq_false, not_false_eq_true, Bool.true_eq_false, Bool.false_eq_true, Classical.not_not, eq_self, and_self, and_true, true_and, Int.reduceEq, Int.reduceLE, Int.reduceLT, Int.reduceNeg, Option.toList, List.cons_append, List.nil_append, zup_s, zup_n, zst_s, zup_zs, zup_zn, decide_true, decide_false, hi1, hi2, z1, z2, g1, w_tsw, show ztsw (Int.toNat 13) (0) (8) #[1, 2, 6, 7, 8, 9, 10, 11, 12] (9) = 13 from rfl, o1, o2]
    refine c_Md_until hN hR (by omega) (Nat.le_of_ble_eq_true rfl) ?_
    rintro _ _ ⟨rfl, R, rfl, h3⟩
    simp (disch := first | omega | exact Nat.le_of_ble_eq_true rfl | assumption | (simp only [Int.natCast_add, Int.natCast_mul, Int.cast_ofNat_Int]; omega) | decide) only [x_aload, x_getf, w_goto, w_fall, w_iand, w_iconst, w_icmp, x_iinc, x_iload, w_ior, w_irem, w_ishl, w_ishr, x_istore, w_ixor, w_tsw, zadd_eq, gf_48_0, gf_48_5, gf_48_11, gf_48_12, gf_48_13, gf_48_27, ia_52, ia_56, ia_57, ia_58, ia_67, w_nret r_Md_heldOf, q_eq, q_ne, q_lt, q_ge, q_gt, q_le, g_I, g_L, g_R, g_V, t_0, t_I, t_R, t_U, t_L, t_s, List.getElem?_cons_zero, List.getElem?_cons_succ, Nat.reduceAdd, zif10, zif01b, zib, if_pos, if_neg, ↓reduceIte, not_true_eq_false, not_false_eq_true, Bool.true_eq_false, Bool.false_eq_true, Classical.not_not, eq_self, and_self, and_true, true_and, Int.reduceEq, Int.reduceLE, Int.reduceLT, Int.reduceNeg, Option.toList, List.cons_append, List.nil_append, zup_s, zup_n, zst_s, zup_zs, zup_zn, decide_true, decide_false]
    exact ⟨rfl, R, rfl, fun _ => h3⟩
  · have g1 : M 56 k = 8 := g1
    have o1 := o1 (by omega)
    simp (disch := first | omega | exact Nat.le_of_ble_eq_true rfl | assumption | (simp only [Int.natCast_add, Int.natCast_mul, Int.cast_ofNat_Int]; omega) | decide) only [k_Md_heldOf_12, x_aload, x_getf, w_goto, w_fall, w_iand, w_iconst, w_icmp, x_iinc, x_iload, w_ior, w_irem, w_ishl, w_ishr, x_istore, w_ixor, w_tsw, zadd_eq, gf_48_0, gf_48_5, gf_48_11, gf_48_12, gf_48_13, gf_48_27, ia_52, ia_56, ia_57, ia_58, ia_67, w_nret r_Md_heldOf, q_eq, q_ne, q_lt, q_ge, q_gt, q_le, g_I, g_L, g_R, g_V, t_0, t_I, t_R, t_U, t_L, t_s, List.getElem?_cons_zero, List.getElem?_cons_succ, Nat.reduceAdd, zif10, zif01b, zib, if_pos, if_neg, ↓reduceIte, not_true_eq_false, not_false_eq_true, Bool.true_eq_false, Bool.false_eq_true, Classical.not_not, eq_self, and_self, and_true, true_and, Int.reduceEq, Int.reduceLE, Int.reduceLT, Int.reduceNeg, Option.toList, List.cons_append, List.nil_append, zup_s, zup_n, zst_s, zup_zs, zup_zn, decide_true, decide_false, hi1, hi2, z1, z2, g1, w_tsw, show ztsw (Int.toNat 13) (0) (8) #[1, 2, 6, 7, 8, 9, 10, 11, 12] (8) = 12 from rfl, o1]
    refine c_Md_again hN hR (by omega) (Nat.le_of_ble_eq_true rfl) ?_
    rintro _ _ ⟨rfl, R, rfl, h3⟩
    simp (disch := first | omega | exact Nat.le_of_ble_eq_true rfl | assumption | (simp only [Int.natCast_add, Int.natCast_mul, Int.cast_ofNat_Int]; omega) | decide) only [x_aload, x_getf, w_goto, w_fall, w_iand, w_iconst, w_icmp, x_iinc, x_iload, w_ior, w_irem, w_ishl, w_ishr, x_istore, w_ixor, w_tsw, zadd_eq, gf_48_0, gf_48_5, gf_48_11, gf_48_12, gf_48_13, gf_48_27, ia_52, ia_56, ia_57, ia_58, ia_67, w_nret r_Md_heldOf, q_eq, q_ne, q_lt, q_ge, q_gt, q_le, g_I, g_L, g_R, g_V, t_0, t_I, t_R, t_U, t_L, t_s, List.getElem?_cons_zero, List.getElem?_cons_succ, Nat.reduceAdd, zif10, zif01b, zib, if_pos, if_neg, ↓reduceIte, not_true_eq_false, not_false_eq_true, Bool.true_eq_false, Bool.false_eq_true, Classical.not_not, eq_self, and_self, and_true, true_and, Int.reduceEq, Int.reduceLE, Int.reduceLT, Int.reduceNeg, Option.toList, List.cons_append, List.nil_append, zup_s, zup_n, zst_s, zup_zs, zup_zn, decide_true, decide_false]
    exact ⟨rfl, R, rfl, fun _ => h3⟩
theorem c_Md_heldOf {d mi o b9 : Nat} {es : List zEnt} {L st : List zMV} {Q : Option zMV → (Nat → Int → Int) → Prop} {k : Nat} {one two : Nat → Bool} (hN : zNet S P mv tg) (hR : zNetR S P mv tg M) (hL : zLetR lt M) (hlt : ∀ s, lt s < 256) (hF : zForm P n kd lf rt gp) (hFR : zFormR n kd lf rt gp M) (hk : k < n) (h1 : 2 ≤ kd k → M 67 (lf k : Int) = zset S one) (h2 : ztwo (kd k) = true → M 67 (rt k : Int) = zset S two) (hd : 6 + 1 ≤ d) (hc : zcats st ≤ 8) (hpost : ∀ r M', (r = some (zI (zset S (zJ (zCn mv tg P (zbit g)) lt (kd k) (lf k) one two))) ∧ ∃ R, M' = zst M 68 R ∧ (7 ≤ kd k → ∀ s : Nat, s < S → R s = zneg4 (zrd (zCn mv tg P (zbit g)) (zJA (kd k) one) (zJB (zCn mv tg P (zbit g)) (kd k) one two) s))) → zW (zSH Ln) d mi es L (r.toList ++ st) M' Q) : zW (zSH Ln) d mi ((.invokevirtual o, 201, b9) :: es) L (zI g :: zI (k : Int) :: zR 48 :: st) M Q :=
  w_callv (ps := [zI (k : Int), zI g]) (by omega) rfl rfl (by omega) (by exact sh_48 Ln) hc (Nat.le_of_ble_eq_true rfl) (F_Md_heldOf hN hR hL hlt hF hFR hk h1 h2 (by omega)) hpost
/-- what the reference has told -/
def zLawR (S P n : Nat) (mv tg : Nat → Nat → Nat) (lt kd lf rt gp : Nat → Nat) (M : Nat → Int → Int) : Prop := (∀ k : Nat, k < n → M 67 (k : Int) = zset S (zHp mv tg P lt kd lf rt gp k)) ∧ (7 ≤ kd 0 → ∀ s : Nat, s < S → M 68 (s : Int) = zneg4 (zRd mv tg P lt kd lf rt gp s))
theorem F_Md_tell {d : Nat} (hN : zNet S P mv tg) (hR : zNetR S P mv tg M) (hL : zLetR lt M) (hlt : ∀ s, lt s < 256) (hF : zForm P n kd lf rt gp) (hFR : zFormR n kd lf rt gp M) (hd : 7 ≤ d) : zF (zSH Ln) d i_Md_tell [zR 48] M fun r M' => r = some (zI (zset S (zHp mv tg P lt kd lf rt gp 0))) ∧ ∃ H R, M' = zst (zst M 67 H) 68 R ∧ zLawR S P n mv tg lt kd lf rt gp M' := by
  rw [zF_en k_Md_tell_0 (L := [zR 48, zU]) rfl]
  have hn := hF.2.1
  have hS := hN.2.1
  simp (disch := first | omega | exact Nat.le_of_ble_eq_true rfl | assumption | (simp only [Int.natCast_add, Int.natCast_mul, Int.cast_ofNat_Int]; omega) | decide) only [x_aload, x_getf, w_goto, w_fall, w_iconst, w_if, x_iinc, x_iload, x_istore, w_isub, zsub_eq, zadd_eq, gf_48_10, gf_48_14, gf_48_27, ia_59, sa_59, ia_67, sa_67, w_nret r_Md_tell, q_eq, q_ne, q_lt, q_ge, q_gt, q_le, g_I, g_L, g_R, g_V, t_0, t_I, t_R, t_U, t_L, t_s, List.getElem?_cons_zero, List.getElem?_cons_succ, Nat.reduceAdd, zif10, zif01b, zib, if_pos, if_neg, ↓reduceIte, not_true_eq_false, not_false_eq_true, Bool.true_eq_false, Bool.false_eq_true, Classical.not_not, eq_self, and_self, and_true, true_and, Int.reduceEq, Int.reduceLE, Int.reduceLT, Int.reduceNeg, Option.toList, List.cons_append, List.nil_append, zup_s, zup_n, zst_s, zup_zs, zup_zn, decide_true, decide_false, hFR.1]
  refine zford (N := n) (b := 1) (fun q L0 M0 => ∃ (H : Int → Int) (R : Int → Int), L0 = [zR 48, zI ((q : Int) - 1)] ∧ M0 = zst (zst M 67 H) 68 R ∧ (∀ k : Nat, q ≤ k → k < n → H (k : Int) = zset S (zHp mv tg P lt kd lf rt gp k)) ∧ (q = 0 → 7 ≤ kd 0 → ∀ s : Nat, s < S → R (s : Int) = zneg4 (zRd mv tg P lt kd lf rt gp s))) ?_ ?_ ?_
  · refine ⟨M 67, M 68, rfl, ?_, fun k h1 h2 => by omega, fun h => by have := hF.1; omega⟩
    rw [zst_id]; exact (zst_id M 68).symm
  · rintro q _ _ hq ⟨H, R, rfl, rfl, hH, _⟩ ih
    obtain ⟨f1, f2, f3, f4, f5⟩ := hF.2.2 q hq
    obtain ⟨g1, g2, g3, g4⟩ := hFR.2.1 q hq
    have hR1 : zNetR S P mv tg (zst (zst M 67 H) 68 R) := hR
    have hL1 : zLetR lt (zst (zst M 67 H) 68 R) := hL
    have hFR1 : zFormR n kd lf rt gp (zst (zst M 67 H) 68 R) := hFR
    rw [k_Md_tell_1]
    simp (disch := first | omega | exact Nat.le_of_ble_eq_true rfl | assumption | (simp only [Int.natCast_add, Int.natCast_mul, Int.cast_ofNat_Int]; omega) | decide) only [k_Md_tell_2, x_aload, x_getf, w_goto, w_fall, w_iconst, w_if, x_iinc, x_iload, x_istore, w_isub, zsub_eq, zadd_eq, gf_48_10, gf_48_14, gf_48_27, ia_59, sa_59, ia_67, sa_67, w_nret r_Md_tell, q_eq, q_ne, q_lt, q_ge, q_gt, q_le, g_I, g_L, g_R, g_V, t_0, t_I, t_R, t_U, t_L, t_s, List.getElem?_cons_zero, List.getElem?_cons_succ, Nat.reduceAdd, zif10, zif01b, zib, if_pos, if_neg, ↓reduceIte, not_true_eq_false, not_false_eq_true, Bool.true_eq_false, Bool.false_eq_true, Classical.not_not, eq_self, and_self, and_true, true_and, Int.reduceEq, Int.reduceLE, Int.reduceLT, Int.reduceNeg, Option.toList, List.cons_append, List.nil_append, zup_s, zup_n, zst_s, zup_zs, zup_zn, decide_true, decide_false, show ((q + 1 : Nat) : Int) - 1 = (q : Int) by omega, zst_n]
    refine c_Md_heldOf (g := M 59 (q : Int)) (one := zHp mv tg P lt kd lf rt gp (lf q)) (two := zHp mv tg P lt kd lf rt gp (rt q)) hN hR1 hL1 hlt hF hFR1 hq (fun h => by have := f3 h; exact hH (lf q) (by omega) this.2) (fun h => by have := f4 h; exact hH (rt q) (by omega) this.2) (by omega) (Nat.le_of_ble_eq_true rfl) ?_
    rintro _ _ ⟨rfl, R', rfl, h3⟩
    have ez : zJ (zCn mv tg P (zbit (M 59 (q : Int)))) lt (kd q) (lf q) (zHp mv tg P lt kd lf rt gp (lf q)) (zHp mv tg P lt kd lf rt gp (rt q)) = zHp mv tg P lt kd lf rt gp q := by
      rw [zHp_eq hF hq]
      rcases Nat.lt_or_ge (kd q) 5 with h | h
      · exact zJ_C h
      · rw [g4 h]
    rw [ez]
    simp (disch := first | omega | exact Nat.le_of_ble_eq_true rfl | assumption | (simp only [Int.natCast_add, Int.natCast_mul, Int.cast_ofNat_Int]; omega) | decide) only [x_aload, x_getf, w_goto, w_fall, w_iconst, w_if, x_iinc, x_iload, x_istore, w_isub, zsub_eq, zadd_eq, gf_48_10, gf_48_14, gf_48_27, ia_59, sa_59, ia_67, sa_67, w_nret r_Md_tell, q_eq, q_ne, q_lt, q_ge, q_gt, q_le, g_I, g_L, g_R, g_V, t_0, t_I, t_R, t_U, t_L, t_s, List.getElem?_cons_zero, List.getElem?_cons_succ, Nat.reduceAdd, zif10, zif01b, zib, if_pos, if_neg, ↓reduceIte, not_true_eq_false, not_false_eq_true, Bool.true_eq_false, Bool.false_eq_true, Classical.not_not, eq_self, and_self, and_true, true_and, Int.reduceEq, Int.reduceLE, Int.reduceLT, Int.reduceNeg, Option.toList, List.cons_append, List.nil_append, zup_s, zup_n, zst_s, zup_zs, zup_zn, decide_true, decide_false, zst_zst]
    refine ih _ _ ⟨_, R', rfl, rfl, fun k h4 h5 => ?_, fun h6 h7 => ?_⟩
    · by_cases e : k = q
      · subst e; rw [zf_s]
      · rw [zf_n (by omega)]; exact hH k (by omega) h5
    · subst h6
      have := h3 h7
      rw [g4 (by omega)] at this
      exact this
  · rintro _ _ ⟨H, R, rfl, rfl, hH, h0⟩
    have hz := hH 0 (Nat.le_refl _) hF.1
    have hz' : H 0 = zset S (zHp mv tg P lt kd lf rt gp 0) := hz
    rw [k_Md_tell_1]
    simp (disch := first | omega | exact Nat.le_of_ble_eq_true rfl | assumption | (simp only [Int.natCast_add, Int.natCast_mul, Int.cast_ofNat_Int]; omega) | decide) only [k_Md_tell_3, x_aload, x_getf, w_goto, w_fall, w_iconst, w_if, x_iinc, x_iload, x_istore, w_isub, zsub_eq, zadd_eq, gf_48_10, gf_48_14, gf_48_27, ia_59, sa_59, ia_67, sa_67, w_nret r_Md_tell, q_eq, q_ne, q_lt, q_ge, q_gt, q_le, g_I, g_L, g_R, g_V, t_0, t_I, t_R, t_U, t_L, t_s, List.getElem?_cons_zero, List.getElem?_cons_succ, Nat.reduceAdd, zif10, zif01b, zib, if_pos, if_neg, ↓reduceIte, not_true_eq_false, not_false_eq_true, Bool.true_eq_false, Bool.false_eq_true, Classical.not_not, eq_self, and_self, and_true, true_and, Int.reduceEq, Int.reduceLE, Int.reduceLT, Int.reduceNeg, Option.toList, List.cons_append, List.nil_append, zup_s, zup_n, zst_s, zup_zs, zup_zn, decide_true, decide_false, zst_n, zst_s, hz']
    exact ⟨H, R, rfl, fun k hk => hH k (Nat.zero_le _) hk, h0 rfl⟩
theorem c_Md_tell {d mi o b9 : Nat} {es : List zEnt} {L st : List zMV} {Q : Option zMV → (Nat → Int → Int) → Prop} (hN : zNet S P mv tg) (hR : zNetR S P mv tg M) (hL : zLetR lt M) (hlt : ∀ s, lt s < 256) (hF : zForm P n kd lf rt gp) (hFR : zFormR n kd lf rt gp M) (hd : 7 + 1 ≤ d) (hc : zcats st ≤ 8) (hpost : ∀ r M', (r = some (zI (zset S (zHp mv tg P lt kd lf rt gp 0))) ∧ ∃ H R, M' = zst (zst M 67 H) 68 R ∧ zLawR S P n mv tg lt kd lf rt gp M') → zW (zSH Ln) d mi es L (r.toList ++ st) M' Q) : zW (zSH Ln) d mi ((.invokevirtual o, 202, b9) :: es) L (zR 48 :: st) M Q :=
  w_callv (ps := []) (by omega) rfl rfl (by omega) (by exact sh_48 Ln) hc (Nat.le_of_ble_eq_true rfl) (F_Md_tell hN hR hL hlt hF hFR (by omega)) hpost
end RE
