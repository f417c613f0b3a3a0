/-! chances: the reference's counting and equations -/
section RE
variable {Ln S P : Nat} {mv tg ch : Nat → Nat → Nat} {M : Nat → Int → Int} {lo : Int} {X Y : Nat → Bool}
theorem zEc_an (hN : zNet S P mv tg) (hch : ∀ s p, ch s p < mv s p) (W : Nat → Bool) {s : Nat} (hs : s < S) : (zan S fun r => W r && zEc (zKc mv tg P ch lo) r s) = zan (zLm mv lo s) fun k => W (zLt mv tg P ch lo s k) := by
  have h : (zan S fun r => W r && zEc (zKc mv tg P ch lo) r s) = true ↔ (zan (zLm mv lo s) fun k => W (zLt mv tg P ch lo s k)) = true := by
    rw [zan_iff, zan_iff]
    constructor
    · rintro ⟨r, hr, h⟩
      rw [Bool.and_eq_true] at h
      have h2 : 0 < zKc mv tg P ch lo s r := by simpa [zEc] using h.2
      unfold zKc at h2
      rw [zcard_pos, zan_iff] at h2
      obtain ⟨k, hk, h3⟩ := h2
      rw [decide_eq_true_eq] at h3
      exact ⟨k, hk, by rw [h3]; exact h.1⟩
    · rintro ⟨k, hk, h⟩
      refine ⟨zLt mv tg P ch lo s k, zLt_lt hN hch hs hk, ?_⟩
      rw [Bool.and_eq_true]
      refine ⟨h, ?_⟩
      have : 0 < zKc mv tg P ch lo s (zLt mv tg P ch lo s k) := by
        unfold zKc
        rw [zcard_pos, zan_iff]
        exact ⟨k, hk, by simp⟩
      simpa [zEc] using this
  cases h1 : (zan S fun r => W r && zEc (zKc mv tg P ch lo) r s) <;> cases h2 : (zan (zLm mv lo s) fun k => W (zLt mv tg P ch lo s k)) <;> simp_all
theorem F_Md_lotMany {d : Nat} {s : Nat} (hN : zNet S P mv tg) (hR : zNetR S P mv tg M) (hlo : M 48 9 = lo) (hlr : -1 ≤ lo ∧ lo < P) (hs : s < 12) (hd : 0 ≤ d) : zF (zSH Ln) d i_Md_lotMany [zR 48, zI (s : Int)] M fun r M' => r = some (zI (zLm mv lo s : Int)) ∧ M' = M := by
  rw [zF_en k_Md_lotMany_0 (L := [zR 48, zI (s : Int)]) rfl]
  have hP := hN.2.2.2.1
  by_cases hl0 : lo < 0
  · have e1 : ((zLm mv lo s : Nat) : Int) = 1 := by unfold zLm; rw [if_pos hl0]; rfl
    have hl0' : ¬ 0 ≤ lo := by omega
    simp (disch := first | omega | exact Nat.le_of_ble_eq_true rfl | assumption | (simp only [Int.natCast_add, Int.natCast_mul, Int.cast_ofNat_Int]; omega) | decide) only [k_Md_lotMany_1, k_Md_lotMany_3, x_aload, x_getf, w_goto, w_fall, w_iadd, w_iconst, w_if, x_iload, w_imul, zadd_eq, zmul_eq, gf_48_2, gf_48_9, ia_49, w_nret r_Md_lotMany, q_eq, q_ne, q_lt, q_ge, q_gt, q_le, g_I, g_L, g_R, g_V, t_0, t_I, t_R, t_U, t_L, t_s, List.getElem?_cons_zero, List.getElem?_cons_succ, Nat.reduceAdd, zif10, zif01b, zib, if_pos, if_neg, ↓reduceIte, not_true_eq_false, not_false_eq_true, Bool.true_eq_false, Bool.false_eq_true, Classical.not_not, eq_self, and_self, and_true, true_and, Int.reduceEq, Int.reduceLE, Int.reduceLT, Int.reduceNeg, Option.toList, List.cons_append, List.nil_append, zup_s, zup_n, zst_s, zup_zs, zup_zn, decide_true, decide_false, hlo, hl0', e1]
  · have hl0' : 0 ≤ lo := by omega
    obtain ⟨p, rfl⟩ : ∃ p : Nat, lo = (p : Int) := ⟨lo.toNat, by omega⟩
    have e1 : zLm mv (p : Int) s = mv s p := by unfold zLm; rw [if_neg hl0, Int.toNat_natCast]
    have e2 := hR.2.2.1 s p hs (by omega)
    simp (disch := first | omega | exact Nat.le_of_ble_eq_true rfl | assumption | (simp only [Int.natCast_add, Int.natCast_mul, Int.cast_ofNat_Int]; omega) | decide) only [k_Md_lotMany_2, k_Md_lotMany_3, x_aload, x_getf, w_goto, w_fall, w_iadd, w_iconst, w_if, x_iload, w_imul, zadd_eq, zmul_eq, gf_48_2, gf_48_9, ia_49, w_nret r_Md_lotMany, q_eq, q_ne, q_lt, q_ge, q_gt, q_le, g_I, g_L, g_R, g_V, t_0, t_I, t_R, t_U, t_L, t_s, List.getElem?_cons_zero, List.getElem?_cons_succ, Nat.reduceAdd, zif10, zif01b, zib, if_pos, if_neg, ↓reduceIte, not_true_eq_false, not_false_eq_true, Bool.true_eq_false, Bool.false_eq_true, Classical.not_not, eq_self, and_self, and_true, true_and, Int.reduceEq, Int.reduceLE, Int.reduceLT, Int.reduceNeg, Option.toList, List.cons_append, List.nil_append, zup_s, zup_n, zst_s, zup_zs, zup_zn, decide_true, decide_false, hlo, hl0', e1, e2]
theorem c_Md_lotMany {d mi o b9 : Nat} {es : List zEnt} {L st : List zMV} {Q : Option zMV → (Nat → Int → Int) → Prop} {s : Nat} (hN : zNet S P mv tg) (hR : zNetR S P mv tg M) (hlo : M 48 9 = lo) (hlr : -1 ≤ lo ∧ lo < P) (hs : s < 12) (hd : 0 + 1 ≤ d) (hc : zcats st ≤ 8) : zW (zSH Ln) d mi ((.invokevirtual o, 236, b9) :: es) L (zI (s : Int) :: zR 48 :: st) M Q = zW (zSH Ln) d mi es L (zI (zLm mv lo s : Int) :: st) (M) Q :=
  c_virt (ps := [zI (s : Int)]) (by omega) rfl rfl (by omega) (by exact sh_48 Ln) hc (Nat.le_of_ble_eq_true rfl) (F_Md_lotMany hN hR hlo hlr hs (by omega))
set_option maxHeartbeats 20000000 in
theorem F_Md_common {d : Nat} {a b : Int} (ha : -4000000000000000000 ≤ a ∧ a ≤ 4000000000000000000) (hb : -4000000000000000000 ≤ b ∧ b ≤ 4000000000000000000) (hd : 0 ≤ d) : zF (zSH Ln) d i_Md_common [zL a, zL b] M fun r M' => r = some (zL ((Nat.gcd a.natAbs b.natAbs : Nat) : Int)) ∧ M' = M := by
  rw [zF_en k_Md_common_0 (L := [zL a, zU, zL b, zU, zU, zU, zU, zU, zU, zU]) rfl]
  have loop : ∀ (y x : Nat) (xi yi : Int) (v8 v9 : zMV), xi = x → yi = y → x ≤ 4000000000000000000 → y ≤ 4000000000000000000 → Nat.gcd y x = Nat.gcd a.natAbs b.natAbs → zW (zSH Ln) d i_Md_common (zblk i_Md_common 7) [zL a, zU, zL b, zU, zL xi, zU, zL yi, zU, v8, v9] [] M fun r M' => r = some (zL ((Nat.gcd a.natAbs b.natAbs : Nat) : Int)) ∧ M' = M := by
    intro y
    induction y using Nat.strongRecOn with
    | _ y ih =>
      intro x xi yi v8 v9 hxi hyi hx hy hg
      subst hxi hyi
      by_cases h0 : y = 0
      · subst h0
        rw [Nat.gcd_zero_left] at hg
        subst hg
        rw [k_Md_common_7]
        simp (disch := first | omega | exact Nat.le_of_ble_eq_true rfl | assumption | (simp only [Int.natCast_add, Int.natCast_mul, Int.cast_ofNat_Int]; omega) | decide) only [k_Md_common_9, w_goto, w_fall, w_if, w_lcmp, x_lload, w_lrem, x_lstore2, List.length_cons, List.length_nil, List.set_cons_succ, List.set_cons_zero, Nat.reduceLT, Nat.zero_add, w_lsub, w_sipush, w_jret r_Md_common, q_eq, q_ne, q_lt, q_ge, q_gt, q_le, g_I, g_L, g_R, g_V, t_0, t_I, t_R, t_U, t_L, t_s, List.getElem?_cons_zero, List.getElem?_cons_succ, Nat.reduceAdd, zif10, zif01b, zib, if_pos, if_neg, ↓reduceIte, not_true_eq_false, not_false_eq_true, Bool.true_eq_false, Bool.false_eq_true, Classical.not_not, eq_self, and_self, and_true, true_and, Int.reduceEq, Int.reduceLE, Int.reduceLT, Int.reduceNeg, Option.toList, List.cons_append, List.nil_append, zup_s, zup_n, zst_s, zup_zs, zup_zn, decide_true, decide_false, show ((0 : Nat) : Int) = 0 from rfl, show zlcmp 0 0 = 0 from rfl]
      · have hy0 : ¬ (y : Int) = 0 := by omega
        have hlc : zlcmp (y : Int) 0 = 1 := by unfold zlcmp; rw [if_neg (by omega), if_neg hy0]
        have hr := zlrem_nat (a := x) (d := y) (by omega) (by omega)
        have hlt := Nat.mod_lt x (show y > 0 by omega)
        rw [k_Md_common_7]
        simp (disch := first | omega | exact Nat.le_of_ble_eq_true rfl | assumption | (simp only [Int.natCast_add, Int.natCast_mul, Int.cast_ofNat_Int]; omega) | decide) only [k_Md_common_8, w_goto, w_fall, w_if, w_lcmp, x_lload, w_lrem, x_lstore2, List.length_cons, List.length_nil, List.set_cons_succ, List.set_cons_zero, Nat.reduceLT, Nat.zero_add, w_lsub, w_sipush, w_jret r_Md_common, q_eq, q_ne, q_lt, q_ge, q_gt, q_le, g_I, g_L, g_R, g_V, t_0, t_I, t_R, t_U, t_L, t_s, List.getElem?_cons_zero, List.getElem?_cons_succ, Nat.reduceAdd, zif10, zif01b, zib, if_pos, if_neg, ↓reduceIte, not_true_eq_false, not_false_eq_true, Bool.true_eq_false, Bool.false_eq_true, Classical.not_not, eq_self, and_self, and_true, true_and, Int.reduceEq, Int.reduceLE, Int.reduceLT, Int.reduceNeg, Option.toList, List.cons_append, List.nil_append, zup_s, zup_n, zst_s, zup_zs, zup_zn, decide_true, decide_false, hlc, w_lrem hy0, hr]
        exact ih (x % y) hlt y _ _ _ _ rfl rfl hy (by omega) (by rw [← Nat.gcd_rec]; exact hg)
  have go := fun xi yi v8 v9 h1 h2 => loop b.natAbs a.natAbs xi yi v8 v9 h1 h2 (by omega) (by omega) (Nat.gcd_comm _ _)
  have z1 : ∀ v : Int, v < 0 → zlcmp v 0 = -1 := fun v h => by unfold zlcmp; rw [if_pos h]
  have z2 : ∀ v : Int, 0 ≤ v → 0 ≤ zlcmp v 0 := fun v h => by
    unfold zlcmp; rw [if_neg (by omega)]; split <;> omega
  by_cases a0 : a < 0
  · have a1 := z1 a a0
    have a2 : zlsub 0 a = -a := by rw [zlsub_eq (by omega) (by omega)]; omega
    by_cases b0 : b < 0
    · have b1 := z1 b b0
      have b2 : zlsub 0 b = -b := by rw [zlsub_eq (by omega) (by omega)]; omega
      simp (disch := first | omega | exact Nat.le_of_ble_eq_true rfl | assumption | (simp only [Int.natCast_add, Int.natCast_mul, Int.cast_ofNat_Int]; omega) | decide) only [k_Md_common_1, k_Md_common_3, k_Md_common_4, k_Md_common_6, w_goto, w_fall, w_if, w_lcmp, x_lload, w_lrem, x_lstore2, List.length_cons, List.length_nil, List.set_cons_succ, List.set_cons_zero, Nat.reduceLT, Nat.zero_add, w_lsub, w_sipush, w_jret r_Md_common, q_eq, q_ne, q_lt, q_ge, q_gt, q_le, g_I, g_L, g_R, g_V, t_0, t_I, t_R, t_U, t_L, t_s, List.getElem?_cons_zero, List.getElem?_cons_succ, Nat.reduceAdd, zif10, zif01b, zib, if_pos, if_neg, ↓reduceIte, not_true_eq_false, not_false_eq_true, Bool.true_eq_false, Bool.false_eq_true, Classical.not_not, eq_self, and_self, and_true, true_and, Int.reduceEq, Int.reduceLE, Int.reduceLT, Int.reduceNeg, Option.toList, List.cons_append, List.nil_append, zup_s, zup_n, zst_s, zup_zs, zup_zn, decide_true, decide_false, a1, a2, b1, b2]
      exact go _ _ _ _ (by omega) (by omega)
    · have b1 := z2 b (by omega)
      simp (disch := first | omega | exact Nat.le_of_ble_eq_true rfl | assumption | (simp only [Int.natCast_add, Int.natCast_mul, Int.cast_ofNat_Int]; omega) | decide) only [k_Md_common_1, k_Md_common_3, k_Md_common_5, k_Md_common_6, w_goto, w_fall, w_if, w_lcmp, x_lload, w_lrem, x_lstore2, List.length_cons, List.length_nil, List.set_cons_succ, List.set_cons_zero, Nat.reduceLT, Nat.zero_add, w_lsub, w_sipush, w_jret r_Md_common, q_eq, q_ne, q_lt, q_ge, q_gt, q_le, g_I, g_L, g_R, g_V, t_0, t_I, t_R, t_U, t_L, t_s, List.getElem?_cons_zero, List.getElem?_cons_succ, Nat.reduceAdd, zif10, zif01b, zib, if_pos, if_neg, ↓reduceIte, not_true_eq_false, not_false_eq_true, Bool.true_eq_false, Bool.false_eq_true, Classical.not_not, eq_self, and_self, and_true, true_and, Int.reduceEq, Int.reduceLE, Int.reduceLT, Int.reduceNeg, Option.toList, List.cons_append, List.nil_append, zup_s, zup_n, zst_s, zup_zs, zup_zn, decide_true, decide_false, a1, a2, b1]
      exact go _ _ _ _ (by omega) (by omega)
  · have a1 := z2 a (by omega)
    by_cases b0 : b < 0
    · have b1 := z1 b b0
      have b2 : zlsub 0 b = -b := by rw [zlsub_eq (by omega) (by omega)]; omega
      simp (disch := first | omega | exact Nat.le_of_ble_eq_true rfl | assumption | (simp only [Int.natCast_add, Int.natCast_mul, Int.cast_ofNat_Int]; omega) | decide) only [k_Md_common_2, k_Md_common_3, k_Md_common_4, k_Md_common_6, w_goto, w_fall, w_if, w_lcmp, x_lload, w_lrem, x_lstore2, List.length_cons, List.length_nil, List.set_cons_succ, List.set_cons_zero, Nat.reduceLT, Nat.zero_add, w_lsub, w_sipush, w_jret r_Md_common, q_eq, q_ne, q_lt, q_ge, q_gt, q_le, g_I, g_L, g_R, g_V, t_0, t_I, t_R, t_U, t_L, t_s, List.getElem?_cons_zero, List.getElem?_cons_succ, Nat.reduceAdd, zif10, zif01b, zib, if_pos, if_neg, ↓reduceIte, not_true_eq_false, not_false_eq_true, Bool.true_eq_false, Bool.false_eq_true, Classical.not_not, eq_self, and_self, and_true, true_and, Int.reduceEq, Int.reduceLE, Int.reduceLT, Int.reduceNeg, Option.toList, List.cons_append, List.nil_append, zup_s, zup_n, zst_s, zup_zs, zup_zn, decide_true, decide_false, a1, b1, b2]
      exact go _ _ _ _ (by omega) (by omega)
    · have b1 := z2 b (by omega)
      simp (disch := first | omega | exact Nat.le_of_ble_eq_true rfl | assumption | (simp only [Int.natCast_add, Int.natCast_mul, Int.cast_ofNat_Int]; omega) | decide) only [k_Md_common_2, k_Md_common_3, k_Md_common_5, k_Md_common_6, w_goto, w_fall, w_if, w_lcmp, x_lload, w_lrem, x_lstore2, List.length_cons, List.length_nil, List.set_cons_succ, List.set_cons_zero, Nat.reduceLT, Nat.zero_add, w_lsub, w_sipush, w_jret r_Md_common, q_eq, q_ne, q_lt, q_ge, q_gt, q_le, g_I, g_L, g_R, g_V, t_0, t_I, t_R, t_U, t_L, t_s, List.getElem?_cons_zero, List.getElem?_cons_succ, Nat.reduceAdd, zif10, zif01b, zib, if_pos, if_neg, ↓reduceIte, not_true_eq_false, not_false_eq_true, Bool.true_eq_false, Bool.false_eq_true, Classical.not_not, eq_self, and_self, and_true, true_and, Int.reduceEq, Int.reduceLE, Int.reduceLT, Int.reduceNeg, Option.toList, List.cons_append, List.nil_append, zup_s, zup_n, zst_s, zup_zs, zup_zn, decide_true, decide_false, a1, b1]
      exact go _ _ _ _ (by omega) (by omega)
theorem c_Md_common {d mi o b9 : Nat} {es : List zEnt} {L st : List zMV} {Q : Option zMV → (Nat → Int → Int) → Prop} {a b : Int} (ha : -4000000000000000000 ≤ a ∧ a ≤ 4000000000000000000) (hb : -4000000000000000000 ≤ b ∧ b ≤ 4000000000000000000) (hd : 0 + 1 ≤ d) (hc : zcats st ≤ 8) : zW (zSH Ln) d mi ((.invokestatic o, 237, b9) :: es) L (zL b :: zL a :: st) M Q = zW (zSH Ln) d mi es L (zL ((Nat.gcd a.natAbs b.natAbs : Nat) : Int) :: st) (M) Q :=
  c_stat (vs := [zL a, zL b]) (by omega) rfl rfl hc (Nat.le_of_ble_eq_true rfl) (F_Md_common ha hb (by omega))
set_option maxHeartbeats 20000000 in
theorem F_Md_coming {d : Nat} (hN : zNet S P mv tg) (hR : zNetR S P mv tg M) (hK : zPkR ch M) (hch : ∀ s p, ch s p < mv s p) (hlo : M 48 9 = lo) (hlr : -1 ≤ lo ∧ lo < P) (hd : 1 ≤ d) : zF (zSH Ln) d i_Md_coming [zR 48, zI (zset S X)] M fun r M' => r = some (zI (zset S (zRc S (zEc (zKc mv tg P ch lo)) X 12))) ∧ M' = M := by
  rw [zF_en k_Md_coming_0 (L := [zR 48, zI (zset S X), zU, zU, zU, zU]) rfl]
  have hS := hN.2.1
  have hP := hN.2.2.2.1
  generalize hZ : zRc S (zEc (zKc mv tg P ch lo)) X = Z
  have hZ0 : Z 0 = X := by rw [← hZ]; rfl
  have hZs : ∀ i s, s < S → Z (i + 1) s = (Z i s || zan (zLm mv lo s) fun k => Z i (zLt mv tg P ch lo s k)) := fun i s hs => by
    rw [← zEc_an hN hch (Z i) hs, ← hZ]; rfl
  have hst : ∀ i j, (zeqS S (Z (i + 1)) (Z i) ∨ S ≤ i) → i ≤ j → zeqS S (Z j) (Z i) := fun i j h h2 => by rw [← hZ] at h ⊢; exact zRc_stay i j h h2
  have hz0 := zset_0 S X
  simp (disch := first | omega | exact Nat.le_of_ble_eq_true rfl | assumption | (simp only [Int.natCast_add, Int.natCast_mul, Int.cast_ofNat_Int]; omega) | decide) only [x_aload, x_getf, w_goto, w_fall, w_iand, w_iconst, w_icmp, x_iinc, x_iload, w_ior, w_ishl, w_ishr, x_istore, zadd_eq, gf_48_0, gf_48_9, w_nret r_Md_coming, q_eq, q_ne, q_lt, q_ge, q_gt, q_le, g_I, g_L, g_R, g_V, t_0, t_I, t_R, t_U, t_L, t_s, List.getElem?_cons_zero, List.getElem?_cons_succ, Nat.reduceAdd, zif10, zif01b, zib, if_pos, if_neg, ↓reduceIte, not_true_eq_false, not_false_eq_true, Bool.true_eq_false, Bool.false_eq_true, Classical.not_not, eq_self, and_self, and_true, true_and, Int.reduceEq, Int.reduceLE, Int.reduceLT, Int.reduceNeg, Option.toList, List.cons_append, List.nil_append, zup_s, zup_n, zst_s, zup_zs, zup_zn, decide_true, decide_false]
  rw [← hZ0]
  refine zfor (a := 0) (N := 14) (b := 1) (fun i L0 M0 => ∃ (w : Int) (v4 : zMV) (v5 : zMV), L0 = [zR 48, zI (zset S (Z 0)), zI (zset S (Z i)), zI w, v4, v5] ∧ M0 = M ∧ ((¬ zset S (Z i) = w) ∧ ∀ j, j < i → ¬ zeqS S (Z (j + 1)) (Z j))) ?_ ?_ ?_ ?_
  · exact Nat.zero_le _
  · exact ⟨-1, zU, zU, rfl, rfl, by rw [hZ0]; omega, fun j hj => by omega⟩
  · rintro i _ M _ hi ⟨w, v4, v5, rfl, rfl, hw, hne⟩ ih
    have hi12 : i ≤ 12 := by
      rcases Nat.lt_or_ge 12 i with h | h
      · exact absurd (hst 12 13 (Or.inr hS) (by omega)) (hne 12 h)
      · exact h
    rw [k_Md_coming_1]
    simp (disch := first | omega | exact Nat.le_of_ble_eq_true rfl | assumption | (simp only [Int.natCast_add, Int.natCast_mul, Int.cast_ofNat_Int]; omega) | decide) only [k_Md_coming_2, x_aload, x_getf, w_goto, w_fall, w_iand, w_iconst, w_icmp, x_iinc, x_iload, w_ior, w_ishl, w_ishr, x_istore, zadd_eq, gf_48_0, gf_48_9, w_nret r_Md_coming, q_eq, q_ne, q_lt, q_ge, q_gt, q_le, g_I, g_L, g_R, g_V, t_0, t_I, t_R, t_U, t_L, t_s, List.getElem?_cons_zero, List.getElem?_cons_succ, Nat.reduceAdd, zif10, zif01b, zib, if_pos, if_neg, ↓reduceIte, not_true_eq_false, not_false_eq_true, Bool.true_eq_false, Bool.false_eq_true, Classical.not_not, eq_self, and_self, and_true, true_and, Int.reduceEq, Int.reduceLE, Int.reduceLT, Int.reduceNeg, Option.toList, List.cons_append, List.nil_append, zup_s, zup_n, zst_s, zup_zs, zup_zn, decide_true, decide_false, hw]
    refine zfor (a := 0) (N := S) (b := 3) (fun s L0 M0 => ∃ (Y : Nat → Bool) (v5 : zMV), L0 = [zR 48, zI (zset S (Z 0)), zI (zset S Y), zI (zset S (Z i)), zI (s : Int), v5] ∧ M0 = M ∧ (∀ u, u < S → Y u = if u < s then Z (i + 1) u else Z i u)) ?_ ?_ ?_ ?_
    · exact Nat.zero_le _
    · exact ⟨Z i, v5, rfl, rfl, fun u hu => by rw [if_neg (by omega)]⟩
    · rintro s _ M _ hs ⟨Y, v5, rfl, rfl, hY⟩ ih2
      have hlm := zLm_3 hN.2.2.2.2.1 lo s
      rw [k_Md_coming_3]
      simp (disch := first | omega | exact Nat.le_of_ble_eq_true rfl | assumption | (simp only [Int.natCast_add, Int.natCast_mul, Int.cast_ofNat_Int]; omega) | decide) only [k_Md_coming_4, x_aload, x_getf, w_goto, w_fall, w_iand, w_iconst, w_icmp, x_iinc, x_iload, w_ior, w_ishl, w_ishr, x_istore, zadd_eq, gf_48_0, gf_48_9, w_nret r_Md_coming, q_eq, q_ne, q_lt, q_ge, q_gt, q_le, g_I, g_L, g_R, g_V, t_0, t_I, t_R, t_U, t_L, t_s, List.getElem?_cons_zero, List.getElem?_cons_succ, Nat.reduceAdd, zif10, zif01b, zib, if_pos, if_neg, ↓reduceIte, not_true_eq_false, not_false_eq_true, Bool.true_eq_false, Bool.false_eq_true, Classical.not_not, eq_self, and_self, and_true, true_and, Int.reduceEq, Int.reduceLE, Int.reduceLT, Int.reduceNeg, Option.toList, List.cons_append, List.nil_append, zup_s, zup_n, zst_s, zup_zs, zup_zn, decide_true, decide_false, hR.1]
      refine zfor (a := 0) (N := (zLm mv lo s)) (b := 5) (fun k L0 M0 => ∃ (V : Nat → Bool), L0 = [zR 48, zI (zset S (Z 0)), zI (zset S V), zI (zset S (Z i)), zI (s : Int), zI (k : Int)] ∧ M0 = M ∧ (∀ u, u < S → V u = (Y u || (decide (u = s) && zan k fun a => Z i (zLt mv tg P ch lo s a))))) ?_ ?_ ?_ ?_
      · exact Nat.zero_le _
      · exact ⟨Y, rfl, rfl, fun u hu => by simp [zan]⟩
      · rintro k _ M _ hk ⟨V, rfl, rfl, hV⟩ ih3
        have hlt := zLt_lt hN hch hs hk
        have hy : ∀ p : Nat, (p : Int) = lo → k < mv s p := fun p h => by
          unfold zLm at hk
          rw [if_neg (by omega), ← h] at hk
          simpa using hk
        have hmo : tg s (znum (mv s) (fun p : Nat => if (p : Int) = lo then k else ch s p) P) = zLt mv tg P ch lo s k := rfl
        have nx : ∀ _ : Nat, (zan (k + 1) fun a => Z i (zLt mv tg P ch lo s a)) = ((zan k fun a => Z i (zLt mv tg P ch lo s a)) || Z i (zLt mv tg P ch lo s k)) := fun u => rfl
        rw [k_Md_coming_5]
        cases hz : Z i (zLt mv tg P ch lo s k)
        · simp (disch := first | omega | exact Nat.le_of_ble_eq_true rfl | assumption | (simp only [Int.natCast_add, Int.natCast_mul, Int.cast_ofNat_Int]; omega) | decide) only [k_Md_coming_6, x_aload, x_getf, w_goto, w_fall, w_iand, w_iconst, w_icmp, x_iinc, x_iload, w_ior, w_ishl, w_ishr, x_istore, zadd_eq, gf_48_0, gf_48_9, w_nret r_Md_coming, q_eq, q_ne, q_lt, q_ge, q_gt, q_le, g_I, g_L, g_R, g_V, t_0, t_I, t_R, t_U, t_L, t_s, List.getElem?_cons_zero, List.getElem?_cons_succ, Nat.reduceAdd, zif10, zif01b, zib, if_pos, if_neg, ↓reduceIte, not_true_eq_false, not_false_eq_true, Bool.true_eq_false, Bool.false_eq_true, Classical.not_not, eq_self, and_self, and_true, true_and, Int.reduceEq, Int.reduceLE, Int.reduceLT, Int.reduceNeg, Option.toList, List.cons_append, List.nil_append, zup_s, zup_n, zst_s, zup_zs, zup_zn, decide_true, decide_false, c_Md_lotMany hN hR hlo hlr (show s < 12 by omega), hlo, c_Md_leadsWith hN hR hK hch hs hy, hmo, zset_has, hz, zshl_z, zor_z]
          refine ih3 _ _ ⟨V, rfl, rfl, fun u hu => ?_⟩
          rw [hV u hu, nx 0, hz, Bool.or_false]
        · simp (disch := first | omega | exact Nat.le_of_ble_eq_true rfl | assumption | (simp only [Int.natCast_add, Int.natCast_mul, Int.cast_ofNat_Int]; omega) | decide) only [k_Md_coming_6, x_aload, x_getf, w_goto, w_fall, w_iand, w_iconst, w_icmp, x_iinc, x_iload, w_ior, w_ishl, w_ishr, x_istore, zadd_eq, gf_48_0, gf_48_9, w_nret r_Md_coming, q_eq, q_ne, q_lt, q_ge, q_gt, q_le, g_I, g_L, g_R, g_V, t_0, t_I, t_R, t_U, t_L, t_s, List.getElem?_cons_zero, List.getElem?_cons_succ, Nat.reduceAdd, zif10, zif01b, zib, if_pos, if_neg, ↓reduceIte, not_true_eq_false, not_false_eq_true, Bool.true_eq_false, Bool.false_eq_true, Classical.not_not, eq_self, and_self, and_true, true_and, Int.reduceEq, Int.reduceLE, Int.reduceLT, Int.reduceNeg, Option.toList, List.cons_append, List.nil_append, zup_s, zup_n, zst_s, zup_zs, zup_zn, decide_true, decide_false, c_Md_lotMany hN hR hlo hlr (show s < 12 by omega), hlo, c_Md_leadsWith hN hR hK hch hs hy, hmo, zset_has, hz, zset_up]
          refine ih3 _ _ ⟨_, rfl, rfl, fun u hu => ?_⟩
          rw [hV u hu, nx 0, hz, Bool.or_true, Bool.and_true]
          cases Y u <;> cases h : decide (u = s) <;> simp
      · rintro _ M ⟨V, rfl, rfl, hV⟩
        rw [k_Md_coming_5]
        simp (disch := first | omega | exact Nat.le_of_ble_eq_true rfl | assumption | (simp only [Int.natCast_add, Int.natCast_mul, Int.cast_ofNat_Int]; omega) | decide) only [k_Md_coming_7, x_aload, x_getf, w_goto, w_fall, w_iand, w_iconst, w_icmp, x_iinc, x_iload, w_ior, w_ishl, w_ishr, x_istore, zadd_eq, gf_48_0, gf_48_9, w_nret r_Md_coming, q_eq, q_ne, q_lt, q_ge, q_gt, q_le, g_I, g_L, g_R, g_V, t_0, t_I, t_R, t_U, t_L, t_s, List.getElem?_cons_zero, List.getElem?_cons_succ, Nat.reduceAdd, zif10, zif01b, zib, if_pos, if_neg, ↓reduceIte, not_true_eq_false, not_false_eq_true, Bool.true_eq_false, Bool.false_eq_true, Classical.not_not, eq_self, and_self, and_true, true_and, Int.reduceEq, Int.reduceLE, Int.reduceLT, Int.reduceNeg, Option.toList, List.cons_append, List.nil_append, zup_s, zup_n, zst_s, zup_zs, zup_zn, decide_true, decide_false, c_Md_lotMany hN hR hlo hlr (show s < 12 by omega)]
        refine ih2 _ _ ⟨V, _, rfl, rfl, fun u hu => ?_⟩
        rw [hV u hu, hY u hu]
        by_cases e : u = s
        · subst e
          rw [if_neg (by omega), if_pos (by omega), hZs i u hu]; simp
        · by_cases e2 : u < s
          · rw [if_pos e2, if_pos (by omega)]; simp [e]
          · rw [if_neg e2, if_neg (by omega)]; simp [e]
    · rintro _ M ⟨Y, v5, rfl, rfl, hY⟩
      have e1 : zset S Y = zset S (Z (i + 1)) := zset_cong fun y hy => by rw [hY y hy, if_pos hy]
      rw [k_Md_coming_3]
      simp (disch := first | omega | exact Nat.le_of_ble_eq_true rfl | assumption | (simp only [Int.natCast_add, Int.natCast_mul, Int.cast_ofNat_Int]; omega) | decide) only [k_Md_coming_8, x_aload, x_getf, w_goto, w_fall, w_iand, w_iconst, w_icmp, x_iinc, x_iload, w_ior, w_ishl, w_ishr, x_istore, zadd_eq, gf_48_0, gf_48_9, w_nret r_Md_coming, q_eq, q_ne, q_lt, q_ge, q_gt, q_le, g_I, g_L, g_R, g_V, t_0, t_I, t_R, t_U, t_L, t_s, List.getElem?_cons_zero, List.getElem?_cons_succ, Nat.reduceAdd, zif10, zif01b, zib, if_pos, if_neg, ↓reduceIte, not_true_eq_false, not_false_eq_true, Bool.true_eq_false, Bool.false_eq_true, Classical.not_not, eq_self, and_self, and_true, true_and, Int.reduceEq, Int.reduceLE, Int.reduceLT, Int.reduceNeg, Option.toList, List.cons_append, List.nil_append, zup_s, zup_n, zst_s, zup_zs, zup_zn, decide_true, decide_false, hR.1, e1]
      by_cases he : zeqS S (Z (i + 1)) (Z i)
      · have e2 := zset_cong he
        have e3 := hst i 12 (Or.inl he) hi12
        rw [k_Md_coming_1]
        simp (disch := first | omega | exact Nat.le_of_ble_eq_true rfl | assumption | (simp only [Int.natCast_add, Int.natCast_mul, Int.cast_ofNat_Int]; omega) | decide) only [k_Md_coming_9, x_aload, x_getf, w_goto, w_fall, w_iand, w_iconst, w_icmp, x_iinc, x_iload, w_ior, w_ishl, w_ishr, x_istore, zadd_eq, gf_48_0, gf_48_9, w_nret r_Md_coming, q_eq, q_ne, q_lt, q_ge, q_gt, q_le, g_I, g_L, g_R, g_V, t_0, t_I, t_R, t_U, t_L, t_s, List.getElem?_cons_zero, List.getElem?_cons_succ, Nat.reduceAdd, zif10, zif01b, zib, if_pos, if_neg, ↓reduceIte, not_true_eq_false, not_false_eq_true, Bool.true_eq_false, Bool.false_eq_true, Classical.not_not, eq_self, and_self, and_true, true_and, Int.reduceEq, Int.reduceLE, Int.reduceLT, Int.reduceNeg, Option.toList, List.cons_append, List.nil_append, zup_s, zup_n, zst_s, zup_zs, zup_zn, decide_true, decide_false, e2]
        rw [zset_cong e3]
      · exact ih _ _ ⟨_, _, _, rfl, rfl, fun z => he ((zset_iff (by omega)).mp z), fun j hj => by
          by_cases e : j = i
          · subst e; exact he
          · exact hne j (by omega)⟩
  · rintro _ M ⟨w, v4, v5, rfl, rfl, hw, hne⟩
    exact absurd (hst 12 13 (Or.inr hS) (by omega)) (hne 12 (by omega))
theorem c_Md_coming {d mi o b9 : Nat} {es : List zEnt} {L st : List zMV} {Q : Option zMV → (Nat → Int → Int) → Prop} (hN : zNet S P mv tg) (hR : zNetR S P mv tg M) (hK : zPkR ch M) (hch : ∀ s p, ch s p < mv s p) (hlo : M 48 9 = lo) (hlr : -1 ≤ lo ∧ lo < P) (hd : 1 + 1 ≤ d) (hc : zcats st ≤ 8) : zW (zSH Ln) d mi ((.invokevirtual o, 238, b9) :: es) L (zI (zset S X) :: zR 48 :: st) M Q = zW (zSH Ln) d mi es L (zI (zset S (zRc S (zEc (zKc mv tg P ch lo)) X 12)) :: st) (M) Q :=
  c_virt (ps := [zI (zset S X)]) (by omega) rfl rfl (by omega) (by exact sh_48 Ln) hc (Nat.le_of_ble_eq_true rfl) (F_Md_coming hN hR hK hch hlo hlr (by omega))
end RE
