/-! goals: the class -/
def zNy (mv tg : Nat → Nat → Nat) (P : Nat) (ch : Nat → Nat → Nat) (s : Nat) : Nat := tg s (znum (mv s) (ch s) P)
def zMo (mv tg : Nat → Nat → Nat) (P : Nat) (ch : Nat → Nat → Nat) (p s k : Nat) : Nat := tg s (znum (mv s) (fun q : Nat => if (q : Int) = (p : Int) then k else ch s q) P)
def zEm (mv tg : Nat → Nat → Nat) (P : Nat) (ch : Nat → Nat → Nat) (p s t : Nat) : Bool := zan (mv s p) fun k => decide (zMo mv tg P ch p s k = t)
def zCon (S P : Nat) (mv tg : Nat → Nat → Nat) (ch : Nat → Nat → Nat) (gl : Nat → Nat → Bool) (s p : Nat) : Bool := zan S fun t => gl p t && zWy (zNy mv tg P ch) s t
def zCld (S P : Nat) (mv tg : Nat → Nat → Nat) (ch : Nat → Nat → Nat) (gl : Nat → Nat → Bool) (s p : Nat) : Bool := zan S fun t => zRc S (zEm mv tg P ch p) (fun x => decide (x = s)) 12 t && gl p t
def zStb (S P : Nat) (mv tg : Nat → Nat → Nat) (ch : Nat → Nat → Nat) (gl : Nat → Nat → Bool) (s : Nat) : Bool := zfa P fun p => zCon S P mv tg ch gl s p || !zCld S P mv tg ch gl s p
def zGlC (S P : Nat) (gl : Nat → Nat → Bool) (M : Nat → Int → Int) : Prop := ∀ p : Nat, p < P → M 42 (p : Int) = zset S (gl p)
theorem znx_no (mv : Nat → Nat → Nat) (ch : Nat → Nat → Nat) (s P a : Nat) : znum (mv s) (fun p : Nat => if (p : Int) = -1 then a else ch s p) P = znum (mv s) (ch s) P := by
  have : (fun p : Nat => if (p : Int) = -1 then a else ch s p) = ch s := by funext p; rw [if_neg (by omega)]
  rw [this]
theorem zNy_lt {S P : Nat} {mv tg ch : Nat → Nat → Nat} (hN : zNet S P mv tg) (hch : ∀ s p, ch s p < mv s p) {s : Nat} (hs : s < S) : zNy mv tg P ch s < S := zNet_t hN hs _ (znum_lt (hN.2.2.2.2.1 s) (hch s) P)
theorem zMo_lt {S P : Nat} {mv tg ch : Nat → Nat → Nat} (hN : zNet S P mv tg) (hch : ∀ s p, ch s p < mv s p) {s p k : Nat} (hs : s < S) (hk : k < mv s p) : zMo mv tg P ch p s k < S := zNet_t hN hs _ (znum_lt (hN.2.2.2.2.1 s) (fun q => by
  split
  · next h => have : q = p := by omega
              subst this; exact hk
  · exact hch s q) P)
theorem zset_n0 {S : Nat} (hS : S ≤ 30) {f : Nat → Bool} : (zset S f = 0) = (zan S f = false) := by
  rw [eq_iff_iff, zset_eq0 hS]
  constructor
  · intro h
    cases e : zan S f with
    | false => rfl
    | true =>
      obtain ⟨i, h1, h2⟩ := (zan_iff _ _).mp e
      rw [h i h1] at h2; cases h2
  · intro h i hi
    cases e : f i with
    | false => rfl
    | true =>
      rw [(zan_iff S f).mpr ⟨i, hi, e⟩] at h; cases h
section GO
variable {Ln S P : Nat} {mv tg ch : Nat → Nat → Nat} {gl : Nat → Nat → Bool} {M : Nat → Int → Int}
theorem F_Go_meeting {d : Nat} {met : Nat → Bool} (hN : zNet S P mv tg) (hC : zNetC S P mv tg M) (hG : zGlC S P gl M) (hd : 1 ≤ d) : zF (zSH Ln) d i_Go_meeting [zR 41, zI (zset S met)] M fun r M' => r = some (zI (zset P fun p => zan S fun t => gl p t && met t)) ∧ M' = M := by
  rw [zF_en k_Go_meeting_0 (L := [zR 41, zI (zset S met), zU, zU]) rfl]
  have hS := hN.2.1
  have hP := hN.2.2.2.1
  simp (disch := first | omega | exact Nat.le_of_ble_eq_true rfl | assumption | (simp only [Int.natCast_add, Int.natCast_mul, Int.cast_ofNat_Int]; omega) | decide) only [x_aload, x_getf, w_goto, w_fall, w_iand, w_iconst, w_if, w_icmp, x_iinc, x_iload, w_ior, w_ishl, x_istore, zadd_eq, gf_41_0, gf_41_1, gf_3_1, at_42, ao_42, w_nret r_Go_meeting, q_eq, q_ne, q_lt, q_ge, q_gt, q_le, g_I, g_L, g_R, g_V, t_0, t_I, t_R, t_U, t_L, t_s, List.getElem?_cons_zero, List.getElem?_cons_succ, Nat.reduceAdd, zif10, zif01b, zib, if_pos, if_neg, reduceIte, not_true_eq_false, not_false_eq_true, Bool.true_eq_false, Bool.false_eq_true, Classical.not_not, eq_self, and_self, and_true, true_and, Int.reduceEq, Int.reduceLE, Int.reduceLT, Int.reduceNeg, Option.toList, List.cons_append, List.nil_append, zup_s, zup_n, zst_s, zup_zs, zup_zn, decide_true, decide_false]
  refine zfor (a := 0) (N := P) (b := 1) (fun p L0 M0 => L0 = [zR 41, zI (zset S met), zI (zset P fun q => decide (q < p) && zan S fun t => gl q t && met t), zI (p : Int)] ∧ M0 = M) ?_ ?_ ?_ ?_
  · exact Nat.zero_le _
  · exact ⟨by simp [zset_none], rfl⟩
  · rintro p _ _ _ hp ⟨rfl, rfl⟩ ih
    have nx : ∀ b : Bool, b = (zan S fun t => gl p t && met t) → (zset P fun q => decide (q < p + 1) && zan S fun t => gl q t && met t) = zset P fun q => (decide (q < p) && zan S fun t => gl q t && met t) || (b && decide (q = p)) := by
      intro b hb
      refine zset_cong fun i hi => ?_
      by_cases e : i = p
      · subst e; simp [hb]
      · simp [e, show (i < p + 1) ↔ (i < p) by omega]
    have hg := hG p hp
    rw [k_Go_meeting_1]
    cases hb : zan S fun t => gl p t && met t
    · simp (disch := first | omega | exact Nat.le_of_ble_eq_true rfl | assumption | (simp only [Int.natCast_add, Int.natCast_mul, Int.cast_ofNat_Int]; omega) | decide) only [k_Go_meeting_2, k_Go_meeting_4, x_aload, x_getf, w_goto, w_fall, w_iand, w_iconst, w_if, w_icmp, x_iinc, x_iload, w_ior, w_ishl, x_istore, zadd_eq, gf_41_0, gf_41_1, gf_3_1, at_42, ao_42, w_nret r_Go_meeting, q_eq, q_ne, q_lt, q_ge, q_gt, q_le, g_I, g_L, g_R, g_V, t_0, t_I, t_R, t_U, t_L, t_s, List.getElem?_cons_zero, List.getElem?_cons_succ, Nat.reduceAdd, zif10, zif01b, zib, if_pos, if_neg, reduceIte, not_true_eq_false, not_false_eq_true, Bool.true_eq_false, Bool.false_eq_true, Classical.not_not, eq_self, and_self, and_true, true_and, Int.reduceEq, Int.reduceLE, Int.reduceLT, Int.reduceNeg, Option.toList, List.cons_append, List.nil_append, zup_s, zup_n, zst_s, zup_zs, zup_zn, decide_true, decide_false, hC.2.1, hg, zset_and, zset_n0, hb]
      refine ih _ _ ⟨?_, rfl⟩
      rw [nx false hb.symm]
      simp
    · simp (disch := first | omega | exact Nat.le_of_ble_eq_true rfl | assumption | (simp only [Int.natCast_add, Int.natCast_mul, Int.cast_ofNat_Int]; omega) | decide) only [k_Go_meeting_2, k_Go_meeting_3, k_Go_meeting_4, x_aload, x_getf, w_goto, w_fall, w_iand, w_iconst, w_if, w_icmp, x_iinc, x_iload, w_ior, w_ishl, x_istore, zadd_eq, gf_41_0, gf_41_1, gf_3_1, at_42, ao_42, w_nret r_Go_meeting, q_eq, q_ne, q_lt, q_ge, q_gt, q_le, g_I, g_L, g_R, g_V, t_0, t_I, t_R, t_U, t_L, t_s, List.getElem?_cons_zero, List.getElem?_cons_succ, Nat.reduceAdd, zif10, zif01b, zib, if_pos, if_neg, reduceIte, not_true_eq_false, not_false_eq_true, Bool.true_eq_false, Bool.false_eq_true, Classical.not_not, eq_self, and_self, and_true, true_and, Int.reduceEq, Int.reduceLE, Int.reduceLT, Int.reduceNeg, Option.toList, List.cons_append, List.nil_append, zup_s, zup_n, zst_s, zup_zs, zup_zn, decide_true, decide_false, hC.2.1, hg, zset_and, zset_n0, hb, zset_up]
      refine ih _ _ ⟨?_, rfl⟩
      rw [nx true hb.symm]
      simp
  · rintro _ _ ⟨rfl, rfl⟩
    rw [k_Go_meeting_1]
    simp (disch := first | omega | exact Nat.le_of_ble_eq_true rfl | assumption | (simp only [Int.natCast_add, Int.natCast_mul, Int.cast_ofNat_Int]; omega) | decide) only [k_Go_meeting_5, x_aload, x_getf, w_goto, w_fall, w_iand, w_iconst, w_if, w_icmp, x_iinc, x_iload, w_ior, w_ishl, x_istore, zadd_eq, gf_41_0, gf_41_1, gf_3_1, at_42, ao_42, w_nret r_Go_meeting, q_eq, q_ne, q_lt, q_ge, q_gt, q_le, g_I, g_L, g_R, g_V, t_0, t_I, t_R, t_U, t_L, t_s, List.getElem?_cons_zero, List.getElem?_cons_succ, Nat.reduceAdd, zif10, zif01b, zib, if_pos, if_neg, reduceIte, not_true_eq_false, not_false_eq_true, Bool.true_eq_false, Bool.false_eq_true, Classical.not_not, eq_self, and_self, and_true, true_and, Int.reduceEq, Int.reduceLE, Int.reduceLT, Int.reduceNeg, Option.toList, List.cons_append, List.nil_append, zup_s, zup_n, zst_s, zup_zs, zup_zn, decide_true, decide_false, hC.2.1]
    congr 2
    exact zset_cong fun i hi => by simp [hi]
theorem c_Go_meeting {d mi o b9 : Nat} {es : List zEnt} {L st : List zMV} {Q : Option zMV → (Nat → Int → Int) → Prop} {met : Nat → Bool} (hN : zNet S P mv tg) (hC : zNetC S P mv tg M) (hG : zGlC S P gl M) (hd : 1 + 1 ≤ d) (hc : zcats st ≤ 8) : zW (zSH Ln) d mi ((.invokevirtual o, 29, b9) :: es) L (zI (zset S met) :: zR 41 :: st) M Q = zW (zSH Ln) d mi es L (zI (zset P fun p => zan S fun t => gl p t && met t) :: st) (M) Q :=
  c_virt (ps := [zI (zset S met)]) (by omega) rfl rfl (by omega) (by exact sh_41 Ln) hc (Nat.le_of_ble_eq_true rfl) (F_Go_meeting hN hC hG (by omega))

theorem F_Go_passed5 {d : Nat} {s : Nat} (hN : zNet S P mv tg) (hC : zNetC S P mv tg M) (hK : zPkC 5 ch M) (hch : ∀ s p, ch s p < mv s p) (hs : s < S) (hd : 3 ≤ d) : zF (zSH Ln) d i_Go_passed [zR 41, zR 5, zI (s : Int)] M fun r M' => r = some (zI (zset S (zWy (zNy mv tg P ch) s))) ∧ M' = M := by
  rw [zF_en k_Go_passed_0 (L := [zR 41, zR 5, zI (s : Int), zU, zU, zU]) rfl]
  have hS := hN.2.1
  have hy : ∀ s, ∀ p : Nat, (p : Int) = -1 → 0 < mv s p := fun s p h => by omega
  simp (disch := first | omega | exact Nat.le_of_ble_eq_true rfl | assumption | (simp only [Int.natCast_add, Int.natCast_mul, Int.cast_ofNat_Int]; omega) | decide) only [x_aload, x_getf, w_goto, w_fall, w_iconst, w_if, w_icmp, x_iinc, x_iload, w_ior, w_ishl, x_istore, zadd_eq, gf_41_0, w_nret r_Go_passed, q_eq, q_ne, q_lt, q_ge, q_gt, q_le, g_I, g_L, g_R, g_V, t_0, t_I, t_R, t_U, t_L, t_s, List.getElem?_cons_zero, List.getElem?_cons_succ, Nat.reduceAdd, zif10, zif01b, zib, if_pos, if_neg, reduceIte, not_true_eq_false, not_false_eq_true, Bool.true_eq_false, Bool.false_eq_true, Classical.not_not, eq_self, and_self, and_true, true_and, Int.reduceEq, Int.reduceLE, Int.reduceLT, Int.reduceNeg, Option.toList, List.cons_append, List.nil_append, zup_s, zup_n, zst_s, zup_zs, zup_zn, decide_true, decide_false]
  refine zfor (a := 0) (N := 12) (b := 1) (fun p L0 M0 => ∃ (met : Nat → Bool) (t : Nat), L0 = [zR 41, zR 5, zI s, zI (zset S met), zI (t : Int), zI (p : Int)] ∧ M0 = M ∧ t < S ∧ zwy (zNy mv tg P ch) (12 - p) met t = zWy (zNy mv tg P ch) s) ?_ ?_ ?_ ?_
  · exact Nat.zero_le _
  · exact ⟨fun _ => false, s, by rw [zset_none]; rfl, rfl, hs, rfl⟩
  · rintro p _ _ _ hp ⟨met, t, rfl, rfl, ht, he⟩ ih
    rw [show 12 - p = (12 - (p + 1)) + 1 by omega, zwy] at he
    rw [k_Go_passed_1]
    cases hm : met t
    · rw [if_neg (by rw [hm]; decide)] at he
      simp (disch := first | omega | exact Nat.le_of_ble_eq_true rfl | assumption | (simp only [Int.natCast_add, Int.natCast_mul, Int.cast_ofNat_Int]; omega) | decide) only [k_Go_passed_2, k_Go_passed_3, x_aload, x_getf, w_goto, w_fall, w_iconst, w_if, w_icmp, x_iinc, x_iload, w_ior, w_ishl, x_istore, zadd_eq, gf_41_0, w_nret r_Go_passed, q_eq, q_ne, q_lt, q_ge, q_gt, q_le, g_I, g_L, g_R, g_V, t_0, t_I, t_R, t_U, t_L, t_s, List.getElem?_cons_zero, List.getElem?_cons_succ, Nat.reduceAdd, zif10, zif01b, zib, if_pos, if_neg, reduceIte, not_true_eq_false, not_false_eq_true, Bool.true_eq_false, Bool.false_eq_true, Classical.not_not, eq_self, and_self, and_true, true_and, Int.reduceEq, Int.reduceLE, Int.reduceLT, Int.reduceNeg, Option.toList, List.cons_append, List.nil_append, zup_s, zup_n, zst_s, zup_zs, zup_zn, decide_true, decide_false, c_hasS, hm, show (0 : Int) = ((0 : Nat) : Int) from rfl, c_Ne_next5 hN hC hK hch ht (hy t), znx_no, zset_up]
      exact ih _ _ ⟨_, _, rfl, rfl, zNy_lt hN hch ht, he⟩
    · rw [if_pos hm] at he
      subst he
      simp (disch := first | omega | exact Nat.le_of_ble_eq_true rfl | assumption | (simp only [Int.natCast_add, Int.natCast_mul, Int.cast_ofNat_Int]; omega) | decide) only [k_Go_passed_2, k_Go_passed_4, x_aload, x_getf, w_goto, w_fall, w_iconst, w_if, w_icmp, x_iinc, x_iload, w_ior, w_ishl, x_istore, zadd_eq, gf_41_0, w_nret r_Go_passed, q_eq, q_ne, q_lt, q_ge, q_gt, q_le, g_I, g_L, g_R, g_V, t_0, t_I, t_R, t_U, t_L, t_s, List.getElem?_cons_zero, List.getElem?_cons_succ, Nat.reduceAdd, zif10, zif01b, zib, if_pos, if_neg, reduceIte, not_true_eq_false, not_false_eq_true, Bool.true_eq_false, Bool.false_eq_true, Classical.not_not, eq_self, and_self, and_true, true_and, Int.reduceEq, Int.reduceLE, Int.reduceLT, Int.reduceNeg, Option.toList, List.cons_append, List.nil_append, zup_s, zup_n, zst_s, zup_zs, zup_zn, decide_true, decide_false, c_hasS, hm]
  · rintro _ _ ⟨met, t, rfl, rfl, ht, he⟩
    rw [Nat.sub_self, zwy] at he
    rw [k_Go_passed_1]
    simp (disch := first | omega | exact Nat.le_of_ble_eq_true rfl | assumption | (simp only [Int.natCast_add, Int.natCast_mul, Int.cast_ofNat_Int]; omega) | decide) only [k_Go_passed_4, x_aload, x_getf, w_goto, w_fall, w_iconst, w_if, w_icmp, x_iinc, x_iload, w_ior, w_ishl, x_istore, zadd_eq, gf_41_0, w_nret r_Go_passed, q_eq, q_ne, q_lt, q_ge, q_gt, q_le, g_I, g_L, g_R, g_V, t_0, t_I, t_R, t_U, t_L, t_s, List.getElem?_cons_zero, List.getElem?_cons_succ, Nat.reduceAdd, zif10, zif01b, zib, if_pos, if_neg, reduceIte, not_true_eq_false, not_false_eq_true, Bool.true_eq_false, Bool.false_eq_true, Classical.not_not, eq_self, and_self, and_true, true_and, Int.reduceEq, Int.reduceLE, Int.reduceLT, Int.reduceNeg, Option.toList, List.cons_append, List.nil_append, zup_s, zup_n, zst_s, zup_zs, zup_zn, decide_true, decide_false, he]
theorem c_Go_passed5 {d mi o b9 : Nat} {es : List zEnt} {L st : List zMV} {Q : Option zMV → (Nat → Int → Int) → Prop} {s : Nat} (hN : zNet S P mv tg) (hC : zNetC S P mv tg M) (hK : zPkC 5 ch M) (hch : ∀ s p, ch s p < mv s p) (hs : s < S) (hd : 3 + 1 ≤ d) (hc : zcats st ≤ 8) : zW (zSH Ln) d mi ((.invokevirtual o, 28, b9) :: es) L (zI (s : Int) :: zR 5 :: zR 41 :: st) M Q = zW (zSH Ln) d mi es L (zI (zset S (zWy (zNy mv tg P ch) s)) :: st) (M) Q :=
  c_virt (ps := [zR 5, zI (s : Int)]) (by omega) rfl rfl (by omega) (by exact sh_41 Ln) hc (Nat.le_of_ble_eq_true rfl) (F_Go_passed5 hN hC hK hch hs (by omega))
theorem F_Go_couldMeet5 {d : Nat} {s p : Nat} (hN : zNet S P mv tg) (hC : zNetC S P mv tg M) (hG : zGlC S P gl M) (hK : zPkC 5 ch M) (hch : ∀ s p, ch s p < mv s p) (hs : s < S) (hp : p < P) (hd : 3 ≤ d) : zF (zSH Ln) d i_Go_couldMeet [zR 41, zR 5, zI (s : Int), zI (p : Int)] M fun r M' => r = some (zI (if zCld S P mv tg ch gl s p = true then 1 else 0)) ∧ M' = M := by
  rw [zF_en k_Go_couldMeet_0 (L := [zR 41, zR 5, zI (s : Int), zI (p : Int), zU, zU, zU, zU, zU, zU, zU]) rfl]
  have hS := hN.2.1
  have hP := hN.2.2.2.1
  have hg := hG p hp
  have hy : ∀ s k, k < mv s p → ∀ q : Nat, (q : Int) = (p : Int) → k < mv s q := fun s k hk q h => by
    have : q = p := by omega
    subst this; exact hk
  have hmo : ∀ x k, tg x (znum (mv x) (fun q : Nat => if (q : Int) = (p : Int) then k else ch x q) P) = zMo mv tg P ch p x k := fun _ _ => rfl
  have fin : ∀ (met : Nat → Bool) (v5 v6 v7 v8 v9 v10 : zMV), met s = true → zclo S (zEm mv tg P ch p) met → zleS S met (zRc S (zEm mv tg P ch p) (fun x => decide (x = s)) 12) → zW (zSH Ln) d i_Go_couldMeet (zblk i_Go_couldMeet 7) [zR 41, zR 5, zI s, zI p, zI (zset S met), v5, v6, v7, v8, v9, v10] [] M fun r M' => r = some (zI (if zCld S P mv tg ch gl s p = true then 1 else 0)) ∧ M' = M := by
    intro met v5 v6 v7 v8 v9 v10 h1 h2 h3
    have he := zRc_is (e := zEm mv tg P ch p) (X0 := fun x => decide (x = s)) hS (fun t _ h => by rw [of_decide_eq_true h]; exact h1) h2 h3
    have hb : zan S (fun t => met t && gl p t) = zCld S P mv tg ch gl s p := zan_congr fun t ht => by rw [he t ht]
    rw [k_Go_couldMeet_7]
    cases hz : zCld S P mv tg ch gl s p
    · simp (disch := first | omega | exact Nat.le_of_ble_eq_true rfl | assumption | (simp only [Int.natCast_add, Int.natCast_mul, Int.cast_ofNat_Int]; omega) | decide) only [k_Go_couldMeet_9, k_Go_couldMeet_10, x_aload, x_getf, w_goto, w_fall, w_iand, w_iconst, w_if, w_icmp, x_iinc, x_iload, w_ior, w_ishl, x_istore, w_ixor, zadd_eq, gf_41_0, gf_41_1, at_42, ao_42, w_bret r_Go_couldMeet, q_eq, q_ne, q_lt, q_ge, q_gt, q_le, g_I, g_L, g_R, g_V, t_0, t_I, t_R, t_U, t_L, t_s, List.getElem?_cons_zero, List.getElem?_cons_succ, Nat.reduceAdd, zif10, zif01b, zib, if_pos, if_neg, reduceIte, not_true_eq_false, not_false_eq_true, Bool.true_eq_false, Bool.false_eq_true, Classical.not_not, eq_self, and_self, and_true, true_and, Int.reduceEq, Int.reduceLE, Int.reduceLT, Int.reduceNeg, Option.toList, List.cons_append, List.nil_append, zup_s, zup_n, zst_s, zup_zs, zup_zn, decide_true, decide_false, hg, zset_and, zset_n0, hb, hz]
    · simp (disch := first | omega | exact Nat.le_of_ble_eq_true rfl | assumption | (simp only [Int.natCast_add, Int.natCast_mul, Int.cast_ofNat_Int]; omega) | decide) only [k_Go_couldMeet_8, k_Go_couldMeet_10, x_aload, x_getf, w_goto, w_fall, w_iand, w_iconst, w_if, w_icmp, x_iinc, x_iload, w_ior, w_ishl, x_istore, w_ixor, zadd_eq, gf_41_0, gf_41_1, at_42, ao_42, w_bret r_Go_couldMeet, q_eq, q_ne, q_lt, q_ge, q_gt, q_le, g_I, g_L, g_R, g_V, t_0, t_I, t_R, t_U, t_L, t_s, List.getElem?_cons_zero, List.getElem?_cons_succ, Nat.reduceAdd, zif10, zif01b, zib, if_pos, if_neg, reduceIte, not_true_eq_false, not_false_eq_true, Bool.true_eq_false, Bool.false_eq_true, Classical.not_not, eq_self, and_self, and_true, true_and, Int.reduceEq, Int.reduceLE, Int.reduceLT, Int.reduceNeg, Option.toList, List.cons_append, List.nil_append, zup_s, zup_n, zst_s, zup_zs, zup_zn, decide_true, decide_false, hg, zset_and, zset_n0, hb, hz]
  simp (disch := first | omega | exact Nat.le_of_ble_eq_true rfl | assumption | (simp only [Int.natCast_add, Int.natCast_mul, Int.cast_ofNat_Int]; omega) | decide) only [x_aload, x_getf, w_goto, w_fall, w_iand, w_iconst, w_if, w_icmp, x_iinc, x_iload, w_ior, w_ishl, x_istore, w_ixor, zadd_eq, gf_41_0, gf_41_1, at_42, ao_42, w_bret r_Go_couldMeet, q_eq, q_ne, q_lt, q_ge, q_gt, q_le, g_I, g_L, g_R, g_V, t_0, t_I, t_R, t_U, t_L, t_s, List.getElem?_cons_zero, List.getElem?_cons_succ, Nat.reduceAdd, zif10, zif01b, zib, if_pos, if_neg, reduceIte, not_true_eq_false, not_false_eq_true, Bool.true_eq_false, Bool.false_eq_true, Classical.not_not, eq_self, and_self, and_true, true_and, Int.reduceEq, Int.reduceLE, Int.reduceLT, Int.reduceNeg, Option.toList, List.cons_append, List.nil_append, zup_s, zup_n, zst_s, zup_zs, zup_zn, decide_true, decide_false]
  refine zfor (a := 0) (N := 12) (b := 1) (fun t L0 M0 => ∃ (met : Nat → Bool) (opn : Nat → Bool) (v7 : zMV) (v8 : zMV) (v9 : zMV) (v10 : zMV), L0 = [zR 41, zR 5, zI s, zI p, zI (zset S met), zI (zset S opn), zI (t : Int), v7, v8, v9, v10] ∧ M0 = M ∧ met s = true ∧ zleS S opn met ∧ (∀ x y, x < S → y < S → met x = true → opn x = false → zEm mv tg P ch p x y = true → met y = true) ∧ zleS S met (zRc S (zEm mv tg P ch p) (fun x => decide (x = s)) 12) ∧ t ≤ zcard S (fun x => met x && !opn x)) ?_ ?_ ?_ ?_
  · exact Nat.zero_le _
  · refine ⟨fun x => decide (x = s), fun x => decide (x = s), zU, zU, zU, zU, by rw [zset_one (by omega) hs]; rfl, rfl, by simp, fun _ _ h => h, fun x y _ _ h1 h2 _ => Bool.noConfusion (h1.symm.trans h2), zRc_in 12, Nat.zero_le _⟩
  · rintro t _ M _ ht ⟨met, opn, v7, v8, v9, v10, rfl, rfl, i1, i2, i3, i4, i5⟩ ih
    rw [k_Go_couldMeet_1]
    by_cases hz : zset S opn = 0
    · have h0 := (zset_eq0 (by omega)).mp hz
      simp (disch := first | omega | exact Nat.le_of_ble_eq_true rfl | assumption | (simp only [Int.natCast_add, Int.natCast_mul, Int.cast_ofNat_Int]; omega) | decide) only [k_Go_couldMeet_2, x_aload, x_getf, w_goto, w_fall, w_iand, w_iconst, w_if, w_icmp, x_iinc, x_iload, w_ior, w_ishl, x_istore, w_ixor, zadd_eq, gf_41_0, gf_41_1, at_42, ao_42, w_bret r_Go_couldMeet, q_eq, q_ne, q_lt, q_ge, q_gt, q_le, g_I, g_L, g_R, g_V, t_0, t_I, t_R, t_U, t_L, t_s, List.getElem?_cons_zero, List.getElem?_cons_succ, Nat.reduceAdd, zif10, zif01b, zib, if_pos, if_neg, reduceIte, not_true_eq_false, not_false_eq_true, Bool.true_eq_false, Bool.false_eq_true, Classical.not_not, eq_self, and_self, and_true, true_and, Int.reduceEq, Int.reduceLE, Int.reduceLT, Int.reduceNeg, Option.toList, List.cons_append, List.nil_append, zup_s, zup_n, zst_s, zup_zs, zup_zn, decide_true, decide_false, hz]
      exact fin met _ _ _ _ _ _ i1 (fun x y hx hy h1 h2 => i3 x y hx hy h1 (h0 x hx) h2) i4
    · have hx0 : zfst S opn < S := by
        rcases Nat.lt_or_ge (zfst S opn) S with h3 | h3
        · exact h3
        · exact absurd ((zset_eq0 (by omega)).mpr fun i hi => zfst_no S opn i (by omega)) hz
      have hox := zfst_yes S opn hx0
      generalize hx : zfst S opn = x0 at hx0 hox
      have hmx := i2 x0 hx0 hox
      have hpc : zcard S (fun x => met x && !opn x) + 1 ≤ zcard S (fun x => (met x && !opn x) || decide (x = x0)) := zcard_up hx0 (by simp [hox])
      simp (disch := first | omega | exact Nat.le_of_ble_eq_true rfl | assumption | (simp only [Int.natCast_add, Int.natCast_mul, Int.cast_ofNat_Int]; omega) | decide) only [k_Go_couldMeet_2, k_Go_couldMeet_3, x_aload, x_getf, w_goto, w_fall, w_iand, w_iconst, w_if, w_icmp, x_iinc, x_iload, w_ior, w_ishl, x_istore, w_ixor, zadd_eq, gf_41_0, gf_41_1, at_42, ao_42, w_bret r_Go_couldMeet, q_eq, q_ne, q_lt, q_ge, q_gt, q_le, g_I, g_L, g_R, g_V, t_0, t_I, t_R, t_U, t_L, t_s, List.getElem?_cons_zero, List.getElem?_cons_succ, Nat.reduceAdd, zif10, zif01b, zib, if_pos, if_neg, reduceIte, not_true_eq_false, not_false_eq_true, Bool.true_eq_false, Bool.false_eq_true, Classical.not_not, eq_self, and_self, and_true, true_and, Int.reduceEq, Int.reduceLE, Int.reduceLT, Int.reduceNeg, Option.toList, List.cons_append, List.nil_append, zup_s, zup_n, zst_s, zup_zs, zup_zn, decide_true, decide_false, hz, c_FN_lowest hS hz, hx, zset_one (n := S), zset_dif, c_Ne_movesOf hC]
      refine zfor (a := 0) (N := (mv x0 p)) (b := 4) (fun k L0 M0 => ∃ (met' : Nat → Bool) (opn' : Nat → Bool) (v10 : zMV), L0 = [zR 41, zR 5, zI s, zI p, zI (zset S met'), zI (zset S opn'), zI (t : Int), zI (x0 : Int), zI (mv x0 p : Int), zI (k : Int), v10] ∧ M0 = M ∧ met' s = true ∧ zleS S opn' met' ∧ (∀ x y, x < S → y < S → x ≠ x0 → met' x = true → opn' x = false → zEm mv tg P ch p x y = true → met' y = true) ∧ (∀ j, j < k → met' (zMo mv tg P ch p x0 j) = true) ∧ zleS S met' (zRc S (zEm mv tg P ch p) (fun x => decide (x = s)) 12) ∧ zeqS S (fun x => met' x && !opn' x) (fun x => (met x && !opn x) || decide (x = x0))) ?_ ?_ ?_ ?_
      · exact Nat.zero_le _
      · refine ⟨met, fun j => opn j && !decide (j = x0), v10, rfl, rfl, i1, fun j hj h => i2 j hj (by simp only [Bool.and_eq_true] at h; exact h.1), fun x y h1 h2 h3 h4 h5 h6 => i3 x y h1 h2 h4 (by simpa [h3] using h5) h6, fun j hj => by omega, i4, fun j hj => ?_⟩
        dsimp only
        by_cases e : j = x0
        · subst e; simp [hmx]
        · simp [e]
      · rintro k _ _ _ hk ⟨met', opn', v10, rfl, rfl, j1, j2, j3, j4, j5, j6⟩ ih2
        have hyS : zMo mv tg P ch p x0 k < S := zMo_lt hN hch hx0 hk
        have hm0 : met' x0 = true ∧ opn' x0 = false := by
          have := j6 x0 hx0
          simpa using this
        have hnext := hy x0 k hk
        have hmv := hN.2.2.2.2.1 x0 p
        rw [k_Go_couldMeet_4]
        simp (disch := first | omega | exact Nat.le_of_ble_eq_true rfl | assumption | (simp only [Int.natCast_add, Int.natCast_mul, Int.cast_ofNat_Int]; omega) | decide) only [k_Go_couldMeet_5, x_aload, x_getf, w_goto, w_fall, w_iand, w_iconst, w_if, w_icmp, x_iinc, x_iload, w_ior, w_ishl, x_istore, w_ixor, zadd_eq, gf_41_0, gf_41_1, at_42, ao_42, w_bret r_Go_couldMeet, q_eq, q_ne, q_lt, q_ge, q_gt, q_le, g_I, g_L, g_R, g_V, t_0, t_I, t_R, t_U, t_L, t_s, List.getElem?_cons_zero, List.getElem?_cons_succ, Nat.reduceAdd, zif10, zif01b, zib, if_pos, if_neg, reduceIte, not_true_eq_false, not_false_eq_true, Bool.true_eq_false, Bool.false_eq_true, Classical.not_not, eq_self, and_self, and_true, true_and, Int.reduceEq, Int.reduceLE, Int.reduceLT, Int.reduceNeg, Option.toList, List.cons_append, List.nil_append, zup_s, zup_n, zst_s, zup_zs, zup_zn, decide_true, decide_false, c_Ne_next5 hN hC hK hch hx0 hnext, hmo, zset_one (n := S), zset_dif, zset_or]
        refine ih2 _ _ ⟨_, _, _, rfl, rfl, ?_, fun j hj h => ?_, fun x y h1 h2 h3 h4 h5 h6 => ?_, fun j hj => ?_, fun j hj h => ?_, fun j hj => ?_⟩
        · simp [j1]
        · simp only [Bool.or_eq_true, Bool.and_eq_true] at h ⊢
          rcases h with h | h
          · exact Or.inl (j2 j hj h)
          · exact Or.inr h.1
        · simp only [Bool.or_eq_true, Bool.or_eq_false_iff, Bool.and_eq_false_iff] at h4 h5 ⊢
          rcases h4 with h4 | h4
          · exact Or.inl (j3 x y h1 h2 h3 h4 h5.1 h6)
          · rcases h5.2 with h7 | h7
            · rw [h4] at h7; cases h7
            · exact Or.inl (j3 x y h1 h2 h3 (by simpa using h7) h5.1 h6)
        · by_cases e : j = k
          · subst e; simp
          · simp [j4 j (by omega)]
        · simp only [Bool.or_eq_true] at h
          rcases h with h | h
          · exact j5 j hj h
          · rw [of_decide_eq_true h]
            exact zRc_cl hS x0 _ hx0 hyS (j5 x0 hx0 hm0.1) ((zan_iff _ _).mpr ⟨k, hk, decide_eq_true rfl⟩)
        · rw [← j6 j hj]
          dsimp only
          by_cases e : j = zMo mv tg P ch p x0 k
          · cases h1 : met' j <;> simp [e.symm, h1]
          · simp [e]
      · rintro _ _ ⟨met', opn', v10, rfl, rfl, j1, j2, j3, j4, j5, j6⟩
        have hcard : zcard S (fun x => met' x && !opn' x) = zcard S (fun x => (met x && !opn x) || decide (x = x0)) := Nat.le_antisymm (zcard_mono _ j6.le) (zcard_mono _ j6.sy.le)
        rw [k_Go_couldMeet_4]
        simp (disch := first | omega | exact Nat.le_of_ble_eq_true rfl | assumption | (simp only [Int.natCast_add, Int.natCast_mul, Int.cast_ofNat_Int]; omega) | decide) only [k_Go_couldMeet_6, x_aload, x_getf, w_goto, w_fall, w_iand, w_iconst, w_if, w_icmp, x_iinc, x_iload, w_ior, w_ishl, x_istore, w_ixor, zadd_eq, gf_41_0, gf_41_1, at_42, ao_42, w_bret r_Go_couldMeet, q_eq, q_ne, q_lt, q_ge, q_gt, q_le, g_I, g_L, g_R, g_V, t_0, t_I, t_R, t_U, t_L, t_s, List.getElem?_cons_zero, List.getElem?_cons_succ, Nat.reduceAdd, zif10, zif01b, zib, if_pos, if_neg, reduceIte, not_true_eq_false, not_false_eq_true, Bool.true_eq_false, Bool.false_eq_true, Classical.not_not, eq_self, and_self, and_true, true_and, Int.reduceEq, Int.reduceLE, Int.reduceLT, Int.reduceNeg, Option.toList, List.cons_append, List.nil_append, zup_s, zup_n, zst_s, zup_zs, zup_zn, decide_true, decide_false]
        refine ih _ _ ⟨met', opn', _, _, _, _, rfl, rfl, j1, j2, fun x y h1 h2 h3 h4 h5 => ?_, j5, by omega⟩
        by_cases e : x = x0
        · subst e
          obtain ⟨j, h6, h7⟩ := (zan_iff _ _).mp h5
          rw [← of_decide_eq_true h7]
          exact j4 j h6
        · exact j3 x y h1 h2 e h3 h4 h5
  · rintro _ _ ⟨met, opn, v7, v8, v9, v10, rfl, rfl, i1, i2, i3, i4, i5⟩
    have hall := zcard_eq S (f := fun x => met x && !opn x) (g := fun _ => true) (fun _ _ _ => rfl) (Nat.le_trans (zcard_le S _) (by omega))
    have h0 : ∀ x, x < S → opn x = false := fun x hx => by
      have := hall x hx
      simp only [Bool.and_eq_true, Bool.not_eq_true'] at this
      exact this.2
    rw [k_Go_couldMeet_1]
    simp (disch := first | omega | exact Nat.le_of_ble_eq_true rfl | assumption | (simp only [Int.natCast_add, Int.natCast_mul, Int.cast_ofNat_Int]; omega) | decide) only [x_aload, x_getf, w_goto, w_fall, w_iand, w_iconst, w_if, w_icmp, x_iinc, x_iload, w_ior, w_ishl, x_istore, w_ixor, zadd_eq, gf_41_0, gf_41_1, at_42, ao_42, w_bret r_Go_couldMeet, q_eq, q_ne, q_lt, q_ge, q_gt, q_le, g_I, g_L, g_R, g_V, t_0, t_I, t_R, t_U, t_L, t_s, List.getElem?_cons_zero, List.getElem?_cons_succ, Nat.reduceAdd, zif10, zif01b, zib, if_pos, if_neg, reduceIte, not_true_eq_false, not_false_eq_true, Bool.true_eq_false, Bool.false_eq_true, Classical.not_not, eq_self, and_self, and_true, true_and, Int.reduceEq, Int.reduceLE, Int.reduceLT, Int.reduceNeg, Option.toList, List.cons_append, List.nil_append, zup_s, zup_n, zst_s, zup_zs, zup_zn, decide_true, decide_false]
    exact fin met _ _ _ _ _ _ i1 (fun x y hx hy h1 h2 => i3 x y hx hy h1 (h0 x hx) h2) i4
theorem c_Go_couldMeet5 {d mi o b9 : Nat} {es : List zEnt} {L st : List zMV} {Q : Option zMV → (Nat → Int → Int) → Prop} {s p : Nat} (hN : zNet S P mv tg) (hC : zNetC S P mv tg M) (hG : zGlC S P gl M) (hK : zPkC 5 ch M) (hch : ∀ s p, ch s p < mv s p) (hs : s < S) (hp : p < P) (hd : 3 + 1 ≤ d) (hc : zcats st ≤ 8) : zW (zSH Ln) d mi ((.invokevirtual o, 31, b9) :: es) L (zI (p : Int) :: zI (s : Int) :: zR 5 :: zR 41 :: st) M Q = zW (zSH Ln) d mi es L (zI (if zCld S P mv tg ch gl s p = true then 1 else 0) :: st) (M) Q :=
  c_virt (ps := [zR 5, zI (s : Int), zI (p : Int)]) (by omega) rfl rfl (by omega) (by exact sh_41 Ln) hc (Nat.le_of_ble_eq_true rfl) (F_Go_couldMeet5 hN hC hG hK hch hs hp (by omega))

theorem F_Go_passed43 {d : Nat} {s : Nat} (hN : zNet S P mv tg) (hC : zNetC S P mv tg M) (hK : zPkC 43 ch M) (hch : ∀ s p, ch s p < mv s p) (hs : s < S) (hd : 3 ≤ d) : zF (zSH Ln) d i_Go_passed [zR 41, zR 43, zI (s : Int)] M fun r M' => r = some (zI (zset S (zWy (zNy mv tg P ch) s))) ∧ M' = M := by
  rw [zF_en k_Go_passed_0 (L := [zR 41, zR 43, zI (s : Int), zU, zU, zU]) rfl]
  have hS := hN.2.1
  have hy : ∀ s, ∀ p : Nat, (p : Int) = -1 → 0 < mv s p := fun s p h => by omega
  simp (disch := first | omega | exact Nat.le_of_ble_eq_true rfl | assumption | (simp only [Int.natCast_add, Int.natCast_mul, Int.cast_ofNat_Int]; omega) | decide) only [x_aload, x_getf, w_goto, w_fall, w_iconst, w_if, w_icmp, x_iinc, x_iload, w_ior, w_ishl, x_istore, zadd_eq, gf_41_0, w_nret r_Go_passed, q_eq, q_ne, q_lt, q_ge, q_gt, q_le, g_I, g_L, g_R, g_V, t_0, t_I, t_R, t_U, t_L, t_s, List.getElem?_cons_zero, List.getElem?_cons_succ, Nat.reduceAdd, zif10, zif01b, zib, if_pos, if_neg, reduceIte, not_true_eq_false, not_false_eq_true, Bool.true_eq_false, Bool.false_eq_true, Classical.not_not, eq_self, and_self, and_true, true_and, Int.reduceEq, Int.reduceLE, Int.reduceLT, Int.reduceNeg, Option.toList, List.cons_append, List.nil_append, zup_s, zup_n, zst_s, zup_zs, zup_zn, decide_true, decide_false]
  refine zfor (a := 0) (N := 12) (b := 1) (fun p L0 M0 => ∃ (met : Nat → Bool) (t : Nat), L0 = [zR 41, zR 43, zI s, zI (zset S met), zI (t : Int), zI (p : Int)] ∧ M0 = M ∧ t < S ∧ zwy (zNy mv tg P ch) (12 - p) met t = zWy (zNy mv tg P ch) s) ?_ ?_ ?_ ?_
  · exact Nat.zero_le _
  · exact ⟨fun _ => false, s, by rw [zset_none]; rfl, rfl, hs, rfl⟩
  · rintro p _ _ _ hp ⟨met, t, rfl, rfl, ht, he⟩ ih
    rw [show 12 - p = (12 - (p + 1)) + 1 by omega, zwy] at he
    rw [k_Go_passed_1]
    cases hm : met t
    · rw [if_neg (by rw [hm]; decide)] at he
      simp (disch := first | omega | exact Nat.le_of_ble_eq_true rfl | assumption | (simp only [Int.natCast_add, Int.natCast_mul, Int.cast_ofNat_Int]; omega) | decide) only [k_Go_passed_2, k_Go_passed_3, x_aload, x_getf, w_goto, w_fall, w_iconst, w_if, w_icmp, x_iinc, x_iload, w_ior, w_ishl, x_istore, zadd_eq, gf_41_0, w_nret r_Go_passed, q_eq, q_ne, q_lt, q_ge, q_gt, q_le, g_I, g_L, g_R, g_V, t_0, t_I, t_R, t_U, t_L, t_s, List.getElem?_cons_zero, List.getElem?_cons_succ, Nat.reduceAdd, zif10, zif01b, zib, if_pos, if_neg, reduceIte, not_true_eq_false, not_false_eq_true, Bool.true_eq_false, Bool.false_eq_true, Classical.not_not, eq_self, and_self, and_true, true_and, Int.reduceEq, Int.reduceLE, Int.reduceLT, Int.reduceNeg, Option.toList, List.cons_append, List.nil_append, zup_s, zup_n, zst_s, zup_zs, zup_zn, decide_true, decide_false, c_hasS, hm, show (0 : Int) = ((0 : Nat) : Int) from rfl, c_Ne_next43 hN hC hK hch ht (hy t), znx_no, zset_up]
      exact ih _ _ ⟨_, _, rfl, rfl, zNy_lt hN hch ht, he⟩
    · rw [if_pos hm] at he
      subst he
      simp (disch := first | omega | exact Nat.le_of_ble_eq_true rfl | assumption | (simp only [Int.natCast_add, Int.natCast_mul, Int.cast_ofNat_Int]; omega) | decide) only [k_Go_passed_2, k_Go_passed_4, x_aload, x_getf, w_goto, w_fall, w_iconst, w_if, w_icmp, x_iinc, x_iload, w_ior, w_ishl, x_istore, zadd_eq, gf_41_0, w_nret r_Go_passed, q_eq, q_ne, q_lt, q_ge, q_gt, q_le, g_I, g_L, g_R, g_V, t_0, t_I, t_R, t_U, t_L, t_s, List.getElem?_cons_zero, List.getElem?_cons_succ, Nat.reduceAdd, zif10, zif01b, zib, if_pos, if_neg, reduceIte, not_true_eq_false, not_false_eq_true, Bool.true_eq_false, Bool.false_eq_true, Classical.not_not, eq_self, and_self, and_true, true_and, Int.reduceEq, Int.reduceLE, Int.reduceLT, Int.reduceNeg, Option.toList, List.cons_append, List.nil_append, zup_s, zup_n, zst_s, zup_zs, zup_zn, decide_true, decide_false, c_hasS, hm]
  · rintro _ _ ⟨met, t, rfl, rfl, ht, he⟩
    rw [Nat.sub_self, zwy] at he
    rw [k_Go_passed_1]
    simp (disch := first | omega | exact Nat.le_of_ble_eq_true rfl | assumption | (simp only [Int.natCast_add, Int.natCast_mul, Int.cast_ofNat_Int]; omega) | decide) only [k_Go_passed_4, x_aload, x_getf, w_goto, w_fall, w_iconst, w_if, w_icmp, x_iinc, x_iload, w_ior, w_ishl, x_istore, zadd_eq, gf_41_0, w_nret r_Go_passed, q_eq, q_ne, q_lt, q_ge, q_gt, q_le, g_I, g_L, g_R, g_V, t_0, t_I, t_R, t_U, t_L, t_s, List.getElem?_cons_zero, List.getElem?_cons_succ, Nat.reduceAdd, zif10, zif01b, zib, if_pos, if_neg, reduceIte, not_true_eq_false, not_false_eq_true, Bool.true_eq_false, Bool.false_eq_true, Classical.not_not, eq_self, and_self, and_true, true_and, Int.reduceEq, Int.reduceLE, Int.reduceLT, Int.reduceNeg, Option.toList, List.cons_append, List.nil_append, zup_s, zup_n, zst_s, zup_zs, zup_zn, decide_true, decide_false, he]
theorem c_Go_passed43 {d mi o b9 : Nat} {es : List zEnt} {L st : List zMV} {Q : Option zMV → (Nat → Int → Int) → Prop} {s : Nat} (hN : zNet S P mv tg) (hC : zNetC S P mv tg M) (hK : zPkC 43 ch M) (hch : ∀ s p, ch s p < mv s p) (hs : s < S) (hd : 3 + 1 ≤ d) (hc : zcats st ≤ 8) : zW (zSH Ln) d mi ((.invokevirtual o, 28, b9) :: es) L (zI (s : Int) :: zR 43 :: zR 41 :: st) M Q = zW (zSH Ln) d mi es L (zI (zset S (zWy (zNy mv tg P ch) s)) :: st) (M) Q :=
  c_virt (ps := [zR 43, zI (s : Int)]) (by omega) rfl rfl (by omega) (by exact sh_41 Ln) hc (Nat.le_of_ble_eq_true rfl) (F_Go_passed43 hN hC hK hch hs (by omega))
theorem F_Go_couldMeet43 {d : Nat} {s p : Nat} (hN : zNet S P mv tg) (hC : zNetC S P mv tg M) (hG : zGlC S P gl M) (hK : zPkC 43 ch M) (hch : ∀ s p, ch s p < mv s p) (hs : s < S) (hp : p < P) (hd : 3 ≤ d) : zF (zSH Ln) d i_Go_couldMeet [zR 41, zR 43, zI (s : Int), zI (p : Int)] M fun r M' => r = some (zI (if zCld S P mv tg ch gl s p = true then 1 else 0)) ∧ M' = M := by
  rw [zF_en k_Go_couldMeet_0 (L := [zR 41, zR 43, zI (s : Int), zI (p : Int), zU, zU, zU, zU, zU, zU, zU]) rfl]
  have hS := hN.2.1
  have hP := hN.2.2.2.1
  have hg := hG p hp
  have hy : ∀ s k, k < mv s p → ∀ q : Nat, (q : Int) = (p : Int) → k < mv s q := fun s k hk q h => by
    have : q = p := by omega
    subst this; exact hk
  have hmo : ∀ x k, tg x (znum (mv x) (fun q : Nat => if (q : Int) = (p : Int) then k else ch x q) P) = zMo mv tg P ch p x k := fun _ _ => rfl
  have fin : ∀ (met : Nat → Bool) (v5 v6 v7 v8 v9 v10 : zMV), met s = true → zclo S (zEm mv tg P ch p) met → zleS S met (zRc S (zEm mv tg P ch p) (fun x => decide (x = s)) 12) → zW (zSH Ln) d i_Go_couldMeet (zblk i_Go_couldMeet 7) [zR 41, zR 43, zI s, zI p, zI (zset S met), v5, v6, v7, v8, v9, v10] [] M fun r M' => r = some (zI (if zCld S P mv tg ch gl s p = true then 1 else 0)) ∧ M' = M := by
    intro met v5 v6 v7 v8 v9 v10 h1 h2 h3
    have he := zRc_is (e := zEm mv tg P ch p) (X0 := fun x => decide (x = s)) hS (fun t _ h => by rw [of_decide_eq_true h]; exact h1) h2 h3
    have hb : zan S (fun t => met t && gl p t) = zCld S P mv tg ch gl s p := zan_congr fun t ht => by rw [he t ht]
    rw [k_Go_couldMeet_7]
    cases hz : zCld S P mv tg ch gl s p
    · simp (disch := first | omega | exact Nat.le_of_ble_eq_true rfl | assumption | (simp only [Int.natCast_add, Int.natCast_mul, Int.cast_ofNat_Int]; omega) | decide) only [k_Go_couldMeet_9, k_Go_couldMeet_10, x_aload, x_getf, w_goto, w_fall, w_iand, w_iconst, w_if, w_icmp, x_iinc, x_iload, w_ior, w_ishl, x_istore, w_ixor, zadd_eq, gf_41_0, gf_41_1, at_42, ao_42, w_bret r_Go_couldMeet, q_eq, q_ne, q_lt, q_ge, q_gt, q_le, g_I, g_L, g_R, g_V, t_0, t_I, t_R, t_U, t_L, t_s, List.getElem?_cons_zero, List.getElem?_cons_succ, Nat.reduceAdd, zif10, zif01b, zib, if_pos, if_neg, reduceIte, not_true_eq_false, not_false_eq_true, Bool.true_eq_false, Bool.false_eq_true, Classical.not_not, eq_self, and_self, and_true, true_and, Int.reduceEq, Int.reduceLE, Int.reduceLT, Int.reduceNeg, Option.toList, List.cons_append, List.nil_append, zup_s, zup_n, zst_s, zup_zs, zup_zn, decide_true, decide_false, hg, zset_and, zset_n0, hb, hz]
    · simp (disch := first | omega | exact Nat.le_of_ble_eq_true rfl | assumption | (simp only [Int.natCast_add, Int.natCast_mul, Int.cast_ofNat_Int]; omega) | decide) only [k_Go_couldMeet_8, k_Go_couldMeet_10, x_aload, x_getf, w_goto, w_fall, w_iand, w_iconst, w_if, w_icmp, x_iinc, x_iload, w_ior, w_ishl, x_istore, w_ixor, zadd_eq, gf_41_0, gf_41_1, at_42, ao_42, w_bret r_Go_couldMeet, q_eq, q_ne, q_lt, q_ge, q_gt, q_le, g_I, g_L, g_R, g_V, t_0, t_I, t_R, t_U, t_L, t_s, List.getElem?_cons_zero, List.getElem?_cons_succ, Nat.reduceAdd, zif10, zif01b, zib, if_pos, if_neg, reduceIte, not_true_eq_false, not_false_eq_true, Bool.true_eq_false, Bool.false_eq_true, Classical.not_not, eq_self, and_self, and_true, true_and, Int.reduceEq, Int.reduceLE, Int.reduceLT, Int.reduceNeg, Option.toList, List.cons_append, List.nil_append, zup_s, zup_n, zst_s, zup_zs, zup_zn, decide_true, decide_false, hg, zset_and, zset_n0, hb, hz]
  simp (disch := first | omega | exact Nat.le_of_ble_eq_true rfl | assumption | (simp only [Int.natCast_add, Int.natCast_mul, Int.cast_ofNat_Int]; omega) | decide) only [x_aload, x_getf, w_goto, w_fall, w_iand, w_iconst, w_if, w_icmp, x_iinc, x_iload, w_ior, w_ishl, x_istore, w_ixor, zadd_eq, gf_41_0, gf_41_1, at_42, ao_42, w_bret r_Go_couldMeet, q_eq, q_ne, q_lt, q_ge, q_gt, q_le, g_I, g_L, g_R, g_V, t_0, t_I, t_R, t_U, t_L, t_s, List.getElem?_cons_zero, List.getElem?_cons_succ, Nat.reduceAdd, zif10, zif01b, zib, if_pos, if_neg, reduceIte, not_true_eq_false, not_false_eq_true, Bool.true_eq_false, Bool.false_eq_true, Classical.not_not, eq_self, and_self, and_true, true_and, Int.reduceEq, Int.reduceLE, Int.reduceLT, Int.reduceNeg, Option.toList, List.cons_append, List.nil_append, zup_s, zup_n, zst_s, zup_zs, zup_zn, decide_true, decide_false]
  refine zfor (a := 0) (N := 12) (b := 1) (fun t L0 M0 => ∃ (met : Nat → Bool) (opn : Nat → Bool) (v7 : zMV) (v8 : zMV) (v9 : zMV) (v10 : zMV), L0 = [zR 41, zR 43, zI s, zI p, zI (zset S met), zI (zset S opn), zI (t : Int), v7, v8, v9, v10] ∧ M0 = M ∧ met s = true ∧ zleS S opn met ∧ (∀ x y, x < S → y < S → met x = true → opn x = false → zEm mv tg P ch p x y = true → met y = true) ∧ zleS S met (zRc S (zEm mv tg P ch p) (fun x => decide (x = s)) 12) ∧ t ≤ zcard S (fun x => met x && !opn x)) ?_ ?_ ?_ ?_
  · exact Nat.zero_le _
  · refine ⟨fun x => decide (x = s), fun x => decide (x = s), zU, zU, zU, zU, by rw [zset_one (by omega) hs]; rfl, rfl, by simp, fun _ _ h => h, fun x y _ _ h1 h2 _ => Bool.noConfusion (h1.symm.trans h2), zRc_in 12, Nat.zero_le _⟩
  · rintro t _ M _ ht ⟨met, opn, v7, v8, v9, v10, rfl, rfl, i1, i2, i3, i4, i5⟩ ih
    rw [k_Go_couldMeet_1]
    by_cases hz : zset S opn = 0
    · have h0 := (zset_eq0 (by omega)).mp hz
      simp (disch := first | omega | exact Nat.le_of_ble_eq_true rfl | assumption | (simp only [Int.natCast_add, Int.natCast_mul, Int.cast_ofNat_Int]; omega) | decide) only [k_Go_couldMeet_2, x_aload, x_getf, w_goto, w_fall, w_iand, w_iconst, w_if, w_icmp, x_iinc, x_iload, w_ior, w_ishl, x_istore, w_ixor, zadd_eq, gf_41_0, gf_41_1, at_42, ao_42, w_bret r_Go_couldMeet, q_eq, q_ne, q_lt, q_ge, q_gt, q_le, g_I, g_L, g_R, g_V, t_0, t_I, t_R, t_U, t_L, t_s, List.getElem?_cons_zero, List.getElem?_cons_succ, Nat.reduceAdd, zif10, zif01b, zib, if_pos, if_neg, reduceIte, not_true_eq_false, not_false_eq_true, Bool.true_eq_false, Bool.false_eq_true, Classical.not_not, eq_self, and_self, and_true, true_and, Int.reduceEq, Int.reduceLE, Int.reduceLT, Int.reduceNeg, Option.toList, List.cons_append, List.nil_append, zup_s, zup_n, zst_s, zup_zs, zup_zn, decide_true, decide_false, hz]
      exact fin met _ _ _ _ _ _ i1 (fun x y hx hy h1 h2 => i3 x y hx hy h1 (h0 x hx) h2) i4
    · have hx0 : zfst S opn < S := by
        rcases Nat.lt_or_ge (zfst S opn) S with h3 | h3
        · exact h3
        · exact absurd ((zset_eq0 (by omega)).mpr fun i hi => zfst_no S opn i (by omega)) hz
      have hox := zfst_yes S opn hx0
      generalize hx : zfst S opn = x0 at hx0 hox
      have hmx := i2 x0 hx0 hox
      have hpc : zcard S (fun x => met x && !opn x) + 1 ≤ zcard S (fun x => (met x && !opn x) || decide (x = x0)) := zcard_up hx0 (by simp [hox])
      simp (disch := first | omega | exact Nat.le_of_ble_eq_true rfl | assumption | (simp only [Int.natCast_add, Int.natCast_mul, Int.cast_ofNat_Int]; omega) | decide) only [k_Go_couldMeet_2, k_Go_couldMeet_3, x_aload, x_getf, w_goto, w_fall, w_iand, w_iconst, w_if, w_icmp, x_iinc, x_iload, w_ior, w_ishl, x_istore, w_ixor, zadd_eq, gf_41_0, gf_41_1, at_42, ao_42, w_bret r_Go_couldMeet, q_eq, q_ne, q_lt, q_ge, q_gt, q_le, g_I, g_L, g_R, g_V, t_0, t_I, t_R, t_U, t_L, t_s, List.getElem?_cons_zero, List.getElem?_cons_succ, Nat.reduceAdd, zif10, zif01b, zib, if_pos, if_neg, reduceIte, not_true_eq_false, not_false_eq_true, Bool.true_eq_false, Bool.false_eq_true, Classical.not_not, eq_self, and_self, and_true, true_and, Int.reduceEq, Int.reduceLE, Int.reduceLT, Int.reduceNeg, Option.toList, List.cons_append, List.nil_append, zup_s, zup_n, zst_s, zup_zs, zup_zn, decide_true, decide_false, hz, c_FN_lowest hS hz, hx, zset_one (n := S), zset_dif, c_Ne_movesOf hC]
      refine zfor (a := 0) (N := (mv x0 p)) (b := 4) (fun k L0 M0 => ∃ (met' : Nat → Bool) (opn' : Nat → Bool) (v10 : zMV), L0 = [zR 41, zR 43, zI s, zI p, zI (zset S met'), zI (zset S opn'), zI (t : Int), zI (x0 : Int), zI (mv x0 p : Int), zI (k : Int), v10] ∧ M0 = M ∧ met' s = true ∧ zleS S opn' met' ∧ (∀ x y, x < S → y < S → x ≠ x0 → met' x = true → opn' x = false → zEm mv tg P ch p x y = true → met' y = true) ∧ (∀ j, j < k → met' (zMo mv tg P ch p x0 j) = true) ∧ zleS S met' (zRc S (zEm mv tg P ch p) (fun x => decide (x = s)) 12) ∧ zeqS S (fun x => met' x && !opn' x) (fun x => (met x && !opn x) || decide (x = x0))) ?_ ?_ ?_ ?_
      · exact Nat.zero_le _
      · refine ⟨met, fun j => opn j && !decide (j = x0), v10, rfl, rfl, i1, fun j hj h => i2 j hj (by simp only [Bool.and_eq_true] at h; exact h.1), fun x y h1 h2 h3 h4 h5 h6 => i3 x y h1 h2 h4 (by simpa [h3] using h5) h6, fun j hj => by omega, i4, fun j hj => ?_⟩
        dsimp only
        by_cases e : j = x0
        · subst e; simp [hmx]
        · simp [e]
      · rintro k _ _ _ hk ⟨met', opn', v10, rfl, rfl, j1, j2, j3, j4, j5, j6⟩ ih2
        have hyS : zMo mv tg P ch p x0 k < S := zMo_lt hN hch hx0 hk
        have hm0 : met' x0 = true ∧ opn' x0 = false := by
          have := j6 x0 hx0
          simpa using this
        have hnext := hy x0 k hk
        have hmv := hN.2.2.2.2.1 x0 p
        rw [k_Go_couldMeet_4]
        simp (disch := first | omega | exact Nat.le_of_ble_eq_true rfl | assumption | (simp only [Int.natCast_add, Int.natCast_mul, Int.cast_ofNat_Int]; omega) | decide) only [k_Go_couldMeet_5, x_aload, x_getf, w_goto, w_fall, w_iand, w_iconst, w_if, w_icmp, x_iinc, x_iload, w_ior, w_ishl, x_istore, w_ixor, zadd_eq, gf_41_0, gf_41_1, at_42, ao_42, w_bret r_Go_couldMeet, q_eq, q_ne, q_lt, q_ge, q_gt, q_le, g_I, g_L, g_R, g_V, t_0, t_I, t_R, t_U, t_L, t_s, List.getElem?_cons_zero, List.getElem?_cons_succ, Nat.reduceAdd, zif10, zif01b, zib, if_pos, if_neg, reduceIte, not_true_eq_false, not_false_eq_true, Bool.true_eq_false, Bool.false_eq_true, Classical.not_not, eq_self, and_self, and_true, true_and, Int.reduceEq, Int.reduceLE, Int.reduceLT, Int.reduceNeg, Option.toList, List.cons_append, List.nil_append, zup_s, zup_n, zst_s, zup_zs, zup_zn, decide_true, decide_false, c_Ne_next43 hN hC hK hch hx0 hnext, hmo, zset_one (n := S), zset_dif, zset_or]
        refine ih2 _ _ ⟨_, _, _, rfl, rfl, ?_, fun j hj h => ?_, fun x y h1 h2 h3 h4 h5 h6 => ?_, fun j hj => ?_, fun j hj h => ?_, fun j hj => ?_⟩
        · simp [j1]
        · simp only [Bool.or_eq_true, Bool.and_eq_true] at h ⊢
          rcases h with h | h
          · exact Or.inl (j2 j hj h)
          · exact Or.inr h.1
        · simp only [Bool.or_eq_true, Bool.or_eq_false_iff, Bool.and_eq_false_iff] at h4 h5 ⊢
          rcases h4 with h4 | h4
          · exact Or.inl (j3 x y h1 h2 h3 h4 h5.1 h6)
          · rcases h5.2 with h7 | h7
            · rw [h4] at h7; cases h7
            · exact Or.inl (j3 x y h1 h2 h3 (by simpa using h7) h5.1 h6)
        · by_cases e : j = k
          · subst e; simp
          · simp [j4 j (by omega)]
        · simp only [Bool.or_eq_true] at h
          rcases h with h | h
          · exact j5 j hj h
          · rw [of_decide_eq_true h]
            exact zRc_cl hS x0 _ hx0 hyS (j5 x0 hx0 hm0.1) ((zan_iff _ _).mpr ⟨k, hk, decide_eq_true rfl⟩)
        · rw [← j6 j hj]
          dsimp only
          by_cases e : j = zMo mv tg P ch p x0 k
          · cases h1 : met' j <;> simp [e.symm, h1]
          · simp [e]
      · rintro _ _ ⟨met', opn', v10, rfl, rfl, j1, j2, j3, j4, j5, j6⟩
        have hcard : zcard S (fun x => met' x && !opn' x) = zcard S (fun x => (met x && !opn x) || decide (x = x0)) := Nat.le_antisymm (zcard_mono _ j6.le) (zcard_mono _ j6.sy.le)
        rw [k_Go_couldMeet_4]
        simp (disch := first | omega | exact Nat.le_of_ble_eq_true rfl | assumption | (simp only [Int.natCast_add, Int.natCast_mul, Int.cast_ofNat_Int]; omega) | decide) only [k_Go_couldMeet_6, x_aload, x_getf, w_goto, w_fall, w_iand, w_iconst, w_if, w_icmp, x_iinc, x_iload, w_ior, w_ishl, x_istore, w_ixor, zadd_eq, gf_41_0, gf_41_1, at_42, ao_42, w_bret r_Go_couldMeet, q_eq, q_ne, q_lt, q_ge, q_gt, q_le, g_I, g_L, g_R, g_V, t_0, t_I, t_R, t_U, t_L, t_s, List.getElem?_cons_zero, List.getElem?_cons_succ, Nat.reduceAdd, zif10, zif01b, zib, if_pos, if_neg, reduceIte, not_true_eq_false, not_false_eq_true, Bool.true_eq_false, Bool.false_eq_true, Classical.not_not, eq_self, and_self, and_true, true_and, Int.reduceEq, Int.reduceLE, Int.reduceLT, Int.reduceNeg, Option.toList, List.cons_append, List.nil_append, zup_s, zup_n, zst_s, zup_zs, zup_zn, decide_true, decide_false]
        refine ih _ _ ⟨met', opn', _, _, _, _, rfl, rfl, j1, j2, fun x y h1 h2 h3 h4 h5 => ?_, j5, by omega⟩
        by_cases e : x = x0
        · subst e
          obtain ⟨j, h6, h7⟩ := (zan_iff _ _).mp h5
          rw [← of_decide_eq_true h7]
          exact j4 j h6
        · exact j3 x y h1 h2 e h3 h4 h5
  · rintro _ _ ⟨met, opn, v7, v8, v9, v10, rfl, rfl, i1, i2, i3, i4, i5⟩
    have hall := zcard_eq S (f := fun x => met x && !opn x) (g := fun _ => true) (fun _ _ _ => rfl) (Nat.le_trans (zcard_le S _) (by omega))
    have h0 : ∀ x, x < S → opn x = false := fun x hx => by
      have := hall x hx
      simp only [Bool.and_eq_true, Bool.not_eq_true'] at this
      exact this.2
    rw [k_Go_couldMeet_1]
    simp (disch := first | omega | exact Nat.le_of_ble_eq_true rfl | assumption | (simp only [Int.natCast_add, Int.natCast_mul, Int.cast_ofNat_Int]; omega) | decide) only [x_aload, x_getf, w_goto, w_fall, w_iand, w_iconst, w_if, w_icmp, x_iinc, x_iload, w_ior, w_ishl, x_istore, w_ixor, zadd_eq, gf_41_0, gf_41_1, at_42, ao_42, w_bret r_Go_couldMeet, q_eq, q_ne, q_lt, q_ge, q_gt, q_le, g_I, g_L, g_R, g_V, t_0, t_I, t_R, t_U, t_L, t_s, List.getElem?_cons_zero, List.getElem?_cons_succ, Nat.reduceAdd, zif10, zif01b, zib, if_pos, if_neg, reduceIte, not_true_eq_false, not_false_eq_true, Bool.true_eq_false, Bool.false_eq_true, Classical.not_not, eq_self, and_self, and_true, true_and, Int.reduceEq, Int.reduceLE, Int.reduceLT, Int.reduceNeg, Option.toList, List.cons_append, List.nil_append, zup_s, zup_n, zst_s, zup_zs, zup_zn, decide_true, decide_false]
    exact fin met _ _ _ _ _ _ i1 (fun x y hx hy h1 h2 => i3 x y hx hy h1 (h0 x hx) h2) i4
theorem c_Go_couldMeet43 {d mi o b9 : Nat} {es : List zEnt} {L st : List zMV} {Q : Option zMV → (Nat → Int → Int) → Prop} {s p : Nat} (hN : zNet S P mv tg) (hC : zNetC S P mv tg M) (hG : zGlC S P gl M) (hK : zPkC 43 ch M) (hch : ∀ s p, ch s p < mv s p) (hs : s < S) (hp : p < P) (hd : 3 + 1 ≤ d) (hc : zcats st ≤ 8) : zW (zSH Ln) d mi ((.invokevirtual o, 31, b9) :: es) L (zI (p : Int) :: zI (s : Int) :: zR 43 :: zR 41 :: st) M Q = zW (zSH Ln) d mi es L (zI (if zCld S P mv tg ch gl s p = true then 1 else 0) :: st) (M) Q :=
  c_virt (ps := [zR 43, zI (s : Int), zI (p : Int)]) (by omega) rfl rfl (by omega) (by exact sh_41 Ln) hc (Nat.le_of_ble_eq_true rfl) (F_Go_couldMeet43 hN hC hG hK hch hs hp (by omega))

end GO
