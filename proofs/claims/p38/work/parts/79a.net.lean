/-! the faces: net, as at first -/
theorem zup_row (M : Nat → Int → Int) (k : Nat) (i v : Int) : zup M k i v k = zf (M k) i v := by
  funext x; simp [zup, zf]
/-- a net as at first -/
def zNwC (S P : Nat) (M : Nat → Int → Int) : Prop := zNetC S P (fun _ _ => 1) (fun s _ => s) M ∧ zLetC (fun _ => 0) M ∧ zHpC (fun _ s => s) M ∧ zPrC (fun _ _ _ => 0) M ∧ zPkC 5 (fun _ _ => 0) M
abbrev zNwG (x y : Int) : Prop := (2 ≤ x ∧ x ≤ 12) ∧ 1 ≤ y ∧ y ≤ 4
theorem zShN_SH (Ln : Nat) : zShN (zSH Ln) := ⟨rfl, rfl, rfl, rfl, rfl, rfl, rfl⟩
theorem zShF_10 (Ln : Nat) : zShF (zSH Ln) 10 := ⟨rfl, rfl, rfl, rfl, rfl⟩
theorem zNwC_of {S P : Nat} {M M' : Nat → Int → Int} (h : zKp [3, 4, 5, 6, 7, 8, 9] M M' ∧ (M' 3 0 = (S : Int) ∧ M' 3 1 = (P : Int) ∧ M' 3 2 = zadd (M 3 2) 1) ∧ (∀ x : Int, 0 ≤ x → x < 48 → M' 4 x = 1 ∧ M' 5 x = 0) ∧ (∀ x : Int, 0 ≤ x → x < 144 → M' 6 x = 0) ∧ (∀ t j : Nat, t < 12 → j < 81 → M' 7 ((t : Int) * 81 + j) = t) ∧ (∀ x : Int, 0 ≤ x → x < 12 → M' 8 x = 0) ∧ ∀ q t : Nat, q < 4 → t < 12 → M' 9 ((q : Int) * 12 + t) = t) : zNwC S P M' := by
  obtain ⟨_, ⟨a, b, _⟩, c, d, e, f, g⟩ := h
  refine ⟨⟨a, b, fun s p h1 h2 => (c _ (by omega) (by omega)).1, e⟩, fun s h1 => f _ (by omega) (by omega), g, fun s p q h1 h2 h3 => d _ (by omega) (by omega), fun s p h1 h2 => (c _ (by omega) (by omega)).2⟩
theorem zNwC_k {S P : Nat} {M M' : Nat → Int → Int} (h : zNwC S P M) (hk : ∀ k ∈ [3, 4, 5, 6, 7, 8, 9], M' k = M k) : zNwC S P M' := by
  obtain ⟨a, b, c, d, e⟩ := h
  exact ⟨zNetC_k a (hk 3 (by decide)) (hk 4 (by decide)) (hk 7 (by decide)), fun s hs => by rw [hk 8 (by decide)]; exact b s hs, fun p s h1 h2 => by rw [hk 9 (by decide)]; exact c p s h1 h2, fun s p q h1 h2 h3 => by rw [hk 6 (by decide)]; exact d s p q h1 h2 h3, fun s p h1 h2 => by rw [hk 5 (by decide)]; exact e s p h1 h2⟩
theorem zNwC_kp {S P : Nat} {M M' : Nat → Int → Int} {l : List Nat} (h : zNwC S P M) (hk : zKp l M M') (hl : ∀ k ∈ [3, 4, 5, 6, 7, 8, 9], k ∉ l) : zNwC S P M' := zNwC_k h fun k hk2 => hk k (hl k hk2)
section NW
variable {Ln : Nat} {M : Nat → Int → Int}
theorem F_Go_forget {d : Nat}  (hd : 1 ≤ d) : zF (zSH Ln) d i_Go_forget [zR 41] M fun r M' => r = none ∧ M' = zst M 42 (zrng (M 42) 0 4 0) := by
  rw [zF_en k_Go_forget_0 (L := [zR 41]) rfl]
  simp (disch := first | omega | exact Nat.le_of_ble_eq_true rfl | assumption | (simp only [Int.natCast_add, Int.natCast_mul, Int.cast_ofNat_Int]; omega) | decide) only [x_aload, x_getf, w_iconst, gf_41_1, w_vret r_Go_forget, q_eq, q_ne, q_lt, q_ge, q_gt, q_le, g_I, g_L, g_R, g_V, t_0, t_I, t_R, t_U, t_L, t_s, List.getElem?_cons_zero, List.getElem?_cons_succ, Nat.reduceAdd, zif10, zif01b, zib, if_pos, if_neg, ↓reduceIte, not_true_eq_false, not_false_eq_true, Bool.true_eq_false, Bool.false_eq_true, Classical.not_not, eq_self, and_self, and_true, true_and, Int.reduceEq, Int.reduceLE, Int.reduceLT, Int.reduceNeg, Option.toList, List.cons_append, List.nil_append, zup_s, zup_n, zst_s, zup_zs, zup_zn, decide_true, decide_false]
  refine c_JA_fill (sh_42 Ln) (by omega) (by omega) (by omega) (Nat.le_of_ble_eq_true rfl) ?_
  rintro _ _ ⟨rfl, rfl⟩
  simp (disch := first | omega | exact Nat.le_of_ble_eq_true rfl | assumption | (simp only [Int.natCast_add, Int.natCast_mul, Int.cast_ofNat_Int]; omega) | decide) only [x_aload, x_getf, w_iconst, gf_41_1, w_vret r_Go_forget, q_eq, q_ne, q_lt, q_ge, q_gt, q_le, g_I, g_L, g_R, g_V, t_0, t_I, t_R, t_U, t_L, t_s, List.getElem?_cons_zero, List.getElem?_cons_succ, Nat.reduceAdd, zif10, zif01b, zib, if_pos, if_neg, ↓reduceIte, not_true_eq_false, not_false_eq_true, Bool.true_eq_false, Bool.false_eq_true, Classical.not_not, eq_self, and_self, and_true, true_and, Int.reduceEq, Int.reduceLE, Int.reduceLT, Int.reduceNeg, Option.toList, List.cons_append, List.nil_append, zup_s, zup_n, zst_s, zup_zs, zup_zn, decide_true, decide_false]
theorem c_Go_forget {d mi o b9 : Nat} {es : List zEnt} {L st : List zMV} {Q : Option zMV → (Nat → Int → Int) → Prop}  (hd : 1 + 1 ≤ d) (hc : zcats st ≤ 8) (hpost : ∀ r M', (r = none ∧ M' = zst M 42 (zrng (M 42) 0 4 0)) → zW (zSH Ln) d mi es L (r.toList ++ st) M' Q) : zW (zSH Ln) d mi ((.invokevirtual o, 16, b9) :: es) L (zR 41 :: st) M Q :=
  w_callv (ps := []) (by omega) rfl rfl (by omega) (by exact sh_41 Ln) hc (Nat.le_of_ble_eq_true rfl) (F_Go_forget  (by omega)) hpost
theorem F_FN_net {d : Nat} {x y : Int} (hd : 3 ≤ d) : zF (zSH Ln) d i_FN_net [zR 2, zI x, zI y] M fun r M' => r = some (zI (if zNwG x y then 1 else -1)) ∧ (zNwG x y → zKp [3, 4, 5, 6, 7, 8, 9, 10, 11, 12, 13, 14, 29, 36, 42] M M' ∧ zNwC x.toNat y.toNat M' ∧ M' 3 2 = zadd (M 3 2) 1 ∧ M' 10 1 = zadd (M 10 1) 1 ∧ zFormC 1 (fun _ => 0) (fun _ => 0) (fun _ => 0) (fun _ => 0) M' ∧ M' 36 1 = -1 ∧ zGlC x.toNat y.toNat (fun _ _ => false) M' ∧ M' 29 6 = 0) ∧ (¬ zNwG x y → M' = M) := by
  rw [zF_en k_FN_net_0 (L := [zR 2, zI x, zI y]) rfl]
  by_cases c1 : 2 ≤ x
  rotate_left
  · have hng : ¬ zNwG x y := fun h => c1 h.1.1
    rw [if_neg hng]
    simp (disch := first | omega | exact Nat.le_of_ble_eq_true rfl | assumption | (simp only [Int.natCast_add, Int.natCast_mul, Int.cast_ofNat_Int]; omega) | decide) only [k_FN_net_4, x_aload, x_getf, w_fall, w_iconst, w_icmp, x_iload, gf_2_0, gf_2_1, gf_2_4, gf_2_6, gf_2_7, xp_36_1, w_nret r_FN_net, q_eq, q_ne, q_lt, q_ge, q_gt, q_le, g_I, g_L, g_R, g_V, t_0, t_I, t_R, t_U, t_L, t_s, List.getElem?_cons_zero, List.getElem?_cons_succ, Nat.reduceAdd, zif10, zif01b, zib, if_pos, if_neg, ↓reduceIte, not_true_eq_false, not_false_eq_true, Bool.true_eq_false, Bool.false_eq_true, Classical.not_not, eq_self, and_self, and_true, true_and, Int.reduceEq, Int.reduceLE, Int.reduceLT, Int.reduceNeg, Option.toList, List.cons_append, List.nil_append, zup_s, zup_n, zst_s, zup_zs, zup_zn, decide_true, decide_false, c1]
    exact ⟨fun h => absurd h hng, fun _ => trivial⟩
  by_cases c2 : x ≤ 12
  rotate_left
  · have hng : ¬ zNwG x y := fun h => c2 h.1.2
    rw [if_neg hng]
    simp (disch := first | omega | exact Nat.le_of_ble_eq_true rfl | assumption | (simp only [Int.natCast_add, Int.natCast_mul, Int.cast_ofNat_Int]; omega) | decide) only [k_FN_net_1, k_FN_net_4, x_aload, x_getf, w_fall, w_iconst, w_icmp, x_iload, gf_2_0, gf_2_1, gf_2_4, gf_2_6, gf_2_7, xp_36_1, w_nret r_FN_net, q_eq, q_ne, q_lt, q_ge, q_gt, q_le, g_I, g_L, g_R, g_V, t_0, t_I, t_R, t_U, t_L, t_s, List.getElem?_cons_zero, List.getElem?_cons_succ, Nat.reduceAdd, zif10, zif01b, zib, if_pos, if_neg, ↓reduceIte, not_true_eq_false, not_false_eq_true, Bool.true_eq_false, Bool.false_eq_true, Classical.not_not, eq_self, and_self, and_true, true_and, Int.reduceEq, Int.reduceLE, Int.reduceLT, Int.reduceNeg, Option.toList, List.cons_append, List.nil_append, zup_s, zup_n, zst_s, zup_zs, zup_zn, decide_true, decide_false, c1, c2]
    exact ⟨fun h => absurd h hng, fun _ => trivial⟩
  by_cases c3 : 1 ≤ y
  rotate_left
  · have hng : ¬ zNwG x y := fun h => c3 h.2.1
    rw [if_neg hng]
    simp (disch := first | omega | exact Nat.le_of_ble_eq_true rfl | assumption | (simp only [Int.natCast_add, Int.natCast_mul, Int.cast_ofNat_Int]; omega) | decide) only [k_FN_net_1, k_FN_net_2, k_FN_net_4, x_aload, x_getf, w_fall, w_iconst, w_icmp, x_iload, gf_2_0, gf_2_1, gf_2_4, gf_2_6, gf_2_7, xp_36_1, w_nret r_FN_net, q_eq, q_ne, q_lt, q_ge, q_gt, q_le, g_I, g_L, g_R, g_V, t_0, t_I, t_R, t_U, t_L, t_s, List.getElem?_cons_zero, List.getElem?_cons_succ, Nat.reduceAdd, zif10, zif01b, zib, if_pos, if_neg, ↓reduceIte, not_true_eq_false, not_false_eq_true, Bool.true_eq_false, Bool.false_eq_true, Classical.not_not, eq_self, and_self, and_true, true_and, Int.reduceEq, Int.reduceLE, Int.reduceLT, Int.reduceNeg, Option.toList, List.cons_append, List.nil_append, zup_s, zup_n, zst_s, zup_zs, zup_zn, decide_true, decide_false, c1, c2, c3]
    exact ⟨fun h => absurd h hng, fun _ => trivial⟩
  by_cases c4 : y ≤ 4
  rotate_left
  · have hng : ¬ zNwG x y := fun h => c4 h.2.2
    rw [if_neg hng]
    simp (disch := first | omega | exact Nat.le_of_ble_eq_true rfl | assumption | (simp only [Int.natCast_add, Int.natCast_mul, Int.cast_ofNat_Int]; omega) | decide) only [k_FN_net_1, k_FN_net_2, k_FN_net_3, k_FN_net_4, x_aload, x_getf, w_fall, w_iconst, w_icmp, x_iload, gf_2_0, gf_2_1, gf_2_4, gf_2_6, gf_2_7, xp_36_1, w_nret r_FN_net, q_eq, q_ne, q_lt, q_ge, q_gt, q_le, g_I, g_L, g_R, g_V, t_0, t_I, t_R, t_U, t_L, t_s, List.getElem?_cons_zero, List.getElem?_cons_succ, Nat.reduceAdd, zif10, zif01b, zib, if_pos, if_neg, ↓reduceIte, not_true_eq_false, not_false_eq_true, Bool.true_eq_false, Bool.false_eq_true, Classical.not_not, eq_self, and_self, and_true, true_and, Int.reduceEq, Int.reduceLE, Int.reduceLT, Int.reduceNeg, Option.toList, List.cons_append, List.nil_append, zup_s, zup_n, zst_s, zup_zs, zup_zn, decide_true, decide_false, c1, c2, c3, c4]
    exact ⟨fun h => absurd h hng, fun _ => trivial⟩
  have hg : zNwG x y := ⟨⟨c1, c2⟩, c3, c4⟩
  rw [if_pos hg]
  obtain ⟨S, rfl⟩ : ∃ S : Nat, x = (S : Int) := ⟨x.toNat, by omega⟩
  obtain ⟨P, rfl⟩ : ∃ P : Nat, y = (P : Int) := ⟨y.toNat, by omega⟩
  rw [Int.toNat_natCast, Int.toNat_natCast]
  simp (disch := first | omega | exact Nat.le_of_ble_eq_true rfl | assumption | (simp only [Int.natCast_add, Int.natCast_mul, Int.cast_ofNat_Int]; omega) | decide) only [k_FN_net_1, k_FN_net_2, k_FN_net_3, k_FN_net_5, x_aload, x_getf, w_fall, w_iconst, w_icmp, x_iload, gf_2_0, gf_2_1, gf_2_4, gf_2_6, gf_2_7, xp_36_1, w_nret r_FN_net, q_eq, q_ne, q_lt, q_ge, q_gt, q_le, g_I, g_L, g_R, g_V, t_0, t_I, t_R, t_U, t_L, t_s, List.getElem?_cons_zero, List.getElem?_cons_succ, Nat.reduceAdd, zif10, zif01b, zib, if_pos, if_neg, ↓reduceIte, not_true_eq_false, not_false_eq_true, Bool.true_eq_false, Bool.false_eq_true, Classical.not_not, eq_self, and_self, and_true, true_and, Int.reduceEq, Int.reduceLE, Int.reduceLT, Int.reduceNeg, Option.toList, List.cons_append, List.nil_append, zup_s, zup_n, zst_s, zup_zs, zup_zn, decide_true, decide_false, c1, c2, c3, c4]
  refine c_Ne_begin (zShN_SH Ln) (by omega) (Nat.le_of_ble_eq_true rfl) ?_
  rintro _ M1 ⟨rfl, hb⟩
  have hnw := zNwC_of hb
  obtain ⟨hk, ⟨_, _, h32⟩, _⟩ := hb
  simp (disch := first | omega | exact Nat.le_of_ble_eq_true rfl | assumption | (simp only [Int.natCast_add, Int.natCast_mul, Int.cast_ofNat_Int]; omega) | decide) only [x_aload, x_getf, w_fall, w_iconst, w_icmp, x_iload, gf_2_0, gf_2_1, gf_2_4, gf_2_6, gf_2_7, xp_36_1, w_nret r_FN_net, q_eq, q_ne, q_lt, q_ge, q_gt, q_le, g_I, g_L, g_R, g_V, t_0, t_I, t_R, t_U, t_L, t_s, List.getElem?_cons_zero, List.getElem?_cons_succ, Nat.reduceAdd, zif10, zif01b, zib, if_pos, if_neg, ↓reduceIte, not_true_eq_false, not_false_eq_true, Bool.true_eq_false, Bool.false_eq_true, Classical.not_not, eq_self, and_self, and_true, true_and, Int.reduceEq, Int.reduceLE, Int.reduceLT, Int.reduceNeg, Option.toList, List.cons_append, List.nil_append, zup_s, zup_n, zst_s, zup_zs, zup_zn, decide_true, decide_false, c_Fo_becomeTrue (zShF_10 Ln)]
  refine c_Go_forget (by omega) (Nat.le_of_ble_eq_true rfl) ?_
  rintro _ _ ⟨rfl, rfl⟩
  simp (disch := first | omega | exact Nat.le_of_ble_eq_true rfl | assumption | (simp only [Int.natCast_add, Int.natCast_mul, Int.cast_ofNat_Int]; omega) | decide) only [x_aload, x_getf, w_fall, w_iconst, w_icmp, x_iload, gf_2_0, gf_2_1, gf_2_4, gf_2_6, gf_2_7, xp_36_1, w_nret r_FN_net, q_eq, q_ne, q_lt, q_ge, q_gt, q_le, g_I, g_L, g_R, g_V, t_0, t_I, t_R, t_U, t_L, t_s, List.getElem?_cons_zero, List.getElem?_cons_succ, Nat.reduceAdd, zif10, zif01b, zib, if_pos, if_neg, ↓reduceIte, not_true_eq_false, not_false_eq_true, Bool.true_eq_false, Bool.false_eq_true, Classical.not_not, eq_self, and_self, and_true, true_and, Int.reduceEq, Int.reduceLE, Int.reduceLT, Int.reduceNeg, Option.toList, List.cons_append, List.nil_append, zup_s, zup_n, zst_s, zup_zs, zup_zn, decide_true, decide_false, c_Pl_forget]
  have h10 := hk 10 (by decide)
  refine ⟨fun _ => ⟨?_, ?_, ?_, ?_, ?_, ?_, ?_, ?_⟩, fun h => absurd hg h⟩
  · refine zKp_tr (zKp_mo hk (by decide)) ?_
    repeat (first | exact zKp_rf _ _ | refine zKp_st (by decide) ?_ | refine zKp_up (by decide) ?_)
  · refine zNwC_kp (l := [10, 11, 12, 13, 14, 29, 36, 42]) hnw ?_ (by decide)
    repeat (first | exact zKp_rf _ _ | refine zKp_st (by decide) ?_ | refine zKp_up (by decide) ?_)
  · exact h32
  · show zadd (M1 10 1) 1 = zadd (M 10 1) 1
    rw [h10]
  · refine ⟨rfl, fun k hk => ?_⟩
    obtain rfl : k = 0 := by omega
    exact ⟨rfl, fun h => absurd h (by decide), fun h => absurd h (by decide), fun h => absurd h (by decide)⟩
  · rfl
  · intro p hp
    rw [zset_none]
    show zrng _ 0 4 0 (p : Int) = 0
    exact zrng_in (by omega)
  · rfl
end NW
