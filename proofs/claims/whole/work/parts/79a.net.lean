/-! the faces: net, as at first -/
theorem zup_row (M : Nat → Int → Int) (k : Nat) (i v : Int) : zup M k i v k = zf (M k) i v := by
  funext x; simp [zup, zf]
/-- a net as at first -/
def zNwC (S P : Nat) (M : Nat → Int → Int) : Prop := zNetC S P (fun _ _ => 1) (fun s _ => s) M ∧ zLetC (fun _ => 0) M ∧ zHpC (fun _ s => s) M ∧ zPrC (fun _ _ _ => 0) M ∧ zPkC 5 (fun _ _ => 0) M
def zNwR (S P : Nat) (M : Nat → Int → Int) : Prop := zNetR S P (fun _ _ => 1) (fun s _ => s) M ∧ zLetR (fun _ => 0) M ∧ zHpR (fun _ s => s) M ∧ zPrR (fun _ _ _ => 0) M ∧ zPkR (fun _ _ => 0) M
abbrev zNwG (x y : Int) : Prop := (2 ≤ x ∧ x ≤ 12) ∧ 1 ≤ y ∧ y ≤ 4
theorem zShN_SH (Ln : Nat) : zShN (zSH Ln) := ⟨rfl, rfl, rfl, rfl, rfl, rfl, rfl⟩
theorem zShF_10 (Ln : Nat) : zShF (zSH Ln) 10 := ⟨rfl, rfl, rfl, rfl, rfl⟩
theorem zShF_24 (Ln : Nat) : zShF (zSH Ln) 24 := ⟨rfl, rfl, rfl, rfl, rfl⟩
theorem zNwC_of {S P : Nat} {M M' : Nat → Int → Int} (h : zKp [3, 4, 5, 6, 7, 8, 9] M M' ∧ (M' 3 0 = (S : Int) ∧ M' 3 1 = (P : Int) ∧ M' 3 2 = zadd (M 3 2) 1) ∧ (∀ x : Int, 0 ≤ x → x < 48 → M' 4 x = 1 ∧ M' 5 x = 0) ∧ (∀ x : Int, 0 ≤ x → x < 144 → M' 6 x = 0) ∧ (∀ t j : Nat, t < 12 → j < 81 → M' 7 ((t : Int) * 81 + j) = t) ∧ (∀ x : Int, 0 ≤ x → x < 12 → M' 8 x = 0) ∧ ∀ q t : Nat, q < 4 → t < 12 → M' 9 ((q : Int) * 12 + t) = t) : zNwC S P M' := by
  obtain ⟨_, ⟨a, b, _⟩, c, d, e, f, g⟩ := h
  refine ⟨⟨a, b, fun s p h1 h2 => (c _ (by omega) (by omega)).1, e⟩, fun s h1 => f _ (by omega) (by omega), g, fun s p q h1 h2 h3 => d _ (by omega) (by omega), fun s p h1 h2 => (c _ (by omega) (by omega)).2⟩
theorem zNwC_k {S P : Nat} {M M' : Nat → Int → Int} (h : zNwC S P M) (hk : ∀ k ∈ [3, 4, 5, 6, 7, 8, 9], M' k = M k) : zNwC S P M' := by
  obtain ⟨a, b, c, d, e⟩ := h
  exact ⟨zNetC_k a (hk 3 (by decide)) (hk 4 (by decide)) (hk 7 (by decide)), fun s hs => by rw [hk 8 (by decide)]; exact b s hs, fun p s h1 h2 => by rw [hk 9 (by decide)]; exact c p s h1 h2, fun s p q h1 h2 h3 => by rw [hk 6 (by decide)]; exact d s p q h1 h2 h3, fun s p h1 h2 => by rw [hk 5 (by decide)]; exact e s p h1 h2⟩
theorem zNwC_kp {S P : Nat} {M M' : Nat → Int → Int} {l : List Nat} (h : zNwC S P M) (hk : zKp l M M') (hl : ∀ k ∈ [3, 4, 5, 6, 7, 8, 9], k ∉ l) : zNwC S P M' := zNwC_k h fun k hk2 => hk k (hl k hk2)
section NW
variable {Ln : Nat} {M : Nat → Int → Int}
theorem F_Go_forget {d : Nat}  (hd : 1 ≤ d) : zF (zSH Ln) d i_Go_forget [zR 41] M fun r M' => r = none ∧ M' = zst M 42 (zrng (M 42) 0 4 0) := by
  rw [zF_en k_Go_forget_0 (L := [zR 41]) rfl]
  simp (disch := first | omega | exact Nat.le_of_ble_eq_true rfl | assumption | (simp only [Int.natCast_add, Int.natCast_mul, Int.cast_ofNat_Int]; omega) | decide) only [x_aload, x_getf, w_iconst, gf_41_1, w_vret r_Go_forget, q_eq, q_ne, q_lt, q_ge, q_gt, q_le, g_I, g_L, g_R, g_V, t_0, t_I, t_R, t_U, t_L, t_s, List.getElem?_cons_zero, List.getElem?_cons_succ, Nat.reduceAdd, zif10, zif01b, zib, if_pos, if_neg, ↓reduceIte, not_true_eq_false, not_false_eq_true, Bool.true_eq_false, Bool.false_eq_true, Classical.not_not, eq_self, and_self, and_true, true_and, Int.reduceEq, Int.reduceLE, Int.reduceLT, Int.reduceNeg, Option.toList, List.cons_append, List.nil_append, zup_s, zup_n, zst_s, zup_zs, zup_zn, decide_true, decide_false]
  refine c_JA_fill (sh_42 Ln) (by omega) (by omega) (by omega) (Nat.le_of_ble_eq_true rfl) ?_
  rintro _ _ ⟨rfl, rfl⟩
  simp (disch := first | omega | exact Nat.le_of_ble_eq_true rfl | assumption | (simp only [Int.natCast_add, Int.natCast_mul, Int.cast_ofNat_Int]; omega) | decide) only [x_aload, x_getf, w_iconst, gf_41_1, w_vret r_Go_forget, q_eq, q_ne, q_lt, q_ge, q_gt, q_le, g_I, g_L, g_R, g_V, t_0, t_I, t_R, t_U, t_L, t_s, List.getElem?_cons_zero, List.getElem?_cons_succ, Nat.reduceAdd, zif10, zif01b, zib, if_pos, if_neg, ↓reduceIte, not_true_eq_false, not_false_eq_true, Bool.true_eq_false, Bool.false_eq_true, Classical.not_not, eq_self, and_self, and_true, true_and, Int.reduceEq, Int.reduceLE, Int.reduceLT, Int.reduceNeg, Option.toList, List.cons_append, List.nil_append, zup_s, zup_n, zst_s, zup_zs, zup_zn, decide_true, decide_false]
theorem c_Go_forget {d mi o b9 : Nat} {es : List zEnt} {L st : List zMV} {Q : Option zMV → (Nat → Int → Int) → Prop}  (hd : 1 + 1 ≤ d) (hc : zcats st ≤ 8) (hpost : ∀ r M', (r = none ∧ M' = zst M 42 (zrng (M 42) 0 4 0)) → zW (zSH Ln) d mi es L (r.toList ++ st) M' Q) : zW (zSH Ln) d mi ((.invokevirtual o, 27, b9) :: es) L (zR 41 :: st) M Q :=
  w_callv (ps := []) (by omega) rfl rfl (by omega) (by exact sh_41 Ln) hc (Nat.le_of_ble_eq_true rfl) (F_Go_forget  (by omega)) hpost
theorem F_FN_net {d : Nat} {x y : Int} (hd : 3 ≤ d) : zF (zSH Ln) d i_FN_net [zR 2, zI x, zI y] M fun r M' => r = some (zI (if zNwG x y then 1 else -1)) ∧ (zNwG x y → zKp [3, 4, 5, 6, 7, 8, 9, 10, 11, 12, 13, 14, 29, 36, 42] M M' ∧ zNwC x.toNat y.toNat M' ∧ M' 3 2 = zadd (M 3 2) 1 ∧ M' 10 1 = zadd (M 10 1) 1 ∧ zFormC 1 (fun _ => 0) (fun _ => 0) (fun _ => 0) (fun _ => 0) M' ∧ M' 36 1 = -1 ∧ zGlC x.toNat y.toNat (fun _ _ => false) M' ∧ M' 29 6 = 0) ∧ (¬ zNwG x y → M' = M) := by
  rw [zF_en k_FN_net_0 (L := [zR 2, zI x, zI y]) rfl]
  by_cases c1 : 2 ≤ x
  rotate_left
  · have hng : ¬ zNwG x y := fun h => c1 h.1.1
    rw [if_neg hng]
    simp (disch := first | omega | exact Nat.le_of_ble_eq_true rfl | assumption | (simp only [Int.natCast_add, Int.natCast_mul, Int.cast_ofNat_Int]; omega) | decide) only [k_FN_net_4, x_aload, x_getf, w_fall, w_iconst, w_icmp, x_iload, gf_2_0, gf_2_1, gf_2_4, gf_2_6, gf_2_7, xp_36_1, w_nret r_FN_net, q_eq, q_ne, q_lt, q_ge, q_gt, q_le, g_I, g_L, g_R, g_V, t_0, t_I, t_R, t_U, t_L, t_s, List.getElem?_cons_zero, List.getElem?_cons_succ, Nat.reduceAdd, zif10, zif01b, zib, if_pos, if_neg, ↓reduceIte, not_true_eq_false, not_false_eq_true, Bool.true_eq_false, Bool.false_eq_true, Classical.not_not, eq_self, and_self, and_true, true_and, Int.reduceEq, Int.reduceLE, Int.reduceLT, Int.reduceNeg, Option.toList, List.cons_append, List.nil_append, zup_s, zup_n, zst_s, zup_zs, zup_zn, decide_true, decide_false, c1]
    exact ⟨fun h => absurd h hng, fun _ => trivial⟩
  by_cases c2 : x ≤ 12
  rotate_left
  · have hng : ¬ zNwG x y := fun h => c2 h.1.2
    rw [if_neg hng]
    simp (disch := first | omega | exact Nat.le_of_ble_eq_true rfl | assumption | (simp only [Int.natCast_add, Int.natCast_mul, Int.cast_ofNat_Int]; omega) | decide) only [k_FN_net_1, k_FN_net_4, x_aload, x_getf, w_fall, w_iconst, w_icmp, x_iload, gf_2_0, gf_2_1, gf_2_4, gf_2_6, gf_2_7, xp_36_1, w_nret r_FN_net, q_eq, q_ne, q_lt, q_ge, q_gt, q_le, g_I, g_L, g_R, g_V, t_0, t_I, t_R, t_U, t_L, t_s, List.getElem?_cons_zero, List.getElem?_cons_succ, Nat.reduceAdd, zif10, zif01b, zib, if_pos, if_neg, ↓reduceIte, not_true_eq_false, not_false_eq_true, Bool.true_eq_false, Bool.false_eq_true, Classical.not_not, eq_self, and_self, and_true, true_and, Int.reduceEq, Int.reduceLE, Int.reduceLT, Int.reduceNeg, Option.toList, List.cons_append, List.nil_append, zup_s, zup_n, zst_s, zup_zs, zup_zn, decide_true, decide_false, c1, c2]
    exact ⟨fun h => absurd h hng, fun _ => trivial⟩
  by_cases c3 : 1 ≤ y
  rotate_left
  · have hng : ¬ zNwG x y := fun h => c3 h.2.1
    rw [if_neg hng]
    simp (disch := first | omega | exact Nat.le_of_ble_eq_true rfl | assumption | (simp only [Int.natCast_add, Int.natCast_mul, Int.cast_ofNat_Int]; omega) | decide) only [k_FN_net_1, k_FN_net_2, k_FN_net_4, x_aload, x_getf, w_fall, w_iconst, w_icmp, x_iload, gf_2_0, gf_2_1, gf_2_4, gf_2_6, gf_2_7, xp_36_1, w_nret r_FN_net, q_eq, q_ne, q_lt, q_ge, q_gt, q_le, g_I, g_L, g_R, g_V, t_0, t_I, t_R, t_U, t_L, t_s, List.getElem?_cons_zero, List.getElem?_cons_succ, Nat.reduceAdd, zif10, zif01b, zib, if_pos, if_neg, ↓reduceIte, not_true_eq_false, not_false_eq_true, Bool.true_eq_false, Bool.false_eq_true, Classical.not_not, eq_self, and_self, and_true, true_and, Int.reduceEq, Int.reduceLE, Int.reduceLT, Int.reduceNeg, Option.toList, List.cons_append, List.nil_append, zup_s, zup_n, zst_s, zup_zs, zup_zn, decide_true, decide_false, c1, c2, c3]
    exact ⟨fun h => absurd h hng, fun _ => trivial⟩
  by_cases c4 : y ≤ 4
  rotate_left
  · have hng : ¬ zNwG x y := fun h => c4 h.2.2
    rw [if_neg hng]
    simp (disch := first | omega | exact Nat.le_of_ble_eq_true rfl | assumption | (simp only [Int.natCast_add, Int.natCast_mul, Int.cast_ofNat_Int]; omega) | decide) only [k_FN_net_1, k_FN_net_2, k_FN_net_3, k_FN_net_4, x_aload, x_getf, w_fall, w_iconst, w_icmp, x_iload, gf_2_0, gf_2_1, gf_2_4, gf_2_6, gf_2_7, xp_36_1, w_nret r_FN_net, q_eq, q_ne, q_lt, q_ge, q_gt, q_le, g_I, g_L, g_R, g_V, t_0, t_I, t_R, t_U, t_L, t_s, List.getElem?_cons_zero, List.getElem?_cons_succ, Nat.reduceAdd, zif10, zif01b, zib, if_pos, if_neg, ↓reduceIte, not_true_eq_false, not_false_eq_true, Bool.true_eq_false, Bool.false_eq_true, Classical.not_not, eq_self, and_self, and_true, true_and, Int.reduceEq, Int.reduceLE, Int.reduceLT, Int.reduceNeg, Option.toList, List.cons_append, List.nil_append, zup_s, zup_n, zst_s, zup_zs, zup_zn, decide_true, decide_false, c1, c2, c3, c4]
    exact ⟨fun h => absurd h hng, fun _ => trivial⟩
  have hg : zNwG x y := ⟨⟨c1, c2⟩, c3, c4⟩
  rw [if_pos hg]
  obtain ⟨S, rfl⟩ : ∃ S : Nat, x = (S : Int) := ⟨x.toNat, by omega⟩
  obtain ⟨P, rfl⟩ : ∃ P : Nat, y = (P : Int) := ⟨y.toNat, by omega⟩
  rw [Int.toNat_natCast, Int.toNat_natCast]
  simp (disch := first | omega | exact Nat.le_of_ble_eq_true rfl | assumption | (simp only [Int.natCast_add, Int.natCast_mul, Int.cast_ofNat_Int]; omega) | decide) only [k_FN_net_1, k_FN_net_2, k_FN_net_3, k_FN_net_5, x_aload, x_getf, w_fall, w_iconst, w_icmp, x_iload, gf_2_0, gf_2_1, gf_2_4, gf_2_6, gf_2_7, xp_36_1, w_nret r_FN_net, q_eq, q_ne, q_lt, q_ge, q_gt, q_le, g_I, g_L, g_R, g_V, t_0, t_I, t_R, t_U, t_L, t_s, List.getElem?_cons_zero, List.getElem?_cons_succ, Nat.reduceAdd, zif10, zif01b, zib, if_pos, if_neg, ↓reduceIte, not_true_eq_false, not_false_eq_true, Bool.true_eq_false, Bool.false_eq_true, Classical.not_not, eq_self, and_self, and_true, true_and, Int.reduceEq, Int.reduceLE, Int.reduceLT, Int.reduceNeg, Option.toList, List.cons_append, List.nil_append, zup_s, zup_n, zst_s, zup_zs, zup_zn, decide_true, decide_false, c1, c2, c3, c4]
  refine c_Ne_begin (zShN_SH Ln) (by omega) (Nat.le_of_ble_eq_true rfl) ?_
  rintro _ M1 ⟨rfl, hb⟩
  have hnw := zNwC_of hb
  obtain ⟨hk, ⟨_, _, h32⟩, _⟩ := hb
  simp (disch := first | omega | exact Nat.le_of_ble_eq_true rfl | assumption | (simp only [Int.natCast_add, Int.natCast_mul, Int.cast_ofNat_Int]; omega) | decide) only [x_aload, x_getf, w_fall, w_iconst, w_icmp, x_iload, gf_2_0, gf_2_1, gf_2_4, gf_2_6, gf_2_7, xp_36_1, w_nret r_FN_net, q_eq, q_ne, q_lt, q_ge, q_gt, q_le, g_I, g_L, g_R, g_V, t_0, t_I, t_R, t_U, t_L, t_s, List.getElem?_cons_zero, List.getElem?_cons_succ, Nat.reduceAdd, zif10, zif01b, zib, if_pos, if_neg, ↓reduceIte, not_true_eq_false, not_false_eq_true, Bool.true_eq_false, Bool.false_eq_true, Classical.not_not, eq_self, and_self, and_true, true_and, Int.reduceEq, Int.reduceLE, Int.reduceLT, Int.reduceNeg, Option.toList, List.cons_append, List.nil_append, zup_s, zup_n, zst_s, zup_zs, zup_zn, decide_true, decide_false, c_Fo_becomeTrue (zShF_10 Ln)]
  refine c_Go_forget (by omega) (Nat.le_of_ble_eq_true rfl) ?_
  rintro _ _ ⟨rfl, rfl⟩
  simp (disch := first | omega | exact Nat.le_of_ble_eq_true rfl | assumption | (simp only [Int.natCast_add, Int.natCast_mul, Int.cast_ofNat_Int]; omega) | decide) only [x_aload, x_getf, w_fall, w_iconst, w_icmp, x_iload, gf_2_0, gf_2_1, gf_2_4, gf_2_6, gf_2_7, xp_36_1, w_nret r_FN_net, q_eq, q_ne, q_lt, q_ge, q_gt, q_le, g_I, g_L, g_R, g_V, t_0, t_I, t_R, t_U, t_L, t_s, List.getElem?_cons_zero, List.getElem?_cons_succ, Nat.reduceAdd, zif10, zif01b, zib, if_pos, if_neg, ↓reduceIte, not_true_eq_false, not_false_eq_true, Bool.true_eq_false, Bool.false_eq_true, Classical.not_not, eq_self, and_self, and_true, true_and, Int.reduceEq, Int.reduceLE, Int.reduceLT, Int.reduceNeg, Option.toList, List.cons_append, List.nil_append, zup_s, zup_n, zst_s, zup_zs, zup_zn, decide_true, decide_false, c_Pl_forget]
  have h10 := hk 10 (by decide)
  refine ⟨fun _ => ⟨?_, ?_, ?_, ?_, ?_, ?_, ?_, ?_⟩, fun h => absurd hg h⟩
  · refine zKp_tr (zKp_mo hk (by decide)) ?_
    repeat (first | exact zKp_rf _ _ | refine zKp_st (by decide) ?_ | refine zKp_up (by decide) ?_)
  · refine zNwC_kp (l := [10, 11, 12, 13, 14, 29, 36, 42]) hnw ?_ (by decide)
    repeat (first | exact zKp_rf _ _ | refine zKp_st (by decide) ?_ | refine zKp_up (by decide) ?_)
  · exact h32
  · show zadd (M1 10 1) 1 = zadd (M 10 1) 1
    rw [h10]
  · refine ⟨rfl, fun k hk => ?_⟩
    obtain rfl : k = 0 := by omega
    exact ⟨rfl, fun h => absurd h (by decide), fun h => absurd h (by decide), fun h => absurd h (by decide)⟩
  · rfl
  · intro p hp
    rw [zset_none]
    show zrng _ 0 4 0 (p : Int) = 0
    exact zrng_in (by omega)
  · rfl
theorem c_FN_net {d mi o b9 : Nat} {es : List zEnt} {L st : List zMV} {Q : Option zMV → (Nat → Int → Int) → Prop} {x y : Int} (hd : 3 + 1 ≤ d) (hc : zcats st ≤ 8) (hpost : ∀ r M', (r = some (zI (if zNwG x y then 1 else -1)) ∧ (zNwG x y → zKp [3, 4, 5, 6, 7, 8, 9, 10, 11, 12, 13, 14, 29, 36, 42] M M' ∧ zNwC x.toNat y.toNat M' ∧ M' 3 2 = zadd (M 3 2) 1 ∧ M' 10 1 = zadd (M 10 1) 1 ∧ zFormC 1 (fun _ => 0) (fun _ => 0) (fun _ => 0) (fun _ => 0) M' ∧ M' 36 1 = -1 ∧ zGlC x.toNat y.toNat (fun _ _ => false) M' ∧ M' 29 6 = 0) ∧ (¬ zNwG x y → M' = M)) → zW (zSH Ln) d mi es L (r.toList ++ st) M' Q) : zW (zSH Ln) d mi ((.invokevirtual o, 123, b9) :: es) L (zI y :: zI x :: zR 2 :: st) M Q :=
  w_callv (ps := [zI x, zI y]) (by omega) rfl rfl (by omega) (by exact sh_2 Ln) hc (Nat.le_of_ble_eq_true rfl) (F_FN_net  (by omega)) hpost
theorem F_Md_begins {d : Nat} {s p : Int} (hd : 1 ≤ d) : zF (zSH Ln) d i_Md_begins [zR 48, zI s, zI p] M fun r M' => r = none ∧ zKp [48, 49, 50, 51, 52, 53, 54, 55, 56] M M' ∧ M' 48 = zf (zf (zf (zf (zf (M 48) 0 s) 1 p) 9 (-1)) 10 1) 31 0 ∧ (∀ x : Nat, x < 48 → M' 49 (x : Int) = 1 ∧ M' 53 (x : Int) = ((x / 4 : Nat) : Int) ∧ M' 54 (x : Int) = 0) ∧ (∀ x : Nat, x < 972 → M' 50 (x : Int) = ((x / 81 : Nat) : Int)) ∧ (∀ x : Nat, x < 144 → M' 51 (x : Int) = 0) ∧ (∀ x : Nat, x < 12 → M' 52 (x : Int) = 0) ∧ (∀ x : Nat, x < 4 → M' 55 (x : Int) = 0) ∧ M' 56 0 = 0 := by
  rw [zF_en k_Md_begins_0 (L := [zR 48, zI s, zI p, zU]) rfl]
  simp (disch := first | omega | exact Nat.le_of_ble_eq_true rfl | assumption | (simp only [Int.natCast_add, Int.natCast_mul, Int.cast_ofNat_Int]; omega) | decide) only [x_aload, x_getf, w_goto, w_fall, w_iconst, w_idiv, w_icmp, x_iinc, x_iload, x_istore, zadd_eq, gf_48_2, gf_48_3, gf_48_4, gf_48_5, gf_48_6, gf_48_7, gf_48_8, gf_48_11, xp_48_0, xp_48_1, xp_48_9, xp_48_10, xp_48_31, sa_49, sa_50, sa_51, sa_52, sa_53, sa_54, sa_55, sa_56, w_vret r_Md_begins, q_eq, q_ne, q_lt, q_ge, q_gt, q_le, g_I, g_L, g_R, g_V, t_0, t_I, t_R, t_U, t_L, t_s, List.getElem?_cons_zero, List.getElem?_cons_succ, Nat.reduceAdd, zif10, zif01b, zib, if_pos, if_neg, ↓reduceIte, not_true_eq_false, not_false_eq_true, Bool.true_eq_false, Bool.false_eq_true, Classical.not_not, eq_self, and_self, and_true, true_and, Int.reduceEq, Int.reduceLE, Int.reduceLT, Int.reduceNeg, Option.toList, List.cons_append, List.nil_append, zup_s, zup_n, zst_s, zup_zs, zup_zn, decide_true, decide_false]
  refine zfor (a := 0) (N := 48) (b := 1) (fun t L0 M0 => ∃ M2, L0 = [zR 48, zI s, zI p, zI (t : Int)] ∧ M0 = M2 ∧ (zKp [48, 49, 53, 54] M M2 ∧ M2 48 = zf (zf (zf (M 48) 0 s) 1 p) 9 (-1) ∧ ∀ x : Nat, x < t → M2 49 (x : Int) = 1 ∧ M2 53 (x : Int) = ((x / 4 : Nat) : Int) ∧ M2 54 (x : Int) = 0)) ?_ ?_ ?_ ?_
  · exact Nat.zero_le _
  · refine ⟨_, rfl, rfl, zKp_up (by decide) (zKp_up (by decide) (zKp_up (by decide) (zKp_rf _ _))), by rw [zup_row, zup_row, zup_row], fun x hx => by omega⟩
  · rintro t _ M2 _ ht ⟨_, rfl, rfl, hk, h48, hx⟩ ih
    have e4 : zdiv (t : Int) 4 = ((t / 4 : Nat) : Int) := zdiv_nat (d := 4) (by omega) (by omega) (by omega)
    rw [k_Md_begins_1]
    simp (disch := first | omega | exact Nat.le_of_ble_eq_true rfl | assumption | (simp only [Int.natCast_add, Int.natCast_mul, Int.cast_ofNat_Int]; omega) | decide) only [k_Md_begins_2, x_aload, x_getf, w_goto, w_fall, w_iconst, w_idiv, w_icmp, x_iinc, x_iload, x_istore, zadd_eq, gf_48_2, gf_48_3, gf_48_4, gf_48_5, gf_48_6, gf_48_7, gf_48_8, gf_48_11, xp_48_0, xp_48_1, xp_48_9, xp_48_10, xp_48_31, sa_49, sa_50, sa_51, sa_52, sa_53, sa_54, sa_55, sa_56, w_vret r_Md_begins, q_eq, q_ne, q_lt, q_ge, q_gt, q_le, g_I, g_L, g_R, g_V, t_0, t_I, t_R, t_U, t_L, t_s, List.getElem?_cons_zero, List.getElem?_cons_succ, Nat.reduceAdd, zif10, zif01b, zib, if_pos, if_neg, ↓reduceIte, not_true_eq_false, not_false_eq_true, Bool.true_eq_false, Bool.false_eq_true, Classical.not_not, eq_self, and_self, and_true, true_and, Int.reduceEq, Int.reduceLE, Int.reduceLT, Int.reduceNeg, Option.toList, List.cons_append, List.nil_append, zup_s, zup_n, zst_s, zup_zs, zup_zn, decide_true, decide_false, e4]
    refine ih _ _ ⟨_, rfl, rfl, zKp_up (by decide) (zKp_up (by decide) (zKp_up (by decide) hk)), h48, fun x h => ?_⟩
    by_cases e : x = t
    · subst e
      exact ⟨by rw [zup_n (by decide), zup_n (by decide), zup_s], by rw [zup_n (by decide), zup_s], by rw [zup_s]⟩
    · have hx := hx x (by omega)
      exact ⟨by rw [zup_n (by decide), zup_n (by decide), zup_d (by omega)]; exact hx.1, by rw [zup_n (by decide), zup_d (by omega), zup_n (by decide)]; exact hx.2.1, by rw [zup_d (by omega), zup_n (by decide), zup_n (by decide)]; exact hx.2.2⟩
  rintro _ M1 ⟨_, rfl, rfl, hk1, h48, hx1⟩
  rw [k_Md_begins_1]
  simp (disch := first | omega | exact Nat.le_of_ble_eq_true rfl | assumption | (simp only [Int.natCast_add, Int.natCast_mul, Int.cast_ofNat_Int]; omega) | decide) only [k_Md_begins_3, x_aload, x_getf, w_goto, w_fall, w_iconst, w_idiv, w_icmp, x_iinc, x_iload, x_istore, zadd_eq, gf_48_2, gf_48_3, gf_48_4, gf_48_5, gf_48_6, gf_48_7, gf_48_8, gf_48_11, xp_48_0, xp_48_1, xp_48_9, xp_48_10, xp_48_31, sa_49, sa_50, sa_51, sa_52, sa_53, sa_54, sa_55, sa_56, w_vret r_Md_begins, q_eq, q_ne, q_lt, q_ge, q_gt, q_le, g_I, g_L, g_R, g_V, t_0, t_I, t_R, t_U, t_L, t_s, List.getElem?_cons_zero, List.getElem?_cons_succ, Nat.reduceAdd, zif10, zif01b, zib, if_pos, if_neg, ↓reduceIte, not_true_eq_false, not_false_eq_true, Bool.true_eq_false, Bool.false_eq_true, Classical.not_not, eq_self, and_self, and_true, true_and, Int.reduceEq, Int.reduceLE, Int.reduceLT, Int.reduceNeg, Option.toList, List.cons_append, List.nil_append, zup_s, zup_n, zst_s, zup_zs, zup_zn, decide_true, decide_false]
  refine zfor (a := 0) (N := 972) (b := 4) (fun t L0 M0 => ∃ M2, L0 = [zR 48, zI s, zI p, zI (t : Int)] ∧ M0 = M2 ∧ (zKp [50] M1 M2 ∧ ∀ x : Nat, x < t → M2 50 (x : Int) = ((x / 81 : Nat) : Int))) ?_ ?_ ?_ ?_
  · exact Nat.zero_le _
  · exact ⟨_, rfl, rfl, zKp_rf _ _, fun x hx => by omega⟩
  · rintro t _ M2 _ ht ⟨_, rfl, rfl, hk, hx⟩ ih
    have e4 : zdiv (t : Int) 81 = ((t / 81 : Nat) : Int) := zdiv_nat (d := 81) (by omega) (by omega) (by omega)
    rw [k_Md_begins_4]
    simp (disch := first | omega | exact Nat.le_of_ble_eq_true rfl | assumption | (simp only [Int.natCast_add, Int.natCast_mul, Int.cast_ofNat_Int]; omega) | decide) only [k_Md_begins_5, x_aload, x_getf, w_goto, w_fall, w_iconst, w_idiv, w_icmp, x_iinc, x_iload, x_istore, zadd_eq, gf_48_2, gf_48_3, gf_48_4, gf_48_5, gf_48_6, gf_48_7, gf_48_8, gf_48_11, xp_48_0, xp_48_1, xp_48_9, xp_48_10, xp_48_31, sa_49, sa_50, sa_51, sa_52, sa_53, sa_54, sa_55, sa_56, w_vret r_Md_begins, q_eq, q_ne, q_lt, q_ge, q_gt, q_le, g_I, g_L, g_R, g_V, t_0, t_I, t_R, t_U, t_L, t_s, List.getElem?_cons_zero, List.getElem?_cons_succ, Nat.reduceAdd, zif10, zif01b, zib, if_pos, if_neg, ↓reduceIte, not_true_eq_false, not_false_eq_true, Bool.true_eq_false, Bool.false_eq_true, Classical.not_not, eq_self, and_self, and_true, true_and, Int.reduceEq, Int.reduceLE, Int.reduceLT, Int.reduceNeg, Option.toList, List.cons_append, List.nil_append, zup_s, zup_n, zst_s, zup_zs, zup_zn, decide_true, decide_false, e4]
    refine ih _ _ ⟨_, rfl, rfl, zKp_up (by decide) hk, fun x h => ?_⟩
    by_cases e : x = t
    · subst e; rw [zup_s]
    · rw [zup_d (by omega)]; exact hx x (by omega)
  rintro _ M3 ⟨_, rfl, rfl, hk2, hx2⟩
  rw [k_Md_begins_4]
  simp (disch := first | omega | exact Nat.le_of_ble_eq_true rfl | assumption | (simp only [Int.natCast_add, Int.natCast_mul, Int.cast_ofNat_Int]; omega) | decide) only [k_Md_begins_6, x_aload, x_getf, w_goto, w_fall, w_iconst, w_idiv, w_icmp, x_iinc, x_iload, x_istore, zadd_eq, gf_48_2, gf_48_3, gf_48_4, gf_48_5, gf_48_6, gf_48_7, gf_48_8, gf_48_11, xp_48_0, xp_48_1, xp_48_9, xp_48_10, xp_48_31, sa_49, sa_50, sa_51, sa_52, sa_53, sa_54, sa_55, sa_56, w_vret r_Md_begins, q_eq, q_ne, q_lt, q_ge, q_gt, q_le, g_I, g_L, g_R, g_V, t_0, t_I, t_R, t_U, t_L, t_s, List.getElem?_cons_zero, List.getElem?_cons_succ, Nat.reduceAdd, zif10, zif01b, zib, if_pos, if_neg, ↓reduceIte, not_true_eq_false, not_false_eq_true, Bool.true_eq_false, Bool.false_eq_true, Classical.not_not, eq_self, and_self, and_true, true_and, Int.reduceEq, Int.reduceLE, Int.reduceLT, Int.reduceNeg, Option.toList, List.cons_append, List.nil_append, zup_s, zup_n, zst_s, zup_zs, zup_zn, decide_true, decide_false]
  refine zfor (a := 0) (N := 144) (b := 7) (fun t L0 M0 => ∃ M2, L0 = [zR 48, zI s, zI p, zI (t : Int)] ∧ M0 = M2 ∧ (zKp [51] M3 M2 ∧ ∀ x : Nat, x < t → M2 51 (x : Int) = 0)) ?_ ?_ ?_ ?_
  · exact Nat.zero_le _
  · exact ⟨_, rfl, rfl, zKp_rf _ _, fun x hx => by omega⟩
  · rintro t _ M2 _ ht ⟨_, rfl, rfl, hk, hx⟩ ih
    rw [k_Md_begins_7]
    simp (disch := first | omega | exact Nat.le_of_ble_eq_true rfl | assumption | (simp only [Int.natCast_add, Int.natCast_mul, Int.cast_ofNat_Int]; omega) | decide) only [k_Md_begins_8, x_aload, x_getf, w_goto, w_fall, w_iconst, w_idiv, w_icmp, x_iinc, x_iload, x_istore, zadd_eq, gf_48_2, gf_48_3, gf_48_4, gf_48_5, gf_48_6, gf_48_7, gf_48_8, gf_48_11, xp_48_0, xp_48_1, xp_48_9, xp_48_10, xp_48_31, sa_49, sa_50, sa_51, sa_52, sa_53, sa_54, sa_55, sa_56, w_vret r_Md_begins, q_eq, q_ne, q_lt, q_ge, q_gt, q_le, g_I, g_L, g_R, g_V, t_0, t_I, t_R, t_U, t_L, t_s, List.getElem?_cons_zero, List.getElem?_cons_succ, Nat.reduceAdd, zif10, zif01b, zib, if_pos, if_neg, ↓reduceIte, not_true_eq_false, not_false_eq_true, Bool.true_eq_false, Bool.false_eq_true, Classical.not_not, eq_self, and_self, and_true, true_and, Int.reduceEq, Int.reduceLE, Int.reduceLT, Int.reduceNeg, Option.toList, List.cons_append, List.nil_append, zup_s, zup_n, zst_s, zup_zs, zup_zn, decide_true, decide_false]
    refine ih _ _ ⟨_, rfl, rfl, zKp_up (by decide) hk, fun x h => ?_⟩
    by_cases e : x = t
    · subst e; rw [zup_s]
    · rw [zup_d (by omega)]; exact hx x (by omega)
  rintro _ M4 ⟨_, rfl, rfl, hk3, hx3⟩
  rw [k_Md_begins_7]
  simp (disch := first | omega | exact Nat.le_of_ble_eq_true rfl | assumption | (simp only [Int.natCast_add, Int.natCast_mul, Int.cast_ofNat_Int]; omega) | decide) only [k_Md_begins_9, x_aload, x_getf, w_goto, w_fall, w_iconst, w_idiv, w_icmp, x_iinc, x_iload, x_istore, zadd_eq, gf_48_2, gf_48_3, gf_48_4, gf_48_5, gf_48_6, gf_48_7, gf_48_8, gf_48_11, xp_48_0, xp_48_1, xp_48_9, xp_48_10, xp_48_31, sa_49, sa_50, sa_51, sa_52, sa_53, sa_54, sa_55, sa_56, w_vret r_Md_begins, q_eq, q_ne, q_lt, q_ge, q_gt, q_le, g_I, g_L, g_R, g_V, t_0, t_I, t_R, t_U, t_L, t_s, List.getElem?_cons_zero, List.getElem?_cons_succ, Nat.reduceAdd, zif10, zif01b, zib, if_pos, if_neg, ↓reduceIte, not_true_eq_false, not_false_eq_true, Bool.true_eq_false, Bool.false_eq_true, Classical.not_not, eq_self, and_self, and_true, true_and, Int.reduceEq, Int.reduceLE, Int.reduceLT, Int.reduceNeg, Option.toList, List.cons_append, List.nil_append, zup_s, zup_n, zst_s, zup_zs, zup_zn, decide_true, decide_false]
  refine zfor (a := 0) (N := 12) (b := 10) (fun t L0 M0 => ∃ M2, L0 = [zR 48, zI s, zI p, zI (t : Int)] ∧ M0 = M2 ∧ (zKp [52] M4 M2 ∧ ∀ x : Nat, x < t → M2 52 (x : Int) = 0)) ?_ ?_ ?_ ?_
  · exact Nat.zero_le _
  · exact ⟨_, rfl, rfl, zKp_rf _ _, fun x hx => by omega⟩
  · rintro t _ M2 _ ht ⟨_, rfl, rfl, hk, hx⟩ ih
    rw [k_Md_begins_10]
    simp (disch := first | omega | exact Nat.le_of_ble_eq_true rfl | assumption | (simp only [Int.natCast_add, Int.natCast_mul, Int.cast_ofNat_Int]; omega) | decide) only [k_Md_begins_11, x_aload, x_getf, w_goto, w_fall, w_iconst, w_idiv, w_icmp, x_iinc, x_iload, x_istore, zadd_eq, gf_48_2, gf_48_3, gf_48_4, gf_48_5, gf_48_6, gf_48_7, gf_48_8, gf_48_11, xp_48_0, xp_48_1, xp_48_9, xp_48_10, xp_48_31, sa_49, sa_50, sa_51, sa_52, sa_53, sa_54, sa_55, sa_56, w_vret r_Md_begins, q_eq, q_ne, q_lt, q_ge, q_gt, q_le, g_I, g_L, g_R, g_V, t_0, t_I, t_R, t_U, t_L, t_s, List.getElem?_cons_zero, List.getElem?_cons_succ, Nat.reduceAdd, zif10, zif01b, zib, if_pos, if_neg, ↓reduceIte, not_true_eq_false, not_false_eq_true, Bool.true_eq_false, Bool.false_eq_true, Classical.not_not, eq_self, and_self, and_true, true_and, Int.reduceEq, Int.reduceLE, Int.reduceLT, Int.reduceNeg, Option.toList, List.cons_append, List.nil_append, zup_s, zup_n, zst_s, zup_zs, zup_zn, decide_true, decide_false]
    refine ih _ _ ⟨_, rfl, rfl, zKp_up (by decide) hk, fun x h => ?_⟩
    by_cases e : x = t
    · subst e; rw [zup_s]
    · rw [zup_d (by omega)]; exact hx x (by omega)
  rintro _ M5 ⟨_, rfl, rfl, hk4, hx4⟩
  rw [k_Md_begins_10]
  simp (disch := first | omega | exact Nat.le_of_ble_eq_true rfl | assumption | (simp only [Int.natCast_add, Int.natCast_mul, Int.cast_ofNat_Int]; omega) | decide) only [k_Md_begins_12, x_aload, x_getf, w_goto, w_fall, w_iconst, w_idiv, w_icmp, x_iinc, x_iload, x_istore, zadd_eq, gf_48_2, gf_48_3, gf_48_4, gf_48_5, gf_48_6, gf_48_7, gf_48_8, gf_48_11, xp_48_0, xp_48_1, xp_48_9, xp_48_10, xp_48_31, sa_49, sa_50, sa_51, sa_52, sa_53, sa_54, sa_55, sa_56, w_vret r_Md_begins, q_eq, q_ne, q_lt, q_ge, q_gt, q_le, g_I, g_L, g_R, g_V, t_0, t_I, t_R, t_U, t_L, t_s, List.getElem?_cons_zero, List.getElem?_cons_succ, Nat.reduceAdd, zif10, zif01b, zib, if_pos, if_neg, ↓reduceIte, not_true_eq_false, not_false_eq_true, Bool.true_eq_false, Bool.false_eq_true, Classical.not_not, eq_self, and_self, and_true, true_and, Int.reduceEq, Int.reduceLE, Int.reduceLT, Int.reduceNeg, Option.toList, List.cons_append, List.nil_append, zup_s, zup_n, zst_s, zup_zs, zup_zn, decide_true, decide_false]
  refine zfor (a := 0) (N := 4) (b := 13) (fun t L0 M0 => ∃ M2, L0 = [zR 48, zI s, zI p, zI (t : Int)] ∧ M0 = M2 ∧ (zKp [55] M5 M2 ∧ ∀ x : Nat, x < t → M2 55 (x : Int) = 0)) ?_ ?_ ?_ ?_
  · exact Nat.zero_le _
  · exact ⟨_, rfl, rfl, zKp_rf _ _, fun x hx => by omega⟩
  · rintro t _ M2 _ ht ⟨_, rfl, rfl, hk, hx⟩ ih
    rw [k_Md_begins_13]
    simp (disch := first | omega | exact Nat.le_of_ble_eq_true rfl | assumption | (simp only [Int.natCast_add, Int.natCast_mul, Int.cast_ofNat_Int]; omega) | decide) only [k_Md_begins_14, x_aload, x_getf, w_goto, w_fall, w_iconst, w_idiv, w_icmp, x_iinc, x_iload, x_istore, zadd_eq, gf_48_2, gf_48_3, gf_48_4, gf_48_5, gf_48_6, gf_48_7, gf_48_8, gf_48_11, xp_48_0, xp_48_1, xp_48_9, xp_48_10, xp_48_31, sa_49, sa_50, sa_51, sa_52, sa_53, sa_54, sa_55, sa_56, w_vret r_Md_begins, q_eq, q_ne, q_lt, q_ge, q_gt, q_le, g_I, g_L, g_R, g_V, t_0, t_I, t_R, t_U, t_L, t_s, List.getElem?_cons_zero, List.getElem?_cons_succ, Nat.reduceAdd, zif10, zif01b, zib, if_pos, if_neg, ↓reduceIte, not_true_eq_false, not_false_eq_true, Bool.true_eq_false, Bool.false_eq_true, Classical.not_not, eq_self, and_self, and_true, true_and, Int.reduceEq, Int.reduceLE, Int.reduceLT, Int.reduceNeg, Option.toList, List.cons_append, List.nil_append, zup_s, zup_n, zst_s, zup_zs, zup_zn, decide_true, decide_false]
    refine ih _ _ ⟨_, rfl, rfl, zKp_up (by decide) hk, fun x h => ?_⟩
    by_cases e : x = t
    · subst e; rw [zup_s]
    · rw [zup_d (by omega)]; exact hx x (by omega)
  rintro _ M6 ⟨_, rfl, rfl, hk5, hx5⟩
  rw [k_Md_begins_13]
  simp (disch := first | omega | exact Nat.le_of_ble_eq_true rfl | assumption | (simp only [Int.natCast_add, Int.natCast_mul, Int.cast_ofNat_Int]; omega) | decide) only [k_Md_begins_15, x_aload, x_getf, w_goto, w_fall, w_iconst, w_idiv, w_icmp, x_iinc, x_iload, x_istore, zadd_eq, gf_48_2, gf_48_3, gf_48_4, gf_48_5, gf_48_6, gf_48_7, gf_48_8, gf_48_11, xp_48_0, xp_48_1, xp_48_9, xp_48_10, xp_48_31, sa_49, sa_50, sa_51, sa_52, sa_53, sa_54, sa_55, sa_56, w_vret r_Md_begins, q_eq, q_ne, q_lt, q_ge, q_gt, q_le, g_I, g_L, g_R, g_V, t_0, t_I, t_R, t_U, t_L, t_s, List.getElem?_cons_zero, List.getElem?_cons_succ, Nat.reduceAdd, zif10, zif01b, zib, if_pos, if_neg, ↓reduceIte, not_true_eq_false, not_false_eq_true, Bool.true_eq_false, Bool.false_eq_true, Classical.not_not, eq_self, and_self, and_true, true_and, Int.reduceEq, Int.reduceLE, Int.reduceLT, Int.reduceNeg, Option.toList, List.cons_append, List.nil_append, zup_s, zup_n, zst_s, zup_zs, zup_zn, decide_true, decide_false]
  have hkk : zKp [50, 51, 52, 55] M1 M6 := zKp_tr (zKp_mo hk2 (by decide)) (zKp_tr (zKp_mo hk3 (by decide)) (zKp_tr (zKp_mo hk4 (by decide)) (zKp_mo hk5 (by decide))))
  refine ⟨?_, ?_, fun x h => ?_, fun x h => ?_, fun x h => ?_, fun x h => ?_, fun x h => ?_⟩
  · exact zKp_up (by decide) (zKp_up (by decide) (zKp_up (by decide) (zKp_tr (zKp_mo hk1 (by decide)) (zKp_mo hkk (by decide)))))
  · rw [zup_row, zup_n (by decide), zup_row, hkk 48 (by decide), h48]
  · have h1 := hx1 x h
    refine ⟨?_, ?_, ?_⟩
    · show M6 49 (x : Int) = 1
      rw [hkk 49 (by decide)]; exact h1.1
    · show M6 53 (x : Int) = _
      rw [hkk 53 (by decide)]; exact h1.2.1
    · show M6 54 (x : Int) = 0
      rw [hkk 54 (by decide)]; exact h1.2.2
  · show M6 50 (x : Int) = _
    rw [hk5 50 (by decide), hk4 50 (by decide), hk3 50 (by decide)]; exact hx2 x h
  · show M6 51 (x : Int) = _
    rw [hk5 51 (by decide), hk4 51 (by decide)]; exact hx3 x h
  · show M6 52 (x : Int) = _
    rw [hk5 52 (by decide)]; exact hx4 x h
  · exact hx5 x h
theorem c_Md_begins {d mi o b9 : Nat} {es : List zEnt} {L st : List zMV} {Q : Option zMV → (Nat → Int → Int) → Prop} {s p : Int} (hd : 1 + 1 ≤ d) (hc : zcats st ≤ 8) (hpost : ∀ r M', (r = none ∧ zKp [48, 49, 50, 51, 52, 53, 54, 55, 56] M M' ∧ M' 48 = zf (zf (zf (zf (zf (M 48) 0 s) 1 p) 9 (-1)) 10 1) 31 0 ∧ (∀ x : Nat, x < 48 → M' 49 (x : Int) = 1 ∧ M' 53 (x : Int) = ((x / 4 : Nat) : Int) ∧ M' 54 (x : Int) = 0) ∧ (∀ x : Nat, x < 972 → M' 50 (x : Int) = ((x / 81 : Nat) : Int)) ∧ (∀ x : Nat, x < 144 → M' 51 (x : Int) = 0) ∧ (∀ x : Nat, x < 12 → M' 52 (x : Int) = 0) ∧ (∀ x : Nat, x < 4 → M' 55 (x : Int) = 0) ∧ M' 56 0 = 0) → zW (zSH Ln) d mi es L (r.toList ++ st) M' Q) : zW (zSH Ln) d mi ((.invokevirtual o, 168, b9) :: es) L (zI p :: zI s :: zR 48 :: st) M Q :=
  w_callv (ps := [zI s, zI p]) (by omega) rfl rfl (by omega) (by exact sh_48 Ln) hc (Nat.le_of_ble_eq_true rfl) (F_Md_begins  (by omega)) hpost
theorem zNwR_of {S P : Nat} {M M' : Nat → Int → Int} (h0 : M' 48 = zf (zf (zf (zf (zf (M 48) 0 S) 1 P) 9 (-1)) 10 1) 31 0) (h1 : ∀ x : Nat, x < 48 → M' 49 (x : Int) = 1 ∧ M' 53 (x : Int) = ((x / 4 : Nat) : Int) ∧ M' 54 (x : Int) = 0) (h2 : ∀ x : Nat, x < 972 → M' 50 (x : Int) = ((x / 81 : Nat) : Int)) (h3 : ∀ x : Nat, x < 144 → M' 51 (x : Int) = 0) (h4 : ∀ x : Nat, x < 12 → M' 52 (x : Int) = 0) : zNwR S P M' := by
  refine ⟨⟨by rw [h0]; rfl, by rw [h0]; rfl, fun s p a b => ?_, fun s j a b => ?_⟩, fun s a => h4 s a, fun p s a b => ?_, fun s p q a b c => ?_, fun s p a b => ?_⟩
  · exact (h1 (4 * s + p) (by omega)).1
  · have := h2 (81 * s + j) (by omega)
    rw [show (81 * s + j) / 81 = s by omega] at this
    exact this
  · have := (h1 (4 * s + p) (by omega)).2.1
    rw [show (4 * s + p) / 4 = s by omega] at this
    exact this
  · exact h3 (12 * s + 3 * p + q) (by omega)
  · exact (h1 (4 * s + p) (by omega)).2.2
theorem F_Md_net {d : Nat} {x y : Int} (hd : 2 ≤ d) : zF (zSH Ln) d i_Md_net [zR 48, zI x, zI y] M fun r M' => r = some (zI (if zNwG x y then 1 else -1)) ∧ (zNwG x y → zKp [48, 49, 50, 51, 52, 53, 54, 55, 56] M M' ∧ zNwR x.toNat y.toNat M' ∧ M' 48 = zf (zf (zf (zf (zf (M 48) 0 x) 1 y) 9 (-1)) 10 1) 31 0 ∧ (∀ x : Nat, x < 4 → M' 55 (x : Int) = 0) ∧ M' 56 0 = 0) ∧ (¬ zNwG x y → M' = M) := by
  rw [zF_en k_Md_net_0 (L := [zR 48, zI x, zI y]) rfl]
  by_cases c1 : 2 ≤ x ∧ x ≤ 12
  rotate_left
  · have hng : ¬ zNwG x y := fun h => c1 h.1
    rw [if_neg hng]
    simp (disch := first | omega | exact Nat.le_of_ble_eq_true rfl | assumption | (simp only [Int.natCast_add, Int.natCast_mul, Int.cast_ofNat_Int]; omega) | decide) only [k_Md_net_2, x_aload, w_fall, w_i2l, w_iconst, w_if, x_iload, w_sipush, w_nret r_Md_net, q_eq, q_ne, q_lt, q_ge, q_gt, q_le, g_I, g_L, g_R, g_V, t_0, t_I, t_R, t_U, t_L, t_s, List.getElem?_cons_zero, List.getElem?_cons_succ, Nat.reduceAdd, zif10, zif01b, zib, if_pos, if_neg, ↓reduceIte, not_true_eq_false, not_false_eq_true, Bool.true_eq_false, Bool.false_eq_true, Classical.not_not, eq_self, and_self, and_true, true_and, Int.reduceEq, Int.reduceLE, Int.reduceLT, Int.reduceNeg, Option.toList, List.cons_append, List.nil_append, zup_s, zup_n, zst_s, zup_zs, zup_zn, decide_true, decide_false, c_Md_in, c1]
    exact ⟨fun h => absurd h hng, fun _ => trivial⟩
  by_cases c3 : 1 ≤ y ∧ y ≤ 4
  rotate_left
  · have hng : ¬ zNwG x y := fun h => c3 h.2
    rw [if_neg hng]
    simp (disch := first | omega | exact Nat.le_of_ble_eq_true rfl | assumption | (simp only [Int.natCast_add, Int.natCast_mul, Int.cast_ofNat_Int]; omega) | decide) only [k_Md_net_1, k_Md_net_2, x_aload, w_fall, w_i2l, w_iconst, w_if, x_iload, w_sipush, w_nret r_Md_net, q_eq, q_ne, q_lt, q_ge, q_gt, q_le, g_I, g_L, g_R, g_V, t_0, t_I, t_R, t_U, t_L, t_s, List.getElem?_cons_zero, List.getElem?_cons_succ, Nat.reduceAdd, zif10, zif01b, zib, if_pos, if_neg, ↓reduceIte, not_true_eq_false, not_false_eq_true, Bool.true_eq_false, Bool.false_eq_true, Classical.not_not, eq_self, and_self, and_true, true_and, Int.reduceEq, Int.reduceLE, Int.reduceLT, Int.reduceNeg, Option.toList, List.cons_append, List.nil_append, zup_s, zup_n, zst_s, zup_zs, zup_zn, decide_true, decide_false, c_Md_in, c1, c3]
    exact ⟨fun h => absurd h hng, fun _ => trivial⟩
  have hg : zNwG x y := ⟨c1, c3⟩
  rw [if_pos hg]
  obtain ⟨S, rfl⟩ : ∃ S : Nat, x = (S : Int) := ⟨x.toNat, by omega⟩
  obtain ⟨P, rfl⟩ : ∃ P : Nat, y = (P : Int) := ⟨y.toNat, by omega⟩
  rw [Int.toNat_natCast, Int.toNat_natCast]
  simp (disch := first | omega | exact Nat.le_of_ble_eq_true rfl | assumption | (simp only [Int.natCast_add, Int.natCast_mul, Int.cast_ofNat_Int]; omega) | decide) only [k_Md_net_1, k_Md_net_3, x_aload, w_fall, w_i2l, w_iconst, w_if, x_iload, w_sipush, w_nret r_Md_net, q_eq, q_ne, q_lt, q_ge, q_gt, q_le, g_I, g_L, g_R, g_V, t_0, t_I, t_R, t_U, t_L, t_s, List.getElem?_cons_zero, List.getElem?_cons_succ, Nat.reduceAdd, zif10, zif01b, zib, if_pos, if_neg, ↓reduceIte, not_true_eq_false, not_false_eq_true, Bool.true_eq_false, Bool.false_eq_true, Classical.not_not, eq_self, and_self, and_true, true_and, Int.reduceEq, Int.reduceLE, Int.reduceLT, Int.reduceNeg, Option.toList, List.cons_append, List.nil_append, zup_s, zup_n, zst_s, zup_zs, zup_zn, decide_true, decide_false, c_Md_in, c1, c3]
  refine c_Md_begins (by omega) (Nat.le_of_ble_eq_true rfl) ?_
  rintro _ M1 ⟨rfl, hk, h48, h1, h2, h3, h4, h5, h6⟩
  simp (disch := first | omega | exact Nat.le_of_ble_eq_true rfl | assumption | (simp only [Int.natCast_add, Int.natCast_mul, Int.cast_ofNat_Int]; omega) | decide) only [x_aload, w_fall, w_i2l, w_iconst, w_if, x_iload, w_sipush, w_nret r_Md_net, q_eq, q_ne, q_lt, q_ge, q_gt, q_le, g_I, g_L, g_R, g_V, t_0, t_I, t_R, t_U, t_L, t_s, List.getElem?_cons_zero, List.getElem?_cons_succ, Nat.reduceAdd, zif10, zif01b, zib, if_pos, if_neg, ↓reduceIte, not_true_eq_false, not_false_eq_true, Bool.true_eq_false, Bool.false_eq_true, Classical.not_not, eq_self, and_self, and_true, true_and, Int.reduceEq, Int.reduceLE, Int.reduceLT, Int.reduceNeg, Option.toList, List.cons_append, List.nil_append, zup_s, zup_n, zst_s, zup_zs, zup_zn, decide_true, decide_false]
  exact ⟨fun _ => ⟨hk, zNwR_of h48 h1 h2 h3 h4, h48, h5, h6⟩, fun h => absurd hg h⟩
theorem c_Md_net {d mi o b9 : Nat} {es : List zEnt} {L st : List zMV} {Q : Option zMV → (Nat → Int → Int) → Prop} {x y : Int} (hd : 2 + 1 ≤ d) (hc : zcats st ≤ 8) (hpost : ∀ r M', (r = some (zI (if zNwG x y then 1 else -1)) ∧ (zNwG x y → zKp [48, 49, 50, 51, 52, 53, 54, 55, 56] M M' ∧ zNwR x.toNat y.toNat M' ∧ M' 48 = zf (zf (zf (zf (zf (M 48) 0 x) 1 y) 9 (-1)) 10 1) 31 0 ∧ (∀ x : Nat, x < 4 → M' 55 (x : Int) = 0) ∧ M' 56 0 = 0) ∧ (¬ zNwG x y → M' = M)) → zW (zSH Ln) d mi es L (r.toList ++ st) M' Q) : zW (zSH Ln) d mi ((.invokevirtual o, 169, b9) :: es) L (zI y :: zI x :: zR 48 :: st) M Q :=
  w_callv (ps := [zI x, zI y]) (by omega) rfl rfl (by omega) (by exact sh_48 Ln) hc (Nat.le_of_ble_eq_true rfl) (F_Md_net  (by omega)) hpost
end NW
