/-! chances: the reference's rows made short -/
def zVg (f : Nat → Int) : Nat → Nat
  | 0 => 0
  | n + 1 => Nat.gcd (zVg f n) (f n).natAbs
theorem zVg_congr {f g : Nat → Int} : ∀ {n : Nat}, (∀ i, i < n → f i = g i) → zVg f n = zVg g n
  | 0, _ => rfl
  | n + 1, h => by
    show Nat.gcd (zVg f n) (f n).natAbs = Nat.gcd (zVg g n) (g n).natAbs
    rw [zVg_congr (n := n) (fun i hi => h i (by omega)), h n (by omega)]
theorem zVg_mul (a : Nat) (f : Nat → Int) : ∀ n, zVg (fun i => (a : Int) * f i) n = a * zVg f n
  | 0 => rfl
  | n + 1 => by
    show Nat.gcd (zVg _ n) ((a : Int) * f n).natAbs = a * Nat.gcd (zVg f n) (f n).natAbs
    rw [zVg_mul a f n, Int.natAbs_mul, Int.natAbs_natCast, Nat.gcd_mul_left]
theorem zVg_dvd {f : Nat → Int} : ∀ {n i : Nat}, i < n → zVg f n ∣ (f i).natAbs
  | 0, _, h => by omega
  | n + 1, i, h => by
    show Nat.gcd (zVg f n) (f n).natAbs ∣ _
    by_cases e : i = n
    · subst e; exact Nat.gcd_dvd_right _ _
    · exact Nat.dvd_trans (Nat.gcd_dvd_left _ _) (zVg_dvd (n := n) (by omega))
theorem zdvd_Vg {f : Nat → Int} {b : Nat} : ∀ {n : Nat}, (∀ i, i < n → b ∣ (f i).natAbs) → b ∣ zVg f n
  | 0, _ => Nat.dvd_zero _
  | n + 1, h => Nat.dvd_gcd (zdvd_Vg (n := n) (fun i hi => h i (by omega))) (h n (by omega))
theorem zVg_le {f : Nat → Int} {n i b : Nat} (h : i < n) (h0 : f i ≠ 0) (hb : (f i).natAbs ≤ b) : 0 < zVg f n ∧ zVg f n ≤ b := by
  have hd := zVg_dvd (f := f) h
  have hpos : 0 < (f i).natAbs := by omega
  exact ⟨Nat.pos_of_dvd_of_pos hd hpos, Nat.le_trans (Nat.le_of_dvd hpos hd) hb⟩
/-- a row without a common divisor is the least of its kind -/
theorem zprim {f e : Nat → Int} {n : Nat} {a b : Nat} (ha : 0 < a) (hb : 0 < b) (h : ∀ i, i < n → (a : Int) * f i = (b : Int) * e i) (hp : zVg f n = 1) : ∃ c : Nat, 0 < c ∧ ∀ i, i < n → e i = (c : Int) * f i := by
  have hd : b ∣ zVg (fun i => (a : Int) * f i) n := zdvd_Vg fun i hi => by
    show b ∣ ((a : Int) * f i).natAbs
    rw [h i hi, Int.natAbs_mul, Int.natAbs_natCast]
    exact Nat.dvd_mul_right _ _
  rw [zVg_mul, hp, Nat.mul_one] at hd
  obtain ⟨c, rfl⟩ := hd
  refine ⟨c, Nat.pos_of_mul_pos_left ha, fun i hi => ?_⟩
  have := h i hi
  rw [Int.natCast_mul, Int.mul_assoc] at this
  exact (Int.eq_of_mul_eq_mul_left (by omega) this).symm
theorem zfrac {a b n m al be : Nat} (hal : 0 < al) (hbe : 0 < be) (hm : 0 < m) (h1 : al * a = be * n) (h2 : al * b = be * m) : a / Nat.gcd a b = n / Nat.gcd n m ∧ b / Nat.gcd a b = m / Nat.gcd n m ∧ 0 < b := by
  have hb : 0 < b := by
    rcases Nat.eq_zero_or_pos b with h | h
    · rw [h, Nat.mul_zero] at h2
      have := Nat.mul_pos hbe hm
      omega
    · exact h
  have g1 : 0 < Nat.gcd a b := Nat.gcd_pos_of_pos_right a hb
  have g2 : 0 < Nat.gcd n m := Nat.gcd_pos_of_pos_right n hm
  have hg : al * Nat.gcd a b = be * Nat.gcd n m := by
    rw [← Nat.gcd_mul_left, ← Nat.gcd_mul_left, h1, h2]
  have key : ∀ x y, al * x = be * y → Nat.gcd a b ∣ x → Nat.gcd n m ∣ y → x / Nat.gcd a b = y / Nat.gcd n m := by
    intro x y hxy hx hy
    obtain ⟨u, rfl⟩ := hx
    obtain ⟨v, rfl⟩ := hy
    rw [Nat.mul_div_cancel_left _ g1, Nat.mul_div_cancel_left _ g2]
    rw [← Nat.mul_assoc, ← Nat.mul_assoc, hg] at hxy
    exact Nat.eq_of_mul_eq_mul_left (Nat.mul_pos hbe g2) hxy
  exact ⟨key a n h1 (Nat.gcd_dvd_left _ _) (Nat.gcd_dvd_left _ _), key b m h2 (Nat.gcd_dvd_right _ _) (Nat.gcd_dvd_right _ _), hb⟩
section RE
variable {Ln : Nat} {M : Nat → Int → Int}
theorem F_Md_swap {d : Nat} {k : Nat} (hk : k < 12) (hd : 0 ≤ d) : zF (zSH Ln) d i_Md_swap [zR 48, zI (k : Int), zI (k : Int)] M fun r M' => r = none ∧ M' = M := by
  rw [zF_en k_Md_swap_0 (L := [zR 48, zI (k : Int), zI (k : Int), zU, zU, zU]) rfl]
  have hm : ∀ x : Int, zup (zup M 81 x (M 81 x)) 81 x (M 81 x) = M := fun x => by rw [zup_up, zup_self rfl]
  simp (disch := first | omega | exact Nat.le_of_ble_eq_true rfl | assumption | (simp only [Int.natCast_add, Int.natCast_mul, Int.cast_ofNat_Int]; omega) | decide) only [x_aload, x_getf, w_goto, w_fall, w_iadd, w_iconst, w_icmp, x_iinc, x_iload, w_imul, x_istore, x_lload, x_lstore2, List.length_cons, List.length_nil, List.set_cons_succ, List.set_cons_zero, Nat.reduceLT, Nat.zero_add, zadd_eq, zmul_eq, gf_48_43, ia_81, sa_81, w_vret r_Md_swap, q_eq, q_ne, q_lt, q_ge, q_gt, q_le, g_I, g_L, g_R, g_V, t_0, t_I, t_R, t_U, t_L, t_s, List.getElem?_cons_zero, List.getElem?_cons_succ, Nat.reduceAdd, zif10, zif01b, zib, if_pos, if_neg, ↓reduceIte, not_true_eq_false, not_false_eq_true, Bool.true_eq_false, Bool.false_eq_true, Classical.not_not, eq_self, and_self, and_true, true_and, Int.reduceEq, Int.reduceLE, Int.reduceLT, Int.reduceNeg, Option.toList, List.cons_append, List.nil_append, zup_s, zup_n, zst_s, zup_zs, zup_zn, decide_true, decide_false]
  refine zfor (a := 0) (N := 13) (b := 1) (fun c L0 M0 => ∃ v4 v5, L0 = [zR 48, zI (k : Int), zI (k : Int), zI (c : Int), v4, v5] ∧ M0 = M) ?_ ?_ ?_ ?_
  · exact Nat.zero_le _
  · exact ⟨zU, zU, rfl, rfl⟩
  · rintro c _ _ _ hc ⟨v4, v5, rfl, rfl⟩ ih
    rw [k_Md_swap_1]
    simp (disch := first | omega | exact Nat.le_of_ble_eq_true rfl | assumption | (simp only [Int.natCast_add, Int.natCast_mul, Int.cast_ofNat_Int]; omega) | decide) only [k_Md_swap_2, x_aload, x_getf, w_goto, w_fall, w_iadd, w_iconst, w_icmp, x_iinc, x_iload, w_imul, x_istore, x_lload, x_lstore2, List.length_cons, List.length_nil, List.set_cons_succ, List.set_cons_zero, Nat.reduceLT, Nat.zero_add, zadd_eq, zmul_eq, gf_48_43, ia_81, sa_81, w_vret r_Md_swap, q_eq, q_ne, q_lt, q_ge, q_gt, q_le, g_I, g_L, g_R, g_V, t_0, t_I, t_R, t_U, t_L, t_s, List.getElem?_cons_zero, List.getElem?_cons_succ, Nat.reduceAdd, zif10, zif01b, zib, if_pos, if_neg, ↓reduceIte, not_true_eq_false, not_false_eq_true, Bool.true_eq_false, Bool.false_eq_true, Classical.not_not, eq_self, and_self, and_true, true_and, Int.reduceEq, Int.reduceLE, Int.reduceLT, Int.reduceNeg, Option.toList, List.cons_append, List.nil_append, zup_s, zup_n, zst_s, zup_zs, zup_zn, decide_true, decide_false, hm]
    exact ih _ _ ⟨_, _, rfl, rfl⟩
  · rintro _ _ ⟨v4, v5, rfl, rfl⟩
    rw [k_Md_swap_1]
    simp (disch := first | omega | exact Nat.le_of_ble_eq_true rfl | assumption | (simp only [Int.natCast_add, Int.natCast_mul, Int.cast_ofNat_Int]; omega) | decide) only [k_Md_swap_3, x_aload, x_getf, w_goto, w_fall, w_iadd, w_iconst, w_icmp, x_iinc, x_iload, w_imul, x_istore, x_lload, x_lstore2, List.length_cons, List.length_nil, List.set_cons_succ, List.set_cons_zero, Nat.reduceLT, Nat.zero_add, zadd_eq, zmul_eq, gf_48_43, ia_81, sa_81, w_vret r_Md_swap, q_eq, q_ne, q_lt, q_ge, q_gt, q_le, g_I, g_L, g_R, g_V, t_0, t_I, t_R, t_U, t_L, t_s, List.getElem?_cons_zero, List.getElem?_cons_succ, Nat.reduceAdd, zif10, zif01b, zib, if_pos, if_neg, ↓reduceIte, not_true_eq_false, not_false_eq_true, Bool.true_eq_false, Bool.false_eq_true, Classical.not_not, eq_self, and_self, and_true, true_and, Int.reduceEq, Int.reduceLE, Int.reduceLT, Int.reduceNeg, Option.toList, List.cons_append, List.nil_append, zup_s, zup_n, zst_s, zup_zs, zup_zn, decide_true, decide_false]
theorem c_Md_swap {d mi o b9 : Nat} {es : List zEnt} {L st : List zMV} {Q : Option zMV → (Nat → Int → Int) → Prop} {k : Nat} (hk : k < 12) (hd : 0 + 1 ≤ d) (hc : zcats st ≤ 8) : zW (zSH Ln) d mi ((.invokevirtual o, 241, b9) :: es) L (zI (k : Int) :: zI (k : Int) :: zR 48 :: st) M Q = zW (zSH Ln) d mi es L (st) (M) Q :=
  c_virt (ps := [zI (k : Int), zI (k : Int)]) (by omega) rfl rfl (by omega) (by exact sh_48 Ln) hc (Nat.le_of_ble_eq_true rfl) (F_Md_swap hk (by omega))
set_option maxHeartbeats 20000000 in
theorem F_Md_shorten {d : Nat} {rq : Nat} {f : Nat → Int} (hr : rq < 12) (hf : ∀ c : Nat, c < 13 → M 81 (13 * (rq : Int) + c) = f c) (hb : ∀ c : Nat, c < 13 → -2000000000000 ≤ f c ∧ f c ≤ 2000000000000) (h0 : ∃ c : Nat, c < 13 ∧ f c ≠ 0) (hd : 1 ≤ d) : zF (zSH Ln) d i_Md_shorten [zR 48, zI (rq : Int)] M fun r M' => r = none ∧ ∃ F, M' = zst M 81 F ∧ (∀ c : Nat, c < 13 → F (13 * (rq : Int) + c) * (zVg f 13 : Int) = f c) ∧ ∀ x : Int, x < 13 * (rq : Int) ∨ 13 * (rq : Int) + 13 ≤ x → F x = M 81 x := by
  rw [zF_en k_Md_shorten_0 (L := [zR 48, zI (rq : Int), zU, zU, zU]) rfl]
  obtain ⟨c0, hc0, hn0⟩ := h0
  have hg := zVg_le (f := f) (b := 2000000000000) hc0 hn0 (by have := hb c0 hc0; omega)
  have hgb : ∀ n, n ≤ 13 → zVg f n ≤ 2000000000000 := by
    intro n
    induction n with
    | zero => exact fun _ => Nat.zero_le _
    | succ n ih =>
      intro hn
      have ih := ih (by omega)
      have hbn := hb n (by omega)
      show Nat.gcd (zVg f n) (f n).natAbs ≤ 2000000000000
      rcases Nat.eq_zero_or_pos (zVg f n) with h | h
      · rw [h, Nat.gcd_zero_left]; omega
      · exact Nat.le_trans (Nat.gcd_le_left _ h) ih
  simp (disch := first | omega | exact Nat.le_of_ble_eq_true rfl | assumption | (simp only [Int.natCast_add, Int.natCast_mul, Int.cast_ofNat_Int]; omega) | decide) only [x_aload, w_dup2, x_getf, w_goto, w_fall, w_iadd, w_iconst, w_if, w_icmp, x_iinc, x_iload, w_imul, x_istore, w_lcmp, w_ldiv, x_lload, x_lstore2, List.length_cons, List.length_nil, List.set_cons_succ, List.set_cons_zero, Nat.reduceLT, Nat.zero_add, w_sipush, zadd_eq, zmul_eq, gf_48_43, ia_81, sa_81, w_vret r_Md_shorten, q_eq, q_ne, q_lt, q_ge, q_gt, q_le, g_I, g_L, g_R, g_V, t_0, t_I, t_R, t_U, t_L, t_s, List.getElem?_cons_zero, List.getElem?_cons_succ, Nat.reduceAdd, zif10, zif01b, zib, if_pos, if_neg, ↓reduceIte, not_true_eq_false, not_false_eq_true, Bool.true_eq_false, Bool.false_eq_true, Classical.not_not, eq_self, and_self, and_true, true_and, Int.reduceEq, Int.reduceLE, Int.reduceLT, Int.reduceNeg, Option.toList, List.cons_append, List.nil_append, zup_s, zup_n, zst_s, zup_zs, zup_zn, decide_true, decide_false]
  refine zfor (a := 0) (N := 13) (b := 1) (fun c L0 M0 => L0 = [zR 48, zI (rq : Int), zL (zVg f c : Int), zU, zI (c : Int)] ∧ M0 = M) ?_ ?_ ?_ ?_
  · exact Nat.zero_le _
  · exact ⟨rfl, rfl⟩
  · rintro c _ M _ hc ⟨rfl, rfl⟩ ih
    have hfc := hf c hc
    have hbc := hb c hc
    have h1 := hgb c (by omega)
    have e1 : ((zVg f c : Nat) : Int).natAbs = zVg f c := Int.natAbs_natCast _
    rw [k_Md_shorten_1]
    simp (disch := first | omega | exact Nat.le_of_ble_eq_true rfl | assumption | (simp only [Int.natCast_add, Int.natCast_mul, Int.cast_ofNat_Int]; omega) | decide) only [k_Md_shorten_2, x_aload, w_dup2, x_getf, w_goto, w_fall, w_iadd, w_iconst, w_if, w_icmp, x_iinc, x_iload, w_imul, x_istore, w_lcmp, w_ldiv, x_lload, x_lstore2, List.length_cons, List.length_nil, List.set_cons_succ, List.set_cons_zero, Nat.reduceLT, Nat.zero_add, w_sipush, zadd_eq, zmul_eq, gf_48_43, ia_81, sa_81, w_vret r_Md_shorten, q_eq, q_ne, q_lt, q_ge, q_gt, q_le, g_I, g_L, g_R, g_V, t_0, t_I, t_R, t_U, t_L, t_s, List.getElem?_cons_zero, List.getElem?_cons_succ, Nat.reduceAdd, zif10, zif01b, zib, if_pos, if_neg, ↓reduceIte, not_true_eq_false, not_false_eq_true, Bool.true_eq_false, Bool.false_eq_true, Classical.not_not, eq_self, and_self, and_true, true_and, Int.reduceEq, Int.reduceLE, Int.reduceLT, Int.reduceNeg, Option.toList, List.cons_append, List.nil_append, zup_s, zup_n, zst_s, zup_zs, zup_zn, decide_true, decide_false, hfc, c_Md_common (show -4000000000000000000 ≤ (zVg f c : Int) ∧ (zVg f c : Int) ≤ 4000000000000000000 by omega) (show -4000000000000000000 ≤ f c ∧ f c ≤ 4000000000000000000 by omega), e1]
    exact ih _ _ ⟨rfl, rfl⟩
  rintro _ M ⟨rfl, rfl⟩
  rw [k_Md_shorten_1]
  simp (disch := first | omega | exact Nat.le_of_ble_eq_true rfl | assumption | (simp only [Int.natCast_add, Int.natCast_mul, Int.cast_ofNat_Int]; omega) | decide) only [k_Md_shorten_3, x_aload, w_dup2, x_getf, w_goto, w_fall, w_iadd, w_iconst, w_if, w_icmp, x_iinc, x_iload, w_imul, x_istore, w_lcmp, w_ldiv, x_lload, x_lstore2, List.length_cons, List.length_nil, List.set_cons_succ, List.set_cons_zero, Nat.reduceLT, Nat.zero_add, w_sipush, zadd_eq, zmul_eq, gf_48_43, ia_81, sa_81, w_vret r_Md_shorten, q_eq, q_ne, q_lt, q_ge, q_gt, q_le, g_I, g_L, g_R, g_V, t_0, t_I, t_R, t_U, t_L, t_s, List.getElem?_cons_zero, List.getElem?_cons_succ, Nat.reduceAdd, zif10, zif01b, zib, if_pos, if_neg, ↓reduceIte, not_true_eq_false, not_false_eq_true, Bool.true_eq_false, Bool.false_eq_true, Classical.not_not, eq_self, and_self, and_true, true_and, Int.reduceEq, Int.reduceLE, Int.reduceLT, Int.reduceNeg, Option.toList, List.cons_append, List.nil_append, zup_s, zup_n, zst_s, zup_zs, zup_zn, decide_true, decide_false]
  by_cases hg1 : zVg f 13 = 1
  · have hlc : zlcmp ((zVg f 13 : Nat) : Int) 1 = 0 := by rw [hg1]; rfl
    rw [show zblk i_Md_shorten 4 = zblk i_Md_shorten 4 from rfl]
    rw [k_Md_shorten_4]
    simp (disch := first | omega | exact Nat.le_of_ble_eq_true rfl | assumption | (simp only [Int.natCast_add, Int.natCast_mul, Int.cast_ofNat_Int]; omega) | decide) only [k_Md_shorten_5, k_Md_shorten_7, x_aload, w_dup2, x_getf, w_goto, w_fall, w_iadd, w_iconst, w_if, w_icmp, x_iinc, x_iload, w_imul, x_istore, w_lcmp, w_ldiv, x_lload, x_lstore2, List.length_cons, List.length_nil, List.set_cons_succ, List.set_cons_zero, Nat.reduceLT, Nat.zero_add, w_sipush, zadd_eq, zmul_eq, gf_48_43, ia_81, sa_81, w_vret r_Md_shorten, q_eq, q_ne, q_lt, q_ge, q_gt, q_le, g_I, g_L, g_R, g_V, t_0, t_I, t_R, t_U, t_L, t_s, List.getElem?_cons_zero, List.getElem?_cons_succ, Nat.reduceAdd, zif10, zif01b, zib, if_pos, if_neg, ↓reduceIte, not_true_eq_false, not_false_eq_true, Bool.true_eq_false, Bool.false_eq_true, Classical.not_not, eq_self, and_self, and_true, true_and, Int.reduceEq, Int.reduceLE, Int.reduceLT, Int.reduceNeg, Option.toList, List.cons_append, List.nil_append, zup_s, zup_n, zst_s, zup_zs, zup_zn, decide_true, decide_false, hlc]
    refine ⟨M 81, (zst_id _ _).symm, fun c hc => ?_, fun x _ => rfl⟩
    rw [hg1, hf c hc]; omega
  · have hlc : zlcmp ((zVg f 13 : Nat) : Int) 1 = 1 := by unfold zlcmp; rw [if_neg (by omega), if_neg (by omega)]
    have hq : ∀ c, c < 13 → ∃ u : Int, f c = u * (zVg f 13 : Int) := fun c hc => by
      obtain ⟨u, hu⟩ := zVg_dvd (f := f) (n := 13) hc
      rcases Int.natAbs_eq (f c) with h | h
      · exact ⟨u, by rw [h, hu, Int.natCast_mul, Int.mul_comm]⟩
      · exact ⟨-u, by rw [h, hu, Int.natCast_mul, Int.neg_mul, Int.mul_comm]⟩
    have hgz : ¬ ((zVg f 13 : Nat) : Int) = 0 := by omega
    have hgt := hg
    generalize zVg f 13 = g at *
    refine zfor (a := 0) (N := 13) (b := 4) (fun c L0 M0 => ∃ (F : Int → Int), L0 = [zR 48, zI (rq : Int), zL (g : Int), zU, zI (c : Int)] ∧ M0 = zst M 81 F ∧ ((∀ u : Nat, u < c → F (13 * (rq : Int) + u) * (g : Int) = f u) ∧ (∀ u : Nat, c ≤ u → u < 13 → F (13 * (rq : Int) + u) = f u) ∧ ∀ x : Int, x < 13 * (rq : Int) ∨ 13 * (rq : Int) + 13 ≤ x → F x = M 81 x)) ?_ ?_ ?_ ?_
    · exact Nat.zero_le _
    · exact ⟨M 81, rfl, (zst_id _ _).symm, fun u hu => by omega, fun u _ hu => hf u hu, fun x _ => rfl⟩
    · rintro c _ _ _ hc ⟨F, rfl, rfl, g1, g2, g3⟩ ih
      obtain ⟨u, hu⟩ := hq c hc
      have hFc := g2 c (Nat.le_refl c) hc
      have hbc := hb c hc
      rw [hu] at hFc hbc
      have hub : zin64 u := by
        have h1 : u.natAbs ≤ (u * (g : Int)).natAbs := by
          rw [Int.natAbs_mul, Int.natAbs_natCast]
          exact Nat.le_mul_of_pos_right _ (by omega)
        exact ⟨by omega, by omega⟩
      have hdv : zldiv (u * (g : Int)) (g : Int) = u := zldiv_ex hgz ⟨by omega, by omega⟩ ⟨by omega, by omega⟩ hub
      rw [k_Md_shorten_4]
      simp (disch := first | omega | exact Nat.le_of_ble_eq_true rfl | assumption | (simp only [Int.natCast_add, Int.natCast_mul, Int.cast_ofNat_Int]; omega) | decide) only [k_Md_shorten_5, k_Md_shorten_6, x_aload, w_dup2, x_getf, w_goto, w_fall, w_iadd, w_iconst, w_if, w_icmp, x_iinc, x_iload, w_imul, x_istore, w_lcmp, w_ldiv, x_lload, x_lstore2, List.length_cons, List.length_nil, List.set_cons_succ, List.set_cons_zero, Nat.reduceLT, Nat.zero_add, w_sipush, zadd_eq, zmul_eq, gf_48_43, ia_81, sa_81, w_vret r_Md_shorten, q_eq, q_ne, q_lt, q_ge, q_gt, q_le, g_I, g_L, g_R, g_V, t_0, t_I, t_R, t_U, t_L, t_s, List.getElem?_cons_zero, List.getElem?_cons_succ, Nat.reduceAdd, zif10, zif01b, zib, if_pos, if_neg, ↓reduceIte, not_true_eq_false, not_false_eq_true, Bool.true_eq_false, Bool.false_eq_true, Classical.not_not, eq_self, and_self, and_true, true_and, Int.reduceEq, Int.reduceLE, Int.reduceLT, Int.reduceNeg, Option.toList, List.cons_append, List.nil_append, zup_s, zup_n, zst_s, zup_zs, zup_zn, decide_true, decide_false, hlc, w_dup2, zst_s, hFc, w_ldiv hgz, hdv]
      refine ih _ _ ⟨_, rfl, rfl, fun v hv => ?_, fun v a b => ?_, fun x hx => ?_⟩
      · by_cases e : v = c
        · subst e; rw [zf_s, hu]
        · rw [zf_n (by omega)]; exact g1 v (by omega)
      · rw [zf_n (by omega)]; exact g2 v (by omega) b
      · rw [zf_n (by omega)]; exact g3 x hx
    · rintro _ _ ⟨F, rfl, rfl, g1, g2, g3⟩
      rw [k_Md_shorten_4]
      simp (disch := first | omega | exact Nat.le_of_ble_eq_true rfl | assumption | (simp only [Int.natCast_add, Int.natCast_mul, Int.cast_ofNat_Int]; omega) | decide) only [k_Md_shorten_7, x_aload, w_dup2, x_getf, w_goto, w_fall, w_iadd, w_iconst, w_if, w_icmp, x_iinc, x_iload, w_imul, x_istore, w_lcmp, w_ldiv, x_lload, x_lstore2, List.length_cons, List.length_nil, List.set_cons_succ, List.set_cons_zero, Nat.reduceLT, Nat.zero_add, w_sipush, zadd_eq, zmul_eq, gf_48_43, ia_81, sa_81, w_vret r_Md_shorten, q_eq, q_ne, q_lt, q_ge, q_gt, q_le, g_I, g_L, g_R, g_V, t_0, t_I, t_R, t_U, t_L, t_s, List.getElem?_cons_zero, List.getElem?_cons_succ, Nat.reduceAdd, zif10, zif01b, zib, if_pos, if_neg, ↓reduceIte, not_true_eq_false, not_false_eq_true, Bool.true_eq_false, Bool.false_eq_true, Classical.not_not, eq_self, and_self, and_true, true_and, Int.reduceEq, Int.reduceLE, Int.reduceLT, Int.reduceNeg, Option.toList, List.cons_append, List.nil_append, zup_s, zup_n, zst_s, zup_zs, zup_zn, decide_true, decide_false]
      exact ⟨F, rfl, g1, g3⟩
theorem c_Md_shorten {d mi o b9 : Nat} {es : List zEnt} {L st : List zMV} {Q : Option zMV → (Nat → Int → Int) → Prop} {rq : Nat} {f : Nat → Int} (hr : rq < 12) (hf : ∀ c : Nat, c < 13 → M 81 (13 * (rq : Int) + c) = f c) (hb : ∀ c : Nat, c < 13 → -2000000000000 ≤ f c ∧ f c ≤ 2000000000000) (h0 : ∃ c : Nat, c < 13 ∧ f c ≠ 0) (hd : 1 + 1 ≤ d) (hc : zcats st ≤ 8) (hpost : ∀ r M', (r = none ∧ ∃ F, M' = zst M 81 F ∧ (∀ c : Nat, c < 13 → F (13 * (rq : Int) + c) * (zVg f 13 : Int) = f c) ∧ ∀ x : Int, x < 13 * (rq : Int) ∨ 13 * (rq : Int) + 13 ≤ x → F x = M 81 x) → zW (zSH Ln) d mi es L (r.toList ++ st) M' Q) : zW (zSH Ln) d mi ((.invokevirtual o, 240, b9) :: es) L (zI (rq : Int) :: zR 48 :: st) M Q :=
  w_callv (ps := [zI (rq : Int)]) (by omega) rfl rfl (by omega) (by exact sh_48 Ln) hc (Nat.le_of_ble_eq_true rfl) (F_Md_shorten hr hf hb h0 (by omega)) hpost
end RE
