/-! the reference: where a form holds -/
def zkr (k : Nat) : Nat := if k = 8 then 9 else if k = 9 then 8 else k
def zneg4 (q : Nat) : Int := if q < 13 then (q : Int) else -4
def zFormR (n : Nat) (kd lf rt gp : Nat → Nat) (M : Nat → Int → Int) : Prop := M 48 10 = n ∧ (∀ k : Nat, k < n → M 56 k = zkr (kd k) ∧ (1 ≤ kd k → M 57 k = lf k) ∧ (ztwo (kd k) = true → M 58 k = rt k) ∧ (5 ≤ kd k → M 59 k = gp k)) ∧ ∀ k : Nat, k < 24 → (0 ≤ M 57 k ∧ M 57 k < 2147483648) ∧ 0 ≤ M 58 k ∧ M 58 k < 2147483648
def zLetR (lt : Nat → Nat) (M : Nat → Int → Int) : Prop := ∀ s : Nat, s < 12 → M 52 (s : Int) = lt s
theorem zFormR_k {n : Nat} {kd lf rt gp : Nat → Nat} {M M' : Nat → Int → Int} (h : zFormR n kd lf rt gp M) (h0 : M' 48 10 = M 48 10) (h1 : M' 56 = M 56) (h2 : M' 57 = M 57) (h3 : M' 58 = M 58) (h4 : M' 59 = M 59) : zFormR n kd lf rt gp M' := ⟨by rw [h0]; exact h.1, by rw [h1, h2, h3, h4]; exact h.2.1, by rw [h2, h3]; exact h.2.2⟩
theorem zfst_upc (c : Int) {f : Nat → Bool} {u : Nat} (hm : ∀ i, i ≤ u → f i = true → f u = true) : (if f (u + 1) = true ∧ ¬ f u = true then ((u + 1 : Nat) : Int) else if zfst (u + 1) f < u + 1 then (zfst (u + 1) f : Int) else c) = if zfst (u + 2) f < u + 2 then (zfst (u + 2) f : Int) else c := by
  have h0 : zfst (u + 2) f = if zfst (u + 1) f < u + 1 then zfst (u + 1) f else if f (u + 1) = true then u + 1 else u + 2 := rfl
  by_cases h : zfst (u + 1) f < u + 1
  · have h2 := hm _ (by omega) (zfst_yes _ _ h)
    rw [if_neg (fun z => z.2 h2), if_pos h, h0, if_pos h, if_pos (by omega)]
  · have h1 : zfst (u + 1) f = u + 1 := by have := zfst_le (u + 1) f; omega
    have h2 : f u = false := zfst_no (u + 1) f u (by omega)
    rw [h0, if_neg h, if_neg h]
    cases h3 : f (u + 1)
    · simp
    · rw [if_pos ⟨rfl, by rw [h2]; decide⟩, if_pos rfl, if_pos (by omega)]
theorem zfst_endc {f : Nat → Bool} {u : Nat} (hu : u ≤ 12) (hs : ∀ j, u ≤ j → f j = f u) : (if zfst (u + 1) f < u + 1 then (zfst (u + 1) f : Int) else -4) = zneg4 (zfst 13 f) := by
  unfold zneg4
  by_cases h : zfst (u + 1) f < u + 1
  · have : zfst 13 f = zfst (u + 1) f := zfst_is (by omega) (zfst_yes _ _ h) fun i hi => zfst_no _ _ i hi
    rw [this, if_pos h, if_pos (by omega)]
  · have h1 : zfst (u + 1) f = u + 1 := by have := zfst_le (u + 1) f; omega
    have : zfst 13 f = 13 := zfst_none fun i hi => by
      rcases Nat.lt_or_ge i (u + 1) with h2 | h2
      · exact zfst_no (u + 1) f i (by omega)
      · rw [hs i (by omega)]; exact zfst_no (u + 1) f u (by omega)
    rw [if_neg h, this, if_neg (by decide)]
theorem zbit_0 (i : Nat) : zbit 0 i = false := by simp [zbit, show Int32.ofInt 0 = (0 : Int32) from rfl, b_0]
theorem zshl_z {n : Nat} (hn : n < 32) : zshl 0 (n : Int) = 0 := zext (zshl_in _ _) zin0 fun i hi => by rw [zbit_shl _ hn hi, zbit_0, zbit_0, Bool.and_false]
theorem zor_z {n : Nat} (hn : n ≤ 30) (f : Nat → Bool) : zor (zset n f) 0 = zset n f := zext (zor_in _ _) (zset_in hn _) fun i hi => by rw [zbit_or, zbit_0, Bool.or_false]
theorem zxor_ne {n : Nat} (hn : n ≤ 30) (f : Nat → Bool) : ¬ zset n f = zxor (zset n f) (-1) := fun h => by
  have h1 := zbit_not (zset n f) (show 0 < 32 by omega)
  rw [← h] at h1
  cases h2 : zbit (zset n f) 0 <;> rw [h2] at h1 <;> cases h1
theorem zJ_C {C C' : (Nat → Bool) → Nat → Bool} {lt : Nat → Nat} {kd lf : Nat} {one two : Nat → Bool} (h : kd < 5) : zJ C lt kd lf one two = zJ C' lt kd lf one two := by
  have e : kd = 0 ∨ kd = 1 ∨ kd = 2 ∨ kd = 3 ∨ kd = 4 := by omega
  rcases e with e | e | e | e | e <;> subst e <;> simp [zJ]
section RE
variable {Ln S P n : Nat} {mv tg : Nat → Nat → Nat} {lt kd lf rt gp : Nat → Nat} {M : Nat → Int → Int} {g : Int}
theorem F_Md_forces {d : Nat} {s : Nat} {x : Int} (hN : zNet S P mv tg) (hR : zNetR S P mv tg M) (hs : s < S) (hd : 2 ≤ d) : zF (zSH Ln) d i_Md_forces [zR 48, zI (s : Int), zI g, zI x] M fun r M' => r = some (zI (if zleast (mv s) (tg s) (zbit g) P (zbit x) < zcnt (mv s) (zbit g) P then (zleast (mv s) (tg s) (zbit g) P (zbit x) : Int) else -4)) ∧ M' = M := by
  rw [zF_en k_Md_forces_0 (L := [zR 48, zI (s : Int), zI g, zI x, zU, zU, zU, zU, zU]) rfl]
  have hP4 := hN.2.2.2.1
  have hS12 := hN.2.1
  have hm := hN.2.2.2.2.1 s
  have h81 := zcnt_81 hm (zbit g) hP4
  have h81' := zcnt_81 hm (znot (zbit g)) hP4
  simp (disch := first | omega | exact Nat.le_of_ble_eq_true rfl | assumption | (simp only [Int.natCast_add, Int.natCast_mul, Int.cast_ofNat_Int]; omega) | decide) only [x_aload, w_goto, w_fall, w_iand, w_iconst, w_if, w_icmp, x_iinc, x_iload, w_ishr, x_istore, zadd_eq, w_nret r_Md_forces, q_eq, q_ne, q_lt, q_ge, q_gt, q_le, g_I, g_L, g_R, g_V, t_0, t_I, t_R, t_U, t_L, t_s, List.getElem?_cons_zero, List.getElem?_cons_succ, Nat.reduceAdd, zif10, zif01b, zib, if_pos, if_neg, ↓reduceIte, not_true_eq_false, not_false_eq_true, Bool.true_eq_false, Bool.false_eq_true, Classical.not_not, eq_self, and_self, and_true, true_and, Int.reduceEq, Int.reduceLE, Int.reduceLT, Int.reduceNeg, Option.toList, List.cons_append, List.nil_append, zup_s, zup_n, zst_s, zup_zs, zup_zn, decide_true, decide_false, c_Md_jointOf hN hR, c_Md_others hN hR, zoth hP4]
  refine zfor (a := 0) (N := (zcnt (mv s) (zbit g) P)) (b := 1) (fun a L0 M0 => ∃ (v7 : zMV) (v8 : zMV), L0 = [zR 48, zI s, zI g, zI x, zI (zcnt (mv s) (zbit g) P : Int), zI (zcnt (mv s) (znot (zbit g)) P : Int), zI (a : Int), v7, v8] ∧ M0 = M ∧ ∀ i, i < a → zinto (mv s) (tg s) (zbit g) P (zbit x) i = false) ?_ ?_ ?_ ?_
  · exact Nat.zero_le _
  · exact ⟨zU, zU, rfl, rfl, fun i hi => by omega⟩
  · rintro a _ M _ ha ⟨v7, v8, rfl, rfl, hno⟩ ih
    have k0 : zinto (mv s) (tg s) (zbit g) P (zbit x) a = false → ∀ v8, zW (zSH Ln) d i_Md_forces (zblk i_Md_forces 9) [zR 48, zI s, zI g, zI x, zI (zcnt (mv s) (zbit g) P : Int), zI (zcnt (mv s) (znot (zbit g)) P : Int), zI (a : Int), zI 0, v8] [] M fun r M' => r = some (zI (if zleast (mv s) (tg s) (zbit g) P (zbit x) < zcnt (mv s) (zbit g) P then (zleast (mv s) (tg s) (zbit g) P (zbit x) : Int) else -4)) ∧ M' = M := by
      intro h v8
      rw [k_Md_forces_9]
      simp (disch := first | omega | exact Nat.le_of_ble_eq_true rfl | assumption | (simp only [Int.natCast_add, Int.natCast_mul, Int.cast_ofNat_Int]; omega) | decide) only [k_Md_forces_11, x_aload, w_goto, w_fall, w_iand, w_iconst, w_if, w_icmp, x_iinc, x_iload, w_ishr, x_istore, zadd_eq, w_nret r_Md_forces, q_eq, q_ne, q_lt, q_ge, q_gt, q_le, g_I, g_L, g_R, g_V, t_0, t_I, t_R, t_U, t_L, t_s, List.getElem?_cons_zero, List.getElem?_cons_succ, Nat.reduceAdd, zif10, zif01b, zib, if_pos, if_neg, ↓reduceIte, not_true_eq_false, not_false_eq_true, Bool.true_eq_false, Bool.false_eq_true, Classical.not_not, eq_self, and_self, and_true, true_and, Int.reduceEq, Int.reduceLE, Int.reduceLT, Int.reduceNeg, Option.toList, List.cons_append, List.nil_append, zup_s, zup_n, zst_s, zup_zs, zup_zn, decide_true, decide_false]
      refine ih _ _ ⟨_, _, rfl, rfl, fun i hi => ?_⟩
      by_cases e : i = a
      · subst e; exact h
      · exact hno i (by omega)
    rw [k_Md_forces_1]
    simp (disch := first | omega | exact Nat.le_of_ble_eq_true rfl | assumption | (simp only [Int.natCast_add, Int.natCast_mul, Int.cast_ofNat_Int]; omega) | decide) only [k_Md_forces_2, x_aload, w_goto, w_fall, w_iand, w_iconst, w_if, w_icmp, x_iinc, x_iload, w_ishr, x_istore, zadd_eq, w_nret r_Md_forces, q_eq, q_ne, q_lt, q_ge, q_gt, q_le, g_I, g_L, g_R, g_V, t_0, t_I, t_R, t_U, t_L, t_s, List.getElem?_cons_zero, List.getElem?_cons_succ, Nat.reduceAdd, zif10, zif01b, zib, if_pos, if_neg, ↓reduceIte, not_true_eq_false, not_false_eq_true, Bool.true_eq_false, Bool.false_eq_true, Classical.not_not, eq_self, and_self, and_true, true_and, Int.reduceEq, Int.reduceLE, Int.reduceLT, Int.reduceNeg, Option.toList, List.cons_append, List.nil_append, zup_s, zup_n, zst_s, zup_zs, zup_zn, decide_true, decide_false]
    refine zfor (a := 0) (N := (zcnt (mv s) (znot (zbit g)) P)) (b := 3) (fun b L0 M0 => L0 = [zR 48, zI s, zI g, zI x, zI (zcnt (mv s) (zbit g) P : Int), zI (zcnt (mv s) (znot (zbit g)) P : Int), zI (a : Int), zI 1, zI (b : Int)] ∧ M0 = M ∧ ∀ j, j < b → zbit x (tg s (zcomb (mv s) (zbit g) P a j)) = true) ?_ ?_ ?_ ?_
    · exact Nat.zero_le _
    · exact ⟨rfl, rfl, fun j hj => by omega⟩
    · rintro b _ M _ hb ⟨rfl, rfl, hall⟩ ih2
      have htt := zNet_t hN hs _ (zcomb_lt hm (zbit g) P a b)
      rw [k_Md_forces_3]
      cases hx : zbit x (tg s (zcomb (mv s) (zbit g) P a b))
      · simp (disch := first | omega | exact Nat.le_of_ble_eq_true rfl | assumption | (simp only [Int.natCast_add, Int.natCast_mul, Int.cast_ofNat_Int]; omega) | decide) only [k_Md_forces_4, k_Md_forces_5, k_Md_forces_7, k_Md_forces_8, x_aload, w_goto, w_fall, w_iand, w_iconst, w_if, w_icmp, x_iinc, x_iload, w_ishr, x_istore, zadd_eq, w_nret r_Md_forces, q_eq, q_ne, q_lt, q_ge, q_gt, q_le, g_I, g_L, g_R, g_V, t_0, t_I, t_R, t_U, t_L, t_s, List.getElem?_cons_zero, List.getElem?_cons_succ, Nat.reduceAdd, zif10, zif01b, zib, if_pos, if_neg, ↓reduceIte, not_true_eq_false, not_false_eq_true, Bool.true_eq_false, Bool.false_eq_true, Classical.not_not, eq_self, and_self, and_true, true_and, Int.reduceEq, Int.reduceLE, Int.reduceLT, Int.reduceNeg, Option.toList, List.cons_append, List.nil_append, zup_s, zup_n, zst_s, zup_zs, zup_zn, decide_true, decide_false, c_Md_leadsBy hN hR, zhas, hx]
        rw [k_Md_forces_3]
        have hf : zinto (mv s) (tg s) (zbit g) P (zbit x) a = false := by
          cases e : zinto (mv s) (tg s) (zbit g) P (zbit x) a with
          | false => rfl
          | true => have := (zfa_iff _ _).mp e b hb; rw [hx] at this; cases this
        by_cases hb2 : b + 1 < zcnt (mv s) (znot (zbit g)) P
        · simp (disch := first | omega | exact Nat.le_of_ble_eq_true rfl | assumption | (simp only [Int.natCast_add, Int.natCast_mul, Int.cast_ofNat_Int]; omega) | decide) only [k_Md_forces_4, x_aload, w_goto, w_fall, w_iand, w_iconst, w_if, w_icmp, x_iinc, x_iload, w_ishr, x_istore, zadd_eq, w_nret r_Md_forces, q_eq, q_ne, q_lt, q_ge, q_gt, q_le, g_I, g_L, g_R, g_V, t_0, t_I, t_R, t_U, t_L, t_s, List.getElem?_cons_zero, List.getElem?_cons_succ, Nat.reduceAdd, zif10, zif01b, zib, if_pos, if_neg, ↓reduceIte, not_true_eq_false, not_false_eq_true, Bool.true_eq_false, Bool.false_eq_true, Classical.not_not, eq_self, and_self, and_true, true_and, Int.reduceEq, Int.reduceLE, Int.reduceLT, Int.reduceNeg, Option.toList, List.cons_append, List.nil_append, zup_s, zup_n, zst_s, zup_zs, zup_zn, decide_true, decide_false]
          exact k0 hf _
        · simp (disch := first | omega | exact Nat.le_of_ble_eq_true rfl | assumption | (simp only [Int.natCast_add, Int.natCast_mul, Int.cast_ofNat_Int]; omega) | decide) only [x_aload, w_goto, w_fall, w_iand, w_iconst, w_if, w_icmp, x_iinc, x_iload, w_ishr, x_istore, zadd_eq, w_nret r_Md_forces, q_eq, q_ne, q_lt, q_ge, q_gt, q_le, g_I, g_L, g_R, g_V, t_0, t_I, t_R, t_U, t_L, t_s, List.getElem?_cons_zero, List.getElem?_cons_succ, Nat.reduceAdd, zif10, zif01b, zib, if_pos, if_neg, ↓reduceIte, not_true_eq_false, not_false_eq_true, Bool.true_eq_false, Bool.false_eq_true, Classical.not_not, eq_self, and_self, and_true, true_and, Int.reduceEq, Int.reduceLE, Int.reduceLT, Int.reduceNeg, Option.toList, List.cons_append, List.nil_append, zup_s, zup_n, zst_s, zup_zs, zup_zn, decide_true, decide_false]
          exact k0 hf _
      · simp (disch := first | omega | exact Nat.le_of_ble_eq_true rfl | assumption | (simp only [Int.natCast_add, Int.natCast_mul, Int.cast_ofNat_Int]; omega) | decide) only [k_Md_forces_4, k_Md_forces_5, k_Md_forces_6, k_Md_forces_8, x_aload, w_goto, w_fall, w_iand, w_iconst, w_if, w_icmp, x_iinc, x_iload, w_ishr, x_istore, zadd_eq, w_nret r_Md_forces, q_eq, q_ne, q_lt, q_ge, q_gt, q_le, g_I, g_L, g_R, g_V, t_0, t_I, t_R, t_U, t_L, t_s, List.getElem?_cons_zero, List.getElem?_cons_succ, Nat.reduceAdd, zif10, zif01b, zib, if_pos, if_neg, ↓reduceIte, not_true_eq_false, not_false_eq_true, Bool.true_eq_false, Bool.false_eq_true, Classical.not_not, eq_self, and_self, and_true, true_and, Int.reduceEq, Int.reduceLE, Int.reduceLT, Int.reduceNeg, Option.toList, List.cons_append, List.nil_append, zup_s, zup_n, zst_s, zup_zs, zup_zn, decide_true, decide_false, c_Md_leadsBy hN hR, zhas, hx]
        refine ih2 _ _ ⟨rfl, rfl, fun j hj => ?_⟩
        by_cases e : j = b
        · subst e; exact hx
        · exact hall j (by omega)
    · rintro _ M ⟨rfl, rfl, hall⟩
      have hi : zinto (mv s) (tg s) (zbit g) P (zbit x) a = true := (zfa_iff _ _).mpr hall
      have e : zleast (mv s) (tg s) (zbit g) P (zbit x) = a := zfst_is ha hi hno
      rw [k_Md_forces_3]
      simp (disch := first | omega | exact Nat.le_of_ble_eq_true rfl | assumption | (simp only [Int.natCast_add, Int.natCast_mul, Int.cast_ofNat_Int]; omega) | decide) only [k_Md_forces_9, k_Md_forces_10, x_aload, w_goto, w_fall, w_iand, w_iconst, w_if, w_icmp, x_iinc, x_iload, w_ishr, x_istore, zadd_eq, w_nret r_Md_forces, q_eq, q_ne, q_lt, q_ge, q_gt, q_le, g_I, g_L, g_R, g_V, t_0, t_I, t_R, t_U, t_L, t_s, List.getElem?_cons_zero, List.getElem?_cons_succ, Nat.reduceAdd, zif10, zif01b, zib, if_pos, if_neg, ↓reduceIte, not_true_eq_false, not_false_eq_true, Bool.true_eq_false, Bool.false_eq_true, Classical.not_not, eq_self, and_self, and_true, true_and, Int.reduceEq, Int.reduceLE, Int.reduceLT, Int.reduceNeg, Option.toList, List.cons_append, List.nil_append, zup_s, zup_n, zst_s, zup_zs, zup_zn, decide_true, decide_false, e, ha]
  · rintro _ M ⟨v7, v8, rfl, rfl, hno⟩
    have e : zleast (mv s) (tg s) (zbit g) P (zbit x) = zcnt (mv s) (zbit g) P := zfst_none hno
    rw [k_Md_forces_1]
    simp (disch := first | omega | exact Nat.le_of_ble_eq_true rfl | assumption | (simp only [Int.natCast_add, Int.natCast_mul, Int.cast_ofNat_Int]; omega) | decide) only [k_Md_forces_12, x_aload, w_goto, w_fall, w_iand, w_iconst, w_if, w_icmp, x_iinc, x_iload, w_ishr, x_istore, zadd_eq, w_nret r_Md_forces, q_eq, q_ne, q_lt, q_ge, q_gt, q_le, g_I, g_L, g_R, g_V, t_0, t_I, t_R, t_U, t_L, t_s, List.getElem?_cons_zero, List.getElem?_cons_succ, Nat.reduceAdd, zif10, zif01b, zib, if_pos, if_neg, ↓reduceIte, not_true_eq_false, not_false_eq_true, Bool.true_eq_false, Bool.false_eq_true, Classical.not_not, eq_self, and_self, and_true, true_and, Int.reduceEq, Int.reduceLE, Int.reduceLT, Int.reduceNeg, Option.toList, List.cons_append, List.nil_append, zup_s, zup_n, zst_s, zup_zs, zup_zn, decide_true, decide_false, e, Nat.lt_irrefl]
theorem c_Md_forces {d mi o b9 : Nat} {es : List zEnt} {L st : List zMV} {Q : Option zMV → (Nat → Int → Int) → Prop} {s : Nat} {x : Int} (hN : zNet S P mv tg) (hR : zNetR S P mv tg M) (hs : s < S) (hd : 2 + 1 ≤ d) (hc : zcats st ≤ 8) : zW (zSH Ln) d mi ((.invokevirtual o, 186, b9) :: es) L (zI x :: zI g :: zI (s : Int) :: zR 48 :: st) M Q = zW (zSH Ln) d mi es L (zI (if zleast (mv s) (tg s) (zbit g) P (zbit x) < zcnt (mv s) (zbit g) P then (zleast (mv s) (tg s) (zbit g) P (zbit x) : Int) else -4) :: st) (M) Q :=
  c_virt (ps := [zI (s : Int), zI g, zI x]) (by omega) rfl rfl (by omega) (by exact sh_48 Ln) hc (Nat.le_of_ble_eq_true rfl) (F_Md_forces hN hR hs (by omega))
theorem F_Md_forcing {d : Nat} {X : Nat → Bool} (hN : zNet S P mv tg) (hR : zNetR S P mv tg M) (hd : 3 ≤ d) : zF (zSH Ln) d i_Md_forcing [zR 48, zI g, zI (zset S X)] M fun r M' => r = some (zI (zset S (zCn mv tg P (zbit g) X))) ∧ M' = M := by
  rw [zF_en k_Md_forcing_0 (L := [zR 48, zI g, zI (zset S X), zU, zU]) rfl]
  have hS := hN.2.1
  simp (disch := first | omega | exact Nat.le_of_ble_eq_true rfl | assumption | (simp only [Int.natCast_add, Int.natCast_mul, Int.cast_ofNat_Int]; omega) | decide) only [x_aload, x_getf, w_goto, w_fall, w_iconst, w_if, w_icmp, x_iinc, x_iload, w_ior, w_ishl, x_istore, zadd_eq, gf_48_0, w_nret r_Md_forcing, q_eq, q_ne, q_lt, q_ge, q_gt, q_le, g_I, g_L, g_R, g_V, t_0, t_I, t_R, t_U, t_L, t_s, List.getElem?_cons_zero, List.getElem?_cons_succ, Nat.reduceAdd, zif10, zif01b, zib, if_pos, if_neg, ↓reduceIte, not_true_eq_false, not_false_eq_true, Bool.true_eq_false, Bool.false_eq_true, Classical.not_not, eq_self, and_self, and_true, true_and, Int.reduceEq, Int.reduceLE, Int.reduceLT, Int.reduceNeg, Option.toList, List.cons_append, List.nil_append, zup_s, zup_n, zst_s, zup_zs, zup_zn, decide_true, decide_false]
  refine zfor (a := 0) (N := S) (b := 1) (fun p L0 M0 => L0 = [zR 48, zI g, zI (zset S X), zI (zset S fun s => decide (s < p) && zCn mv tg P (zbit g) X s), zI (p : Int)] ∧ M0 = M) ?_ ?_ ?_ ?_
  · exact Nat.zero_le _
  · exact ⟨by simp [zset_none], rfl⟩
  · rintro p _ M _ hp ⟨rfl, rfl⟩ ih
    have e : zleast (mv p) (tg p) (zbit g) P (zbit (zset S X)) = zleast (mv p) (tg p) (zbit g) P X := zleast_congr (hN.2.2.2.2.1 p) (zNet_t hN hp) fun i hi => by rw [zset_bit (by omega)]; simp [hi]
    have nx : ∀ b : Bool, b = zCn mv tg P (zbit g) X p → (zset S fun s => decide (s < p + 1) && zCn mv tg P (zbit g) X s) = zset S fun s => (decide (s < p) && zCn mv tg P (zbit g) X s) || (b && decide (s = p)) := by
      intro b hb
      refine zset_cong fun i hi => ?_
      by_cases e : i = p
      · subst e; simp [hb]
      · simp [e, show (i < p + 1) ↔ (i < p) by omega]
    rw [k_Md_forcing_1]
    by_cases hz : zleast (mv p) (tg p) (zbit g) P X < zcnt (mv p) (zbit g) P
    · simp (disch := first | omega | exact Nat.le_of_ble_eq_true rfl | assumption | (simp only [Int.natCast_add, Int.natCast_mul, Int.cast_ofNat_Int]; omega) | decide) only [k_Md_forcing_2, k_Md_forcing_3, k_Md_forcing_5, x_aload, x_getf, w_goto, w_fall, w_iconst, w_if, w_icmp, x_iinc, x_iload, w_ior, w_ishl, x_istore, zadd_eq, gf_48_0, w_nret r_Md_forcing, q_eq, q_ne, q_lt, q_ge, q_gt, q_le, g_I, g_L, g_R, g_V, t_0, t_I, t_R, t_U, t_L, t_s, List.getElem?_cons_zero, List.getElem?_cons_succ, Nat.reduceAdd, zif10, zif01b, zib, if_pos, if_neg, ↓reduceIte, not_true_eq_false, not_false_eq_true, Bool.true_eq_false, Bool.false_eq_true, Classical.not_not, eq_self, and_self, and_true, true_and, Int.reduceEq, Int.reduceLE, Int.reduceLT, Int.reduceNeg, Option.toList, List.cons_append, List.nil_append, zup_s, zup_n, zst_s, zup_zs, zup_zn, decide_true, decide_false, hR.1, c_Md_forces hN hR, e, hz, zset_up]
      refine ih _ _ ⟨?_, rfl⟩
      rw [nx true (by simp [zCn, zcan, hz])]
      simp
    · simp (disch := first | omega | exact Nat.le_of_ble_eq_true rfl | assumption | (simp only [Int.natCast_add, Int.natCast_mul, Int.cast_ofNat_Int]; omega) | decide) only [k_Md_forcing_2, k_Md_forcing_4, k_Md_forcing_5, x_aload, x_getf, w_goto, w_fall, w_iconst, w_if, w_icmp, x_iinc, x_iload, w_ior, w_ishl, x_istore, zadd_eq, gf_48_0, w_nret r_Md_forcing, q_eq, q_ne, q_lt, q_ge, q_gt, q_le, g_I, g_L, g_R, g_V, t_0, t_I, t_R, t_U, t_L, t_s, List.getElem?_cons_zero, List.getElem?_cons_succ, Nat.reduceAdd, zif10, zif01b, zib, if_pos, if_neg, ↓reduceIte, not_true_eq_false, not_false_eq_true, Bool.true_eq_false, Bool.false_eq_true, Classical.not_not, eq_self, and_self, and_true, true_and, Int.reduceEq, Int.reduceLE, Int.reduceLT, Int.reduceNeg, Option.toList, List.cons_append, List.nil_append, zup_s, zup_n, zst_s, zup_zs, zup_zn, decide_true, decide_false, hR.1, c_Md_forces hN hR, e, hz, zor_z]
      refine ih _ _ ⟨?_, rfl⟩
      rw [nx false (by simp [zCn, zcan, hz])]
      simp
  · rintro _ M ⟨rfl, rfl⟩
    rw [k_Md_forcing_1]
    simp (disch := first | omega | exact Nat.le_of_ble_eq_true rfl | assumption | (simp only [Int.natCast_add, Int.natCast_mul, Int.cast_ofNat_Int]; omega) | decide) only [k_Md_forcing_6, x_aload, x_getf, w_goto, w_fall, w_iconst, w_if, w_icmp, x_iinc, x_iload, w_ior, w_ishl, x_istore, zadd_eq, gf_48_0, w_nret r_Md_forcing, q_eq, q_ne, q_lt, q_ge, q_gt, q_le, g_I, g_L, g_R, g_V, t_0, t_I, t_R, t_U, t_L, t_s, List.getElem?_cons_zero, List.getElem?_cons_succ, Nat.reduceAdd, zif10, zif01b, zib, if_pos, if_neg, ↓reduceIte, not_true_eq_false, not_false_eq_true, Bool.true_eq_false, Bool.false_eq_true, Classical.not_not, eq_self, and_self, and_true, true_and, Int.reduceEq, Int.reduceLE, Int.reduceLT, Int.reduceNeg, Option.toList, List.cons_append, List.nil_append, zup_s, zup_n, zst_s, zup_zs, zup_zn, decide_true, decide_false, hR.1]
    congr 2
    exact zset_cong fun i hi => by simp [hi]
theorem c_Md_forcing {d mi o b9 : Nat} {es : List zEnt} {L st : List zMV} {Q : Option zMV → (Nat → Int → Int) → Prop} {X : Nat → Bool} (hN : zNet S P mv tg) (hR : zNetR S P mv tg M) (hd : 3 + 1 ≤ d) (hc : zcats st ≤ 8) : zW (zSH Ln) d mi ((.invokevirtual o, 197, b9) :: es) L (zI (zset S X) :: zI g :: zR 48 :: st) M Q = zW (zSH Ln) d mi es L (zI (zset S (zCn mv tg P (zbit g) X)) :: st) (M) Q :=
  c_virt (ps := [zI g, zI (zset S X)]) (by omega) rfl rfl (by omega) (by exact sh_48 Ln) hc (Nat.le_of_ble_eq_true rfl) (F_Md_forcing hN hR (by omega))
theorem F_Md_until {d : Nat} {A B : Nat → Bool} (hN : zNet S P mv tg) (hR : zNetR S P mv tg M) (hd : 4 ≤ d) : zF (zSH Ln) d i_Md_until [zR 48, zI g, zI (zset S A), zI (zset S B)] M fun r M' => r = some (zI (zset S (zUn (zCn mv tg P (zbit g)) A B 12))) ∧ ∃ R, M' = zst M 68 R ∧ ∀ s : Nat, s < S → R s = zneg4 (zrd (zCn mv tg P (zbit g)) A B s) := by
  rw [zF_en k_Md_until_0 (L := [zR 48, zI g, zI (zset S A), zI (zset S B), zU, zU, zU, zU, zU]) rfl]
  have hS := hN.2.1
  have hCg : zCg S (zCn mv tg P (zbit g)) := zcan_Cg hN (zbit g)
  have hR1 : ∀ R, zNetR S P mv tg (zst M 68 R) := fun _ => hR
  simp (disch := first | omega | exact Nat.le_of_ble_eq_true rfl | assumption | (simp only [Int.natCast_add, Int.natCast_mul, Int.cast_ofNat_Int]; omega) | decide) only [x_aload, x_getf, w_goto, w_fall, w_iand, w_iconst, w_if, w_icmp, x_iinc, x_iload, w_ior, w_ishr, x_istore, w_ixor, zadd_eq, gf_48_0, gf_48_28, ia_68, sa_68, w_nret r_Md_until, q_eq, q_ne, q_lt, q_ge, q_gt, q_le, g_I, g_L, g_R, g_V, t_0, t_I, t_R, t_U, t_L, t_s, List.getElem?_cons_zero, List.getElem?_cons_succ, Nat.reduceAdd, zif10, zif01b, zib, if_pos, if_neg, ↓reduceIte, not_true_eq_false, not_false_eq_true, Bool.true_eq_false, Bool.false_eq_true, Classical.not_not, eq_self, and_self, and_true, true_and, Int.reduceEq, Int.reduceLE, Int.reduceLT, Int.reduceNeg, Option.toList, List.cons_append, List.nil_append, zup_s, zup_n, zst_s, zup_zs, zup_zn, decide_true, decide_false]
  refine zfor (a := 0) (N := S) (b := 1) (fun p L0 M0 => ∃ (R : Int → Int), L0 = [zR 48, zI g, zI (zset S A), zI (zset S B), zI (zset S B), zI (p : Int), zU, zU, zU] ∧ M0 = zst M 68 R ∧ ∀ s : Nat, s < p → R s = if B s = true then 0 else -4) ?_ ?_ ?_ ?_
  · exact Nat.zero_le _
  · exact ⟨M 68, rfl, (zst_id _ _).symm, fun s hs => by omega⟩
  · rintro p _ _ _ hp ⟨R, rfl, rfl, h1⟩ ih
    rw [k_Md_until_1]
    cases hb : B p
    · simp (disch := first | omega | exact Nat.le_of_ble_eq_true rfl | assumption | (simp only [Int.natCast_add, Int.natCast_mul, Int.cast_ofNat_Int]; omega) | decide) only [k_Md_until_2, k_Md_until_4, k_Md_until_5, x_aload, x_getf, w_goto, w_fall, w_iand, w_iconst, w_if, w_icmp, x_iinc, x_iload, w_ior, w_ishr, x_istore, w_ixor, zadd_eq, gf_48_0, gf_48_28, ia_68, sa_68, w_nret r_Md_until, q_eq, q_ne, q_lt, q_ge, q_gt, q_le, g_I, g_L, g_R, g_V, t_0, t_I, t_R, t_U, t_L, t_s, List.getElem?_cons_zero, List.getElem?_cons_succ, Nat.reduceAdd, zif10, zif01b, zib, if_pos, if_neg, ↓reduceIte, not_true_eq_false, not_false_eq_true, Bool.true_eq_false, Bool.false_eq_true, Classical.not_not, eq_self, and_self, and_true, true_and, Int.reduceEq, Int.reduceLE, Int.reduceLT, Int.reduceNeg, Option.toList, List.cons_append, List.nil_append, zup_s, zup_n, zst_s, zup_zs, zup_zn, decide_true, decide_false, hR.1, zst_n, zset_has, hb]
      refine ih _ _ ⟨_, rfl, rfl, fun s hs => ?_⟩
      by_cases e : s = p
      · subst e; rw [zf_s, if_neg (by rw [hb]; decide)]
      · rw [zf_n (by omega)]; exact h1 s (by omega)
    · simp (disch := first | omega | exact Nat.le_of_ble_eq_true rfl | assumption | (simp only [Int.natCast_add, Int.natCast_mul, Int.cast_ofNat_Int]; omega) | decide) only [k_Md_until_2, k_Md_until_3, k_Md_until_5, x_aload, x_getf, w_goto, w_fall, w_iand, w_iconst, w_if, w_icmp, x_iinc, x_iload, w_ior, w_ishr, x_istore, w_ixor, zadd_eq, gf_48_0, gf_48_28, ia_68, sa_68, w_nret r_Md_until, q_eq, q_ne, q_lt, q_ge, q_gt, q_le, g_I, g_L, g_R, g_V, t_0, t_I, t_R, t_U, t_L, t_s, List.getElem?_cons_zero, List.getElem?_cons_succ, Nat.reduceAdd, zif10, zif01b, zib, if_pos, if_neg, ↓reduceIte, not_true_eq_false, not_false_eq_true, Bool.true_eq_false, Bool.false_eq_true, Classical.not_not, eq_self, and_self, and_true, true_and, Int.reduceEq, Int.reduceLE, Int.reduceLT, Int.reduceNeg, Option.toList, List.cons_append, List.nil_append, zup_s, zup_n, zst_s, zup_zs, zup_zn, decide_true, decide_false, hR.1, zst_n, zset_has, hb]
      refine ih _ _ ⟨_, rfl, rfl, fun s hs => ?_⟩
      by_cases e : s = p
      · subst e; rw [zf_s, if_pos hb]
      · rw [zf_n (by omega)]; exact h1 s (by omega)
  · rintro _ _ ⟨R, rfl, rfl, h1⟩
    rw [k_Md_until_1]
    simp (disch := first | omega | exact Nat.le_of_ble_eq_true rfl | assumption | (simp only [Int.natCast_add, Int.natCast_mul, Int.cast_ofNat_Int]; omega) | decide) only [k_Md_until_6, x_aload, x_getf, w_goto, w_fall, w_iand, w_iconst, w_if, w_icmp, x_iinc, x_iload, w_ior, w_ishr, x_istore, w_ixor, zadd_eq, gf_48_0, gf_48_28, ia_68, sa_68, w_nret r_Md_until, q_eq, q_ne, q_lt, q_ge, q_gt, q_le, g_I, g_L, g_R, g_V, t_0, t_I, t_R, t_U, t_L, t_s, List.getElem?_cons_zero, List.getElem?_cons_succ, Nat.reduceAdd, zif10, zif01b, zib, if_pos, if_neg, ↓reduceIte, not_true_eq_false, not_false_eq_true, Bool.true_eq_false, Bool.false_eq_true, Classical.not_not, eq_self, and_self, and_true, true_and, Int.reduceEq, Int.reduceLE, Int.reduceLT, Int.reduceNeg, Option.toList, List.cons_append, List.nil_append, zup_s, zup_n, zst_s, zup_zs, zup_zn, decide_true, decide_false, hR.1, zst_n]
    refine zfor (a := 0) (N := 14) (b := 7) (fun u L0 M0 => ∃ (R : Int → Int) (v7 : zMV) (v8 : zMV), L0 = [zR 48, zI g, zI (zset S A), zI (zset S B), zI (zset S (zUn (zCn mv tg P (zbit g)) A B u)), zI (u : Int), zI 1, v7, v8] ∧ M0 = zst M 68 R ∧ (∀ j, j < u → ¬ zeqS S (zUn (zCn mv tg P (zbit g)) A B (j + 1)) (zUn (zCn mv tg P (zbit g)) A B j)) ∧ ∀ s : Nat, s < S → R s = if zfst (u + 1) (fun i => zUn (zCn mv tg P (zbit g)) A B i s) < u + 1 then (zfst (u + 1) (fun i => zUn (zCn mv tg P (zbit g)) A B i s) : Int) else -4) ?_ ?_ ?_ ?_
    · exact Nat.zero_le _
    · refine ⟨R, zU, zU, rfl, rfl, fun j hj => by omega, fun s hs => ?_⟩
      rw [h1 s hs]
      cases hb : B s <;> simp [zfst, zUn, hb]
    · rintro u _ _ _ hu ⟨R, v7, v8, rfl, rfl, hne, h1⟩ ih
      have hu12 : u ≤ 12 := by
        rcases Nat.lt_or_ge 12 u with h | h
        · exact absurd (zUn_stay hCg 12 13 (Or.inr hS) (by omega)) (hne 12 h)
        · exact h
      generalize hcm : (fun s => (A s && !zUn (zCn mv tg P (zbit g)) A B u s) && zCn mv tg P (zbit g) (zUn (zCn mv tg P (zbit g)) A B u) s) = cm
      have hup : zUn (zCn mv tg P (zbit g)) A B (u + 1) = fun s => zUn (zCn mv tg P (zbit g)) A B u s || cm s := by rw [← hcm]; rfl
      rw [k_Md_until_7]
      simp (disch := first | omega | exact Nat.le_of_ble_eq_true rfl | assumption | (simp only [Int.natCast_add, Int.natCast_mul, Int.cast_ofNat_Int]; omega) | decide) only [k_Md_until_8, x_aload, x_getf, w_goto, w_fall, w_iand, w_iconst, w_if, w_icmp, x_iinc, x_iload, w_ior, w_ishr, x_istore, w_ixor, zadd_eq, gf_48_0, gf_48_28, ia_68, sa_68, w_nret r_Md_until, q_eq, q_ne, q_lt, q_ge, q_gt, q_le, g_I, g_L, g_R, g_V, t_0, t_I, t_R, t_U, t_L, t_s, List.getElem?_cons_zero, List.getElem?_cons_succ, Nat.reduceAdd, zif10, zif01b, zib, if_pos, if_neg, ↓reduceIte, not_true_eq_false, not_false_eq_true, Bool.true_eq_false, Bool.false_eq_true, Classical.not_not, eq_self, and_self, and_true, true_and, Int.reduceEq, Int.reduceLE, Int.reduceLT, Int.reduceNeg, Option.toList, List.cons_append, List.nil_append, zup_s, zup_n, zst_s, zup_zs, zup_zn, decide_true, decide_false, zset_dif, c_Md_forcing hN (hR1 _), zset_and, hcm]
      refine zfor (a := 0) (N := S) (b := 9) (fun p L0 M0 => ∃ (R' : Int → Int), L0 = [zR 48, zI g, zI (zset S A), zI (zset S B), zI (zset S (zUn (zCn mv tg P (zbit g)) A B u)), zI ((u : Int) + 1), zI 1, zI (zset S cm), zI (p : Int)] ∧ M0 = zst M 68 R' ∧ (∀ s : Nat, s < p → R' s = if cm s = true then ((u : Int) + 1) else R s) ∧ ∀ s : Nat, p ≤ s → R' s = R s) ?_ ?_ ?_ ?_
      · exact Nat.zero_le _
      · exact ⟨R, rfl, rfl, fun s hs => by omega, fun _ _ => rfl⟩
      · rintro p _ _ _ hp ⟨R', rfl, rfl, h2, h3⟩ ih2
        have h3p := h3 p (Nat.le_refl _)
        rw [k_Md_until_9]
        cases hb : cm p
        · simp (disch := first | omega | exact Nat.le_of_ble_eq_true rfl | assumption | (simp only [Int.natCast_add, Int.natCast_mul, Int.cast_ofNat_Int]; omega) | decide) only [k_Md_until_10, k_Md_until_12, k_Md_until_13, x_aload, x_getf, w_goto, w_fall, w_iand, w_iconst, w_if, w_icmp, x_iinc, x_iload, w_ior, w_ishr, x_istore, w_ixor, zadd_eq, gf_48_0, gf_48_28, ia_68, sa_68, w_nret r_Md_until, q_eq, q_ne, q_lt, q_ge, q_gt, q_le, g_I, g_L, g_R, g_V, t_0, t_I, t_R, t_U, t_L, t_s, List.getElem?_cons_zero, List.getElem?_cons_succ, Nat.reduceAdd, zif10, zif01b, zib, if_pos, if_neg, ↓reduceIte, not_true_eq_false, not_false_eq_true, Bool.true_eq_false, Bool.false_eq_true, Classical.not_not, eq_self, and_self, and_true, true_and, Int.reduceEq, Int.reduceLE, Int.reduceLT, Int.reduceNeg, Option.toList, List.cons_append, List.nil_append, zup_s, zup_n, zst_s, zup_zs, zup_zn, decide_true, decide_false, hR.1, zst_n, zset_has, hb, zst_s, h3p]
          refine ih2 _ _ ⟨_, rfl, rfl, fun s hs => ?_, fun s hs => ?_⟩
          · by_cases e : s = p
            · subst e; rw [zf_s, if_neg (by rw [hb]; decide)]
            · rw [zf_n (by omega)]; exact h2 s (by omega)
          · rw [zf_n (by omega)]; exact h3 s (by omega)
        · simp (disch := first | omega | exact Nat.le_of_ble_eq_true rfl | assumption | (simp only [Int.natCast_add, Int.natCast_mul, Int.cast_ofNat_Int]; omega) | decide) only [k_Md_until_10, k_Md_until_11, k_Md_until_13, x_aload, x_getf, w_goto, w_fall, w_iand, w_iconst, w_if, w_icmp, x_iinc, x_iload, w_ior, w_ishr, x_istore, w_ixor, zadd_eq, gf_48_0, gf_48_28, ia_68, sa_68, w_nret r_Md_until, q_eq, q_ne, q_lt, q_ge, q_gt, q_le, g_I, g_L, g_R, g_V, t_0, t_I, t_R, t_U, t_L, t_s, List.getElem?_cons_zero, List.getElem?_cons_succ, Nat.reduceAdd, zif10, zif01b, zib, if_pos, if_neg, ↓reduceIte, not_true_eq_false, not_false_eq_true, Bool.true_eq_false, Bool.false_eq_true, Classical.not_not, eq_self, and_self, and_true, true_and, Int.reduceEq, Int.reduceLE, Int.reduceLT, Int.reduceNeg, Option.toList, List.cons_append, List.nil_append, zup_s, zup_n, zst_s, zup_zs, zup_zn, decide_true, decide_false, hR.1, zst_n, zset_has, hb, zst_s]
          refine ih2 _ _ ⟨_, rfl, rfl, fun s hs => ?_, fun s hs => ?_⟩
          · by_cases e : s = p
            · subst e; rw [zf_s, if_pos hb]
            · rw [zf_n (by omega)]; exact h2 s (by omega)
          · rw [zf_n (by omega)]; exact h3 s (by omega)
      · rintro _ _ ⟨R', rfl, rfl, h2, h3⟩
        have hRn : ∀ s : Nat, s < S → R' s = if zfst (u + 2) (fun i => zUn (zCn mv tg P (zbit g)) A B i s) < u + 2 then (zfst (u + 2) (fun i => zUn (zCn mv tg P (zbit g)) A B i s) : Int) else -4 := fun s hs => by
          rw [h2 s hs, h1 s hs, ← zfst_upc (-4) (f := fun i => zUn (zCn mv tg P (zbit g)) A B i s) fun i hi h => zUn_incs hi s hs h]
          congr 1
          rw [eq_iff_iff, hup]
          rw [← hcm]
          cases h4 : zUn (zCn mv tg P (zbit g)) A B u s <;> simp [h4]
        rw [k_Md_until_9]
        by_cases hz : zset S cm = 0
        · have h0 := (zset_eq0 (by omega)).mp hz
          have he : zeqS S (zUn (zCn mv tg P (zbit g)) A B (u + 1)) (zUn (zCn mv tg P (zbit g)) A B u) := fun s hs => by rw [hup]; simp [h0 s hs]
          have e3 := zUn_stay hCg u 12 (Or.inl he) hu12
          have e4 : zor (zset S (zUn (zCn mv tg P (zbit g)) A B u)) 0 = zset S (zUn (zCn mv tg P (zbit g)) A B 12) := by rw [zor_z (by omega), zset_cong e3]
          have hR2 : ∀ s : Nat, s < S → R' s = R s := fun s hs => by rw [h2 s hs, if_neg (by rw [h0 s hs]; decide)]
          simp (disch := first | omega | exact Nat.le_of_ble_eq_true rfl | assumption | (simp only [Int.natCast_add, Int.natCast_mul, Int.cast_ofNat_Int]; omega) | decide) only [k_Md_until_14, k_Md_until_16, k_Md_until_17, x_aload, x_getf, w_goto, w_fall, w_iand, w_iconst, w_if, w_icmp, x_iinc, x_iload, w_ior, w_ishr, x_istore, w_ixor, zadd_eq, gf_48_0, gf_48_28, ia_68, sa_68, w_nret r_Md_until, q_eq, q_ne, q_lt, q_ge, q_gt, q_le, g_I, g_L, g_R, g_V, t_0, t_I, t_R, t_U, t_L, t_s, List.getElem?_cons_zero, List.getElem?_cons_succ, Nat.reduceAdd, zif10, zif01b, zib, if_pos, if_neg, ↓reduceIte, not_true_eq_false, not_false_eq_true, Bool.true_eq_false, Bool.false_eq_true, Classical.not_not, eq_self, and_self, and_true, true_and, Int.reduceEq, Int.reduceLE, Int.reduceLT, Int.reduceNeg, Option.toList, List.cons_append, List.nil_append, zup_s, zup_n, zst_s, zup_zs, zup_zn, decide_true, decide_false, hR.1, zst_n, hz, e4]
          rw [k_Md_until_7]
          simp (disch := first | omega | exact Nat.le_of_ble_eq_true rfl | assumption | (simp only [Int.natCast_add, Int.natCast_mul, Int.cast_ofNat_Int]; omega) | decide) only [k_Md_until_18, x_aload, x_getf, w_goto, w_fall, w_iand, w_iconst, w_if, w_icmp, x_iinc, x_iload, w_ior, w_ishr, x_istore, w_ixor, zadd_eq, gf_48_0, gf_48_28, ia_68, sa_68, w_nret r_Md_until, q_eq, q_ne, q_lt, q_ge, q_gt, q_le, g_I, g_L, g_R, g_V, t_0, t_I, t_R, t_U, t_L, t_s, List.getElem?_cons_zero, List.getElem?_cons_succ, Nat.reduceAdd, zif10, zif01b, zib, if_pos, if_neg, ↓reduceIte, not_true_eq_false, not_false_eq_true, Bool.true_eq_false, Bool.false_eq_true, Classical.not_not, eq_self, and_self, and_true, true_and, Int.reduceEq, Int.reduceLE, Int.reduceLT, Int.reduceNeg, Option.toList, List.cons_append, List.nil_append, zup_s, zup_n, zst_s, zup_zs, zup_zn, decide_true, decide_false]
          refine ⟨R', rfl, fun s hs => ?_⟩
          rw [hR2 s hs, h1 s hs]
          exact zfst_endc hu12 fun j hj => zUn_stay hCg u j (Or.inl he) hj s hs
        · have hnz : ¬ zeqS S (zUn (zCn mv tg P (zbit g)) A B (u + 1)) (zUn (zCn mv tg P (zbit g)) A B u) := fun h => hz ((zset_eq0 (by omega)).mpr fun s hs => by
            have := h s hs
            rw [hup] at this
            rw [← hcm]
            cases h4 : zUn (zCn mv tg P (zbit g)) A B u s with
            | true => simp [h4]
            | false =>
              rw [← hcm] at this
              simp only [h4, Bool.false_or] at this
              simpa [h4] using this)
          simp (disch := first | omega | exact Nat.le_of_ble_eq_true rfl | assumption | (simp only [Int.natCast_add, Int.natCast_mul, Int.cast_ofNat_Int]; omega) | decide) only [k_Md_until_14, k_Md_until_15, k_Md_until_17, x_aload, x_getf, w_goto, w_fall, w_iand, w_iconst, w_if, w_icmp, x_iinc, x_iload, w_ior, w_ishr, x_istore, w_ixor, zadd_eq, gf_48_0, gf_48_28, ia_68, sa_68, w_nret r_Md_until, q_eq, q_ne, q_lt, q_ge, q_gt, q_le, g_I, g_L, g_R, g_V, t_0, t_I, t_R, t_U, t_L, t_s, List.getElem?_cons_zero, List.getElem?_cons_succ, Nat.reduceAdd, zif10, zif01b, zib, if_pos, if_neg, ↓reduceIte, not_true_eq_false, not_false_eq_true, Bool.true_eq_false, Bool.false_eq_true, Classical.not_not, eq_self, and_self, and_true, true_and, Int.reduceEq, Int.reduceLE, Int.reduceLT, Int.reduceNeg, Option.toList, List.cons_append, List.nil_append, zup_s, zup_n, zst_s, zup_zs, zup_zn, decide_true, decide_false, hR.1, zst_n, hz, zset_or]
          refine ih _ _ ⟨R', _, _, by rw [hup]; rfl, rfl, fun j hj => ?_, hRn⟩
          by_cases e : j = u
          · subst e; exact hnz
          · exact hne j (by omega)
    · rintro _ _ ⟨R, v7, v8, rfl, rfl, hne, h1⟩
      exact absurd (zUn_stay hCg 12 13 (Or.inr hS) (by omega)) (hne 12 (by omega))
theorem c_Md_until {d mi o b9 : Nat} {es : List zEnt} {L st : List zMV} {Q : Option zMV → (Nat → Int → Int) → Prop} {A B : Nat → Bool} (hN : zNet S P mv tg) (hR : zNetR S P mv tg M) (hd : 4 + 1 ≤ d) (hc : zcats st ≤ 8) (hpost : ∀ r M', (r = some (zI (zset S (zUn (zCn mv tg P (zbit g)) A B 12))) ∧ ∃ R, M' = zst M 68 R ∧ ∀ s : Nat, s < S → R s = zneg4 (zrd (zCn mv tg P (zbit g)) A B s)) → zW (zSH Ln) d mi es L (r.toList ++ st) M' Q) : zW (zSH Ln) d mi ((.invokevirtual o, 198, b9) :: es) L (zI (zset S B) :: zI (zset S A) :: zI g :: zR 48 :: st) M Q :=
  w_callv (ps := [zI g, zI (zset S A), zI (zset S B)]) (by omega) rfl rfl (by omega) (by exact sh_48 Ln) hc (Nat.le_of_ble_eq_true rfl) (F_Md_until hN hR (by omega)) hpost
end RE
