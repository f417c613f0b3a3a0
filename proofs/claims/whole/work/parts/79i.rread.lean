/-! the tape's reader: the reference -/
def zStR : List (Nat × Bool) → (Nat → Int → Int) → Prop
  | [], _ => True
  | x :: r, M => M 64 (r.length : Int) = x.1 ∧ M 65 (r.length : Int) = (if x.2 = true then 1 else 0) ∧ zStR r M
theorem zStR_k {M M' : Nat → Int → Int} : ∀ (St : List (Nat × Bool)), zStR St M → (∀ i : Nat, i < St.length → M' 64 i = M 64 i ∧ M' 65 i = M 65 i) → zStR St M'
  | [], _, _ => trivial
  | x :: r, h, e => ⟨by rw [(e r.length (by simp)).1]; exact h.1, by rw [(e r.length (by simp)).2]; exact h.2.1, zStR_k r h.2.2 fun i hi => e i (by rw [List.length_cons]; omega)⟩
def zRng (M : Nat → Int → Int) : Prop := ∀ k : Nat, k < 24 → (0 ≤ M 61 k ∧ M 61 k < 2147483648) ∧ 0 ≤ M 62 k ∧ M 62 k < 2147483648
/-- place, parts, what waits -/
def zEn (p n : Nat) (St : List (Nat × Bool)) (M : Nat → Int → Int) : Prop := M 48 25 = p ∧ M 48 26 = 0 ∧ M 48 15 = n ∧ M 48 22 = (St.length : Int) ∧ zStR St M ∧ zRng M
def zRr (M M' : Nat → Int → Int) : Prop := zKp [48, 60, 61, 62, 63, 64, 65] M M' ∧ ∀ i : Int, i ≠ 15 → i ≠ 22 → i ≠ 25 → i ≠ 26 → M' 48 i = M 48 i
theorem zRr_rf (M : Nat → Int → Int) : zRr M M := ⟨zKp_rf _ _, fun _ _ _ _ _ => rfl⟩
theorem zRr_tr {M M1 M2 : Nat → Int → Int} (h1 : zRr M M1) (h2 : zRr M1 M2) : zRr M M2 := ⟨zKp_tr h1.1 h2.1, fun i a b c d => (h2.2 i a b c d).trans (h1.2 i a b c d)⟩
theorem zRr_48 {M M1 : Nat → Int → Int} {i v : Int} (h : zRr M M1) (hi : i = 15 ∨ i = 22 ∨ i = 25 ∨ i = 26) : zRr M (zup M1 48 i v) := ⟨zKp_up (by decide) h.1, fun j a b c d => by rw [zup_d (by omega)]; exact h.2 j a b c d⟩
theorem zRr_up {M M1 : Nat → Int → Int} {k : Nat} {i v : Int} (h : zRr M M1) (hk : k ∈ [60, 61, 62, 63, 64, 65]) : zRr M (zup M1 k i v) := ⟨zKp_up (List.mem_cons_of_mem _ hk) h.1, fun j a b c d => by rw [zup_n (fun e => by subst e; revert hk; decide)]; exact h.2 j a b c d⟩
def zSmR (b : Nat) (M M' : Nat → Int → Int) : Prop := ∀ i : Nat, i < b → M' 60 i = M 60 i ∧ M' 61 i = M 61 i ∧ M' 62 i = M 62 i ∧ M' 63 i = M 63 i
theorem zSmR_tr {b : Nat} {M M1 M2 : Nat → Int → Int} (h1 : zSmR b M M1) (h2 : zSmR b M1 M2) : zSmR b M M2 := fun i hi => by
  obtain ⟨a1, a2, a3, a4⟩ := h1 i hi
  obtain ⟨b1, b2, b3, b4⟩ := h2 i hi
  exact ⟨b1.trans a1, b2.trans a2, b3.trans a3, b4.trans a4⟩
theorem zSmR_48 {b : Nat} {M M1 : Nat → Int → Int} {i v : Int} (h : zSmR b M M1) : zSmR b M (zup M1 48 i v) := fun j hj => h j hj
theorem zSmR_up {b k n : Nat} {M M1 : Nat → Int → Int} {v : Int} (h : zSmR b M M1) (hn : b ≤ n) : zSmR b M (zup M1 k n v) := fun j hj => by
  obtain ⟨a1, a2, a3, a4⟩ := h j hj
  have e : (j : Int) ≠ n := by omega
  have z : ∀ q, zup M1 k n v q (j : Int) = M1 q j := fun q => by
    by_cases hq : q = k
    · subst hq; rw [zup_d e]
    · rw [zup_n hq]
  exact ⟨by rw [z]; exact a1, by rw [z]; exact a2, by rw [z]; exact a3, by rw [z]; exact a4⟩
theorem zSmR_ot {b k : Nat} {M M1 : Nat → Int → Int} {i v : Int} (h : zSmR b M M1) (hk : k = 64 ∨ k = 65) : zSmR b M (zup M1 k i v) := fun j hj => by
  obtain ⟨a1, a2, a3, a4⟩ := h j hj
  exact ⟨by rw [zup_n (by omega)]; exact a1, by rw [zup_n (by omega)]; exact a2, by rw [zup_n (by omega)]; exact a3, by rw [zup_n (by omega)]; exact a4⟩
theorem zshr_16 : ∀ g, g < 16 → ∀ x, x < 4 → zshr ((g : Nat) : Int) ((x : Nat) : Int) = ((g / 2 ^ x : Nat) : Int) := by decide +kernel
section RR
variable {Ln q P : Nat} {tb : Nat → Nat} {M : Nat → Int → Int}
theorem F_Md_next {d : Nat} {p : Nat} (hT : zTpR q tb M) (hq : q ≤ 100) (hp : M 48 25 = p) (hpq : p ≤ q) (hd : 0 ≤ d) : zF (zSH Ln) d i_Md_next [zR 48] M fun r M' => r = some (zI (zNc q tb p : Int)) ∧ M' = zup M 48 25 (zNp q tb p : Int) := by
  rw [zF_en k_Md_next_0 (L := [zR 48]) rfl]
  rw [← k_Md_next_0]
  have key : ∀ (f p : Nat) (M : Nat → Int → Int), q - p = f → zTpR q tb M → M 48 25 = p → p ≤ q → zW (zSH Ln) d i_Md_next (zblk i_Md_next 0) [zR 48] [] M fun r M' => r = some (zI (zNc q tb p : Int)) ∧ M' = zup M 48 25 (zNp q tb p : Int) := by
    intro f
    induction f with
    | zero =>
      intro p M hf hT hp hpq
      have e := hT.1
      have e2 : zNp q tb p = p := zNp_q (by omega)
      have e3 : (zNc q tb p : Int) = 0 := by unfold zNc; rw [if_neg (by omega)]; rfl
      rw [k_Md_next_0]
      simp (disch := first | omega | exact Nat.le_of_ble_eq_true rfl | assumption | (simp only [Int.natCast_add, Int.natCast_mul, Int.cast_ofNat_Int]; omega) | decide) only [k_Md_next_3, k_Md_next_5, k_Md_next_6, x_aload, w_dupI, w_dupR, x_getf, w_goto, w_fall, w_iadd, w_iconst, w_icmp, zadd_eq, gf_48_23, gf_48_24, gf_48_25, xp_48_25, ia_66, w_nret r_Md_next, q_eq, q_ne, q_lt, q_ge, q_gt, q_le, g_I, g_L, g_R, g_V, t_0, t_I, t_R, t_U, t_L, t_s, List.getElem?_cons_zero, List.getElem?_cons_succ, Nat.reduceAdd, zif10, zif01b, zib, if_pos, if_neg, ↓reduceIte, not_true_eq_false, not_false_eq_true, Bool.true_eq_false, Bool.false_eq_true, Classical.not_not, eq_self, and_self, and_true, true_and, Int.reduceEq, Int.reduceLE, Int.reduceLT, Int.reduceNeg, Option.toList, List.cons_append, List.nil_append, zup_s, zup_n, zst_s, zup_zs, zup_zn, decide_true, decide_false, hp, e, e2, e3]
      exact (zup_self hp).symm
    | succ f ih =>
      intro p M hf hT hp hpq
      have e := hT.1
      have et := hT.2 p (by omega)
      have hlt : (p : Int) < q := by omega
      rw [k_Md_next_0]
      by_cases hb : tb p = 32
      · have hb' : (tb p : Int) = 32 := by omega
        have := ih (p + 1) (zup M 48 25 ((p + 1 : Nat) : Int)) (by omega) ⟨by rw [zup_d (by omega)]; exact e, by rw [zup_n (by decide)]; exact hT.2⟩ (zup_s _ _ _ _) (by omega)
        rw [zup_up, ← zNp_s (by omega) hb] at this
        have e3 : zNc q tb (p + 1) = zNc q tb p := by unfold zNc; rw [← zNp_s (by omega) hb]
        rw [e3] at this
        simp (disch := first | omega | exact Nat.le_of_ble_eq_true rfl | assumption | (simp only [Int.natCast_add, Int.natCast_mul, Int.cast_ofNat_Int]; omega) | decide) only [k_Md_next_1, k_Md_next_2, x_aload, w_dupI, w_dupR, x_getf, w_goto, w_fall, w_iadd, w_iconst, w_icmp, zadd_eq, gf_48_23, gf_48_24, gf_48_25, xp_48_25, ia_66, w_nret r_Md_next, q_eq, q_ne, q_lt, q_ge, q_gt, q_le, g_I, g_L, g_R, g_V, t_0, t_I, t_R, t_U, t_L, t_s, List.getElem?_cons_zero, List.getElem?_cons_succ, Nat.reduceAdd, zif10, zif01b, zib, if_pos, if_neg, ↓reduceIte, not_true_eq_false, not_false_eq_true, Bool.true_eq_false, Bool.false_eq_true, Classical.not_not, eq_self, and_self, and_true, true_and, Int.reduceEq, Int.reduceLE, Int.reduceLT, Int.reduceNeg, Option.toList, List.cons_append, List.nil_append, zup_s, zup_n, zst_s, zup_zs, zup_zn, decide_true, decide_false, hp, e, et, hb', hlt]
        exact this
      · have hb' : ¬ (tb p : Int) = 32 := by omega
        have e2 : zNp q tb p = p := zNp_n hb
        have e3 : zNc q tb p = tb p := by unfold zNc; rw [e2, if_pos (by omega)]
        simp (disch := first | omega | exact Nat.le_of_ble_eq_true rfl | assumption | (simp only [Int.natCast_add, Int.natCast_mul, Int.cast_ofNat_Int]; omega) | decide) only [k_Md_next_1, k_Md_next_3, k_Md_next_4, k_Md_next_6, x_aload, w_dupI, w_dupR, x_getf, w_goto, w_fall, w_iadd, w_iconst, w_icmp, zadd_eq, gf_48_23, gf_48_24, gf_48_25, xp_48_25, ia_66, w_nret r_Md_next, q_eq, q_ne, q_lt, q_ge, q_gt, q_le, g_I, g_L, g_R, g_V, t_0, t_I, t_R, t_U, t_L, t_s, List.getElem?_cons_zero, List.getElem?_cons_succ, Nat.reduceAdd, zif10, zif01b, zib, if_pos, if_neg, ↓reduceIte, not_true_eq_false, not_false_eq_true, Bool.true_eq_false, Bool.false_eq_true, Classical.not_not, eq_self, and_self, and_true, true_and, Int.reduceEq, Int.reduceLE, Int.reduceLT, Int.reduceNeg, Option.toList, List.cons_append, List.nil_append, zup_s, zup_n, zst_s, zup_zs, zup_zn, decide_true, decide_false, hp, e, et, hb', hlt, e2, e3]
        exact (zup_self hp).symm
  exact key (q - p) p M rfl hT hp hpq
theorem c_Md_next {d mi o b9 : Nat} {es : List zEnt} {L st : List zMV} {Q : Option zMV → (Nat → Int → Int) → Prop} {p : Nat} (hT : zTpR q tb M) (hq : q ≤ 100) (hp : M 48 25 = p) (hpq : p ≤ q) (hd : 0 + 1 ≤ d) (hc : zcats st ≤ 8) : zW (zSH Ln) d mi ((.invokevirtual o, 189, b9) :: es) L (zR 48 :: st) M Q = zW (zSH Ln) d mi es L (zI (zNc q tb p : Int) :: st) (zup M 48 25 (zNp q tb p : Int)) Q :=
  c_virt (ps := []) (by omega) rfl rfl (by omega) (by exact sh_48 Ln) hc (Nat.le_of_ble_eq_true rfl) (F_Md_next hT hq hp hpq (by omega))
theorem F_Md_needs {d : Nat} {p : Nat} {c : Int} (hT : zTpR q tb M) (hq : q ≤ 100) (hp : M 48 25 = p) (hpq : p ≤ q) (hw : M 48 26 = 0) (hd : 1 ≤ d) : zF (zSH Ln) d i_Md_needs [zR 48, zI c] M fun r M' => r = none ∧ M' = (if (zNc q tb p : Int) = c then zup M 48 25 ((zNp q tb p : Int) + 1) else zup (zup M 48 25 (zNp q tb p : Int)) 48 26 1) := by
  rw [zF_en k_Md_needs_0 (L := [zR 48, zI c]) rfl]
  have hnp := zNp_le (tb := tb) hpq
  by_cases h : (zNc q tb p : Int) = c
  · rw [if_pos h]
    simp (disch := first | omega | exact Nat.le_of_ble_eq_true rfl | assumption | (simp only [Int.natCast_add, Int.natCast_mul, Int.cast_ofNat_Int]; omega) | decide) only [k_Md_needs_1, k_Md_needs_3, k_Md_needs_4, k_Md_needs_6, k_Md_needs_7, x_aload, w_dupI, w_dupR, x_getf, w_goto, w_fall, w_iadd, w_iconst, w_if, w_icmp, x_iload, zadd_eq, gf_48_25, gf_48_26, xp_48_25, xp_48_26, w_vret r_Md_needs, q_eq, q_ne, q_lt, q_ge, q_gt, q_le, g_I, g_L, g_R, g_V, t_0, t_I, t_R, t_U, t_L, t_s, List.getElem?_cons_zero, List.getElem?_cons_succ, Nat.reduceAdd, zif10, zif01b, zib, if_pos, if_neg, ↓reduceIte, not_true_eq_false, not_false_eq_true, Bool.true_eq_false, Bool.false_eq_true, Classical.not_not, eq_self, and_self, and_true, true_and, Int.reduceEq, Int.reduceLE, Int.reduceLT, Int.reduceNeg, Option.toList, List.cons_append, List.nil_append, zup_s, zup_n, zst_s, zup_zs, zup_zn, decide_true, decide_false, hw, c_Md_next hT hq hp hpq, h, zup_d, zup_up, true_or]
    rw [zup_self (k := 48) (i := 26) (v := 0)]
    · rw [zup_up]
    · rw [zup_d (by omega)]; exact hw
  · rw [if_neg h]
    simp (disch := first | omega | exact Nat.le_of_ble_eq_true rfl | assumption | (simp only [Int.natCast_add, Int.natCast_mul, Int.cast_ofNat_Int]; omega) | decide) only [k_Md_needs_1, k_Md_needs_2, k_Md_needs_4, k_Md_needs_5, k_Md_needs_7, x_aload, w_dupI, w_dupR, x_getf, w_goto, w_fall, w_iadd, w_iconst, w_if, w_icmp, x_iload, zadd_eq, gf_48_25, gf_48_26, xp_48_25, xp_48_26, w_vret r_Md_needs, q_eq, q_ne, q_lt, q_ge, q_gt, q_le, g_I, g_L, g_R, g_V, t_0, t_I, t_R, t_U, t_L, t_s, List.getElem?_cons_zero, List.getElem?_cons_succ, Nat.reduceAdd, zif10, zif01b, zib, if_pos, if_neg, ↓reduceIte, not_true_eq_false, not_false_eq_true, Bool.true_eq_false, Bool.false_eq_true, Classical.not_not, eq_self, and_self, and_true, true_and, Int.reduceEq, Int.reduceLE, Int.reduceLT, Int.reduceNeg, Option.toList, List.cons_append, List.nil_append, zup_s, zup_n, zst_s, zup_zs, zup_zn, decide_true, decide_false, hw, c_Md_next hT hq hp hpq, h, zup_d, zup_up, or_true]
    exact zup_self (by rw [Int.add_zero, zup_d (by omega), zup_s])
theorem c_Md_needs {d mi o b9 : Nat} {es : List zEnt} {L st : List zMV} {Q : Option zMV → (Nat → Int → Int) → Prop} {p : Nat} {c : Int} (hT : zTpR q tb M) (hq : q ≤ 100) (hp : M 48 25 = p) (hpq : p ≤ q) (hw : M 48 26 = 0) (hd : 1 + 1 ≤ d) (hc : zcats st ≤ 8) : zW (zSH Ln) d mi ((.invokevirtual o, 190, b9) :: es) L (zI c :: zR 48 :: st) M Q = zW (zSH Ln) d mi es L (st) ((if (zNc q tb p : Int) = c then zup M 48 25 ((zNp q tb p : Int) + 1) else zup (zup M 48 25 (zNp q tb p : Int)) 48 26 1)) Q :=
  c_virt (ps := [zI c]) (by omega) rfl rfl (by omega) (by exact sh_48 Ln) hc (Nat.le_of_ble_eq_true rfl) (F_Md_needs hT hq hp hpq hw (by omega))
theorem F_Md_opens {d : Nat} {k D : Nat} {kd : Int} (hk : k < 24) (hD : M 48 22 = D) (hD2 : D < 24) (hd : 0 ≤ d) : zF (zSH Ln) d i_Md_opens [zR 48, zI (k : Int), zI kd] M fun r M' => r = none ∧ M' = zup (zup (zup (zup M 60 k kd) 64 D k) 65 D 0) 48 22 ((D : Int) + 1) := by
  rw [zF_en k_Md_opens_0 (L := [zR 48, zI (k : Int), zI kd]) rfl]
  simp (disch := first | omega | exact Nat.le_of_ble_eq_true rfl | assumption | (simp only [Int.natCast_add, Int.natCast_mul, Int.cast_ofNat_Int]; omega) | decide) only [x_aload, w_dupI, w_dupR, x_getf, w_iadd, w_iconst, x_iload, zadd_eq, gf_48_16, gf_48_20, gf_48_21, gf_48_22, xp_48_22, sa_60, sa_64, sa_65, w_vret r_Md_opens, q_eq, q_ne, q_lt, q_ge, q_gt, q_le, g_I, g_L, g_R, g_V, t_0, t_I, t_R, t_U, t_L, t_s, List.getElem?_cons_zero, List.getElem?_cons_succ, Nat.reduceAdd, zif10, zif01b, zib, if_pos, if_neg, ↓reduceIte, not_true_eq_false, not_false_eq_true, Bool.true_eq_false, Bool.false_eq_true, Classical.not_not, eq_self, and_self, and_true, true_and, Int.reduceEq, Int.reduceLE, Int.reduceLT, Int.reduceNeg, Option.toList, List.cons_append, List.nil_append, zup_s, zup_n, zst_s, zup_zs, zup_zn, decide_true, decide_false, hD, true_or]
theorem c_Md_opens {d mi o b9 : Nat} {es : List zEnt} {L st : List zMV} {Q : Option zMV → (Nat → Int → Int) → Prop} {k D : Nat} {kd : Int} (hk : k < 24) (hD : M 48 22 = D) (hD2 : D < 24) (hd : 0 + 1 ≤ d) (hc : zcats st ≤ 8) : zW (zSH Ln) d mi ((.invokevirtual o, 191, b9) :: es) L (zI kd :: zI (k : Int) :: zR 48 :: st) M Q = zW (zSH Ln) d mi es L (st) (zup (zup (zup (zup M 60 k kd) 64 D k) 65 D 0) 48 22 ((D : Int) + 1)) Q :=
  c_virt (ps := [zI (k : Int), zI kd]) (by omega) rfl rfl (by omega) (by exact sh_48 Ln) hc (Nat.le_of_ble_eq_true rfl) (F_Md_opens hk hD hD2 (by omega))
end RR
