/-! the reference's face: calls that change nothing -/
/-- but for what the reference tells anew each time, the same -/
def zScrR (M M' : Nat → Int → Int) : Prop := zKp [48, 67, 68, 69, 70, 75, 76, 77, 78, 79, 80, 81] M M' ∧ ∀ i : Int, i ≠ 15 → i ≠ 22 → i ≠ 25 → i ≠ 26 → i ≠ 41 → i ≠ 44 → i ≠ 45 → M' 48 i = M 48 i
theorem zScrR_rf (M : Nat → Int → Int) : zScrR M M := ⟨zKp_rf _ _, fun _ _ _ _ _ _ _ _ => rfl⟩
theorem zScrR_of {l : List Nat} {M M' : Nat → Int → Int} (h : zKp l M M') (hl : ∀ k ∈ l, k ∈ [67, 68, 69, 70, 75, 76, 77, 78, 79, 80, 81]) : zScrR M M' := ⟨fun k hk => h k fun hm => hk (List.mem_cons_of_mem _ (hl k hm)), fun i _ _ _ _ _ _ _ => by rw [h 48 (fun hm => absurd (hl 48 hm) (by decide))]⟩
theorem zScrR_hr {M : Nat → Int → Int} (H R : Int → Int) : zScrR M (zst (zst M 67 H) 68 R) := zScrR_of (l := [67, 68]) (zKp_st (by decide) (zKp_st (by decide) (zKp_rf _ _))) (by decide)
def zPaA (S n : Nat) (mv tg : Nat → Nat → Nat) (P : Nat) (lt kd lf rt gp : Nat → Nat) (k : Int) : Int := if 0 ≤ k ∧ k < n then zset S (zHp mv tg P lt kd lf rt gp k.toNat) else -1
def zFcA (S P : Nat) (mv tg : Nat → Nat → Nat) (x g y : Int) : Int := if (0 ≤ x ∧ x < S) ∧ (0 ≤ g ∧ g ≤ zset P fun _ => true) ∧ (0 ≤ y ∧ y ≤ zset S fun _ => true) then (if zleast (mv x.toNat) (tg x.toNat) (zbit g) P (zbit y) < zcnt (mv x.toNat) (zbit g) P then 1 else 0) else -1
def zRoA (S P : Nat) (mv tg : Nat → Nat → Nat) (lt kd lf rt gp : Nat → Nat) (x : Int) : Int := if 0 ≤ x ∧ x < S then (if 7 ≤ kd 0 then (if zHp mv tg P lt kd lf rt gp 0 x.toNat = true then (zRd mv tg P lt kd lf rt gp x.toNat : Int) else -4) else -2) else -1
def zPlA (S P : Nat) (mv tg : Nat → Nat → Nat) (lt kd lf rt gp : Nat → Nat) (x : Int) : Int := if 0 ≤ x ∧ x < S then (if 5 ≤ kd 0 then zPlan (mv x.toNat) (tg x.toNat) (zbit (gp 0 : Int)) P (zHp mv tg P lt kd lf rt gp 0 x.toNat) (zAim (kd 0) (zHp mv tg P lt kd lf rt gp (lf 0)) (zHp mv tg P lt kd lf rt gp 0) (zRd mv tg P lt kd lf rt gp) x.toNat) else -2) else -1
def zAnA (S P : Nat) (mv tg : Nat → Nat → Nat) (lt kd lf rt gp : Nat → Nat) (x a : Int) : Int := if 0 ≤ x ∧ x < S then (if 5 ≤ kd 0 then (if 0 ≤ a ∧ a < zcnt (mv x.toNat) (zbit (gp 0 : Int)) P then zAns (mv x.toNat) (tg x.toNat) (zbit (gp 0 : Int)) P (if kd 0 = 5 then zHp mv tg P lt kd lf rt gp (lf 0) else zHp mv tg P lt kd lf rt gp 0) a.toNat else -1) else -2) else -1
def zJoA (S P : Nat) (mv : Nat → Nat → Nat) (x g : Int) : Int := if (0 ≤ x ∧ x < S) ∧ (0 ≤ g ∧ g ≤ zset P fun _ => true) then (zcnt (mv x.toNat) (zbit g) P : Int) else -1
def zLeA (S P : Nat) (mv tg : Nat → Nat → Nat) (x a : Int) : Int := if (0 ≤ x ∧ x < S) ∧ 0 ≤ a ∧ a < zcnt (mv x.toNat) zall1 P then (tg x.toNat a.toNat : Int) else -1
def zCoA (S P n : Nat) (mv : Nat → Nat → Nat) (w : Int) : Int := if w = 0 then (S : Int) else if w = 1 then (P : Int) else if w = 2 then (n : Int) else if w = 3 then (zplans S P mv S : Int) else -1
def zBlA (S P : Nat) (mv tg hp : Nat → Nat → Nat) (lt kd lf rt gp : Nat → Nat) (x : Int) : Int := if 0 ≤ x ∧ x < S then (if 5 ≤ kd 0 then zSkA S P mv tg hp (zbit (gp 0 : Int)) (kd 0) (zHp mv tg P lt kd lf rt gp (lf 0)) (zHp mv tg P lt kd lf rt gp (rt 0)) (zFt P hp (zbit (gp 0 : Int)) x.toNat) else -2) else -1
def zBmA (S P : Nat) (mv tg hp : Nat → Nat → Nat) (lt kd lf rt gp : Nat → Nat) (x y h : Int) : Int := if (0 ≤ x ∧ x < S) ∧ (0 ≤ y ∧ y < P) ∧ 0 ≤ h ∧ h < 12 then (if 5 ≤ kd 0 then (if zbit (gp 0 : Int) y.toNat = true ∧ zlm mv hp y.toNat h.toNat S ≠ 0 then (if zSkA S P mv tg hp (zbit (gp 0 : Int)) (kd 0) (zHp mv tg P lt kd lf rt gp (lf 0)) (zHp mv tg P lt kd lf rt gp (rt 0)) (zFt P hp (zbit (gp 0 : Int)) x.toNat) = 1 then (zRow (zBm S P mv hp (zbit (gp 0 : Int))) (zSk S P mv tg hp (zbit (gp 0 : Int)) (kd 0) (zHp mv tg P lt kd lf rt gp (lf 0)) (zHp mv tg P lt kd lf rt gp (rt 0)) (zFt P hp (zbit (gp 0 : Int)) x.toNat)) y.toNat h.toNat : Int) else if zSkA S P mv tg hp (zbit (gp 0 : Int)) (kd 0) (zHp mv tg P lt kd lf rt gp (lf 0)) (zHp mv tg P lt kd lf rt gp (rt 0)) (zFt P hp (zbit (gp 0 : Int)) x.toNat) = -5 then -5 else -4) else -1) else -2) else -1
theorem zSkA_v {S P : Nat} {mv tg hp : Nat → Nat → Nat} {g : Nat → Bool} {kd : Nat} {one two F : Nat → Bool} : zSkA S P mv tg hp g kd one two F = -5 ∨ zSkA S P mv tg hp g kd one two F = 1 ∨ zSkA S P mv tg hp g kd one two F = 0 := by
  unfold zSkA; split
  · exact Or.inl rfl
  · split
    · exact Or.inr (Or.inl rfl)
    · exact Or.inr (Or.inr rfl)
section RE
variable {Ln S P n : Nat} {mv tg hp : Nat → Nat → Nat} {lt kd lf rt gp : Nat → Nat} {M : Nat → Int → Int}
theorem F_Md_holds {d : Nat} (hN : zNet S P mv tg) (hR : zNetR S P mv tg M) (hL : zLetR lt M) (hlt : ∀ s, lt s < 256) (hF : zForm P n kd lf rt gp) (hFR : zFormR n kd lf rt gp M) (hd : 8 ≤ d) : zF (zSH Ln) d i_Md_holds [zR 48] M fun r M' => r = some (zI (zset S (zHp mv tg P lt kd lf rt gp 0))) ∧ zScrR M M' := by
  rw [zF_en k_Md_holds_0 (L := [zR 48]) rfl]
  simp (disch := first | omega | exact Nat.le_of_ble_eq_true rfl | assumption | (simp only [Int.natCast_add, Int.natCast_mul, Int.cast_ofNat_Int]; omega) | decide) only [x_aload, w_nret r_Md_holds, q_eq, q_ne, q_lt, q_ge, q_gt, q_le, g_I, g_L, g_R, g_V, t_0, t_I, t_R, t_U, t_L, t_s, List.getElem?_cons_zero, List.getElem?_cons_succ, Nat.reduceAdd, zif10, zif01b, zib, if_pos, if_neg, ↓reduceIte, not_true_eq_false, not_false_eq_true, Bool.true_eq_false, Bool.false_eq_true, Classical.not_not, eq_self, and_self, and_true, true_and, Int.reduceEq, Int.reduceLE, Int.reduceLT, Int.reduceNeg, Option.toList, List.cons_append, List.nil_append, zup_s, zup_n, zst_s, zup_zs, zup_zn, decide_true, decide_false]
  refine c_Md_tell hN hR hL hlt hF hFR (by omega) (Nat.le_of_ble_eq_true rfl) ?_
  rintro _ _ ⟨rfl, H, R, rfl, _⟩
  simp (disch := first | omega | exact Nat.le_of_ble_eq_true rfl | assumption | (simp only [Int.natCast_add, Int.natCast_mul, Int.cast_ofNat_Int]; omega) | decide) only [x_aload, w_nret r_Md_holds, q_eq, q_ne, q_lt, q_ge, q_gt, q_le, g_I, g_L, g_R, g_V, t_0, t_I, t_R, t_U, t_L, t_s, List.getElem?_cons_zero, List.getElem?_cons_succ, Nat.reduceAdd, zif10, zif01b, zib, if_pos, if_neg, ↓reduceIte, not_true_eq_false, not_false_eq_true, Bool.true_eq_false, Bool.false_eq_true, Classical.not_not, eq_self, and_self, and_true, true_and, Int.reduceEq, Int.reduceLE, Int.reduceLT, Int.reduceNeg, Option.toList, List.cons_append, List.nil_append, zup_s, zup_n, zst_s, zup_zs, zup_zn, decide_true, decide_false]
  exact zScrR_hr H R
theorem c_Md_holds {d mi o b9 : Nat} {es : List zEnt} {L st : List zMV} {Q : Option zMV → (Nat → Int → Int) → Prop} (hN : zNet S P mv tg) (hR : zNetR S P mv tg M) (hL : zLetR lt M) (hlt : ∀ s, lt s < 256) (hF : zForm P n kd lf rt gp) (hFR : zFormR n kd lf rt gp M) (hd : 8 + 1 ≤ d) (hc : zcats st ≤ 8) (hpost : ∀ r M', (r = some (zI (zset S (zHp mv tg P lt kd lf rt gp 0))) ∧ zScrR M M') → zW (zSH Ln) d mi es L (r.toList ++ st) M' Q) : zW (zSH Ln) d mi ((.invokevirtual o, 203, b9) :: es) L (zR 48 :: st) M Q :=
  w_callv (ps := []) (by omega) rfl rfl (by omega) (by exact sh_48 Ln) hc (Nat.le_of_ble_eq_true rfl) (F_Md_holds hN hR hL hlt hF hFR (by omega)) hpost
theorem F_Md_part {d : Nat} {k : Int} (hN : zNet S P mv tg) (hR : zNetR S P mv tg M) (hL : zLetR lt M) (hlt : ∀ s, lt s < 256) (hF : zForm P n kd lf rt gp) (hFR : zFormR n kd lf rt gp M) (hd : 8 ≤ d) : zF (zSH Ln) d i_Md_part [zR 48, zI k] M fun r M' => r = some (zI (zPaA S n mv tg P lt kd lf rt gp k)) ∧ zScrR M M' := by
  rw [zF_en k_Md_part_0 (L := [zR 48, zI k, zU]) rfl]
  have hn2 := hF.2.1
  have hn1 := hF.1
  generalize hans : zPaA S n mv tg P lt kd lf rt gp k = ans
  unfold zPaA at hans
  by_cases c1 : 0 ≤ k ∧ k < n
  · rw [if_pos c1] at hans
    obtain ⟨j, rfl⟩ : ∃ j : Nat, k = (j : Int) := ⟨k.toNat, by omega⟩
    rw [Int.toNat_natCast] at hans
    simp (disch := first | omega | exact Nat.le_of_ble_eq_true rfl | assumption | (simp only [Int.natCast_add, Int.natCast_mul, Int.cast_ofNat_Int]; omega) | decide) only [k_Md_part_2, x_aload, x_getf, w_goto, w_fall, w_i2l, w_iconst, w_if, x_iload, x_istore, w_isub, w_sipush, zsub_eq, gf_48_10, gf_48_27, ia_67, w_nret r_Md_part, q_eq, q_ne, q_lt, q_ge, q_gt, q_le, g_I, g_L, g_R, g_V, t_0, t_I, t_R, t_U, t_L, t_s, List.getElem?_cons_zero, List.getElem?_cons_succ, Nat.reduceAdd, zif10, zif01b, zib, if_pos, if_neg, ↓reduceIte, not_true_eq_false, not_false_eq_true, Bool.true_eq_false, Bool.false_eq_true, Classical.not_not, eq_self, and_self, and_true, true_and, Int.reduceEq, Int.reduceLE, Int.reduceLT, Int.reduceNeg, Option.toList, List.cons_append, List.nil_append, zup_s, zup_n, zst_s, zup_zs, zup_zn, decide_true, decide_false, hFR.1, c_Md_in, zle1, c1]
    refine c_Md_tell hN hR hL hlt hF hFR (by omega) (Nat.le_of_ble_eq_true rfl) ?_
    rintro _ _ ⟨rfl, H, R, rfl, hW⟩
    have hj : H (j : Int) = zset S (zHp mv tg P lt kd lf rt gp j) := hW.1 j (by omega)
    by_cases c2 : j = 0
    · subst c2
      simp (disch := first | omega | exact Nat.le_of_ble_eq_true rfl | assumption | (simp only [Int.natCast_add, Int.natCast_mul, Int.cast_ofNat_Int]; omega) | decide) only [k_Md_part_3, k_Md_part_5, x_aload, x_getf, w_goto, w_fall, w_i2l, w_iconst, w_if, x_iload, x_istore, w_isub, w_sipush, zsub_eq, gf_48_10, gf_48_27, ia_67, w_nret r_Md_part, q_eq, q_ne, q_lt, q_ge, q_gt, q_le, g_I, g_L, g_R, g_V, t_0, t_I, t_R, t_U, t_L, t_s, List.getElem?_cons_zero, List.getElem?_cons_succ, Nat.reduceAdd, zif10, zif01b, zib, if_pos, if_neg, ↓reduceIte, not_true_eq_false, not_false_eq_true, Bool.true_eq_false, Bool.false_eq_true, Classical.not_not, eq_self, and_self, and_true, true_and, Int.reduceEq, Int.reduceLE, Int.reduceLT, Int.reduceNeg, Option.toList, List.cons_append, List.nil_append, zup_s, zup_n, zst_s, zup_zs, zup_zn, decide_true, decide_false, hans, show ((0 : Nat) : Int) = 0 from rfl]
      exact zScrR_hr H R
    · have c2' : ¬ (j : Int) = 0 := by omega
      simp (disch := first | omega | exact Nat.le_of_ble_eq_true rfl | assumption | (simp only [Int.natCast_add, Int.natCast_mul, Int.cast_ofNat_Int]; omega) | decide) only [k_Md_part_4, k_Md_part_5, x_aload, x_getf, w_goto, w_fall, w_i2l, w_iconst, w_if, x_iload, x_istore, w_isub, w_sipush, zsub_eq, gf_48_10, gf_48_27, ia_67, w_nret r_Md_part, q_eq, q_ne, q_lt, q_ge, q_gt, q_le, g_I, g_L, g_R, g_V, t_0, t_I, t_R, t_U, t_L, t_s, List.getElem?_cons_zero, List.getElem?_cons_succ, Nat.reduceAdd, zif10, zif01b, zib, if_pos, if_neg, ↓reduceIte, not_true_eq_false, not_false_eq_true, Bool.true_eq_false, Bool.false_eq_true, Classical.not_not, eq_self, and_self, and_true, true_and, Int.reduceEq, Int.reduceLE, Int.reduceLT, Int.reduceNeg, Option.toList, List.cons_append, List.nil_append, zup_s, zup_n, zst_s, zup_zs, zup_zn, decide_true, decide_false, zst_n, zst_s, hj, hans, c2']
      exact zScrR_hr H R
  · rw [if_neg c1] at hans
    subst hans
    simp (disch := first | omega | exact Nat.le_of_ble_eq_true rfl | assumption | (simp only [Int.natCast_add, Int.natCast_mul, Int.cast_ofNat_Int]; omega) | decide) only [k_Md_part_1, x_aload, x_getf, w_goto, w_fall, w_i2l, w_iconst, w_if, x_iload, x_istore, w_isub, w_sipush, zsub_eq, gf_48_10, gf_48_27, ia_67, w_nret r_Md_part, q_eq, q_ne, q_lt, q_ge, q_gt, q_le, g_I, g_L, g_R, g_V, t_0, t_I, t_R, t_U, t_L, t_s, List.getElem?_cons_zero, List.getElem?_cons_succ, Nat.reduceAdd, zif10, zif01b, zib, if_pos, if_neg, ↓reduceIte, not_true_eq_false, not_false_eq_true, Bool.true_eq_false, Bool.false_eq_true, Classical.not_not, eq_self, and_self, and_true, true_and, Int.reduceEq, Int.reduceLE, Int.reduceLT, Int.reduceNeg, Option.toList, List.cons_append, List.nil_append, zup_s, zup_n, zst_s, zup_zs, zup_zn, decide_true, decide_false, hFR.1, c_Md_in, zle1, c1]
    exact zScrR_rf _
theorem c_Md_part {d mi o b9 : Nat} {es : List zEnt} {L st : List zMV} {Q : Option zMV → (Nat → Int → Int) → Prop} {k : Int} (hN : zNet S P mv tg) (hR : zNetR S P mv tg M) (hL : zLetR lt M) (hlt : ∀ s, lt s < 256) (hF : zForm P n kd lf rt gp) (hFR : zFormR n kd lf rt gp M) (hd : 8 + 1 ≤ d) (hc : zcats st ≤ 8) (hpost : ∀ r M', (r = some (zI (zPaA S n mv tg P lt kd lf rt gp k)) ∧ zScrR M M') → zW (zSH Ln) d mi es L (r.toList ++ st) M' Q) : zW (zSH Ln) d mi ((.invokevirtual o, 204, b9) :: es) L (zI k :: zR 48 :: st) M Q :=
  w_callv (ps := [zI k]) (by omega) rfl rfl (by omega) (by exact sh_48 Ln) hc (Nat.le_of_ble_eq_true rfl) (F_Md_part hN hR hL hlt hF hFR (by omega)) hpost
theorem F_Md_force {d : Nat} {x g y : Int} (hN : zNet S P mv tg) (hR : zNetR S P mv tg M) (hd : 3 ≤ d) : zF (zSH Ln) d i_Md_force [zR 48, zI x, zI g, zI y] M fun r M' => r = some (zI (zFcA S P mv tg x g y)) ∧ M' = M := by
  rw [zF_en k_Md_force_0 (L := [zR 48, zI x, zI g, zI y]) rfl]
  generalize hans : zFcA S P mv tg x g y = ans
  unfold zFcA at hans
  by_cases c1 : 0 ≤ x ∧ x < S
  · by_cases c2 : 0 ≤ g ∧ g ≤ zset P fun _ => true
    · by_cases c3 : 0 ≤ y ∧ y ≤ zset S fun _ => true
      · rw [if_pos ⟨c1, c2, c3⟩] at hans
        obtain ⟨s, rfl⟩ : ∃ s : Nat, x = (s : Int) := ⟨x.toNat, by omega⟩
        rw [Int.toNat_natCast] at hans
        by_cases c4 : zleast (mv s) (tg s) (zbit g) P (zbit y) < zcnt (mv s) (zbit g) P
        · rw [if_pos c4] at hans
          subst hans
          simp (disch := first | omega | exact Nat.le_of_ble_eq_true rfl | assumption | (simp only [Int.natCast_add, Int.natCast_mul, Int.cast_ofNat_Int]; omega) | decide) only [k_Md_force_1, k_Md_force_2, k_Md_force_3, k_Md_force_4, k_Md_force_7, x_aload, w_goto, w_fall, w_iconst, w_if, x_iload, w_nret r_Md_force, q_eq, q_ne, q_lt, q_ge, q_gt, q_le, g_I, g_L, g_R, g_V, t_0, t_I, t_R, t_U, t_L, t_s, List.getElem?_cons_zero, List.getElem?_cons_succ, Nat.reduceAdd, zif10, zif01b, zib, if_pos, if_neg, ↓reduceIte, not_true_eq_false, not_false_eq_true, Bool.true_eq_false, Bool.false_eq_true, Classical.not_not, eq_self, and_self, and_true, true_and, Int.reduceEq, Int.reduceLE, Int.reduceLT, Int.reduceNeg, Option.toList, List.cons_append, List.nil_append, zup_s, zup_n, zst_s, zup_zs, zup_zn, decide_true, decide_false, c_Md_isState hN hR, c_Md_isGroup hN hR, c_Md_isSet hN hR, c1, c2, c3, c_Md_forces hN hR (show s < S by omega), c4]
        · rw [if_neg c4] at hans
          subst hans
          simp (disch := first | omega | exact Nat.le_of_ble_eq_true rfl | assumption | (simp only [Int.natCast_add, Int.natCast_mul, Int.cast_ofNat_Int]; omega) | decide) only [k_Md_force_1, k_Md_force_2, k_Md_force_3, k_Md_force_5, k_Md_force_7, x_aload, w_goto, w_fall, w_iconst, w_if, x_iload, w_nret r_Md_force, q_eq, q_ne, q_lt, q_ge, q_gt, q_le, g_I, g_L, g_R, g_V, t_0, t_I, t_R, t_U, t_L, t_s, List.getElem?_cons_zero, List.getElem?_cons_succ, Nat.reduceAdd, zif10, zif01b, zib, if_pos, if_neg, ↓reduceIte, not_true_eq_false, not_false_eq_true, Bool.true_eq_false, Bool.false_eq_true, Classical.not_not, eq_self, and_self, and_true, true_and, Int.reduceEq, Int.reduceLE, Int.reduceLT, Int.reduceNeg, Option.toList, List.cons_append, List.nil_append, zup_s, zup_n, zst_s, zup_zs, zup_zn, decide_true, decide_false, c_Md_isState hN hR, c_Md_isGroup hN hR, c_Md_isSet hN hR, c1, c2, c3, c_Md_forces hN hR (show s < S by omega), c4]
      · rw [if_neg (fun z => c3 z.2.2)] at hans
        subst hans
        simp (disch := first | omega | exact Nat.le_of_ble_eq_true rfl | assumption | (simp only [Int.natCast_add, Int.natCast_mul, Int.cast_ofNat_Int]; omega) | decide) only [k_Md_force_1, k_Md_force_2, k_Md_force_6, k_Md_force_7, x_aload, w_goto, w_fall, w_iconst, w_if, x_iload, w_nret r_Md_force, q_eq, q_ne, q_lt, q_ge, q_gt, q_le, g_I, g_L, g_R, g_V, t_0, t_I, t_R, t_U, t_L, t_s, List.getElem?_cons_zero, List.getElem?_cons_succ, Nat.reduceAdd, zif10, zif01b, zib, if_pos, if_neg, ↓reduceIte, not_true_eq_false, not_false_eq_true, Bool.true_eq_false, Bool.false_eq_true, Classical.not_not, eq_self, and_self, and_true, true_and, Int.reduceEq, Int.reduceLE, Int.reduceLT, Int.reduceNeg, Option.toList, List.cons_append, List.nil_append, zup_s, zup_n, zst_s, zup_zs, zup_zn, decide_true, decide_false, c_Md_isState hN hR, c_Md_isGroup hN hR, c_Md_isSet hN hR, c1, c2, c3]
    · rw [if_neg (fun z => c2 z.2.1)] at hans
      subst hans
      simp (disch := first | omega | exact Nat.le_of_ble_eq_true rfl | assumption | (simp only [Int.natCast_add, Int.natCast_mul, Int.cast_ofNat_Int]; omega) | decide) only [k_Md_force_1, k_Md_force_6, k_Md_force_7, x_aload, w_goto, w_fall, w_iconst, w_if, x_iload, w_nret r_Md_force, q_eq, q_ne, q_lt, q_ge, q_gt, q_le, g_I, g_L, g_R, g_V, t_0, t_I, t_R, t_U, t_L, t_s, List.getElem?_cons_zero, List.getElem?_cons_succ, Nat.reduceAdd, zif10, zif01b, zib, if_pos, if_neg, ↓reduceIte, not_true_eq_false, not_false_eq_true, Bool.true_eq_false, Bool.false_eq_true, Classical.not_not, eq_self, and_self, and_true, true_and, Int.reduceEq, Int.reduceLE, Int.reduceLT, Int.reduceNeg, Option.toList, List.cons_append, List.nil_append, zup_s, zup_n, zst_s, zup_zs, zup_zn, decide_true, decide_false, c_Md_isState hN hR, c_Md_isGroup hN hR, c1, c2]
  · rw [if_neg (fun z => c1 z.1)] at hans
    subst hans
    simp (disch := first | omega | exact Nat.le_of_ble_eq_true rfl | assumption | (simp only [Int.natCast_add, Int.natCast_mul, Int.cast_ofNat_Int]; omega) | decide) only [k_Md_force_6, k_Md_force_7, x_aload, w_goto, w_fall, w_iconst, w_if, x_iload, w_nret r_Md_force, q_eq, q_ne, q_lt, q_ge, q_gt, q_le, g_I, g_L, g_R, g_V, t_0, t_I, t_R, t_U, t_L, t_s, List.getElem?_cons_zero, List.getElem?_cons_succ, Nat.reduceAdd, zif10, zif01b, zib, if_pos, if_neg, ↓reduceIte, not_true_eq_false, not_false_eq_true, Bool.true_eq_false, Bool.false_eq_true, Classical.not_not, eq_self, and_self, and_true, true_and, Int.reduceEq, Int.reduceLE, Int.reduceLT, Int.reduceNeg, Option.toList, List.cons_append, List.nil_append, zup_s, zup_n, zst_s, zup_zs, zup_zn, decide_true, decide_false, c_Md_isState hN hR, c1]
theorem c_Md_force {d mi o b9 : Nat} {es : List zEnt} {L st : List zMV} {Q : Option zMV → (Nat → Int → Int) → Prop} {x g y : Int} (hN : zNet S P mv tg) (hR : zNetR S P mv tg M) (hd : 3 + 1 ≤ d) (hc : zcats st ≤ 8) : zW (zSH Ln) d mi ((.invokevirtual o, 187, b9) :: es) L (zI y :: zI g :: zI x :: zR 48 :: st) M Q = zW (zSH Ln) d mi es L (zI (zFcA S P mv tg x g y) :: st) (M) Q :=
  c_virt (ps := [zI x, zI g, zI y]) (by omega) rfl rfl (by omega) (by exact sh_48 Ln) hc (Nat.le_of_ble_eq_true rfl) (F_Md_force hN hR (by omega))
theorem F_Md_round {d : Nat} {x : Int} (hN : zNet S P mv tg) (hR : zNetR S P mv tg M) (hL : zLetR lt M) (hlt : ∀ s, lt s < 256) (hF : zForm P n kd lf rt gp) (hFR : zFormR n kd lf rt gp M) (hd : 8 ≤ d) : zF (zSH Ln) d i_Md_round [zR 48, zI x] M fun r M' => r = some (zI (zRoA S P mv tg lt kd lf rt gp x)) ∧ zScrR M M' := by
  rw [zF_en k_Md_round_0 (L := [zR 48, zI x]) rfl]
  have hS := hN.2.1
  generalize hans : zRoA S P mv tg lt kd lf rt gp x = ans
  unfold zRoA at hans
  by_cases c1 : 0 ≤ x ∧ x < S
  · rw [if_pos c1] at hans
    obtain ⟨s, rfl⟩ : ∃ s : Nat, x = (s : Int) := ⟨x.toNat, by omega⟩
    rw [Int.toNat_natCast] at hans
    by_cases c2 : 7 ≤ kd 0
    · rw [if_pos c2] at hans
      simp (disch := first | omega | exact Nat.le_of_ble_eq_true rfl | assumption | (simp only [Int.natCast_add, Int.natCast_mul, Int.cast_ofNat_Int]; omega) | decide) only [k_Md_round_2, k_Md_round_4, x_aload, x_getf, w_goto, w_fall, w_iand, w_iconst, w_if, w_icmp, x_iload, w_ishr, gf_48_28, ia_68, w_nret r_Md_round, q_eq, q_ne, q_lt, q_ge, q_gt, q_le, g_I, g_L, g_R, g_V, t_0, t_I, t_R, t_U, t_L, t_s, List.getElem?_cons_zero, List.getElem?_cons_succ, Nat.reduceAdd, zif10, zif01b, zib, if_pos, if_neg, ↓reduceIte, not_true_eq_false, not_false_eq_true, Bool.true_eq_false, Bool.false_eq_true, Classical.not_not, eq_self, and_self, and_true, true_and, Int.reduceEq, Int.reduceLE, Int.reduceLT, Int.reduceNeg, Option.toList, List.cons_append, List.nil_append, zup_s, zup_n, zst_s, zup_zs, zup_zn, decide_true, decide_false, c_Md_isState hN hR, c1, c_Md_hasRounds hF hFR, c2]
      refine c_Md_tell hN hR hL hlt hF hFR (by omega) (Nat.le_of_ble_eq_true rfl) ?_
      rintro _ _ ⟨rfl, H, R, rfl, hW⟩
      have hRs : R (s : Int) = zneg4 (zRd mv tg P lt kd lf rt gp s) := hW.2 c2 s (by omega)
      have hiff := zRd_iff (lt := lt) hN hF c2 (show s < S by omega)
      cases hb : zHp mv tg P lt kd lf rt gp 0 s
      · rw [hb, if_neg (by decide)] at hans
        subst hans
        simp (disch := first | omega | exact Nat.le_of_ble_eq_true rfl | assumption | (simp only [Int.natCast_add, Int.natCast_mul, Int.cast_ofNat_Int]; omega) | decide) only [k_Md_round_6, k_Md_round_7, x_aload, x_getf, w_goto, w_fall, w_iand, w_iconst, w_if, w_icmp, x_iload, w_ishr, gf_48_28, ia_68, w_nret r_Md_round, q_eq, q_ne, q_lt, q_ge, q_gt, q_le, g_I, g_L, g_R, g_V, t_0, t_I, t_R, t_U, t_L, t_s, List.getElem?_cons_zero, List.getElem?_cons_succ, Nat.reduceAdd, zif10, zif01b, zib, if_pos, if_neg, ↓reduceIte, not_true_eq_false, not_false_eq_true, Bool.true_eq_false, Bool.false_eq_true, Classical.not_not, eq_self, and_self, and_true, true_and, Int.reduceEq, Int.reduceLE, Int.reduceLT, Int.reduceNeg, Option.toList, List.cons_append, List.nil_append, zup_s, zup_n, zst_s, zup_zs, zup_zn, decide_true, decide_false, zset_has, hb]
        exact zScrR_hr H R
      · rw [zneg4, if_pos (hiff.mp hb)] at hRs
        rw [hb, if_pos rfl] at hans
        subst hans
        simp (disch := first | omega | exact Nat.le_of_ble_eq_true rfl | assumption | (simp only [Int.natCast_add, Int.natCast_mul, Int.cast_ofNat_Int]; omega) | decide) only [k_Md_round_5, k_Md_round_7, x_aload, x_getf, w_goto, w_fall, w_iand, w_iconst, w_if, w_icmp, x_iload, w_ishr, gf_48_28, ia_68, w_nret r_Md_round, q_eq, q_ne, q_lt, q_ge, q_gt, q_le, g_I, g_L, g_R, g_V, t_0, t_I, t_R, t_U, t_L, t_s, List.getElem?_cons_zero, List.getElem?_cons_succ, Nat.reduceAdd, zif10, zif01b, zib, if_pos, if_neg, ↓reduceIte, not_true_eq_false, not_false_eq_true, Bool.true_eq_false, Bool.false_eq_true, Classical.not_not, eq_self, and_self, and_true, true_and, Int.reduceEq, Int.reduceLE, Int.reduceLT, Int.reduceNeg, Option.toList, List.cons_append, List.nil_append, zup_s, zup_n, zst_s, zup_zs, zup_zn, decide_true, decide_false, zset_has, hb, zst_s, hRs]
        exact zScrR_hr H R
    · rw [if_neg c2] at hans
      subst hans
      simp (disch := first | omega | exact Nat.le_of_ble_eq_true rfl | assumption | (simp only [Int.natCast_add, Int.natCast_mul, Int.cast_ofNat_Int]; omega) | decide) only [k_Md_round_2, k_Md_round_3, x_aload, x_getf, w_goto, w_fall, w_iand, w_iconst, w_if, w_icmp, x_iload, w_ishr, gf_48_28, ia_68, w_nret r_Md_round, q_eq, q_ne, q_lt, q_ge, q_gt, q_le, g_I, g_L, g_R, g_V, t_0, t_I, t_R, t_U, t_L, t_s, List.getElem?_cons_zero, List.getElem?_cons_succ, Nat.reduceAdd, zif10, zif01b, zib, if_pos, if_neg, ↓reduceIte, not_true_eq_false, not_false_eq_true, Bool.true_eq_false, Bool.false_eq_true, Classical.not_not, eq_self, and_self, and_true, true_and, Int.reduceEq, Int.reduceLE, Int.reduceLT, Int.reduceNeg, Option.toList, List.cons_append, List.nil_append, zup_s, zup_n, zst_s, zup_zs, zup_zn, decide_true, decide_false, c_Md_isState hN hR, c1, c_Md_hasRounds hF hFR, c2]
      exact zScrR_rf _
  · rw [if_neg c1] at hans
    subst hans
    simp (disch := first | omega | exact Nat.le_of_ble_eq_true rfl | assumption | (simp only [Int.natCast_add, Int.natCast_mul, Int.cast_ofNat_Int]; omega) | decide) only [k_Md_round_1, x_aload, x_getf, w_goto, w_fall, w_iand, w_iconst, w_if, w_icmp, x_iload, w_ishr, gf_48_28, ia_68, w_nret r_Md_round, q_eq, q_ne, q_lt, q_ge, q_gt, q_le, g_I, g_L, g_R, g_V, t_0, t_I, t_R, t_U, t_L, t_s, List.getElem?_cons_zero, List.getElem?_cons_succ, Nat.reduceAdd, zif10, zif01b, zib, if_pos, if_neg, ↓reduceIte, not_true_eq_false, not_false_eq_true, Bool.true_eq_false, Bool.false_eq_true, Classical.not_not, eq_self, and_self, and_true, true_and, Int.reduceEq, Int.reduceLE, Int.reduceLT, Int.reduceNeg, Option.toList, List.cons_append, List.nil_append, zup_s, zup_n, zst_s, zup_zs, zup_zn, decide_true, decide_false, c_Md_isState hN hR, c1]
    exact zScrR_rf _
theorem c_Md_round {d mi o b9 : Nat} {es : List zEnt} {L st : List zMV} {Q : Option zMV → (Nat → Int → Int) → Prop} {x : Int} (hN : zNet S P mv tg) (hR : zNetR S P mv tg M) (hL : zLetR lt M) (hlt : ∀ s, lt s < 256) (hF : zForm P n kd lf rt gp) (hFR : zFormR n kd lf rt gp M) (hd : 8 + 1 ≤ d) (hc : zcats st ≤ 8) (hpost : ∀ r M', (r = some (zI (zRoA S P mv tg lt kd lf rt gp x)) ∧ zScrR M M') → zW (zSH Ln) d mi es L (r.toList ++ st) M' Q) : zW (zSH Ln) d mi ((.invokevirtual o, 207, b9) :: es) L (zI x :: zR 48 :: st) M Q :=
  w_callv (ps := [zI x]) (by omega) rfl rfl (by omega) (by exact sh_48 Ln) hc (Nat.le_of_ble_eq_true rfl) (F_Md_round hN hR hL hlt hF hFR (by omega)) hpost
theorem F_Md_plan {d : Nat} {x : Int} (hN : zNet S P mv tg) (hR : zNetR S P mv tg M) (hL : zLetR lt M) (hlt : ∀ s, lt s < 256) (hF : zForm P n kd lf rt gp) (hFR : zFormR n kd lf rt gp M) (hd : 10 ≤ d) : zF (zSH Ln) d i_Md_plan [zR 48, zI x] M fun r M' => r = some (zI (zPlA S P mv tg lt kd lf rt gp x)) ∧ zScrR M M' := by
  rw [zF_en k_Md_plan_0 (L := [zR 48, zI x]) rfl]
  generalize hans : zPlA S P mv tg lt kd lf rt gp x = ans
  unfold zPlA at hans
  by_cases c1 : 0 ≤ x ∧ x < S
  · rw [if_pos c1] at hans
    obtain ⟨s, rfl⟩ : ∃ s : Nat, x = (s : Int) := ⟨x.toNat, by omega⟩
    rw [Int.toNat_natCast] at hans
    by_cases c2 : 5 ≤ kd 0
    · rw [if_pos c2] at hans
      simp (disch := first | omega | exact Nat.le_of_ble_eq_true rfl | assumption | (simp only [Int.natCast_add, Int.natCast_mul, Int.cast_ofNat_Int]; omega) | decide) only [k_Md_plan_2, k_Md_plan_3, x_aload, w_goto, w_fall, w_iconst, w_if, x_iload, w_nret r_Md_plan, q_eq, q_ne, q_lt, q_ge, q_gt, q_le, g_I, g_L, g_R, g_V, t_0, t_I, t_R, t_U, t_L, t_s, List.getElem?_cons_zero, List.getElem?_cons_succ, Nat.reduceAdd, zif10, zif01b, zib, if_pos, if_neg, ↓reduceIte, not_true_eq_false, not_false_eq_true, Bool.true_eq_false, Bool.false_eq_true, Classical.not_not, eq_self, and_self, and_true, true_and, Int.reduceEq, Int.reduceLE, Int.reduceLT, Int.reduceNeg, Option.toList, List.cons_append, List.nil_append, zup_s, zup_n, zst_s, zup_zs, zup_zn, decide_true, decide_false, c_Md_isState hN hR, c1, c_Md_isOfGroup hF hFR, c2]
      refine c_Md_planOf hN hR hL hlt hF hFR c2 (by omega) (by omega) (Nat.le_of_ble_eq_true rfl) ?_
      rintro _ _ ⟨rfl, H, R, rfl, _⟩
      rw [hans]
      simp (disch := first | omega | exact Nat.le_of_ble_eq_true rfl | assumption | (simp only [Int.natCast_add, Int.natCast_mul, Int.cast_ofNat_Int]; omega) | decide) only [k_Md_plan_5, x_aload, w_goto, w_fall, w_iconst, w_if, x_iload, w_nret r_Md_plan, q_eq, q_ne, q_lt, q_ge, q_gt, q_le, g_I, g_L, g_R, g_V, t_0, t_I, t_R, t_U, t_L, t_s, List.getElem?_cons_zero, List.getElem?_cons_succ, Nat.reduceAdd, zif10, zif01b, zib, if_pos, if_neg, ↓reduceIte, not_true_eq_false, not_false_eq_true, Bool.true_eq_false, Bool.false_eq_true, Classical.not_not, eq_self, and_self, and_true, true_and, Int.reduceEq, Int.reduceLE, Int.reduceLT, Int.reduceNeg, Option.toList, List.cons_append, List.nil_append, zup_s, zup_n, zst_s, zup_zs, zup_zn, decide_true, decide_false]
      exact zScrR_hr H R
    · rw [if_neg c2] at hans
      subst hans
      simp (disch := first | omega | exact Nat.le_of_ble_eq_true rfl | assumption | (simp only [Int.natCast_add, Int.natCast_mul, Int.cast_ofNat_Int]; omega) | decide) only [k_Md_plan_2, k_Md_plan_4, k_Md_plan_5, x_aload, w_goto, w_fall, w_iconst, w_if, x_iload, w_nret r_Md_plan, q_eq, q_ne, q_lt, q_ge, q_gt, q_le, g_I, g_L, g_R, g_V, t_0, t_I, t_R, t_U, t_L, t_s, List.getElem?_cons_zero, List.getElem?_cons_succ, Nat.reduceAdd, zif10, zif01b, zib, if_pos, if_neg, ↓reduceIte, not_true_eq_false, not_false_eq_true, Bool.true_eq_false, Bool.false_eq_true, Classical.not_not, eq_self, and_self, and_true, true_and, Int.reduceEq, Int.reduceLE, Int.reduceLT, Int.reduceNeg, Option.toList, List.cons_append, List.nil_append, zup_s, zup_n, zst_s, zup_zs, zup_zn, decide_true, decide_false, c_Md_isState hN hR, c1, c_Md_isOfGroup hF hFR, c2]
      exact zScrR_rf _
  · rw [if_neg c1] at hans
    subst hans
    simp (disch := first | omega | exact Nat.le_of_ble_eq_true rfl | assumption | (simp only [Int.natCast_add, Int.natCast_mul, Int.cast_ofNat_Int]; omega) | decide) only [k_Md_plan_1, x_aload, w_goto, w_fall, w_iconst, w_if, x_iload, w_nret r_Md_plan, q_eq, q_ne, q_lt, q_ge, q_gt, q_le, g_I, g_L, g_R, g_V, t_0, t_I, t_R, t_U, t_L, t_s, List.getElem?_cons_zero, List.getElem?_cons_succ, Nat.reduceAdd, zif10, zif01b, zib, if_pos, if_neg, ↓reduceIte, not_true_eq_false, not_false_eq_true, Bool.true_eq_false, Bool.false_eq_true, Classical.not_not, eq_self, and_self, and_true, true_and, Int.reduceEq, Int.reduceLE, Int.reduceLT, Int.reduceNeg, Option.toList, List.cons_append, List.nil_append, zup_s, zup_n, zst_s, zup_zs, zup_zn, decide_true, decide_false, c_Md_isState hN hR, c1]
    exact zScrR_rf _
theorem c_Md_plan {d mi o b9 : Nat} {es : List zEnt} {L st : List zMV} {Q : Option zMV → (Nat → Int → Int) → Prop} {x : Int} (hN : zNet S P mv tg) (hR : zNetR S P mv tg M) (hL : zLetR lt M) (hlt : ∀ s, lt s < 256) (hF : zForm P n kd lf rt gp) (hFR : zFormR n kd lf rt gp M) (hd : 10 + 1 ≤ d) (hc : zcats st ≤ 8) (hpost : ∀ r M', (r = some (zI (zPlA S P mv tg lt kd lf rt gp x)) ∧ zScrR M M') → zW (zSH Ln) d mi es L (r.toList ++ st) M' Q) : zW (zSH Ln) d mi ((.invokevirtual o, 210, b9) :: es) L (zI x :: zR 48 :: st) M Q :=
  w_callv (ps := [zI x]) (by omega) rfl rfl (by omega) (by exact sh_48 Ln) hc (Nat.le_of_ble_eq_true rfl) (F_Md_plan hN hR hL hlt hF hFR (by omega)) hpost
theorem F_Md_answer {d : Nat} {x a : Int} (hN : zNet S P mv tg) (hR : zNetR S P mv tg M) (hL : zLetR lt M) (hlt : ∀ s, lt s < 256) (hF : zForm P n kd lf rt gp) (hFR : zFormR n kd lf rt gp M) (hd : 8 ≤ d) : zF (zSH Ln) d i_Md_answer [zR 48, zI x, zI a] M fun r M' => r = some (zI (zAnA S P mv tg lt kd lf rt gp x a)) ∧ zScrR M M' := by
  rw [zF_en k_Md_answer_0 (L := [zR 48, zI x, zI a, zU, zU, zU, zU]) rfl]
  have hS := hN.2.1
  have hP4 := hN.2.2.2.1
  have hn := hF.1
  have hn2 := hF.2.1
  obtain ⟨f1, f2, f3, f4, f5⟩ := hF.2.2 0 hn
  obtain ⟨g1, g2, g3, g4⟩ := hFR.2.1 0 hn
  simp only [show ((0 : Nat) : Int) = 0 from rfl] at g1 g2 g4
  generalize hans : zAnA S P mv tg lt kd lf rt gp x a = ans
  unfold zAnA at hans
  by_cases c1 : 0 ≤ x ∧ x < S
  rotate_left
  · rw [if_neg c1] at hans
    subst hans
    simp (disch := first | omega | exact Nat.le_of_ble_eq_true rfl | assumption | (simp only [Int.natCast_add, Int.natCast_mul, Int.cast_ofNat_Int]; omega) | decide) only [k_Md_answer_1, x_aload, x_getf, w_goto, w_fall, w_i2l, w_iand, w_iconst, w_if, w_icmp, x_iinc, x_iload, w_ishr, x_istore, w_isub, w_sipush, zsub_eq, zadd_eq, gf_48_11, gf_48_12, gf_48_14, gf_48_27, ia_56, ia_57, ia_59, ia_67, w_nret r_Md_answer, q_eq, q_ne, q_lt, q_ge, q_gt, q_le, g_I, g_L, g_R, g_V, t_0, t_I, t_R, t_U, t_L, t_s, List.getElem?_cons_zero, List.getElem?_cons_succ, Nat.reduceAdd, zif10, zif01b, zib, if_pos, if_neg, ↓reduceIte, not_true_eq_false, not_false_eq_true, Bool.true_eq_false, Bool.false_eq_true, Classical.not_not, eq_self, and_self, and_true, true_and, Int.reduceEq, Int.reduceLE, Int.reduceLT, Int.reduceNeg, Option.toList, List.cons_append, List.nil_append, zup_s, zup_n, zst_s, zup_zs, zup_zn, decide_true, decide_false, c_Md_isState hN hR, c1]
    exact zScrR_rf _
  rw [if_pos c1] at hans
  obtain ⟨s, rfl⟩ : ∃ s : Nat, x = (s : Int) := ⟨x.toNat, by omega⟩
  rw [Int.toNat_natCast] at hans
  by_cases c2 : 5 ≤ kd 0
  rotate_left
  · rw [if_neg c2] at hans
    subst hans
    simp (disch := first | omega | exact Nat.le_of_ble_eq_true rfl | assumption | (simp only [Int.natCast_add, Int.natCast_mul, Int.cast_ofNat_Int]; omega) | decide) only [k_Md_answer_2, k_Md_answer_3, x_aload, x_getf, w_goto, w_fall, w_i2l, w_iand, w_iconst, w_if, w_icmp, x_iinc, x_iload, w_ishr, x_istore, w_isub, w_sipush, zsub_eq, zadd_eq, gf_48_11, gf_48_12, gf_48_14, gf_48_27, ia_56, ia_57, ia_59, ia_67, w_nret r_Md_answer, q_eq, q_ne, q_lt, q_ge, q_gt, q_le, g_I, g_L, g_R, g_V, t_0, t_I, t_R, t_U, t_L, t_s, List.getElem?_cons_zero, List.getElem?_cons_succ, Nat.reduceAdd, zif10, zif01b, zib, if_pos, if_neg, ↓reduceIte, not_true_eq_false, not_false_eq_true, Bool.true_eq_false, Bool.false_eq_true, Classical.not_not, eq_self, and_self, and_true, true_and, Int.reduceEq, Int.reduceLE, Int.reduceLT, Int.reduceNeg, Option.toList, List.cons_append, List.nil_append, zup_s, zup_n, zst_s, zup_zs, zup_zn, decide_true, decide_false, c_Md_isState hN hR, c1, c_Md_isOfGroup hF hFR, c2]
    exact zScrR_rf _
  rw [if_pos c2] at hans
  have f3 := f3 (by omega)
  have g2 := g2 (by omega)
  have g4 := g4 c2
  have hm := hN.2.2.2.2.1 s
  have h81 := zcnt_81 hm (znot (zbit (gp 0 : Int))) hP4
  have h81a := zcnt_81 hm (zbit (gp 0 : Int)) hP4
  by_cases c3 : 0 ≤ a ∧ a < zcnt (mv s) (zbit (gp 0 : Int)) P
  rotate_left
  · rw [if_neg c3] at hans
    subst hans
    simp (disch := first | omega | exact Nat.le_of_ble_eq_true rfl | assumption | (simp only [Int.natCast_add, Int.natCast_mul, Int.cast_ofNat_Int]; omega) | decide) only [k_Md_answer_2, k_Md_answer_4, k_Md_answer_5, x_aload, x_getf, w_goto, w_fall, w_i2l, w_iand, w_iconst, w_if, w_icmp, x_iinc, x_iload, w_ishr, x_istore, w_isub, w_sipush, zsub_eq, zadd_eq, gf_48_11, gf_48_12, gf_48_14, gf_48_27, ia_56, ia_57, ia_59, ia_67, w_nret r_Md_answer, q_eq, q_ne, q_lt, q_ge, q_gt, q_le, g_I, g_L, g_R, g_V, t_0, t_I, t_R, t_U, t_L, t_s, List.getElem?_cons_zero, List.getElem?_cons_succ, Nat.reduceAdd, zif10, zif01b, zib, if_pos, if_neg, ↓reduceIte, not_true_eq_false, not_false_eq_true, Bool.true_eq_false, Bool.false_eq_true, Classical.not_not, eq_self, and_self, and_true, true_and, Int.reduceEq, Int.reduceLE, Int.reduceLT, Int.reduceNeg, Option.toList, List.cons_append, List.nil_append, zup_s, zup_n, zst_s, zup_zs, zup_zn, decide_true, decide_false, c_Md_isState hN hR, c1, c_Md_isOfGroup hF hFR, c2, g4, c_Md_jointOf hN hR, c_Md_in, zle1, c3]
    exact zScrR_rf _
  rw [if_pos c3] at hans
  obtain ⟨q, rfl⟩ : ∃ q : Nat, a = (q : Int) := ⟨a.toNat, by omega⟩
  rw [Int.toNat_natCast] at hans
  simp (disch := first | omega | exact Nat.le_of_ble_eq_true rfl | assumption | (simp only [Int.natCast_add, Int.natCast_mul, Int.cast_ofNat_Int]; omega) | decide) only [k_Md_answer_2, k_Md_answer_4, k_Md_answer_6, x_aload, x_getf, w_goto, w_fall, w_i2l, w_iand, w_iconst, w_if, w_icmp, x_iinc, x_iload, w_ishr, x_istore, w_isub, w_sipush, zsub_eq, zadd_eq, gf_48_11, gf_48_12, gf_48_14, gf_48_27, ia_56, ia_57, ia_59, ia_67, w_nret r_Md_answer, q_eq, q_ne, q_lt, q_ge, q_gt, q_le, g_I, g_L, g_R, g_V, t_0, t_I, t_R, t_U, t_L, t_s, List.getElem?_cons_zero, List.getElem?_cons_succ, Nat.reduceAdd, zif10, zif01b, zib, if_pos, if_neg, ↓reduceIte, not_true_eq_false, not_false_eq_true, Bool.true_eq_false, Bool.false_eq_true, Classical.not_not, eq_self, and_self, and_true, true_and, Int.reduceEq, Int.reduceLE, Int.reduceLT, Int.reduceNeg, Option.toList, List.cons_append, List.nil_append, zup_s, zup_n, zst_s, zup_zs, zup_zn, decide_true, decide_false, c_Md_isState hN hR, c1, c_Md_isOfGroup hF hFR, c2, g4, c_Md_jointOf hN hR, c_Md_in, zle1, c3]
  refine c_Md_tell hN hR hL hlt hF hFR (by omega) (Nat.le_of_ble_eq_true rfl) ?_
  rintro _ _ ⟨rfl, H, R, rfl, hW⟩
  have hW1 : H (lf 0 : Int) = zset S (zHp mv tg P lt kd lf rt gp (lf 0)) := hW.1 (lf 0) f3.2
  have hR1 : zNetR S P mv tg (zst (zst M 67 H) 68 R) := hR
  have fin : ∀ X : Nat → Bool, zAns (mv s) (tg s) (zbit (gp 0 : Int)) P X q = ans → zW (zSH Ln) d i_Md_answer (zblk i_Md_answer 9) [zR 48, zI (s : Int), zI (q : Int), zI (zset S (zHp mv tg P lt kd lf rt gp 0)), zU, zU, zU] [zI (zset S X)] (zst (zst M 67 H) 68 R) fun r M' => r = some (zI ans) ∧ zScrR M M' := by
    intro X hX
    rw [k_Md_answer_9]
    simp (disch := first | omega | exact Nat.le_of_ble_eq_true rfl | assumption | (simp only [Int.natCast_add, Int.natCast_mul, Int.cast_ofNat_Int]; omega) | decide) only [x_aload, x_getf, w_goto, w_fall, w_i2l, w_iand, w_iconst, w_if, w_icmp, x_iinc, x_iload, w_ishr, x_istore, w_isub, w_sipush, zsub_eq, zadd_eq, gf_48_11, gf_48_12, gf_48_14, gf_48_27, ia_56, ia_57, ia_59, ia_67, w_nret r_Md_answer, q_eq, q_ne, q_lt, q_ge, q_gt, q_le, g_I, g_L, g_R, g_V, t_0, t_I, t_R, t_U, t_L, t_s, List.getElem?_cons_zero, List.getElem?_cons_succ, Nat.reduceAdd, zif10, zif01b, zib, if_pos, if_neg, ↓reduceIte, not_true_eq_false, not_false_eq_true, Bool.true_eq_false, Bool.false_eq_true, Classical.not_not, eq_self, and_self, and_true, true_and, Int.reduceEq, Int.reduceLE, Int.reduceLT, Int.reduceNeg, Option.toList, List.cons_append, List.nil_append, zup_s, zup_n, zst_s, zup_zs, zup_zn, decide_true, decide_false, zst_n, g4, c_Md_others hN hR1, c_Md_jointOf hN hR1, zoth hP4]
    refine zfor (a := 0) (N := (zcnt (mv s) (znot (zbit (gp 0 : Int))) P)) (b := 10) (fun p L0 M0 => L0 = [zR 48, zI (s : Int), zI (q : Int), zI (zset S (zHp mv tg P lt kd lf rt gp 0)), zI (zset S X), zI (zcnt (mv s) (znot (zbit (gp 0 : Int))) P : Int), zI (p : Int)] ∧ M0 = zst (zst M 67 H) 68 R ∧ (∀ i, i < p → (!X (tg s (zcomb (mv s) (zbit (gp 0 : Int)) P q i))) = false)) ?_ ?_ ?_ ?_
    · exact Nat.zero_le _
    · exact ⟨rfl, rfl, fun i hi => by omega⟩
    · rintro p _ _ _ hp ⟨rfl, rfl, hno⟩ ih
      have htt := zNet_t hN (show s < S by omega) _ (zcomb_lt hm (zbit (gp 0 : Int)) P q p)
      rw [k_Md_answer_10]
      cases hx : X (tg s (zcomb (mv s) (zbit (gp 0 : Int)) P q p))
      · have e := zfst_is (f := fun b => !X (tg s (zcomb (mv s) (zbit (gp 0 : Int)) P q b))) hp (by simp only [hx, Bool.not_false]) hno
        have hXp : ans = (p : Int) := by rw [← hX]; unfold zAns; rw [e, if_pos hp]
        simp (disch := first | omega | exact Nat.le_of_ble_eq_true rfl | assumption | (simp only [Int.natCast_add, Int.natCast_mul, Int.cast_ofNat_Int]; omega) | decide) only [k_Md_answer_11, k_Md_answer_12, x_aload, x_getf, w_goto, w_fall, w_i2l, w_iand, w_iconst, w_if, w_icmp, x_iinc, x_iload, w_ishr, x_istore, w_isub, w_sipush, zsub_eq, zadd_eq, gf_48_11, gf_48_12, gf_48_14, gf_48_27, ia_56, ia_57, ia_59, ia_67, w_nret r_Md_answer, q_eq, q_ne, q_lt, q_ge, q_gt, q_le, g_I, g_L, g_R, g_V, t_0, t_I, t_R, t_U, t_L, t_s, List.getElem?_cons_zero, List.getElem?_cons_succ, Nat.reduceAdd, zif10, zif01b, zib, if_pos, if_neg, ↓reduceIte, not_true_eq_false, not_false_eq_true, Bool.true_eq_false, Bool.false_eq_true, Classical.not_not, eq_self, and_self, and_true, true_and, Int.reduceEq, Int.reduceLE, Int.reduceLT, Int.reduceNeg, Option.toList, List.cons_append, List.nil_append, zup_s, zup_n, zst_s, zup_zs, zup_zn, decide_true, decide_false, zst_n, g4, c_Md_leadsBy hN hR1, zset_has, hx, hXp]
        exact zScrR_hr H R
      · simp (disch := first | omega | exact Nat.le_of_ble_eq_true rfl | assumption | (simp only [Int.natCast_add, Int.natCast_mul, Int.cast_ofNat_Int]; omega) | decide) only [k_Md_answer_11, k_Md_answer_13, x_aload, x_getf, w_goto, w_fall, w_i2l, w_iand, w_iconst, w_if, w_icmp, x_iinc, x_iload, w_ishr, x_istore, w_isub, w_sipush, zsub_eq, zadd_eq, gf_48_11, gf_48_12, gf_48_14, gf_48_27, ia_56, ia_57, ia_59, ia_67, w_nret r_Md_answer, q_eq, q_ne, q_lt, q_ge, q_gt, q_le, g_I, g_L, g_R, g_V, t_0, t_I, t_R, t_U, t_L, t_s, List.getElem?_cons_zero, List.getElem?_cons_succ, Nat.reduceAdd, zif10, zif01b, zib, if_pos, if_neg, ↓reduceIte, not_true_eq_false, not_false_eq_true, Bool.true_eq_false, Bool.false_eq_true, Classical.not_not, eq_self, and_self, and_true, true_and, Int.reduceEq, Int.reduceLE, Int.reduceLT, Int.reduceNeg, Option.toList, List.cons_append, List.nil_append, zup_s, zup_n, zst_s, zup_zs, zup_zn, decide_true, decide_false, zst_n, g4, c_Md_leadsBy hN hR1, zset_has, hx]
        refine ih _ _ ⟨rfl, rfl, fun i hi => ?_⟩
        by_cases e : i = p
        · subst e; simp [hx]
        · exact hno i (by omega)
    · rintro _ _ ⟨rfl, rfl, hno⟩
      have e := zfst_none hno
      have hXp : ans = -4 := by rw [← hX]; unfold zAns; rw [e, if_neg (Nat.lt_irrefl _)]
      rw [k_Md_answer_10]
      simp (disch := first | omega | exact Nat.le_of_ble_eq_true rfl | assumption | (simp only [Int.natCast_add, Int.natCast_mul, Int.cast_ofNat_Int]; omega) | decide) only [k_Md_answer_14, x_aload, x_getf, w_goto, w_fall, w_i2l, w_iand, w_iconst, w_if, w_icmp, x_iinc, x_iload, w_ishr, x_istore, w_isub, w_sipush, zsub_eq, zadd_eq, gf_48_11, gf_48_12, gf_48_14, gf_48_27, ia_56, ia_57, ia_59, ia_67, w_nret r_Md_answer, q_eq, q_ne, q_lt, q_ge, q_gt, q_le, g_I, g_L, g_R, g_V, t_0, t_I, t_R, t_U, t_L, t_s, List.getElem?_cons_zero, List.getElem?_cons_succ, Nat.reduceAdd, zif10, zif01b, zib, if_pos, if_neg, ↓reduceIte, not_true_eq_false, not_false_eq_true, Bool.true_eq_false, Bool.false_eq_true, Classical.not_not, eq_self, and_self, and_true, true_and, Int.reduceEq, Int.reduceLE, Int.reduceLT, Int.reduceNeg, Option.toList, List.cons_append, List.nil_append, zup_s, zup_n, zst_s, zup_zs, zup_zn, decide_true, decide_false, hXp]
      exact zScrR_hr H R
  by_cases e : kd 0 = 5
  · have g1 : M 56 0 = 5 := by rw [g1, e]; rfl
    rw [if_pos e] at hans
    simp (disch := first | omega | exact Nat.le_of_ble_eq_true rfl | assumption | (simp only [Int.natCast_add, Int.natCast_mul, Int.cast_ofNat_Int]; omega) | decide) only [k_Md_answer_7, x_aload, x_getf, w_goto, w_fall, w_i2l, w_iand, w_iconst, w_if, w_icmp, x_iinc, x_iload, w_ishr, x_istore, w_isub, w_sipush, zsub_eq, zadd_eq, gf_48_11, gf_48_12, gf_48_14, gf_48_27, ia_56, ia_57, ia_59, ia_67, w_nret r_Md_answer, q_eq, q_ne, q_lt, q_ge, q_gt, q_le, g_I, g_L, g_R, g_V, t_0, t_I, t_R, t_U, t_L, t_s, List.getElem?_cons_zero, List.getElem?_cons_succ, Nat.reduceAdd, zif10, zif01b, zib, if_pos, if_neg, ↓reduceIte, not_true_eq_false, not_false_eq_true, Bool.true_eq_false, Bool.false_eq_true, Classical.not_not, eq_self, and_self, and_true, true_and, Int.reduceEq, Int.reduceLE, Int.reduceLT, Int.reduceNeg, Option.toList, List.cons_append, List.nil_append, zup_s, zup_n, zst_s, zup_zs, zup_zn, decide_true, decide_false, zst_n, zst_s, g1, g2, hW1]
    exact fin _ hans
  · have g1 : ¬ M 56 0 = 5 := by
      rw [g1]; unfold zkr; split
      · omega
      · split <;> omega
    rw [if_neg e] at hans
    simp (disch := first | omega | exact Nat.le_of_ble_eq_true rfl | assumption | (simp only [Int.natCast_add, Int.natCast_mul, Int.cast_ofNat_Int]; omega) | decide) only [k_Md_answer_8, x_aload, x_getf, w_goto, w_fall, w_i2l, w_iand, w_iconst, w_if, w_icmp, x_iinc, x_iload, w_ishr, x_istore, w_isub, w_sipush, zsub_eq, zadd_eq, gf_48_11, gf_48_12, gf_48_14, gf_48_27, ia_56, ia_57, ia_59, ia_67, w_nret r_Md_answer, q_eq, q_ne, q_lt, q_ge, q_gt, q_le, g_I, g_L, g_R, g_V, t_0, t_I, t_R, t_U, t_L, t_s, List.getElem?_cons_zero, List.getElem?_cons_succ, Nat.reduceAdd, zif10, zif01b, zib, if_pos, if_neg, ↓reduceIte, not_true_eq_false, not_false_eq_true, Bool.true_eq_false, Bool.false_eq_true, Classical.not_not, eq_self, and_self, and_true, true_and, Int.reduceEq, Int.reduceLE, Int.reduceLT, Int.reduceNeg, Option.toList, List.cons_append, List.nil_append, zup_s, zup_n, zst_s, zup_zs, zup_zn, decide_true, decide_false, zst_n, g1]
    exact fin _ hans
theorem c_Md_answer {d mi o b9 : Nat} {es : List zEnt} {L st : List zMV} {Q : Option zMV → (Nat → Int → Int) → Prop} {x a : Int} (hN : zNet S P mv tg) (hR : zNetR S P mv tg M) (hL : zLetR lt M) (hlt : ∀ s, lt s < 256) (hF : zForm P n kd lf rt gp) (hFR : zFormR n kd lf rt gp M) (hd : 8 + 1 ≤ d) (hc : zcats st ≤ 8) (hpost : ∀ r M', (r = some (zI (zAnA S P mv tg lt kd lf rt gp x a)) ∧ zScrR M M') → zW (zSH Ln) d mi es L (r.toList ++ st) M' Q) : zW (zSH Ln) d mi ((.invokevirtual o, 211, b9) :: es) L (zI a :: zI x :: zR 48 :: st) M Q :=
  w_callv (ps := [zI x, zI a]) (by omega) rfl rfl (by omega) (by exact sh_48 Ln) hc (Nat.le_of_ble_eq_true rfl) (F_Md_answer hN hR hL hlt hF hFR (by omega)) hpost
theorem F_Md_joint {d : Nat} {x g : Int} (hN : zNet S P mv tg) (hR : zNetR S P mv tg M) (hd : 2 ≤ d) : zF (zSH Ln) d i_Md_joint [zR 48, zI x, zI g] M fun r M' => r = some (zI (zJoA S P mv x g)) ∧ M' = M := by
  rw [zF_en k_Md_joint_0 (L := [zR 48, zI x, zI g]) rfl]
  have hS := hN.2.1
  generalize hans : zJoA S P mv x g = ans
  unfold zJoA at hans
  by_cases c1 : 0 ≤ x ∧ x < S
  · by_cases c2 : 0 ≤ g ∧ g ≤ zset P fun _ => true
    · rw [if_pos ⟨c1, c2⟩] at hans
      obtain ⟨s, rfl⟩ : ∃ s : Nat, x = (s : Int) := ⟨x.toNat, by omega⟩
      rw [Int.toNat_natCast] at hans
      subst hans
      simp (disch := first | omega | exact Nat.le_of_ble_eq_true rfl | assumption | (simp only [Int.natCast_add, Int.natCast_mul, Int.cast_ofNat_Int]; omega) | decide) only [k_Md_joint_1, k_Md_joint_2, k_Md_joint_4, x_aload, w_goto, w_fall, w_iconst, w_if, x_iload, w_nret r_Md_joint, q_eq, q_ne, q_lt, q_ge, q_gt, q_le, g_I, g_L, g_R, g_V, t_0, t_I, t_R, t_U, t_L, t_s, List.getElem?_cons_zero, List.getElem?_cons_succ, Nat.reduceAdd, zif10, zif01b, zib, if_pos, if_neg, ↓reduceIte, not_true_eq_false, not_false_eq_true, Bool.true_eq_false, Bool.false_eq_true, Classical.not_not, eq_self, and_self, and_true, true_and, Int.reduceEq, Int.reduceLE, Int.reduceLT, Int.reduceNeg, Option.toList, List.cons_append, List.nil_append, zup_s, zup_n, zst_s, zup_zs, zup_zn, decide_true, decide_false, c_Md_isState hN hR, c_Md_isGroup hN hR, c1, c2, c_Md_jointOf hN hR]
    · rw [if_neg (fun z => c2 z.2)] at hans
      subst hans
      simp (disch := first | omega | exact Nat.le_of_ble_eq_true rfl | assumption | (simp only [Int.natCast_add, Int.natCast_mul, Int.cast_ofNat_Int]; omega) | decide) only [k_Md_joint_1, k_Md_joint_3, k_Md_joint_4, x_aload, w_goto, w_fall, w_iconst, w_if, x_iload, w_nret r_Md_joint, q_eq, q_ne, q_lt, q_ge, q_gt, q_le, g_I, g_L, g_R, g_V, t_0, t_I, t_R, t_U, t_L, t_s, List.getElem?_cons_zero, List.getElem?_cons_succ, Nat.reduceAdd, zif10, zif01b, zib, if_pos, if_neg, ↓reduceIte, not_true_eq_false, not_false_eq_true, Bool.true_eq_false, Bool.false_eq_true, Classical.not_not, eq_self, and_self, and_true, true_and, Int.reduceEq, Int.reduceLE, Int.reduceLT, Int.reduceNeg, Option.toList, List.cons_append, List.nil_append, zup_s, zup_n, zst_s, zup_zs, zup_zn, decide_true, decide_false, c_Md_isState hN hR, c_Md_isGroup hN hR, c1, c2]
  · rw [if_neg (fun z => c1 z.1)] at hans
    subst hans
    simp (disch := first | omega | exact Nat.le_of_ble_eq_true rfl | assumption | (simp only [Int.natCast_add, Int.natCast_mul, Int.cast_ofNat_Int]; omega) | decide) only [k_Md_joint_3, k_Md_joint_4, x_aload, w_goto, w_fall, w_iconst, w_if, x_iload, w_nret r_Md_joint, q_eq, q_ne, q_lt, q_ge, q_gt, q_le, g_I, g_L, g_R, g_V, t_0, t_I, t_R, t_U, t_L, t_s, List.getElem?_cons_zero, List.getElem?_cons_succ, Nat.reduceAdd, zif10, zif01b, zib, if_pos, if_neg, ↓reduceIte, not_true_eq_false, not_false_eq_true, Bool.true_eq_false, Bool.false_eq_true, Classical.not_not, eq_self, and_self, and_true, true_and, Int.reduceEq, Int.reduceLE, Int.reduceLT, Int.reduceNeg, Option.toList, List.cons_append, List.nil_append, zup_s, zup_n, zst_s, zup_zs, zup_zn, decide_true, decide_false, c_Md_isState hN hR, c1]
theorem c_Md_joint {d mi o b9 : Nat} {es : List zEnt} {L st : List zMV} {Q : Option zMV → (Nat → Int → Int) → Prop} {x g : Int} (hN : zNet S P mv tg) (hR : zNetR S P mv tg M) (hd : 2 + 1 ≤ d) (hc : zcats st ≤ 8) : zW (zSH Ln) d mi ((.invokevirtual o, 177, b9) :: es) L (zI g :: zI x :: zR 48 :: st) M Q = zW (zSH Ln) d mi es L (zI (zJoA S P mv x g) :: st) (M) Q :=
  c_virt (ps := [zI x, zI g]) (by omega) rfl rfl (by omega) (by exact sh_48 Ln) hc (Nat.le_of_ble_eq_true rfl) (F_Md_joint hN hR (by omega))
theorem F_Md_leads {d : Nat} {x a : Int} (hN : zNet S P mv tg) (hR : zNetR S P mv tg M) (hd : 3 ≤ d) : zF (zSH Ln) d i_Md_leads [zR 48, zI x, zI a] M fun r M' => r = some (zI (zLeA S P mv tg x a)) ∧ M' = M := by
  rw [zF_en k_Md_leads_0 (L := [zR 48, zI x, zI a]) rfl]
  have hS := hN.2.1
  have hP4 := hN.2.2.2.1
  generalize hans : zLeA S P mv tg x a = ans
  unfold zLeA at hans
  by_cases c1 : (0 ≤ x ∧ x < S) ∧ 0 ≤ a ∧ a < zcnt (mv x.toNat) zall1 P
  · rw [if_pos c1] at hans
    obtain ⟨s, rfl⟩ : ∃ s : Nat, x = (s : Int) := ⟨x.toNat, by omega⟩
    obtain ⟨q, rfl⟩ : ∃ q : Nat, a = (q : Int) := ⟨a.toNat, by omega⟩
    have h81 := zcnt_81 (hN.2.2.2.2.1 s) zall1 hP4
    simp only [Int.toNat_natCast] at hans c1
    have ht := hR.2.2.2 s q (by omega) (by omega)
    subst hans
    simp (disch := first | omega | exact Nat.le_of_ble_eq_true rfl | assumption | (simp only [Int.natCast_add, Int.natCast_mul, Int.cast_ofNat_Int]; omega) | decide) only [k_Md_leads_1, k_Md_leads_3, x_aload, x_getf, w_goto, w_fall, w_iadd, w_iconst, w_if, x_iload, w_imul, zadd_eq, zmul_eq, gf_48_3, ia_50, w_nret r_Md_leads, q_eq, q_ne, q_lt, q_ge, q_gt, q_le, g_I, g_L, g_R, g_V, t_0, t_I, t_R, t_U, t_L, t_s, List.getElem?_cons_zero, List.getElem?_cons_succ, Nat.reduceAdd, zif10, zif01b, zib, if_pos, if_neg, ↓reduceIte, not_true_eq_false, not_false_eq_true, Bool.true_eq_false, Bool.false_eq_true, Classical.not_not, eq_self, and_self, and_true, true_and, Int.reduceEq, Int.reduceLE, Int.reduceLT, Int.reduceNeg, Option.toList, List.cons_append, List.nil_append, zup_s, zup_n, zst_s, zup_zs, zup_zn, decide_true, decide_false, c_Md_isMove hN hR, c1, ht, Int.toNat_natCast]
  · rw [if_neg c1] at hans
    subst hans
    simp (disch := first | omega | exact Nat.le_of_ble_eq_true rfl | assumption | (simp only [Int.natCast_add, Int.natCast_mul, Int.cast_ofNat_Int]; omega) | decide) only [k_Md_leads_2, k_Md_leads_3, x_aload, x_getf, w_goto, w_fall, w_iadd, w_iconst, w_if, x_iload, w_imul, zadd_eq, zmul_eq, gf_48_3, ia_50, w_nret r_Md_leads, q_eq, q_ne, q_lt, q_ge, q_gt, q_le, g_I, g_L, g_R, g_V, t_0, t_I, t_R, t_U, t_L, t_s, List.getElem?_cons_zero, List.getElem?_cons_succ, Nat.reduceAdd, zif10, zif01b, zib, if_pos, if_neg, ↓reduceIte, not_true_eq_false, not_false_eq_true, Bool.true_eq_false, Bool.false_eq_true, Classical.not_not, eq_self, and_self, and_true, true_and, Int.reduceEq, Int.reduceLE, Int.reduceLT, Int.reduceNeg, Option.toList, List.cons_append, List.nil_append, zup_s, zup_n, zst_s, zup_zs, zup_zn, decide_true, decide_false, c_Md_isMove hN hR, c1]
theorem c_Md_leads {d mi o b9 : Nat} {es : List zEnt} {L st : List zMV} {Q : Option zMV → (Nat → Int → Int) → Prop} {x a : Int} (hN : zNet S P mv tg) (hR : zNetR S P mv tg M) (hd : 3 + 1 ≤ d) (hc : zcats st ≤ 8) : zW (zSH Ln) d mi ((.invokevirtual o, 180, b9) :: es) L (zI a :: zI x :: zR 48 :: st) M Q = zW (zSH Ln) d mi es L (zI (zLeA S P mv tg x a) :: st) (M) Q :=
  c_virt (ps := [zI x, zI a]) (by omega) rfl rfl (by omega) (by exact sh_48 Ln) hc (Nat.le_of_ble_eq_true rfl) (F_Md_leads hN hR (by omega))
theorem F_Md_count {d : Nat} {w : Int} (hN : zNet S P mv tg) (hR : zNetR S P mv tg M) (hFR : M 48 10 = n) (hd : 1 ≤ d) : zF (zSH Ln) d i_Md_count [zR 48, zI w] M fun r M' => r = some (zI (zCoA S P n mv w)) ∧ M' = M := by
  rw [zF_en k_Md_count_0 (L := [zR 48, zI w]) rfl]
  by_cases c0 : w = 0
  · subst c0
    simp (disch := first | omega | exact Nat.le_of_ble_eq_true rfl | assumption | (simp only [Int.natCast_add, Int.natCast_mul, Int.cast_ofNat_Int]; omega) | decide) only [k_Md_count_1, x_aload, x_getf, w_iconst, x_iload, w_tsw, gf_48_0, gf_48_1, gf_48_10, w_nret r_Md_count, q_eq, q_ne, q_lt, q_ge, q_gt, q_le, g_I, g_L, g_R, g_V, t_0, t_I, t_R, t_U, t_L, t_s, List.getElem?_cons_zero, List.getElem?_cons_succ, Nat.reduceAdd, zif10, zif01b, zib, if_pos, if_neg, ↓reduceIte, not_true_eq_false, not_false_eq_true, Bool.true_eq_false, Bool.false_eq_true, Classical.not_not, eq_self, and_self, and_true, true_and, Int.reduceEq, Int.reduceLE, Int.reduceLT, Int.reduceNeg, Option.toList, List.cons_append, List.nil_append, zup_s, zup_n, zst_s, zup_zs, zup_zn, decide_true, decide_false, w_tsw, show ztsw (Int.toNat 5) (0) (3) #[1, 2, 3, 4] (0) = 1 from rfl, hR.1]
    rfl
  · by_cases c1 : w = 1
    · subst c1
      simp (disch := first | omega | exact Nat.le_of_ble_eq_true rfl | assumption | (simp only [Int.natCast_add, Int.natCast_mul, Int.cast_ofNat_Int]; omega) | decide) only [k_Md_count_2, x_aload, x_getf, w_iconst, x_iload, w_tsw, gf_48_0, gf_48_1, gf_48_10, w_nret r_Md_count, q_eq, q_ne, q_lt, q_ge, q_gt, q_le, g_I, g_L, g_R, g_V, t_0, t_I, t_R, t_U, t_L, t_s, List.getElem?_cons_zero, List.getElem?_cons_succ, Nat.reduceAdd, zif10, zif01b, zib, if_pos, if_neg, ↓reduceIte, not_true_eq_false, not_false_eq_true, Bool.true_eq_false, Bool.false_eq_true, Classical.not_not, eq_self, and_self, and_true, true_and, Int.reduceEq, Int.reduceLE, Int.reduceLT, Int.reduceNeg, Option.toList, List.cons_append, List.nil_append, zup_s, zup_n, zst_s, zup_zs, zup_zn, decide_true, decide_false, w_tsw, show ztsw (Int.toNat 5) (0) (3) #[1, 2, 3, 4] (1) = 2 from rfl, hR.2.1]
      rfl
    · by_cases c2 : w = 2
      · subst c2
        simp (disch := first | omega | exact Nat.le_of_ble_eq_true rfl | assumption | (simp only [Int.natCast_add, Int.natCast_mul, Int.cast_ofNat_Int]; omega) | decide) only [k_Md_count_3, x_aload, x_getf, w_iconst, x_iload, w_tsw, gf_48_0, gf_48_1, gf_48_10, w_nret r_Md_count, q_eq, q_ne, q_lt, q_ge, q_gt, q_le, g_I, g_L, g_R, g_V, t_0, t_I, t_R, t_U, t_L, t_s, List.getElem?_cons_zero, List.getElem?_cons_succ, Nat.reduceAdd, zif10, zif01b, zib, if_pos, if_neg, ↓reduceIte, not_true_eq_false, not_false_eq_true, Bool.true_eq_false, Bool.false_eq_true, Classical.not_not, eq_self, and_self, and_true, true_and, Int.reduceEq, Int.reduceLE, Int.reduceLT, Int.reduceNeg, Option.toList, List.cons_append, List.nil_append, zup_s, zup_n, zst_s, zup_zs, zup_zn, decide_true, decide_false, w_tsw, show ztsw (Int.toNat 5) (0) (3) #[1, 2, 3, 4] (2) = 3 from rfl, hFR]
        rfl
      · by_cases c3 : w = 3
        · subst c3
          simp (disch := first | omega | exact Nat.le_of_ble_eq_true rfl | assumption | (simp only [Int.natCast_add, Int.natCast_mul, Int.cast_ofNat_Int]; omega) | decide) only [k_Md_count_4, x_aload, x_getf, w_iconst, x_iload, w_tsw, gf_48_0, gf_48_1, gf_48_10, w_nret r_Md_count, q_eq, q_ne, q_lt, q_ge, q_gt, q_le, g_I, g_L, g_R, g_V, t_0, t_I, t_R, t_U, t_L, t_s, List.getElem?_cons_zero, List.getElem?_cons_succ, Nat.reduceAdd, zif10, zif01b, zib, if_pos, if_neg, ↓reduceIte, not_true_eq_false, not_false_eq_true, Bool.true_eq_false, Bool.false_eq_true, Classical.not_not, eq_self, and_self, and_true, true_and, Int.reduceEq, Int.reduceLE, Int.reduceLT, Int.reduceNeg, Option.toList, List.cons_append, List.nil_append, zup_s, zup_n, zst_s, zup_zs, zup_zn, decide_true, decide_false, w_tsw, show ztsw (Int.toNat 5) (0) (3) #[1, 2, 3, 4] (3) = 4 from rfl, c_Md_plansOfAll hN hR]
          rfl
        · have e : ztsw (Int.toNat 5) 0 3 #[1, 2, 3, 4] w = 5 := by
            unfold ztsw
            rw [if_pos (by omega)]; rfl
          simp (disch := first | omega | exact Nat.le_of_ble_eq_true rfl | assumption | (simp only [Int.natCast_add, Int.natCast_mul, Int.cast_ofNat_Int]; omega) | decide) only [k_Md_count_5, x_aload, x_getf, w_iconst, x_iload, w_tsw, gf_48_0, gf_48_1, gf_48_10, w_nret r_Md_count, q_eq, q_ne, q_lt, q_ge, q_gt, q_le, g_I, g_L, g_R, g_V, t_0, t_I, t_R, t_U, t_L, t_s, List.getElem?_cons_zero, List.getElem?_cons_succ, Nat.reduceAdd, zif10, zif01b, zib, if_pos, if_neg, ↓reduceIte, not_true_eq_false, not_false_eq_true, Bool.true_eq_false, Bool.false_eq_true, Classical.not_not, eq_self, and_self, and_true, true_and, Int.reduceEq, Int.reduceLE, Int.reduceLT, Int.reduceNeg, Option.toList, List.cons_append, List.nil_append, zup_s, zup_n, zst_s, zup_zs, zup_zn, decide_true, decide_false, w_tsw, e]
          unfold zCoA
          rw [if_neg c0, if_neg c1, if_neg c2, if_neg c3]
theorem c_Md_count {d mi o b9 : Nat} {es : List zEnt} {L st : List zMV} {Q : Option zMV → (Nat → Int → Int) → Prop} {w : Int} (hN : zNet S P mv tg) (hR : zNetR S P mv tg M) (hFR : M 48 10 = n) (hd : 1 + 1 ≤ d) (hc : zcats st ≤ 8) : zW (zSH Ln) d mi ((.invokevirtual o, 257, b9) :: es) L (zI w :: zR 48 :: st) M Q = zW (zSH Ln) d mi es L (zI (zCoA S P n mv w) :: st) (M) Q :=
  c_virt (ps := [zI w]) (by omega) rfl rfl (by omega) (by exact sh_48 Ln) hc (Nat.le_of_ble_eq_true rfl) (F_Md_count hN hR hFR (by omega))
end RE
