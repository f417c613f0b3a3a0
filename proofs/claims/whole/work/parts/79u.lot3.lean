/-! chances: the class's equations -/
def zEc (c : Nat → Nat → Nat) (r s : Nat) : Bool := decide (0 < c s r)
/-- the open states in a row, but one -/
def zOl (X : Nat → Bool) (l : Nat) : Nat → List Nat
  | 0 => []
  | n + 1 => if X n = true ∧ n ≠ l then zOl X l n ++ [n] else zOl X l n
theorem zOl_len {X : Nat → Bool} {l : Nat} : ∀ n, (zOl X l n).length ≤ n ∧ (l < n → (zOl X l n).length + 1 ≤ n)
  | 0 => ⟨Nat.le_refl _, fun h => by omega⟩
  | n + 1 => by
    obtain ⟨h1, h2⟩ := zOl_len (X := X) (l := l) n
    unfold zOl
    split
    · next h =>
      rw [List.length_append]
      simp only [List.length_cons, List.length_nil]
      exact ⟨by omega, fun h3 => by have := h2 (by omega); omega⟩
    · exact ⟨by omega, fun h3 => by omega⟩
theorem zOl_mem {X : Nat → Bool} {l x : Nat} : ∀ n, x ∈ zOl X l n ↔ x < n ∧ X x = true ∧ x ≠ l
  | 0 => by simp [zOl]
  | n + 1 => by
    have ih := zOl_mem (X := X) (l := l) (x := x) n
    unfold zOl
    split
    · next h =>
      rw [List.mem_append, List.mem_singleton, ih]
      constructor
      · rintro (h1 | rfl)
        · exact ⟨by omega, h1.2⟩
        · exact ⟨by omega, h⟩
      · rintro ⟨h1, h2, h3⟩
        by_cases e : x = n
        · exact Or.inr e
        · exact Or.inl ⟨by omega, h2, h3⟩
    · next h =>
      rw [ih]
      constructor
      · rintro ⟨h1, h2⟩; exact ⟨by omega, h2⟩
      · rintro ⟨h1, h2, h3⟩
        by_cases e : x = n
        · subst e; exact absurd ⟨h2, h3⟩ h
        · exact ⟨by omega, h2, h3⟩
theorem zOl_nd {X : Nat → Bool} {l : Nat} : ∀ n, (zOl X l n).Nodup
  | 0 => List.nodup_nil
  | n + 1 => by
    have ih := zOl_nd (X := X) (l := l) n
    unfold zOl
    split
    · rw [List.nodup_append]
      refine ⟨ih, by simp, fun a ha b hb => ?_⟩
      rw [List.mem_singleton] at hb
      have := (zOl_mem n).mp ha
      omega
    · exact ih
def zOrd (S : Nat) (X : Nat → Bool) (l : Nat) : List Nat := zOl X l S ++ [l]
theorem zOrd_len {S : Nat} {X : Nat → Bool} {l : Nat} (hl : l < S) : (zOrd S X l).length ≤ S ∧ (zOrd S X l).length = (zOl X l S).length + 1 := by
  have := (zOl_len (X := X) (l := l) S).2 hl
  unfold zOrd
  rw [List.length_append]
  simp only [List.length_cons, List.length_nil]
  exact ⟨by omega, trivial⟩
theorem zOrd_nd {S : Nat} {X : Nat → Bool} {l : Nat} : (zOrd S X l).Nodup := by
  unfold zOrd
  rw [List.nodup_append]
  refine ⟨zOl_nd S, by simp, fun a ha b hb => ?_⟩
  rw [List.mem_singleton] at hb
  have := (zOl_mem S).mp ha
  omega
theorem zOrd_lt {S : Nat} {X : Nat → Bool} {l x : Nat} (hl : l < S) (h : x ∈ zOrd S X l) : x < S := by
  unfold zOrd at h
  rcases List.mem_append.mp h with h | h
  · exact ((zOl_mem S).mp h).1
  · rw [List.mem_singleton] at h; omega
theorem zgetD_mem {O : List Nat} {i : Nat} (h : i < O.length) : O.getD i 0 ∈ O := by
  rw [List.getD_eq_getElem?_getD, List.getElem?_eq_getElem h]
  exact List.getElem_mem h
theorem zgetD_inj {O : List Nat} (hn : O.Nodup) {i j : Nat} (hi : i < O.length) (hj : j < O.length) (h : O.getD i 0 = O.getD j 0) : i = j := by
  rw [List.getD_eq_getElem?_getD, List.getD_eq_getElem?_getD, List.getElem?_eq_getElem hi, List.getElem?_eq_getElem hj] at h
  have h : O[i] = O[j] := h
  have hp := List.pairwise_iff_getElem.mp hn
  rcases Nat.lt_trichotomy i j with e | e | e
  · exact absurd h (hp i j hi hj e)
  · exact e
  · exact absurd h.symm (hp j i hj hi e)
theorem zgetD_l {l m : List Nat} {i : Nat} (h : i < l.length) : (l ++ m).getD i 0 = l.getD i 0 := by
  rw [List.getD_eq_getElem?_getD, List.getD_eq_getElem?_getD, List.getElem?_append_left h]
theorem zgetD_r (l : List Nat) (x : Nat) : (l ++ [x]).getD l.length 0 = x := by
  rw [List.getD_eq_getElem?_getD, List.getElem?_append_right (Nat.le_refl _), Nat.sub_self]; rfl
section LO
variable {Ln S P : Nat} {mv tg ch c : Nat → Nat → Nat} {M : Nat → Int → Int} {lo : Int} {X : Nat → Bool}
set_option maxHeartbeats 20000000 in
theorem F_Lo_coming {d : Nat} (hS : S ≤ 12) (hS3 : M 3 0 = S) (hc3 : ∀ s t, c s t ≤ 3) (hCt : zCtC S c M) (hd : 2 ≤ d) : zF (zSH Ln) d i_Lo_coming [zR 36, zI (zset S X)] M fun r M' => r = some (zI (zset S (zRc S (zEc c) X 12))) ∧ M' = M := by
  rw [zF_en k_Lo_coming_0 (L := [zR 36, zI (zset S X), zU, zU, zU]) rfl]
  have hcl := zRc_cl (S := S) (e := zEc c) (X0 := X) hS
  simp (disch := first | omega | exact Nat.le_of_ble_eq_true rfl | assumption | (simp only [Int.natCast_add, Int.natCast_mul, Int.cast_ofNat_Int]; omega) | decide) only [x_aload, x_getf, w_goto, w_fall, w_iconst, w_if, w_icmp, x_iinc, x_iload, w_ior, w_ishl, x_istore, zadd_eq, gf_36_0, gf_3_0, w_nret r_Lo_coming, q_eq, q_ne, q_lt, q_ge, q_gt, q_le, g_I, g_L, g_R, g_V, t_0, t_I, t_R, t_U, t_L, t_s, List.getElem?_cons_zero, List.getElem?_cons_succ, Nat.reduceAdd, zif10, zif01b, zib, if_pos, if_neg, ↓reduceIte, not_true_eq_false, not_false_eq_true, Bool.true_eq_false, Bool.false_eq_true, Classical.not_not, eq_self, and_self, and_true, true_and, Int.reduceEq, Int.reduceLE, Int.reduceLT, Int.reduceNeg, Option.toList, List.cons_append, List.nil_append, zup_s, zup_n, zst_s, zup_zs, zup_zn, decide_true, decide_false]
  refine zfor (a := 0) (N := 12) (b := 1) (fun i L0 M0 => ∃ (Y : Nat → Bool) (v4 : zMV), L0 = [zR 36, zI (zset S X), zI (zset S Y), zI (i : Int), v4] ∧ M0 = M ∧ (zleS S (zRc S (zEc c) X i) Y ∧ zleS S Y (zRc S (zEc c) X 12))) ?_ ?_ ?_ ?_
  · exact Nat.zero_le _
  · exact ⟨X, zU, rfl, rfl, fun _ _ h => h, zRc_in 12⟩
  · rintro i _ M _ hi ⟨Y, v4, rfl, rfl, h1, h2⟩ ih
    rw [k_Lo_coming_1]
    simp (disch := first | omega | exact Nat.le_of_ble_eq_true rfl | assumption | (simp only [Int.natCast_add, Int.natCast_mul, Int.cast_ofNat_Int]; omega) | decide) only [k_Lo_coming_2, x_aload, x_getf, w_goto, w_fall, w_iconst, w_if, w_icmp, x_iinc, x_iload, w_ior, w_ishl, x_istore, zadd_eq, gf_36_0, gf_3_0, w_nret r_Lo_coming, q_eq, q_ne, q_lt, q_ge, q_gt, q_le, g_I, g_L, g_R, g_V, t_0, t_I, t_R, t_U, t_L, t_s, List.getElem?_cons_zero, List.getElem?_cons_succ, Nat.reduceAdd, zif10, zif01b, zib, if_pos, if_neg, ↓reduceIte, not_true_eq_false, not_false_eq_true, Bool.true_eq_false, Bool.false_eq_true, Classical.not_not, eq_self, and_self, and_true, true_and, Int.reduceEq, Int.reduceLE, Int.reduceLT, Int.reduceNeg, Option.toList, List.cons_append, List.nil_append, zup_s, zup_n, zst_s, zup_zs, zup_zn, decide_true, decide_false]
    refine zfor (a := 0) (N := S) (b := 3) (fun s L0 M0 => ∃ (Z : Nat → Bool), L0 = [zR 36, zI (zset S X), zI (zset S Z), zI (i : Int), zI (s : Int)] ∧ M0 = M ∧ (zleS S Y Z ∧ zleS S Z (zRc S (zEc c) X 12) ∧ ∀ u, u < s → zRc S (zEc c) X (i + 1) u = true → Z u = true)) ?_ ?_ ?_ ?_
    · exact Nat.zero_le _
    · exact ⟨Y, rfl, rfl, fun _ _ h => h, h2, fun u hu => by omega⟩
    · rintro s _ M _ hs ⟨Z, rfl, rfl, g1, g2, g3⟩ ih2
      have hpos : 0 < zCi S c Z s ↔ ∃ t, t < S ∧ Z t = true ∧ 0 < c s t := by
        unfold zCi
        rw [zSn_pos]
        constructor
        · rintro ⟨t, a, b⟩
          by_cases hz : Z t = true
          · rw [if_pos hz] at b; exact ⟨t, a, hz, b⟩
          · rw [if_neg hz] at b; omega
        · rintro ⟨t, a, b, e⟩
          exact ⟨t, a, by rw [if_pos b]; exact e⟩
      rw [k_Lo_coming_3]
      by_cases hz : 0 < zCi S c Z s
      · have hz' : ¬ (zCi S c Z s : Int) ≤ 0 := by omega
        simp (disch := first | omega | exact Nat.le_of_ble_eq_true rfl | assumption | (simp only [Int.natCast_add, Int.natCast_mul, Int.cast_ofNat_Int]; omega) | decide) only [k_Lo_coming_4, k_Lo_coming_5, k_Lo_coming_6, x_aload, x_getf, w_goto, w_fall, w_iconst, w_if, w_icmp, x_iinc, x_iload, w_ior, w_ishl, x_istore, zadd_eq, gf_36_0, gf_3_0, w_nret r_Lo_coming, q_eq, q_ne, q_lt, q_ge, q_gt, q_le, g_I, g_L, g_R, g_V, t_0, t_I, t_R, t_U, t_L, t_s, List.getElem?_cons_zero, List.getElem?_cons_succ, Nat.reduceAdd, zif10, zif01b, zib, if_pos, if_neg, ↓reduceIte, not_true_eq_false, not_false_eq_true, Bool.true_eq_false, Bool.false_eq_true, Classical.not_not, eq_self, and_self, and_true, true_and, Int.reduceEq, Int.reduceLE, Int.reduceLT, Int.reduceNeg, Option.toList, List.cons_append, List.nil_append, zup_s, zup_n, zst_s, zup_zs, zup_zn, decide_true, decide_false, hS3, c_Lo_countInto hS hS3 (hc3 s) hs hCt, hz', zset_up]
        refine ih2 _ _ ⟨_, rfl, rfl, fun u hu h => by simp [g1 u hu h], fun u hu h => ?_, fun u hu h => ?_⟩
        · rw [Bool.or_eq_true, decide_eq_true_eq] at h
          rcases h with h | rfl
          · exact g2 u hu h
          · obtain ⟨t, a, b, e⟩ := hpos.mp hz
            exact hcl t u a hu (g2 t a b) (by simpa [zEc] using e)
        · by_cases e : u = s
          · subst e; simp
          · simp [g3 u (by omega) h]
      · have hz' : (zCi S c Z s : Int) ≤ 0 := by omega
        simp (disch := first | omega | exact Nat.le_of_ble_eq_true rfl | assumption | (simp only [Int.natCast_add, Int.natCast_mul, Int.cast_ofNat_Int]; omega) | decide) only [k_Lo_coming_4, k_Lo_coming_6, x_aload, x_getf, w_goto, w_fall, w_iconst, w_if, w_icmp, x_iinc, x_iload, w_ior, w_ishl, x_istore, zadd_eq, gf_36_0, gf_3_0, w_nret r_Lo_coming, q_eq, q_ne, q_lt, q_ge, q_gt, q_le, g_I, g_L, g_R, g_V, t_0, t_I, t_R, t_U, t_L, t_s, List.getElem?_cons_zero, List.getElem?_cons_succ, Nat.reduceAdd, zif10, zif01b, zib, if_pos, if_neg, ↓reduceIte, not_true_eq_false, not_false_eq_true, Bool.true_eq_false, Bool.false_eq_true, Classical.not_not, eq_self, and_self, and_true, true_and, Int.reduceEq, Int.reduceLE, Int.reduceLT, Int.reduceNeg, Option.toList, List.cons_append, List.nil_append, zup_s, zup_n, zst_s, zup_zs, zup_zn, decide_true, decide_false, hS3, c_Lo_countInto hS hS3 (hc3 s) hs hCt, hz']
        refine ih2 _ _ ⟨Z, rfl, rfl, g1, g2, fun u hu h => ?_⟩
        by_cases e : u = s
        · subst e
          have h : (zRc S (zEc c) X i u || zan S fun r => zRc S (zEc c) X i r && zEc c r u) = true := h
          rw [Bool.or_eq_true, zan_iff] at h
          rcases h with h | ⟨r, hr, h⟩
          · exact g1 u hs (h1 u hs h)
          · rw [Bool.and_eq_true] at h
            exact absurd (hpos.mpr ⟨r, hr, g1 r hr (h1 r hr h.1), by simpa [zEc] using h.2⟩) hz
        · exact g3 u (by omega) h
    · rintro _ M ⟨Z, rfl, rfl, g1, g2, g3⟩
      rw [k_Lo_coming_3]
      simp (disch := first | omega | exact Nat.le_of_ble_eq_true rfl | assumption | (simp only [Int.natCast_add, Int.natCast_mul, Int.cast_ofNat_Int]; omega) | decide) only [k_Lo_coming_7, x_aload, x_getf, w_goto, w_fall, w_iconst, w_if, w_icmp, x_iinc, x_iload, w_ior, w_ishl, x_istore, zadd_eq, gf_36_0, gf_3_0, w_nret r_Lo_coming, q_eq, q_ne, q_lt, q_ge, q_gt, q_le, g_I, g_L, g_R, g_V, t_0, t_I, t_R, t_U, t_L, t_s, List.getElem?_cons_zero, List.getElem?_cons_succ, Nat.reduceAdd, zif10, zif01b, zib, if_pos, if_neg, ↓reduceIte, not_true_eq_false, not_false_eq_true, Bool.true_eq_false, Bool.false_eq_true, Classical.not_not, eq_self, and_self, and_true, true_and, Int.reduceEq, Int.reduceLE, Int.reduceLT, Int.reduceNeg, Option.toList, List.cons_append, List.nil_append, zup_s, zup_n, zst_s, zup_zs, zup_zn, decide_true, decide_false, hS3]
      exact ih _ _ ⟨Z, _, rfl, rfl, fun u hu h => g3 u hu h, g2⟩
  · rintro _ M ⟨Y, v4, rfl, rfl, h1, h2⟩
    rw [k_Lo_coming_1]
    simp (disch := first | omega | exact Nat.le_of_ble_eq_true rfl | assumption | (simp only [Int.natCast_add, Int.natCast_mul, Int.cast_ofNat_Int]; omega) | decide) only [k_Lo_coming_8, x_aload, x_getf, w_goto, w_fall, w_iconst, w_if, w_icmp, x_iinc, x_iload, w_ior, w_ishl, x_istore, zadd_eq, gf_36_0, gf_3_0, w_nret r_Lo_coming, q_eq, q_ne, q_lt, q_ge, q_gt, q_le, g_I, g_L, g_R, g_V, t_0, t_I, t_R, t_U, t_L, t_s, List.getElem?_cons_zero, List.getElem?_cons_succ, Nat.reduceAdd, zif10, zif01b, zib, if_pos, if_neg, ↓reduceIte, not_true_eq_false, not_false_eq_true, Bool.true_eq_false, Bool.false_eq_true, Classical.not_not, eq_self, and_self, and_true, true_and, Int.reduceEq, Int.reduceLE, Int.reduceLT, Int.reduceNeg, Option.toList, List.cons_append, List.nil_append, zup_s, zup_n, zst_s, zup_zs, zup_zn, decide_true, decide_false]
    have e : zset S Y = zset S (zRc S (zEc c) X 12) := zset_cong fun u hu => by
      have a := h1 u hu
      have b := h2 u hu
      cases hy : Y u <;> cases hz : zRc S (zEc c) X 12 u <;> simp_all
    rw [e]
theorem c_Lo_coming {d mi o b9 : Nat} {es : List zEnt} {L st : List zMV} {Q : Option zMV → (Nat → Int → Int) → Prop} (hS : S ≤ 12) (hS3 : M 3 0 = S) (hc3 : ∀ s t, c s t ≤ 3) (hCt : zCtC S c M) (hd : 2 + 1 ≤ d) (hc : zcats st ≤ 8) : zW (zSH Ln) d mi ((.invokevirtual o, 47, b9) :: es) L (zI (zset S X) :: zR 36 :: st) M Q = zW (zSH Ln) d mi es L (zI (zset S (zRc S (zEc c) X 12)) :: st) (M) Q :=
  c_virt (ps := [zI (zset S X)]) (by omega) rfl rfl (by omega) (by exact sh_36 Ln) hc (Nat.le_of_ble_eq_true rfl) (F_Lo_coming hS hS3 hc3 hCt (by omega))
theorem F_Lo_line {d : Nat} {l : Nat} (hS : S ≤ 12) (hS3 : M 3 0 = S) (hl : l < S) (hd : 1 ≤ d) : zF (zSH Ln) d i_Lo_line [zR 36, zI (zset S X), zI (l : Int)] M fun r M' => r = some (zI ((zOrd S X l).length : Int)) ∧ ∃ G, M' = zst M 39 G ∧ ∀ i : Nat, i < (zOrd S X l).length → G (i : Int) = ((zOrd S X l).getD i 0 : Int) := by
  rw [zF_en k_Lo_line_0 (L := [zR 36, zI (zset S X), zI (l : Int), zU, zU]) rfl]
  have hlen := zOrd_len (X := X) hl
  simp (disch := first | omega | exact Nat.le_of_ble_eq_true rfl | assumption | (simp only [Int.natCast_add, Int.natCast_mul, Int.cast_ofNat_Int]; omega) | decide) only [x_aload, x_getf, w_goto, w_fall, w_iadd, w_iconst, w_if, w_icmp, x_iinc, x_iload, x_istore, zadd_eq, gf_36_0, gf_36_6, gf_3_0, pu_39, w_nret r_Lo_line, q_eq, q_ne, q_lt, q_ge, q_gt, q_le, g_I, g_L, g_R, g_V, t_0, t_I, t_R, t_U, t_L, t_s, List.getElem?_cons_zero, List.getElem?_cons_succ, Nat.reduceAdd, zif10, zif01b, zib, if_pos, if_neg, ↓reduceIte, not_true_eq_false, not_false_eq_true, Bool.true_eq_false, Bool.false_eq_true, Classical.not_not, eq_self, and_self, and_true, true_and, Int.reduceEq, Int.reduceLE, Int.reduceLT, Int.reduceNeg, Option.toList, List.cons_append, List.nil_append, zup_s, zup_n, zst_s, zup_zs, zup_zn, decide_true, decide_false]
  refine zfor (a := 0) (N := S) (b := 1) (fun s L0 M0 => ∃ (G : Int → Int), L0 = [zR 36, zI (zset S X), zI (l : Int), zI ((zOl X l s).length : Int), zI (s : Int)] ∧ M0 = zst M 39 G ∧ (∀ i : Nat, i < (zOl X l s).length → G (i : Int) = ((zOl X l s).getD i 0 : Int))) ?_ ?_ ?_ ?_
  · exact Nat.zero_le _
  · exact ⟨M 39, rfl, (zst_id _ _).symm, fun i hi => by simp [zOl] at hi⟩
  · rintro s _ _ _ hs ⟨G, rfl, rfl, hG⟩ ih
    have e3 : zst M 39 G 3 0 = (S : Int) := hS3
    have hsl := (zOl_len (X := X) (l := l) s).1
    have nx : zOl X l (s + 1) = if X s = true ∧ s ≠ l then zOl X l s ++ [s] else zOl X l s := rfl
    rw [k_Lo_line_1]
    cases hx : X s
    · rw [hx, if_neg (by simp)] at nx
      simp (disch := first | omega | exact Nat.le_of_ble_eq_true rfl | assumption | (simp only [Int.natCast_add, Int.natCast_mul, Int.cast_ofNat_Int]; omega) | decide) only [k_Lo_line_2, k_Lo_line_5, x_aload, x_getf, w_goto, w_fall, w_iadd, w_iconst, w_if, w_icmp, x_iinc, x_iload, x_istore, zadd_eq, gf_36_0, gf_36_6, gf_3_0, pu_39, w_nret r_Lo_line, q_eq, q_ne, q_lt, q_ge, q_gt, q_le, g_I, g_L, g_R, g_V, t_0, t_I, t_R, t_U, t_L, t_s, List.getElem?_cons_zero, List.getElem?_cons_succ, Nat.reduceAdd, zif10, zif01b, zib, if_pos, if_neg, ↓reduceIte, not_true_eq_false, not_false_eq_true, Bool.true_eq_false, Bool.false_eq_true, Classical.not_not, eq_self, and_self, and_true, true_and, Int.reduceEq, Int.reduceLE, Int.reduceLT, Int.reduceNeg, Option.toList, List.cons_append, List.nil_append, zup_s, zup_n, zst_s, zup_zs, zup_zn, decide_true, decide_false, e3, c_hasS, hx]
      refine ih _ _ ⟨G, ?_, rfl, by rw [nx]; exact hG⟩
      rw [nx]; rfl
    · by_cases e : s = l
      · rw [hx, if_neg (by simp [e])] at nx
        obtain rfl := e
        simp (disch := first | omega | exact Nat.le_of_ble_eq_true rfl | assumption | (simp only [Int.natCast_add, Int.natCast_mul, Int.cast_ofNat_Int]; omega) | decide) only [k_Lo_line_2, k_Lo_line_3, k_Lo_line_5, x_aload, x_getf, w_goto, w_fall, w_iadd, w_iconst, w_if, w_icmp, x_iinc, x_iload, x_istore, zadd_eq, gf_36_0, gf_36_6, gf_3_0, pu_39, w_nret r_Lo_line, q_eq, q_ne, q_lt, q_ge, q_gt, q_le, g_I, g_L, g_R, g_V, t_0, t_I, t_R, t_U, t_L, t_s, List.getElem?_cons_zero, List.getElem?_cons_succ, Nat.reduceAdd, zif10, zif01b, zib, if_pos, if_neg, ↓reduceIte, not_true_eq_false, not_false_eq_true, Bool.true_eq_false, Bool.false_eq_true, Classical.not_not, eq_self, and_self, and_true, true_and, Int.reduceEq, Int.reduceLE, Int.reduceLT, Int.reduceNeg, Option.toList, List.cons_append, List.nil_append, zup_s, zup_n, zst_s, zup_zs, zup_zn, decide_true, decide_false, e3, c_hasS, hx]
        refine ih _ _ ⟨G, ?_, rfl, by rw [nx]; exact hG⟩
        rw [nx]; rfl
      · rw [hx, if_pos ⟨rfl, e⟩] at nx
        have e' : ¬ (s : Int) = (l : Int) := by omega
        simp (disch := first | omega | exact Nat.le_of_ble_eq_true rfl | assumption | (simp only [Int.natCast_add, Int.natCast_mul, Int.cast_ofNat_Int]; omega) | decide) only [k_Lo_line_2, k_Lo_line_3, k_Lo_line_4, k_Lo_line_5, x_aload, x_getf, w_goto, w_fall, w_iadd, w_iconst, w_if, w_icmp, x_iinc, x_iload, x_istore, zadd_eq, gf_36_0, gf_36_6, gf_3_0, pu_39, w_nret r_Lo_line, q_eq, q_ne, q_lt, q_ge, q_gt, q_le, g_I, g_L, g_R, g_V, t_0, t_I, t_R, t_U, t_L, t_s, List.getElem?_cons_zero, List.getElem?_cons_succ, Nat.reduceAdd, zif10, zif01b, zib, if_pos, if_neg, ↓reduceIte, not_true_eq_false, not_false_eq_true, Bool.true_eq_false, Bool.false_eq_true, Classical.not_not, eq_self, and_self, and_true, true_and, Int.reduceEq, Int.reduceLE, Int.reduceLT, Int.reduceNeg, Option.toList, List.cons_append, List.nil_append, zup_s, zup_n, zst_s, zup_zs, zup_zn, decide_true, decide_false, e3, c_hasS, hx, e']
        refine ih _ _ ⟨_, ?_, rfl, fun i hi => ?_⟩
        · rw [nx, List.length_append]; rfl
        · rw [nx] at hi ⊢
          rw [List.length_append, List.length_singleton] at hi
          by_cases e2 : i = (zOl X l s).length
          · subst e2
            rw [zf_s, zgetD_r]
          · rw [zf_n (by omega), zgetD_l (by omega)]
            exact hG i (by omega)
  · rintro _ _ ⟨G, rfl, rfl, hG⟩
    have e3 : zst M 39 G 3 0 = (S : Int) := hS3
    have e9 : ((zOl X l S).length : Int) + 1 = ((zOrd S X l).length : Int) := by omega
    rw [k_Lo_line_1]
    simp (disch := first | omega | exact Nat.le_of_ble_eq_true rfl | assumption | (simp only [Int.natCast_add, Int.natCast_mul, Int.cast_ofNat_Int]; omega) | decide) only [k_Lo_line_6, x_aload, x_getf, w_goto, w_fall, w_iadd, w_iconst, w_if, w_icmp, x_iinc, x_iload, x_istore, zadd_eq, gf_36_0, gf_36_6, gf_3_0, pu_39, w_nret r_Lo_line, q_eq, q_ne, q_lt, q_ge, q_gt, q_le, g_I, g_L, g_R, g_V, t_0, t_I, t_R, t_U, t_L, t_s, List.getElem?_cons_zero, List.getElem?_cons_succ, Nat.reduceAdd, zif10, zif01b, zib, if_pos, if_neg, ↓reduceIte, not_true_eq_false, not_false_eq_true, Bool.true_eq_false, Bool.false_eq_true, Classical.not_not, eq_self, and_self, and_true, true_and, Int.reduceEq, Int.reduceLE, Int.reduceLT, Int.reduceNeg, Option.toList, List.cons_append, List.nil_append, zup_s, zup_n, zst_s, zup_zs, zup_zn, decide_true, decide_false, e3, e9]
    refine ⟨_, rfl, fun i hi => ?_⟩
    unfold zOrd
    by_cases e2 : i = (zOl X l S).length
    · subst e2
      rw [zf_s, zgetD_r]
    · rw [zf_n (by omega), zgetD_l (by omega)]
      exact hG i (by omega)
theorem c_Lo_line {d mi o b9 : Nat} {es : List zEnt} {L st : List zMV} {Q : Option zMV → (Nat → Int → Int) → Prop} {l : Nat} (hS : S ≤ 12) (hS3 : M 3 0 = S) (hl : l < S) (hd : 1 + 1 ≤ d) (hc : zcats st ≤ 8) (hpost : ∀ r M', (r = some (zI ((zOrd S X l).length : Int)) ∧ ∃ G, M' = zst M 39 G ∧ ∀ i : Nat, i < (zOrd S X l).length → G (i : Int) = ((zOrd S X l).getD i 0 : Int)) → zW (zSH Ln) d mi es L (r.toList ++ st) M' Q) : zW (zSH Ln) d mi ((.invokevirtual o, 49, b9) :: es) L (zI (l : Int) :: zI (zset S X) :: zR 36 :: st) M Q :=
  w_callv (ps := [zI (zset S X), zI (l : Int)]) (by omega) rfl rfl (by omega) (by exact sh_36 Ln) hc (Nat.le_of_ble_eq_true rfl) (F_Lo_line hS hS3 hl (by omega)) hpost
theorem F_Lo_cell {d : Nat} {i j : Nat} (hi : i < 12) (hj : j < 13) (hd : 0 ≤ d) : zF (zSH Ln) d i_Lo_cell [zR 36, zI (i : Int), zI (j : Int)] M fun r M' => r = some (zL (M 40 ((i : Int) * 13 + j))) ∧ M' = M := by
  rw [zF_en k_Lo_cell_0 (L := [zR 36, zI (i : Int), zI (j : Int), zU]) rfl]
  simp (disch := first | omega | exact Nat.le_of_ble_eq_true rfl | assumption | (simp only [Int.natCast_add, Int.natCast_mul, Int.cast_ofNat_Int]; omega) | decide) only [k_Lo_cell_1, k_Lo_cell_2, k_Lo_cell_4, x_aload, x_getf, w_goto, w_fall, w_iadd, w_iconst, w_if, w_icmp, x_iload, w_imul, x_istore, w_sipush, zadd_eq, zmul_eq, gf_36_7, ia_40, w_jret r_Lo_cell, q_eq, q_ne, q_lt, q_ge, q_gt, q_le, g_I, g_L, g_R, g_V, t_0, t_I, t_R, t_U, t_L, t_s, List.getElem?_cons_zero, List.getElem?_cons_succ, Nat.reduceAdd, zif10, zif01b, zib, if_pos, if_neg, ↓reduceIte, not_true_eq_false, not_false_eq_true, Bool.true_eq_false, Bool.false_eq_true, Classical.not_not, eq_self, and_self, and_true, true_and, Int.reduceEq, Int.reduceLE, Int.reduceLT, Int.reduceNeg, Option.toList, List.cons_append, List.nil_append, zup_s, zup_n, zst_s, zup_zs, zup_zn, decide_true, decide_false, w_alenL (sh_40 Ln)]
theorem c_Lo_cell {d mi o b9 : Nat} {es : List zEnt} {L st : List zMV} {Q : Option zMV → (Nat → Int → Int) → Prop} {i j : Nat} (hi : i < 12) (hj : j < 13) (hd : 0 + 1 ≤ d) (hc : zcats st ≤ 8) : zW (zSH Ln) d mi ((.invokevirtual o, 53, b9) :: es) L (zI (j : Int) :: zI (i : Int) :: zR 36 :: st) M Q = zW (zSH Ln) d mi es L (zL (M 40 ((i : Int) * 13 + j)) :: st) (M) Q :=
  c_virt (ps := [zI (i : Int), zI (j : Int)]) (by omega) rfl rfl (by omega) (by exact sh_36 Ln) hc (Nat.le_of_ble_eq_true rfl) (F_Lo_cell hi hj (by omega))
theorem F_Lo_setCell {d : Nat} {i j : Nat} {v : Int} (hi : i < 12) (hj : j < 13) (hd : 0 ≤ d) : zF (zSH Ln) d i_Lo_setCell [zR 36, zI (i : Int), zI (j : Int), zL v] M fun r M' => r = none ∧ M' = zup M 40 ((i : Int) * 13 + j) v := by
  rw [zF_en k_Lo_setCell_0 (L := [zR 36, zI (i : Int), zI (j : Int), zL v, zU, zU]) rfl]
  simp (disch := first | omega | exact Nat.le_of_ble_eq_true rfl | assumption | (simp only [Int.natCast_add, Int.natCast_mul, Int.cast_ofNat_Int]; omega) | decide) only [k_Lo_setCell_1, k_Lo_setCell_2, k_Lo_setCell_3, x_aload, x_getf, w_fall, w_iadd, w_iconst, w_if, w_icmp, x_iload, w_imul, x_istore, x_lload, zadd_eq, zmul_eq, gf_36_7, sa_40, w_vret r_Lo_setCell, q_eq, q_ne, q_lt, q_ge, q_gt, q_le, g_I, g_L, g_R, g_V, t_0, t_I, t_R, t_U, t_L, t_s, List.getElem?_cons_zero, List.getElem?_cons_succ, Nat.reduceAdd, zif10, zif01b, zib, if_pos, if_neg, ↓reduceIte, not_true_eq_false, not_false_eq_true, Bool.true_eq_false, Bool.false_eq_true, Classical.not_not, eq_self, and_self, and_true, true_and, Int.reduceEq, Int.reduceLE, Int.reduceLT, Int.reduceNeg, Option.toList, List.cons_append, List.nil_append, zup_s, zup_n, zst_s, zup_zs, zup_zn, decide_true, decide_false, w_alenL (sh_40 Ln)]
theorem c_Lo_setCell {d mi o b9 : Nat} {es : List zEnt} {L st : List zMV} {Q : Option zMV → (Nat → Int → Int) → Prop} {i j : Nat} {v : Int} (hi : i < 12) (hj : j < 13) (hd : 0 + 1 ≤ d) (hc : zcats st ≤ 8) : zW (zSH Ln) d mi ((.invokevirtual o, 54, b9) :: es) L (zL v :: zI (j : Int) :: zI (i : Int) :: zR 36 :: st) M Q = zW (zSH Ln) d mi es L (st) (zup M 40 ((i : Int) * 13 + j) v) Q :=
  c_virt (ps := [zI (i : Int), zI (j : Int), zL v]) (by omega) rfl rfl (by omega) (by exact sh_36 Ln) hc (Nat.le_of_ble_eq_true rfl) (F_Lo_setCell hi hj (by omega))
set_option maxHeartbeats 20000000 in
theorem F_Lo_write {d : Nat} {m : Nat} {od : Nat → Nat} {lm : Nat → Nat} (hS : S ≤ 12) (hS3 : M 3 0 = S) (hc3 : ∀ s t, c s t ≤ 3) (hCt : zCtC S c M) (hm : m ≤ 12) (ho : ∀ i : Nat, i < m → M 39 (i : Int) = od i ∧ od i < S) (hlm : ∀ s : Nat, s < S → M 38 (s : Int) = lm s ∧ lm s ≤ 3) (hd : 2 ≤ d) : zF (zSH Ln) d i_Lo_write [zR 36, zI (m : Int), zI (zset S X)] M fun r M' => r = none ∧ ∃ F, M' = zst M 40 F ∧ ∀ i : Nat, i < m → (∀ j : Nat, j < m → F ((i : Int) * 13 + j) = (if i = j then (lm (od i) : Int) else 0) - c (od i) (od j)) ∧ F ((i : Int) * 13 + m) = zCi S c X (od i) := by
  rw [zF_en k_Lo_write_0 (L := [zR 36, zI (m : Int), zI (zset S X), zU, zU, zU, zU]) rfl]
  simp (disch := first | omega | exact Nat.le_of_ble_eq_true rfl | assumption | (simp only [Int.natCast_add, Int.natCast_mul, Int.cast_ofNat_Int]; omega) | decide) only [x_aload, x_getf, w_goto, w_fall, w_i2l, w_iadd, w_iconst, w_icmp, x_iinc, x_iload, w_imul, x_istore, w_isub, zadd_eq, zsub_eq, zmul_eq, gf_36_4, gf_36_5, gf_36_6, at_37, ao_37, at_38, ao_38, at_39, ao_39, w_vret r_Lo_write, q_eq, q_ne, q_lt, q_ge, q_gt, q_le, g_I, g_L, g_R, g_V, t_0, t_I, t_R, t_U, t_L, t_s, List.getElem?_cons_zero, List.getElem?_cons_succ, Nat.reduceAdd, zif10, zif01b, zib, if_pos, if_neg, ↓reduceIte, not_true_eq_false, not_false_eq_true, Bool.true_eq_false, Bool.false_eq_true, Classical.not_not, eq_self, and_self, and_true, true_and, Int.reduceEq, Int.reduceLE, Int.reduceLT, Int.reduceNeg, Option.toList, List.cons_append, List.nil_append, zup_s, zup_n, zst_s, zup_zs, zup_zn, decide_true, decide_false]
  refine zfor (a := 0) (N := m) (b := 1) (fun i L0 M0 => ∃ (F : Int → Int) (v4 : zMV) (v5 : zMV) (v6 : zMV), L0 = [zR 36, zI (m : Int), zI (zset S X), zI (i : Int), v4, v5, v6] ∧ M0 = zst M 40 F ∧ (∀ u : Nat, u < i → (∀ j : Nat, j < m → F ((u : Int) * 13 + j) = (if u = j then (lm (od u) : Int) else 0) - c (od u) (od j)) ∧ F ((u : Int) * 13 + m) = zCi S c X (od u))) ?_ ?_ ?_ ?_
  · exact Nat.zero_le _
  · exact ⟨M 40, zU, zU, zU, rfl, (zst_id _ _).symm, fun u hu => by omega⟩
  · rintro i _ _ _ hi ⟨F, v4, v5, v6, rfl, rfl, hF⟩ ih
    have oi := ho i hi
    rw [k_Lo_write_1]
    simp (disch := first | omega | exact Nat.le_of_ble_eq_true rfl | assumption | (simp only [Int.natCast_add, Int.natCast_mul, Int.cast_ofNat_Int]; omega) | decide) only [k_Lo_write_2, x_aload, x_getf, w_goto, w_fall, w_i2l, w_iadd, w_iconst, w_icmp, x_iinc, x_iload, w_imul, x_istore, w_isub, zadd_eq, zsub_eq, zmul_eq, gf_36_4, gf_36_5, gf_36_6, at_37, ao_37, at_38, ao_38, at_39, ao_39, w_vret r_Lo_write, q_eq, q_ne, q_lt, q_ge, q_gt, q_le, g_I, g_L, g_R, g_V, t_0, t_I, t_R, t_U, t_L, t_s, List.getElem?_cons_zero, List.getElem?_cons_succ, Nat.reduceAdd, zif10, zif01b, zib, if_pos, if_neg, ↓reduceIte, not_true_eq_false, not_false_eq_true, Bool.true_eq_false, Bool.false_eq_true, Classical.not_not, eq_self, and_self, and_true, true_and, Int.reduceEq, Int.reduceLE, Int.reduceLT, Int.reduceNeg, Option.toList, List.cons_append, List.nil_append, zup_s, zup_n, zst_s, zup_zs, zup_zn, decide_true, decide_false, zst_n, oi.1]
    refine zfor (a := 0) (N := m) (b := 3) (fun j L0 M0 => ∃ (F2 : Int → Int) (v6 : zMV), L0 = [zR 36, zI (m : Int), zI (zset S X), zI (i : Int), zI (od i : Int), zI (j : Int), v6] ∧ M0 = zst M 40 F2 ∧ ((∀ u : Nat, u < i → (∀ j : Nat, j < m → F2 ((u : Int) * 13 + j) = (if u = j then (lm (od u) : Int) else 0) - c (od u) (od j)) ∧ F2 ((u : Int) * 13 + m) = zCi S c X (od u)) ∧ ∀ t : Nat, t < j → F2 ((i : Int) * 13 + t) = (if i = t then (lm (od i) : Int) else 0) - c (od i) (od t))) ?_ ?_ ?_ ?_
    · exact Nat.zero_le _
    · exact ⟨F, v6, rfl, rfl, hF, fun t ht => by omega⟩
    · rintro j _ _ _ hj ⟨F2, v6, rfl, rfl, g1, g2⟩ ih2
      have oj := ho j hj
      have hlmi := hlm (od i) oi.2
      have hct := hCt (od i) (od j) oi.2 (by omega)
      have hc := hc3 (od i) (od j)
      have fin : ∀ v : Int, v = (if i = j then (lm (od i) : Int) else 0) - c (od i) (od j) → (∀ u : Nat, u < i → (∀ t : Nat, t < m → zf F2 ((i : Int) * 13 + j) v ((u : Int) * 13 + t) = (if u = t then (lm (od u) : Int) else 0) - c (od u) (od t)) ∧ zf F2 ((i : Int) * 13 + j) v ((u : Int) * 13 + m) = zCi S c X (od u)) ∧ ∀ t : Nat, t < j + 1 → zf F2 ((i : Int) * 13 + j) v ((i : Int) * 13 + t) = (if i = t then (lm (od i) : Int) else 0) - c (od i) (od t) := by
        intro v hv
        refine ⟨fun u hu => ⟨fun t ht => ?_, ?_⟩, fun t ht => ?_⟩
        · rw [zf_n (by omega)]; exact (g1 u hu).1 t ht
        · rw [zf_n (by omega)]; exact (g1 u hu).2
        · by_cases e : t = j
          · subst e; rw [zf_s]; exact hv
          · rw [zf_n (by omega)]; exact g2 t (by omega)
      rw [k_Lo_write_3]
      by_cases e : i = j
      · subst e
        simp (disch := first | omega | exact Nat.le_of_ble_eq_true rfl | assumption | (simp only [Int.natCast_add, Int.natCast_mul, Int.cast_ofNat_Int]; omega) | decide) only [k_Lo_write_4, k_Lo_write_5, k_Lo_write_7, x_aload, x_getf, w_goto, w_fall, w_i2l, w_iadd, w_iconst, w_icmp, x_iinc, x_iload, w_imul, x_istore, w_isub, zadd_eq, zsub_eq, zmul_eq, gf_36_4, gf_36_5, gf_36_6, at_37, ao_37, at_38, ao_38, at_39, ao_39, w_vret r_Lo_write, q_eq, q_ne, q_lt, q_ge, q_gt, q_le, g_I, g_L, g_R, g_V, t_0, t_I, t_R, t_U, t_L, t_s, List.getElem?_cons_zero, List.getElem?_cons_succ, Nat.reduceAdd, zif10, zif01b, zib, if_pos, if_neg, ↓reduceIte, not_true_eq_false, not_false_eq_true, Bool.true_eq_false, Bool.false_eq_true, Classical.not_not, eq_self, and_self, and_true, true_and, Int.reduceEq, Int.reduceLE, Int.reduceLT, Int.reduceNeg, Option.toList, List.cons_append, List.nil_append, zup_s, zup_n, zst_s, zup_zs, zup_zn, decide_true, decide_false, zst_n, hlmi.1, oj.1, hct, c_Lo_setCell, zsub_eq]
        refine ih2 _ _ ⟨_, _, rfl, rfl, fin _ ?_⟩
        rw [if_pos rfl]
      · have e' : ¬ (i : Int) = (j : Int) := by omega
        simp (disch := first | omega | exact Nat.le_of_ble_eq_true rfl | assumption | (simp only [Int.natCast_add, Int.natCast_mul, Int.cast_ofNat_Int]; omega) | decide) only [k_Lo_write_4, k_Lo_write_6, k_Lo_write_7, x_aload, x_getf, w_goto, w_fall, w_i2l, w_iadd, w_iconst, w_icmp, x_iinc, x_iload, w_imul, x_istore, w_isub, zadd_eq, zsub_eq, zmul_eq, gf_36_4, gf_36_5, gf_36_6, at_37, ao_37, at_38, ao_38, at_39, ao_39, w_vret r_Lo_write, q_eq, q_ne, q_lt, q_ge, q_gt, q_le, g_I, g_L, g_R, g_V, t_0, t_I, t_R, t_U, t_L, t_s, List.getElem?_cons_zero, List.getElem?_cons_succ, Nat.reduceAdd, zif10, zif01b, zib, if_pos, if_neg, ↓reduceIte, not_true_eq_false, not_false_eq_true, Bool.true_eq_false, Bool.false_eq_true, Classical.not_not, eq_self, and_self, and_true, true_and, Int.reduceEq, Int.reduceLE, Int.reduceLT, Int.reduceNeg, Option.toList, List.cons_append, List.nil_append, zup_s, zup_n, zst_s, zup_zs, zup_zn, decide_true, decide_false, zst_n, e', oj.1, hct, c_Lo_setCell, zsub_eq]
        refine ih2 _ _ ⟨_, _, rfl, rfl, fin _ ?_⟩
        rw [if_neg e]
    · rintro _ _ ⟨F2, v6, rfl, rfl, g1, g2⟩
      have hCt2 : zCtC S c (zst M 40 F2) := hCt
      have e3 : zst M 40 F2 3 0 = (S : Int) := hS3
      rw [k_Lo_write_3]
      simp (disch := first | omega | exact Nat.le_of_ble_eq_true rfl | assumption | (simp only [Int.natCast_add, Int.natCast_mul, Int.cast_ofNat_Int]; omega) | decide) only [k_Lo_write_8, x_aload, x_getf, w_goto, w_fall, w_i2l, w_iadd, w_iconst, w_icmp, x_iinc, x_iload, w_imul, x_istore, w_isub, zadd_eq, zsub_eq, zmul_eq, gf_36_4, gf_36_5, gf_36_6, at_37, ao_37, at_38, ao_38, at_39, ao_39, w_vret r_Lo_write, q_eq, q_ne, q_lt, q_ge, q_gt, q_le, g_I, g_L, g_R, g_V, t_0, t_I, t_R, t_U, t_L, t_s, List.getElem?_cons_zero, List.getElem?_cons_succ, Nat.reduceAdd, zif10, zif01b, zib, if_pos, if_neg, ↓reduceIte, not_true_eq_false, not_false_eq_true, Bool.true_eq_false, Bool.false_eq_true, Classical.not_not, eq_self, and_self, and_true, true_and, Int.reduceEq, Int.reduceLE, Int.reduceLT, Int.reduceNeg, Option.toList, List.cons_append, List.nil_append, zup_s, zup_n, zst_s, zup_zs, zup_zn, decide_true, decide_false, c_Lo_countInto hS e3 (hc3 (od i)) oi.2 hCt2, c_Lo_setCell]
      refine ih _ _ ⟨_, _, _, _, rfl, rfl, fun u hu => ⟨fun t ht => ?_, ?_⟩⟩
      · rw [zf_n (by omega)]
        by_cases e : u = i
        · subst e; exact g2 t ht
        · exact (g1 u (by omega)).1 t ht
      · by_cases e : u = i
        · subst e; rw [zf_s]
        · rw [zf_n (by omega)]; exact (g1 u (by omega)).2
  · rintro _ _ ⟨F, v4, v5, v6, rfl, rfl, hF⟩
    rw [k_Lo_write_1]
    simp (disch := first | omega | exact Nat.le_of_ble_eq_true rfl | assumption | (simp only [Int.natCast_add, Int.natCast_mul, Int.cast_ofNat_Int]; omega) | decide) only [k_Lo_write_9, x_aload, x_getf, w_goto, w_fall, w_i2l, w_iadd, w_iconst, w_icmp, x_iinc, x_iload, w_imul, x_istore, w_isub, zadd_eq, zsub_eq, zmul_eq, gf_36_4, gf_36_5, gf_36_6, at_37, ao_37, at_38, ao_38, at_39, ao_39, w_vret r_Lo_write, q_eq, q_ne, q_lt, q_ge, q_gt, q_le, g_I, g_L, g_R, g_V, t_0, t_I, t_R, t_U, t_L, t_s, List.getElem?_cons_zero, List.getElem?_cons_succ, Nat.reduceAdd, zif10, zif01b, zib, if_pos, if_neg, ↓reduceIte, not_true_eq_false, not_false_eq_true, Bool.true_eq_false, Bool.false_eq_true, Classical.not_not, eq_self, and_self, and_true, true_and, Int.reduceEq, Int.reduceLE, Int.reduceLT, Int.reduceNeg, Option.toList, List.cons_append, List.nil_append, zup_s, zup_n, zst_s, zup_zs, zup_zn, decide_true, decide_false]
    exact ⟨F, rfl, hF⟩
theorem c_Lo_write {d mi o b9 : Nat} {es : List zEnt} {L st : List zMV} {Q : Option zMV → (Nat → Int → Int) → Prop} {m : Nat} {od : Nat → Nat} {lm : Nat → Nat} (hS : S ≤ 12) (hS3 : M 3 0 = S) (hc3 : ∀ s t, c s t ≤ 3) (hCt : zCtC S c M) (hm : m ≤ 12) (ho : ∀ i : Nat, i < m → M 39 (i : Int) = od i ∧ od i < S) (hlm : ∀ s : Nat, s < S → M 38 (s : Int) = lm s ∧ lm s ≤ 3) (hd : 2 + 1 ≤ d) (hc : zcats st ≤ 8) (hpost : ∀ r M', (r = none ∧ ∃ F, M' = zst M 40 F ∧ ∀ i : Nat, i < m → (∀ j : Nat, j < m → F ((i : Int) * 13 + j) = (if i = j then (lm (od i) : Int) else 0) - c (od i) (od j)) ∧ F ((i : Int) * 13 + m) = zCi S c X (od i)) → zW (zSH Ln) d mi es L (r.toList ++ st) M' Q) : zW (zSH Ln) d mi ((.invokevirtual o, 50, b9) :: es) L (zI (zset S X) :: zI (m : Int) :: zR 36 :: st) M Q :=
  w_callv (ps := [zI (m : Int), zI (zset S X)]) (by omega) rfl rfl (by omega) (by exact sh_36 Ln) hc (Nat.le_of_ble_eq_true rfl) (F_Lo_write hS hS3 hc3 hCt hm ho hlm (by omega)) hpost
end LO
