/-! the tape's reader: the reference's whole reading -/
theorem zIW_le {q P : Nat} {tb : Nat → Nat} {p n : Nat} {lf : Bool} {p' kd one g : Nat} (hp : p ≤ q) (h : zIW q P tb p n = .inr (lf, p', kd, one, g)) : p' ≤ q ∧ n < 24 ∧ (lf = true → kd ≤ 1) ∧ (lf = false → kd = 2 ∨ kd = 5 ∨ kd = 6 ∨ kd = 7 ∨ kd = 8 ∨ kd = 9 ∨ kd = 10) := by
  unfold zIW at h
  by_cases h24 : 24 ≤ n
  · rw [if_pos h24] at h; cases h
  rw [if_neg h24] at h
  by_cases c1 : zNc q tb p = 84
  · have hlt := zNc_lt (q := q) (tb := tb) (p := p) (by omega)
    rw [if_pos c1] at h; cases h
    exact ⟨by omega, by omega, fun _ => by omega, fun h => by cases h⟩
  rw [if_neg c1] at h
  by_cases c2 : 97 ≤ zNc q tb p ∧ zNc q tb p ≤ 104
  · have hlt := zNc_lt (q := q) (tb := tb) (p := p) (by omega)
    rw [if_pos c2] at h; cases h
    exact ⟨by omega, by omega, fun _ => by omega, fun h => by cases h⟩
  rw [if_neg c2] at h
  by_cases c3 : zNc q tb p = 33
  · have hlt := zNc_lt (q := q) (tb := tb) (p := p) (by omega)
    rw [if_pos c3] at h; cases h
    exact ⟨by omega, by omega, fun h => (by cases h), fun _ => by omega⟩
  rw [if_neg c3] at h
  by_cases c4 : zNc q tb p = 40
  · have hlt := zNc_lt (q := q) (tb := tb) (p := p) (by omega)
    rw [if_pos c4] at h; cases h
    exact ⟨by omega, by omega, fun h => (by cases h), fun _ => by omega⟩
  rw [if_neg c4] at h
  by_cases c5 : zNc q tb p = 60
  · have hlt := zNc_lt (q := q) (tb := tb) (p := p) (by omega)
    rw [if_pos c5] at h
    have hGle := zGd_le (q := q) (P := P) (tb := tb) 4 (zNp q tb p + 1) 0 0 (by omega)
    unfold zGrR at h
    generalize zGd q P tb 4 (zNp q tb p + 1) 0 0 = G at *
    by_cases c6 : zNc q tb G.1 = 62
    · have hlt6 := zNc_lt (q := q) (tb := tb) (p := G.1) (by omega)
      rw [if_pos c6] at h
      by_cases c7 : zNc q tb (zNp q tb G.1 + 1) = 40
      · have hlt7 := zNc_lt (q := q) (tb := tb) (p := zNp q tb G.1 + 1) (by omega)
        rw [if_pos c7] at h; cases h
        exact ⟨by omega, by omega, fun h => (by cases h), fun _ => by omega⟩
      rw [if_neg c7] at h
      by_cases c8 : zqL (zNc q tb (zNp q tb G.1 + 1)) = 0
      · rw [if_pos c8] at h; cases h
      rw [if_neg c8] at h
      have hlt8 := zNc_lt (q := q) (tb := tb) (p := zNp q tb G.1 + 1) (fun z => c8 (by rw [z]; rfl))
      have hL := zqL_k c8
      generalize zqL (zNc q tb (zNp q tb G.1 + 1)) = kl at *
      cases h
      refine ⟨by omega, by omega, fun h => (by cases h), fun _ => ?_⟩
      rcases hL with rfl | rfl | rfl | rfl <;> decide
    · rw [if_neg c6] at h; cases h
  · rw [if_neg c5] at h; cases h
theorem zSamR_up {a b k : Nat} {i v : Int} {M : Nat → Int → Int} (h : i < a) : zSamR a b M (zup M k i v) := fun j h1 _ => by
  have z : ∀ q, zup M k i v q (j : Int) = M q j := fun q => by
    by_cases hq : q = k
    · subst hq; rw [zup_d (by omega)]
    · rw [zup_n hq]
  exact ⟨z _, z _, z _, z _⟩
theorem zSamR_ot {a b k : Nat} {i v : Int} {M : Nat → Int → Int} (h : k = 48 ∨ k = 65) : zSamR a b M (zup M k i v) := fun j _ _ => ⟨by rw [zup_n (by omega)], by rw [zup_n (by omega)], by rw [zup_n (by omega)], by rw [zup_n (by omega)]⟩
theorem zSamR_tr {a b : Nat} {M M1 M2 : Nat → Int → Int} (h1 : zSamR a b M M1) (h2 : zSamR a b M1 M2) : zSamR a b M M2 := fun i ha hb => by
  obtain ⟨a1, a2, a3, a4⟩ := h1 i ha hb
  obtain ⟨b1, b2, b3, b4⟩ := h2 i ha hb
  exact ⟨b1.trans a1, b2.trans a2, b3.trans a3, b4.trans a4⟩
theorem zSmR_mo {a b : Nat} {M M1 : Nat → Int → Int} (h : zSmR b M M1) (hab : a ≤ b) : zSmR a M M1 := fun i hi => h i (by omega)
section RR
variable {Ln q P d : Nat} {tb : Nat → Nat} {Q : Option zMV → (Nat → Int → Int) → Prop}
theorem zSi_one {n : Nat} {St : List (Nat × Bool)} {kd g : Nat} {res : zqR} {M M1 : Nat → Int → Int} (hd : 3 ≤ d) (H : zSiH Ln d Q (zqC (kd, n + 1, 0, g) res) n St M) (hr : zRr M M1) (hs : zSmR n M M1) (h60 : M1 60 n = (zkr kd : Int)) (h63 : 5 ≤ kd → M1 63 n = (g : Int)) (hkd : kd = 2 ∨ kd = 5 ∨ kd = 6 ∨ kd = 7 ∨ kd = 9) (hn : n < 24) (hD : St.length < 24) : zSiH Ln d Q res (n + 1) ((n, false) :: St) M1 := by
  cases res with
  | inl e =>
    have H : zBdH Ln d Q e M := H
    exact zBdH_mo H hr
  | inr y =>
    obtain ⟨p2, l⟩ := y
    have H : ∀ M', zRr M M' → zSmR n M M' → zEn p2 (n + (((kd, n + 1, 0, g) : zqP) :: l).length) St M' → zHoR n ((kd, n + 1, 0, g) :: l) M' → zCL Ln d Q (n : Int) M' := H
    intro M' a b c e
    obtain ⟨z1, z2, z3, z4⟩ := b n (by omega)
    rw [show ((n + 1 : Nat) : Int) = (n : Int) + 1 by omega]
    have hz : zkr kd = 2 ∨ zkr kd = 5 ∨ zkr kd = 6 ∨ zkr kd = 7 ∨ zkr kd = 8 := by
      rcases hkd with rfl | rfl | rfl | rfl | rfl <;> decide
    have h2 : ztwo kd = false := by rcases hkd with rfl | rfl | rfl | rfl | rfl <;> decide
    refine zCL_one hd c hn hD (z1.trans h60) hz (H _ ?_ ?_ ?_ ⟨?_, ?_⟩)
    · exact zRr_48 (zRr_up (zRr_tr hr a) (by decide)) (by omega)
    · exact zSmR_48 (zSmR_up (zSmR_tr hs (zSmR_mo b (by omega))) (Nat.le_refl n))
    · obtain ⟨c1, c2, c3, c4, ⟨_, _, c5⟩, c6⟩ := c
      refine ⟨c1, c2, ?_, zup_s _ _ _ _, zStR_k St c5 (fun i hi => ⟨rfl, rfl⟩), zRng_up (zRng_up c6 (fun _ => by omega)) (fun h => by omega)⟩
      show M' 48 15 = _
      rw [c3, List.length_cons]; omega
    · refine ⟨?_, fun _ => ?_, fun h => ?_, fun h => ?_⟩
      · show M' 60 (n : Int) = _
        rw [z1, h60]
      · rw [zup_n (by decide), zup_s]
        show (n : Int) + 1 = ((n + 1 : Nat) : Int)
        omega
      · have h : ztwo kd = true := h
        rw [h2] at h; cases h
      · show M' 63 (n : Int) = _
        rw [z4]; exact h63 h
    · exact zHoR_k l (n + 1) e (zSamR_tr (zSamR_up (by omega)) (zSamR_ot (Or.inl rfl)))
set_option maxHeartbeats 20000000 in
theorem zsim (hd : 6 ≤ d) (hq : q ≤ 100) (hP4 : P ≤ 4) (htb : ∀ j, j < q → 32 ≤ tb j ∧ tb j ≤ 126) : ∀ (f p n : Nat) (St : List (Nat × Bool)) (M : Nat → Int → Int), zTpR q tb M → M 48 1 = P → zEn p n St M → p ≤ q → n ≤ 24 → 25 ≤ n + f → St.length ≤ n → zSiH Ln d Q (zqF q P tb f p n) n St M → ∀ v2, zFL Ln d Q M 1 v2 := by
  intro f
  induction f with
  | zero => intro p n St M _ _ _ _ hn hf; omega
  | succ f ih =>
    intro p n St M hT hP hE hpq hn hf hSt H v2
    -- a pair within
    have pair : ∀ (og : Bool) (p' g : Nat) (M1 : Nat → Int → Int), p' ≤ q → n < 24 → zRr M M1 → zSmR n M M1 → M1 60 n = (if og = true then 9 else 10) → (og = true → M1 63 n = (g : Int)) → zSiH Ln d Q (zqPair (zqF q P tb f) q tb og p' n g) n St M → zSiH Ln d Q (zqF q P tb f p' (n + 1)) (n + 1) ((n, false) :: St) M1 := by
      intro og p' g M1 hp' hn24 hr hs h60 h63 H
      have hD : St.length < 24 := by omega
      unfold zqPair at H
      have hG1 := zqF_g (q := q) (P := P) (tb := tb) f p' (n + 1) hp' (by omega)
      cases e1 : zqF q P tb f p' (n + 1) with
      | inl e =>
        rw [e1] at H
        have H : zBdH Ln d Q e M := H
        exact zBdH_mo H hr
      | inr y =>
        obtain ⟨p1, l1⟩ := y
        rw [e1] at H hG1
        dsimp only at H
        obtain ⟨g1, g2, g3, g4, g5⟩ : p' ≤ p1 ∧ p1 ≤ q ∧ 1 ≤ l1.length ∧ n + 1 + l1.length ≤ 24 ∧ zqWL P (n + 1 + l1.length) (n + 1) l1 := hG1
        intro M' a b c e
        obtain ⟨z1, z2, z3, z4⟩ := b n (by omega)
        rw [show ((n + 1 : Nat) : Int) = (n : Int) + 1 by omega]
        refine zCL_fst (M := M) (og := og) (by omega) (zRr_tp (zRr_tp hT hr) a) hq c g2 hn24 (by omega) hD (z1.trans h60) (zRr_tr hr a) (fun hz => by rw [if_pos hz] at H; exact H) (fun kd hz h0 w2 => ?_)
        rw [hz, if_neg h0] at H
        have hlt : zNp q tb p1 < q := zNc_lt (fun z => h0 (by rw [← hz, z]; unfold zqK; cases og <;> rfl))
        have hkk := zqK_k (og := og) (c := zNc q tb p1) (by rw [hz]; exact h0)
        rw [hz] at hkk
        have hzk : zkr kd = 3 ∨ zkr kd = 4 ∨ zkr kd = 9 := by
          rcases hkk with ⟨_, rfl⟩ | ⟨_, rfl | rfl⟩ <;> decide
        have hzl : zkr kd < 100 := by omega
        generalize hM2 : zup (zup (zup (zup M' 61 n ((n : Int) + 1)) 65 (St.length : Int) 1) 60 n (zkr kd)) 48 25 ((zNp q tb p1 : Int) + 1) = M2
        have r2 : zRr M' M2 := by rw [← hM2]; exact zRr_48 (zRr_up (zRr_up (zRr_up (zRr_rf M') (by decide)) (by decide)) (by decide)) (by omega)
        have s2 : zSmR n M' M2 := by rw [← hM2]; exact zSmR_48 (zSmR_up (zSmR_ot (zSmR_up (fun _ _ => ⟨rfl, rfl, rfl, rfl⟩) (Nat.le_refl n)) (Or.inr rfl)) (Nat.le_refl n))
        have m60 : M2 60 n = (zkr kd : Int) := by rw [← hM2, zup_n (by decide), zup_s]
        have m61 : M2 61 n = (n : Int) + 1 := by rw [← hM2, zup_n (by decide), zup_n (by decide), zup_n (by decide), zup_s]
        have m63 : M2 63 n = M' 63 n := by rw [← hM2]; rfl
        have w2' : zSamR (n + 1) (n + 1 + l1.length) M' M2 := by
          rw [← hM2]
          exact zSamR_tr (zSamR_tr (zSamR_tr (zSamR_up (by omega)) (zSamR_ot (Or.inr rfl))) (zSamR_up (by omega))) (zSamR_ot (Or.inl rfl))
        have rM2 : zRr M M2 := zRr_tr (zRr_tr hr a) r2
        obtain ⟨c1, c2, c3, c4, ⟨c5, c6, c7⟩, c8⟩ := c
        have en2 : zEn (zNp q tb p1 + 1) (n + 1 + l1.length) ((n, true) :: St) M2 := by
          rw [← hM2]
          refine ⟨by rw [zup_s]; omega, c2, c3, c4, ⟨c5, ?_, zStR_k St c7 fun i hi => ⟨rfl, ?_⟩⟩, zRng_up (zRng_up (zRng_up (zRng_up c8 (fun _ => by omega)) (fun h => by omega)) (fun h => by omega)) (fun h => by omega)⟩
          · rw [zup_n (by decide), zup_n (by decide), zup_s]; rfl
          · rw [zup_n (by decide), zup_n (by decide), zup_d (by omega)]; rfl
        have hG2 := zqF_g (q := q) (P := P) (tb := tb) f (zNp q tb p1 + 1) (n + 1 + l1.length) (by omega) (by omega)
        refine ih (zNp q tb p1 + 1) (n + 1 + l1.length) ((n, true) :: St) M2 (zRr_tp hT rM2) (zRr_P hP rM2) en2 (by omega) (by omega) (by omega) (by simp; omega) ?_ w2
        cases e2 : zqF q P tb f (zNp q tb p1 + 1) (n + 1 + l1.length) with
        | inl e4 =>
          rw [e2] at H
          have H : zBdH Ln d Q e4 M := H
          exact zBdH_mo H rM2
        | inr y2 =>
          obtain ⟨p2, l2⟩ := y2
          rw [e2] at H hG2
          dsimp only at H
          obtain ⟨b1, b2, b3, b4, b5⟩ : zNp q tb p1 + 1 ≤ p2 ∧ p2 ≤ q ∧ 1 ≤ l2.length ∧ n + 1 + l1.length + l2.length ≤ 24 ∧ zqWL P (n + 1 + l1.length + l2.length) (n + 1 + l1.length) l2 := hG2
          intro M3 a3 s3 en3 e3
          obtain ⟨y1, y2, y3, y4⟩ := s3 n (by omega)
          have rM3 : zRr M M3 := zRr_tr rM2 a3
          refine zCL_sec (M := M) (kd := zkr kd) (by omega) (zRr_tp hT rM3) hq en3 b2 hn24 (by omega) hD (y1.trans m60) hzk rM3 (fun h41 => by rw [if_neg h41] at H; exact H) (fun h41 => ?_)
          rw [if_pos h41] at H
          have H : ∀ M', zRr M M' → zSmR n M M' → zEn (zNp q tb p2 + 1) (n + (((kd, n + 1, n + 1 + l1.length, g) : zqP) :: (l1 ++ l2)).length) St M' → zHoR n ((kd, n + 1, n + 1 + l1.length, g) :: (l1 ++ l2)) M' → zCL Ln d Q (n : Int) M' := H
          obtain ⟨d1, d2, d3, d4, ⟨d5, d6, d7⟩, d8⟩ := en3
          refine H _ ?_ ?_ ⟨?_, d2, ?_, zup_s _ _ _ _, zStR_k St d7 (fun i hi => ⟨rfl, rfl⟩), ?_⟩ ⟨⟨?_, fun _ => ?_, fun _ => ?_, fun h => ?_⟩, ?_⟩
          · exact zRr_48 (zRr_48 (zRr_up rM3 (by decide)) (by omega)) (by omega)
          · exact zSmR_48 (zSmR_48 (zSmR_up (zSmR_tr (zSmR_tr (zSmR_tr hs (zSmR_mo b (by omega))) s2) (zSmR_mo s3 (by omega))) (Nat.le_refl n)))
          · rw [zup_d (by omega), zup_s]; omega
          · show M3 48 15 = _
            rw [d3, List.length_cons, List.length_append]; omega
          · exact zRng_up (zRng_up (zRng_up d8 (fun _ => by omega)) (fun h => by omega)) (fun h => by omega)
          · show M3 60 (n : Int) = _
            rw [y1, m60]
          · show M3 61 (n : Int) = ((n + 1 : Nat) : Int)
            rw [y2, m61]; omega
          · rw [zup_n (by decide), zup_n (by decide), zup_s]
          · have h : 5 ≤ kd := h
            have hog : og = true := by
              rcases hkk with z | z
              · exact z.1
              · omega
            show M3 63 (n : Int) = _
            rw [y4, m63, z4]; exact h63 hog
          · refine zHoR_app l1 l2 (n + 1) (zHoR_k l1 (n + 1) e ?_) (zHoR_k l2 _ e3 ?_)
            · exact zSamR_tr (zSamR_tr w2' (zSamR_of s3 (Nat.le_refl _))) (zSamR_tr (zSamR_tr (zSamR_up (by omega)) (zSamR_ot (Or.inl rfl))) (zSamR_ot (Or.inl rfl)))
            · exact zSamR_tr (zSamR_tr (zSamR_up (by omega)) (zSamR_ot (Or.inl rfl))) (zSamR_ot (Or.inl rfl))
    rw [zqF_IW] at H
    unfold zFL
    obtain ⟨h25, h26, h15, h22, hst, hrng⟩ := id hE
    rw [k_Md_form_1]
    simp (disch := first | omega | exact Nat.le_of_ble_eq_true rfl | assumption | (simp only [Int.natCast_add, Int.natCast_mul, Int.cast_ofNat_Int]; omega) | decide) only [k_Md_form_2, k_Md_form_3, x_aload, x_getf, w_goto, w_fall, w_iconst, w_if, w_icmp, x_iinc, x_iload, x_istore, w_isub, zsub_eq, zadd_eq, gf_48_10, gf_48_11, gf_48_12, gf_48_13, gf_48_14, gf_48_15, gf_48_16, gf_48_17, gf_48_18, gf_48_19, gf_48_22, gf_48_25, gf_48_26, xp_48_10, xp_48_15, xp_48_22, xp_48_24, xp_48_25, xp_48_26, ia_56, sa_56, ia_57, sa_57, ia_58, sa_58, ia_59, sa_59, ia_60, sa_60, ia_61, sa_61, ia_62, sa_62, ia_63, sa_63, w_nret r_Md_form, q_eq, q_ne, q_lt, q_ge, q_gt, q_le, g_I, g_L, g_R, g_V, t_0, t_I, t_R, t_U, t_L, t_s, List.getElem?_cons_zero, List.getElem?_cons_succ, Nat.reduceAdd, zif10, zif01b, zib, if_pos, if_neg, ↓reduceIte, not_true_eq_false, not_false_eq_true, Bool.true_eq_false, Bool.false_eq_true, Classical.not_not, eq_self, and_self, and_true, true_and, Int.reduceEq, Int.reduceLE, Int.reduceLT, Int.reduceNeg, Option.toList, List.cons_append, List.nil_append, zup_s, zup_n, zst_s, zup_zs, zup_zn, decide_true, decide_false, h26, h15]
    refine c_Md_isWhole hT hq hP hP4 htb hE hpq hn hSt (by omega) (Nat.le_of_ble_eq_true rfl) ?_
    intro r M1 hI
    cases e1 : zIW q P tb p n with
    | inl e =>
      rw [e1] at hI H
      obtain ⟨⟨hr, hs, hg⟩, hv, hp, hw⟩ := hI
      have H : zBdH Ln d Q e M := H
      have hfin := H M1 hr hg hp hw
      rcases hv with rfl | rfl
      · simp (disch := first | omega | exact Nat.le_of_ble_eq_true rfl | assumption | (simp only [Int.natCast_add, Int.natCast_mul, Int.cast_ofNat_Int]; omega) | decide) only [k_Md_form_9, x_aload, x_getf, w_goto, w_fall, w_iconst, w_if, w_icmp, x_iinc, x_iload, x_istore, w_isub, zsub_eq, zadd_eq, gf_48_10, gf_48_11, gf_48_12, gf_48_13, gf_48_14, gf_48_15, gf_48_16, gf_48_17, gf_48_18, gf_48_19, gf_48_22, gf_48_25, gf_48_26, xp_48_10, xp_48_15, xp_48_22, xp_48_24, xp_48_25, xp_48_26, ia_56, sa_56, ia_57, sa_57, ia_58, sa_58, ia_59, sa_59, ia_60, sa_60, ia_61, sa_61, ia_62, sa_62, ia_63, sa_63, w_nret r_Md_form, q_eq, q_ne, q_lt, q_ge, q_gt, q_le, g_I, g_L, g_R, g_V, t_0, t_I, t_R, t_U, t_L, t_s, List.getElem?_cons_zero, List.getElem?_cons_succ, Nat.reduceAdd, zif10, zif01b, zib, if_pos, if_neg, ↓reduceIte, not_true_eq_false, not_false_eq_true, Bool.true_eq_false, Bool.false_eq_true, Classical.not_not, eq_self, and_self, and_true, true_and, Int.reduceEq, Int.reduceLE, Int.reduceLT, Int.reduceNeg, Option.toList, List.cons_append, List.nil_append, zup_s, zup_n, zst_s, zup_zs, zup_zn, decide_true, decide_false]
        exact hfin _ _
      · simp (disch := first | omega | exact Nat.le_of_ble_eq_true rfl | assumption | (simp only [Int.natCast_add, Int.natCast_mul, Int.cast_ofNat_Int]; omega) | decide) only [k_Md_form_4, k_Md_form_9, x_aload, x_getf, w_goto, w_fall, w_iconst, w_if, w_icmp, x_iinc, x_iload, x_istore, w_isub, zsub_eq, zadd_eq, gf_48_10, gf_48_11, gf_48_12, gf_48_13, gf_48_14, gf_48_15, gf_48_16, gf_48_17, gf_48_18, gf_48_19, gf_48_22, gf_48_25, gf_48_26, xp_48_10, xp_48_15, xp_48_22, xp_48_24, xp_48_25, xp_48_26, ia_56, sa_56, ia_57, sa_57, ia_58, sa_58, ia_59, sa_59, ia_60, sa_60, ia_61, sa_61, ia_62, sa_62, ia_63, sa_63, w_nret r_Md_form, q_eq, q_ne, q_lt, q_ge, q_gt, q_le, g_I, g_L, g_R, g_V, t_0, t_I, t_R, t_U, t_L, t_s, List.getElem?_cons_zero, List.getElem?_cons_succ, Nat.reduceAdd, zif10, zif01b, zib, if_pos, if_neg, ↓reduceIte, not_true_eq_false, not_false_eq_true, Bool.true_eq_false, Bool.false_eq_true, Classical.not_not, eq_self, and_self, and_true, true_and, Int.reduceEq, Int.reduceLE, Int.reduceLT, Int.reduceNeg, Option.toList, List.cons_append, List.nil_append, zup_s, zup_n, zst_s, zup_zs, zup_zn, decide_true, decide_false, hw]
        exact hfin _ _
    | inr y =>
      obtain ⟨lf, p', kd, one, g⟩ := y
      obtain ⟨hp', hn24, hk1, hk2⟩ := zIW_le hpq e1
      rw [e1] at hI H
      have hD : St.length < 24 := by omega
      cases lf with
      | true =>
        obtain ⟨⟨hr, hs, hg⟩, hrv, hE1, h60, h61, _⟩ := hI
        have hrv : r = some (zI 1) := hrv
        subst hrv
        have hE1 : zEn p' (n + 1) St M1 := hE1
        have H : ∀ M', zRr M M' → zSmR n M M' → zEn p' (n + 1) St M' → zHoR n [(kd, one, 0, 0)] M' → zCL Ln d Q (n : Int) M' := H
        have hk1 := hk1 rfl
        have hC := H M1 hr hs hE1 ⟨⟨by rw [h60]; rcases (show kd = 0 ∨ kd = 1 by omega) with rfl | rfl <;> rfl, fun h => h61 rfl (by have h : 1 ≤ kd := h; omega), fun h => by have h : ztwo kd = true := h; rcases (show kd = 0 ∨ kd = 1 by omega) with rfl | rfl <;> exact absurd h (by decide), fun h => by have h : 5 ≤ kd := h; omega⟩, trivial⟩
        have hw : M1 48 26 = 0 := hE1.2.1
        simp (disch := first | omega | exact Nat.le_of_ble_eq_true rfl | assumption | (simp only [Int.natCast_add, Int.natCast_mul, Int.cast_ofNat_Int]; omega) | decide) only [k_Md_form_4, k_Md_form_5, x_aload, x_getf, w_goto, w_fall, w_iconst, w_if, w_icmp, x_iinc, x_iload, x_istore, w_isub, zsub_eq, zadd_eq, gf_48_10, gf_48_11, gf_48_12, gf_48_13, gf_48_14, gf_48_15, gf_48_16, gf_48_17, gf_48_18, gf_48_19, gf_48_22, gf_48_25, gf_48_26, xp_48_10, xp_48_15, xp_48_22, xp_48_24, xp_48_25, xp_48_26, ia_56, sa_56, ia_57, sa_57, ia_58, sa_58, ia_59, sa_59, ia_60, sa_60, ia_61, sa_61, ia_62, sa_62, ia_63, sa_63, w_nret r_Md_form, q_eq, q_ne, q_lt, q_ge, q_gt, q_le, g_I, g_L, g_R, g_V, t_0, t_I, t_R, t_U, t_L, t_s, List.getElem?_cons_zero, List.getElem?_cons_succ, Nat.reduceAdd, zif10, zif01b, zib, if_pos, if_neg, ↓reduceIte, not_true_eq_false, not_false_eq_true, Bool.true_eq_false, Bool.false_eq_true, Classical.not_not, eq_self, and_self, and_true, true_and, Int.reduceEq, Int.reduceLE, Int.reduceLT, Int.reduceNeg, Option.toList, List.cons_append, List.nil_append, zup_s, zup_n, zst_s, zup_zs, zup_zn, decide_true, decide_false, hw]
        refine w_callv (ps := [zI (n : Int)]) (Q2 := fun r M' => r = none ∧ ∀ v2, zFL Ln d Q M' (if 0 < M' 48 22 then 1 else 0) v2) (by omega) rfl rfl (by omega) (sh_48 Ln) (Nat.le_of_ble_eq_true rfl) (Nat.le_of_ble_eq_true rfl) ?_ ?_
        · rw [zF_en k_Md_closes_0 (L := [zR 48, zI (n : Int), zU, zU, zU, zU, zU]) rfl]
          simp (disch := first | omega | exact Nat.le_of_ble_eq_true rfl | assumption | (simp only [Int.natCast_add, Int.natCast_mul, Int.cast_ofNat_Int]; omega) | decide) only [x_aload, w_dupI, w_dupR, x_getf, w_goto, w_fall, w_iadd, w_iconst, w_if, w_icmp, x_iload, x_istore, w_isub, zadd_eq, zsub_eq, gf_48_16, gf_48_17, gf_48_18, gf_48_20, gf_48_21, gf_48_22, gf_48_25, gf_48_26, xp_48_22, xp_48_25, xp_48_26, ia_60, sa_60, ia_61, sa_61, ia_62, sa_62, ia_64, sa_64, ia_65, sa_65, w_vret r_Md_closes, q_eq, q_ne, q_lt, q_ge, q_gt, q_le, g_I, g_L, g_R, g_V, t_0, t_I, t_R, t_U, t_L, t_s, List.getElem?_cons_zero, List.getElem?_cons_succ, Nat.reduceAdd, zif10, zif01b, zib, if_pos, if_neg, ↓reduceIte, not_true_eq_false, not_false_eq_true, Bool.true_eq_false, Bool.false_eq_true, Classical.not_not, eq_self, and_self, and_true, true_and, Int.reduceEq, Int.reduceLE, Int.reduceLT, Int.reduceNeg, Option.toList, List.cons_append, List.nil_append, zup_s, zup_n, zst_s, zup_zs, zup_zn, decide_true, decide_false]
          exact hC _ _ _ _ _
        · rintro _ M2 ⟨rfl, h2⟩
          have h2 := h2 (zI (n : Int))
          by_cases hD2 : 0 < M2 48 22
          · rw [if_pos hD2] at h2
            have hD3 : ¬ M2 48 22 ≤ 0 := by omega
            simp (disch := first | omega | exact Nat.le_of_ble_eq_true rfl | assumption | (simp only [Int.natCast_add, Int.natCast_mul, Int.cast_ofNat_Int]; omega) | decide) only [k_Md_form_6, k_Md_form_8, k_Md_form_9, x_aload, x_getf, w_goto, w_fall, w_iconst, w_if, w_icmp, x_iinc, x_iload, x_istore, w_isub, zsub_eq, zadd_eq, gf_48_10, gf_48_11, gf_48_12, gf_48_13, gf_48_14, gf_48_15, gf_48_16, gf_48_17, gf_48_18, gf_48_19, gf_48_22, gf_48_25, gf_48_26, xp_48_10, xp_48_15, xp_48_22, xp_48_24, xp_48_25, xp_48_26, ia_56, sa_56, ia_57, sa_57, ia_58, sa_58, ia_59, sa_59, ia_60, sa_60, ia_61, sa_61, ia_62, sa_62, ia_63, sa_63, w_nret r_Md_form, q_eq, q_ne, q_lt, q_ge, q_gt, q_le, g_I, g_L, g_R, g_V, t_0, t_I, t_R, t_U, t_L, t_s, List.getElem?_cons_zero, List.getElem?_cons_succ, Nat.reduceAdd, zif10, zif01b, zib, if_pos, if_neg, ↓reduceIte, not_true_eq_false, not_false_eq_true, Bool.true_eq_false, Bool.false_eq_true, Classical.not_not, eq_self, and_self, and_true, true_and, Int.reduceEq, Int.reduceLE, Int.reduceLT, Int.reduceNeg, Option.toList, List.cons_append, List.nil_append, zup_s, zup_n, zst_s, zup_zs, zup_zn, decide_true, decide_false, hD2, hD3]
            exact h2
          · rw [if_neg hD2] at h2
            have hD3 : M2 48 22 ≤ 0 := by omega
            simp (disch := first | omega | exact Nat.le_of_ble_eq_true rfl | assumption | (simp only [Int.natCast_add, Int.natCast_mul, Int.cast_ofNat_Int]; omega) | decide) only [k_Md_form_7, k_Md_form_8, k_Md_form_9, x_aload, x_getf, w_goto, w_fall, w_iconst, w_if, w_icmp, x_iinc, x_iload, x_istore, w_isub, zsub_eq, zadd_eq, gf_48_10, gf_48_11, gf_48_12, gf_48_13, gf_48_14, gf_48_15, gf_48_16, gf_48_17, gf_48_18, gf_48_19, gf_48_22, gf_48_25, gf_48_26, xp_48_10, xp_48_15, xp_48_22, xp_48_24, xp_48_25, xp_48_26, ia_56, sa_56, ia_57, sa_57, ia_58, sa_58, ia_59, sa_59, ia_60, sa_60, ia_61, sa_61, ia_62, sa_62, ia_63, sa_63, w_nret r_Md_form, q_eq, q_ne, q_lt, q_ge, q_gt, q_le, g_I, g_L, g_R, g_V, t_0, t_I, t_R, t_U, t_L, t_s, List.getElem?_cons_zero, List.getElem?_cons_succ, Nat.reduceAdd, zif10, zif01b, zib, if_pos, if_neg, ↓reduceIte, not_true_eq_false, not_false_eq_true, Bool.true_eq_false, Bool.false_eq_true, Classical.not_not, eq_self, and_self, and_true, true_and, Int.reduceEq, Int.reduceLE, Int.reduceLT, Int.reduceNeg, Option.toList, List.cons_append, List.nil_append, zup_s, zup_n, zst_s, zup_zs, zup_zn, decide_true, decide_false, hD2, hD3]
            exact h2
      | false =>
        obtain ⟨⟨hr, hs, hg⟩, hrv, hE1, h60, _, h63⟩ := hI
        have hrv : r = some (zI 0) := hrv
        subst hrv
        have hE1 : zEn p' (n + 1) ((n, false) :: St) M1 := hE1
        have hk2 := hk2 rfl
        have h63 := h63 rfl
        have H : zSiH Ln d Q (if kd = 2 then zqC (2, n + 1, 0, 0) (zqF q P tb f p' (n + 1)) else if kd = 10 then zqPair (zqF q P tb f) q tb false p' n 0 else if kd = 9 then zqPair (zqF q P tb f) q tb true p' n g else zqC (zkr kd, n + 1, 0, g) (zqF q P tb f p' (n + 1))) n St M := H
        simp (disch := first | omega | exact Nat.le_of_ble_eq_true rfl | assumption | (simp only [Int.natCast_add, Int.natCast_mul, Int.cast_ofNat_Int]; omega) | decide) only [k_Md_form_9, x_aload, x_getf, w_goto, w_fall, w_iconst, w_if, w_icmp, x_iinc, x_iload, x_istore, w_isub, zsub_eq, zadd_eq, gf_48_10, gf_48_11, gf_48_12, gf_48_13, gf_48_14, gf_48_15, gf_48_16, gf_48_17, gf_48_18, gf_48_19, gf_48_22, gf_48_25, gf_48_26, xp_48_10, xp_48_15, xp_48_22, xp_48_24, xp_48_25, xp_48_26, ia_56, sa_56, ia_57, sa_57, ia_58, sa_58, ia_59, sa_59, ia_60, sa_60, ia_61, sa_61, ia_62, sa_62, ia_63, sa_63, w_nret r_Md_form, q_eq, q_ne, q_lt, q_ge, q_gt, q_le, g_I, g_L, g_R, g_V, t_0, t_I, t_R, t_U, t_L, t_s, List.getElem?_cons_zero, List.getElem?_cons_succ, Nat.reduceAdd, zif10, zif01b, zib, if_pos, if_neg, ↓reduceIte, not_true_eq_false, not_false_eq_true, Bool.true_eq_false, Bool.false_eq_true, Classical.not_not, eq_self, and_self, and_true, true_and, Int.reduceEq, Int.reduceLE, Int.reduceLT, Int.reduceNeg, Option.toList, List.cons_append, List.nil_append, zup_s, zup_n, zst_s, zup_zs, zup_zn, decide_true, decide_false]
        refine ih p' (n + 1) ((n, false) :: St) M1 (zRr_tp hT hr) (zRr_P hP hr) hE1 hp' (by omega) (by omega) (by simp; omega) ?_ (zI (n : Int))
        by_cases k2 : kd = 2
        · subst k2
          rw [if_pos rfl] at H
          exact zSi_one (by omega) H hr hs h60 (fun h => by omega) (Or.inl rfl) hn24 hD
        rw [if_neg k2] at H
        by_cases k10 : kd = 10
        · subst k10
          rw [if_pos rfl] at H
          exact pair false p' 0 M1 hp' hn24 hr hs h60 (fun h => by cases h) H
        rw [if_neg k10] at H
        by_cases k9 : kd = 9
        · subst k9
          rw [if_pos rfl] at H
          exact pair true p' g M1 hp' hn24 hr hs h60 (fun _ => h63 (by omega) (by omega)) H
        rw [if_neg k9] at H
        have hkk : kd = 5 ∨ kd = 6 ∨ kd = 7 ∨ kd = 8 := by omega
        refine zSi_one (by omega) H hr hs (by rw [zkr_2 kd (by omega)]; exact h60) (fun _ => h63 (by omega) k10) ?_ hn24 hD
        rcases hkk with rfl | rfl | rfl | rfl <;> decide
end RR
