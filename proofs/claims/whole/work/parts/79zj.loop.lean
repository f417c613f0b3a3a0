/-! the law's loop -/
section LL
variable {Ln d : Nat}
theorem ztsw_in {x : Int} (h : ¬ (x < 0 ∨ 34 < x)) : x = 0 ∨ x = 1 ∨ x = 2 ∨ x = 3 ∨ x = 4 ∨ x = 5 ∨ x = 6 ∨ x = 7 ∨ x = 8 ∨ x = 9 ∨ x = 10 ∨ x = 11 ∨ x = 12 ∨ x = 13 ∨ x = 14 ∨ x = 15 ∨ x = 16 ∨ x = 17 ∨ x = 18 ∨ x = 19 ∨ x = 20 ∨ x = 21 ∨ x = 22 ∨ x = 23 ∨ x = 24 ∨ x = 25 ∨ x = 26 ∨ x = 27 ∨ x = 28 ∨ x = 29 ∨ x = 30 ∨ x = 31 ∨ x = 32 ∨ x = 33 ∨ x = 34 := by omega
theorem LW_end {M : Nat → Int → Int} {i : Int} : zW (zSH Ln) d 264 (zblk 264 74) [zR 0, zR 2, zR 48, zI i] [] M (fun r _ => r = some (zI 1)) := by
  rw [show zblk 264 74 = _ from k_LW_law_74, w_iconst, w_iret (by rfl)]
theorem LW_body {a : zAbs} {v : Nat} {i : Int} {M : Nat → Int → Int} {Q : Option zMV → (Nat → Int → Int) → Prop} (hd : 200 ≤ d) (h0 : 0 ≤ i) (h5 : i + 5 < Ln) (hL : Ln ≤ 3072) (hv : v ≤ 100000) (hA : ∀ j, zin32 (M 0 j)) (hP : zJP a) (hC : zJC a v M) (hR : zJR a M) (hK : zKt Ln d v i (M 0) Q) : zW (zSH Ln) d 264 (zblk 264 2) [zR 0, zR 2, zR 48, zI i] [] M Q := by
  rw [show zblk 264 2 = _ from k_LW_law_2, w_aload (k := 0) rfl, w_iload (x := i) rfl, w_iald (n := Ln) (rs := []) rfl h0 (by omega), w_iconst, w_iand, w_tsw]
  generalize zand (M 0 i) 63 = x
  by_cases hx : x < 0 ∨ 34 < x
  · rw [show ztsw (Int.toNat 73) 0 34 _ x = 73 from if_pos hx]
    exact hK a M hP (zJC_v hC (by omega)) hR rfl
  · rcases ztsw_in hx with rfl | rfl | rfl | rfl | rfl | rfl | rfl | rfl | rfl | rfl | rfl | rfl | rfl | rfl | rfl | rfl | rfl | rfl | rfl | rfl | rfl | rfl | rfl | rfl | rfl | rfl | rfl | rfl | rfl | rfl | rfl | rfl | rfl | rfl | rfl
    · exact LW_net hd h0 h5 hL hv hA hP hC hR hK
    · exact LW_moves hd h0 h5 hL hv hA hP hC hR hK
    · exact LW_joint hd h0 h5 hL hv hA hP hC hR hK
    · exact LW_step hd h0 h5 hL hv hA hP hC hR hK
    · exact LW_leads hd h0 h5 hL hv hA hP hC hR hK
    · exact LW_letters hd h0 h5 hL hv hA hP hC hR hK
    · exact LW_heap hd h0 h5 hL hv hA hP hC hR hK
    · exact LW_price hd h0 h5 hL hv hA hP hC hR hK
    · exact LW_steps hd h0 h5 hL hv hA hP hC hR hK
    · exact LW_type hd h0 h5 hL hv hA hP hC hR hK
    · exact LW_form hd h0 h5 hL hv hA hP hC hR hK
    · exact LW_holds hd h0 h5 hL hv hA hP hC hR hK
    · exact LW_part hd h0 h5 hL hv hA hP hC hR hK
    · exact LW_force hd h0 h5 hL hv hA hP hC hR hK
    · exact LW_round hd h0 h5 hL hv hA hP hC hR hK
    · exact LW_plan hd h0 h5 hL hv hA hP hC hR hK
    · exact LW_answer hd h0 h5 hL hv hA hP hC hR hK
    · exact LW_toll hd h0 h5 hL hv hA hP hC hR hK
    · exact LW_walk hd h0 h5 hL hv hA hP hC hR hK
    · exact LW_walked hd h0 h5 hL hv hA hP hC hR hK
    · exact LW_blind hd h0 h5 hL hv hA hP hC hR hK
    · exact LW_blindMove hd h0 h5 hL hv hA hP hC hR hK
    · exact LW_choose hd h0 h5 hL hv hA hP hC hR hK
    · exact LW_lot hd h0 h5 hL hv hA hP hC hR hK
    · exact LW_chance hd h0 h5 hL hv hA hP hC hR hK
    · exact LW_goal hd h0 h5 hL hv hA hP hC hR hK
    · exact LW_content hd h0 h5 hL hv hA hP hC hR hK
    · exact LW_stable hd h0 h5 hL hv hA hP hC hR hK
    · exact LW_settle hd h0 h5 hL hv hA hP hC hR hK
    · exact LW_helpers hd h0 h5 hL hv hA hP hC hR hK
    · exact LW_count hd h0 h5 hL hv hA hP hC hR hK
    · exact LW_sheet hd h0 h5 hL hv hA hP hC hR hK
    · exact LW_drop hd h0 h5 hL hv hA hP hC hR hK
    · exact LW_item hd h0 h5 hL hv hA hP hC hR hK
    · exact LW_copy hd h0 h5 hL hv hA hP hC hR hK
theorem LW_loop (hd : 200 ≤ d) (hL : Ln ≤ 3072) : ∀ (m c : Nat) (a : zAbs) (M : Nat → Int → Int), Ln ≤ 6 * (c + m) → 6 * c ≤ 3100 → (∀ j, zin32 (M 0 j)) → zJP a → zJC a (1 + 100 * c) M → zJR a M → zW (zSH Ln) d 264 (zblk 264 1) [zR 0, zR 2, zR 48, zI ((6 * c : Nat) : Int)] [] M (fun r _ => r = some (zI 1)) := by
  intro m
  induction m with
  | zero =>
    intro c a M h1 hc hA hP hC hR
    rw [show zblk 264 1 = _ from k_LW_law_1, w_iload (x := ((6 * c : Nat) : Int)) rfl, w_aload (k := 0) rfl, w_alen (n := Ln) (rs := []) rfl, w_iconst, w_isub, zsub_eq (by omega) (by omega), w_icmp, if_pos (by rw [q_gt]; omega)]
    exact LW_end
  | succ m ih =>
    intro c a M h1 hc hA hP hC hR
    rw [show zblk 264 1 = _ from k_LW_law_1, w_iload (x := ((6 * c : Nat) : Int)) rfl, w_aload (k := 0) rfl, w_alen (n := Ln) (rs := []) rfl, w_iconst, w_isub, zsub_eq (by omega) (by omega), w_icmp]
    by_cases h : (Ln : Int) - 6 < ((6 * c : Nat) : Int)
    · rw [if_pos (by rw [q_gt]; omega)]
      exact LW_end
    · rw [if_neg (by rw [q_gt]; omega), w_fall]
      refine LW_body hd (by omega) (by omega) hL (by omega) hA hP hC hR ?_
      intro a2 M2 hP2 hC2 hR2 e0
      rw [show zblk 264 73 = _ from k_LW_law_73, w_iinc (x := ((6 * c : Nat) : Int)) (L' := [zR 0, zR 2, zR 48, zI (zadd ((6 * c : Nat) : Int) 6)]) rfl rfl (Nat.lt_of_sub_pos (by exact Nat.one_pos)), w_goto]
      rw [zadd_eq (by omega) (by omega)]
      have := ih (c + 1) a2 M2 (by omega) (by omega) (by rw [e0]; exact hA) hP2 (zJC_v hC2 (by omega)) hR2
      rw [show ((6 * (c + 1) : Nat) : Int) = ((6 * c : Nat) : Int) + 6 by omega] at this
      exact this
end LL
