/-! the law's cases -/
section LC
variable {Ln d : Nat} {a : zAbs} {v : Nat} {i : Int} {M : Nat → Int → Int} {es : List zEnt} {st : List zMV} {Q : Option zMV → (Nat → Int → Int) → Prop}
theorem w_ag {k : Int} (h0 : 0 ≤ i) (h1 : i + 5 < Ln) (h2 : Ln ≤ 3072) (k0 : 0 ≤ k) (k5 : k ≤ 5) : zW (zSH Ln) d 264 ((.aload 0, 0, 0) :: (.iload 3, 0, 0) :: (.iconst k, 0, 0) :: (.iadd, 0, 0) :: (.iaload, 0, 0) :: es) [zR 0, zR 2, zR 48, zI i] st M Q = zW (zSH Ln) d 264 es [zR 0, zR 2, zR 48, zI i] (zI (M 0 (i + k)) :: st) M Q := by
  rw [w_aload (k := 0) rfl, w_iload (x := i) rfl, w_iconst, w_iadd, zadd_eq (by omega) (by omega)]
  exact w_iald (n := Ln) (rs := []) rfl (by omega) (by omega)
theorem w_a1 : zW (zSH Ln) d 264 ((.aload 1, 0, 0) :: es) [zR 0, zR 2, zR 48, zI i] st M Q = zW (zSH Ln) d 264 es [zR 0, zR 2, zR 48, zI i] (zR 2 :: st) M Q := w_aload rfl
theorem w_a2 : zW (zSH Ln) d 264 ((.aload 2, 0, 0) :: es) [zR 0, zR 2, zR 48, zI i] st M Q = zW (zSH Ln) d 264 es [zR 0, zR 2, zR 48, zI i] (zR 48 :: st) M Q := w_aload rfl
/-- what is left to do after a case -/
def zKt (Ln d : Nat) (v : Nat) (i : Int) (M0 : Int → Int) (Q : Option zMV → (Nat → Int → Int) → Prop) : Prop := ∀ (a : zAbs) (M' : Nat → Int → Int), zJP a → zJC a (v + 100) M' → zJR a M' → M' 0 = M0 → zW (zSH Ln) d 264 (zblk 264 73) [zR 0, zR 2, zR 48, zI i] [] M' Q
theorem LW_net (hd : 200 ≤ d) (h0 : 0 ≤ i) (h5 : i + 5 < Ln) (hL : Ln ≤ 3072) (hv : v ≤ 100000) (hA : ∀ j, zin32 (M 0 j)) (hP : zJP a) (hC : zJC a v M) (hR : zJR a M) (hK : zKt Ln d v i (M 0) Q) : zW (zSH Ln) d 264 (zblk 264 3) [zR 0, zR 2, zR 48, zI i] [] M Q := by
  rw [show zblk 264 3 = _ from k_LW_law_3, w_a1, w_ag h0 h5 hL (k := 1) (by omega) (by omega), w_ag h0 h5 hL (k := 2) (by omega) (by omega)]
  refine w_callv (k := 2) (ps := [zI (M 0 (i + 1)), zI (M 0 (i + 2))]) (st' := []) (by omega) rfl rfl (by omega) (sh_2 Ln) (Nat.le_of_ble_eq_true rfl) (Nat.le_of_ble_eq_true rfl) (zW_d (zC_net hC hv) (by omega)) ?_
  rintro _ M1 ⟨rfl, hC1, l1⟩
  have e0 : M1 0 = M 0 := l1 0 (Or.inl (by omega))
  simp only [Option.toList, List.cons_append, List.nil_append]
  rw [w_a2, w_ag h0 h5 hL (k := 1) (by omega) (by omega), w_ag h0 h5 hL (k := 2) (by omega) (by omega), e0]
  refine w_callv (k := 48) (ps := [zI (M 0 (i + 1)), zI (M 0 (i + 2))]) (st' := [zI _]) (by omega) rfl rfl (by omega) (sh_48 Ln) (Nat.le_of_ble_eq_true rfl) (Nat.le_of_ble_eq_true rfl) (zW_d (zR_net (zJR_k hR fun k hk => l1 k (Or.inr hk))) (by omega)) ?_
  rintro _ M2 ⟨rfl, hR2, l2⟩
  simp only [Option.toList, List.cons_append, List.nil_append]
  rw [w_icmp, if_pos (by simp [zcmp])]
  exact hK (zU_net a (M 0 (i + 1)) (M 0 (i + 2))) M2 (zP_net hP) (zJC_k hC1 l2) hR2 ((l2 0 (by omega)).trans e0)
theorem LW_moves (hd : 200 ≤ d) (h0 : 0 ≤ i) (h5 : i + 5 < Ln) (hL : Ln ≤ 3072) (hv : v ≤ 100000) (hA : ∀ j, zin32 (M 0 j)) (hP : zJP a) (hC : zJC a v M) (hR : zJR a M) (hK : zKt Ln d v i (M 0) Q) : zW (zSH Ln) d 264 (zblk 264 5) [zR 0, zR 2, zR 48, zI i] [] M Q := by
  rw [show zblk 264 5 = _ from k_LW_law_5, w_a1, w_ag h0 h5 hL (k := 1) (by omega) (by omega), w_ag h0 h5 hL (k := 2) (by omega) (by omega), w_ag h0 h5 hL (k := 3) (by omega) (by omega)]
  refine w_callv (k := 2) (ps := [zI (M 0 (i + 1)), zI (M 0 (i + 2)), zI (M 0 (i + 3))]) (st' := []) (by omega) rfl rfl (by omega) (sh_2 Ln) (Nat.le_of_ble_eq_true rfl) (Nat.le_of_ble_eq_true rfl) (zW_d (zC_moves hP hC hv) (by omega)) ?_
  rintro _ M1 ⟨rfl, hC1, l1⟩
  have e0 : M1 0 = M 0 := l1 0 (Or.inl (by omega))
  simp only [Option.toList, List.cons_append, List.nil_append]
  rw [w_a2, w_ag h0 h5 hL (k := 1) (by omega) (by omega), w_ag h0 h5 hL (k := 2) (by omega) (by omega), w_ag h0 h5 hL (k := 3) (by omega) (by omega), e0]
  refine w_callv (k := 48) (ps := [zI (M 0 (i + 1)), zI (M 0 (i + 2)), zI (M 0 (i + 3))]) (st' := [zI _]) (by omega) rfl rfl (by omega) (sh_48 Ln) (Nat.le_of_ble_eq_true rfl) (Nat.le_of_ble_eq_true rfl) (zW_d (zR_moves hP (zJR_k hR fun k hk => l1 k (Or.inr hk))) (by omega)) ?_
  rintro _ M2 ⟨rfl, hR2, l2⟩
  simp only [Option.toList, List.cons_append, List.nil_append]
  rw [w_icmp, if_pos (by simp [zcmp])]
  exact hK (zU_moves a (M 0 (i + 1)) (M 0 (i + 2)) (M 0 (i + 3))) M2 (zP_moves hP) (zJC_k hC1 l2) hR2 ((l2 0 (by omega)).trans e0)
theorem LW_joint (hd : 200 ≤ d) (h0 : 0 ≤ i) (h5 : i + 5 < Ln) (hL : Ln ≤ 3072) (hv : v ≤ 100000) (hA : ∀ j, zin32 (M 0 j)) (hP : zJP a) (hC : zJC a v M) (hR : zJR a M) (hK : zKt Ln d v i (M 0) Q) : zW (zSH Ln) d 264 (zblk 264 7) [zR 0, zR 2, zR 48, zI i] [] M Q := by
  rw [show zblk 264 7 = _ from k_LW_law_7, w_a1, w_ag h0 h5 hL (k := 1) (by omega) (by omega), w_ag h0 h5 hL (k := 2) (by omega) (by omega)]
  refine w_callv (k := 2) (ps := [zI (M 0 (i + 1)), zI (M 0 (i + 2))]) (st' := []) (by omega) rfl rfl (by omega) (sh_2 Ln) (Nat.le_of_ble_eq_true rfl) (Nat.le_of_ble_eq_true rfl) (zW_d (zC_joint hP hC) (by omega)) ?_
  rintro _ M1 ⟨rfl, hC1, l1⟩
  have e0 : M1 0 = M 0 := l1 0 (Or.inl (by omega))
  simp only [Option.toList, List.cons_append, List.nil_append]
  rw [w_a2, w_ag h0 h5 hL (k := 1) (by omega) (by omega), w_ag h0 h5 hL (k := 2) (by omega) (by omega), e0]
  refine w_callv (k := 48) (ps := [zI (M 0 (i + 1)), zI (M 0 (i + 2))]) (st' := [zI _]) (by omega) rfl rfl (by omega) (sh_48 Ln) (Nat.le_of_ble_eq_true rfl) (Nat.le_of_ble_eq_true rfl) (zW_d (zR_joint hP (zJR_k hR fun k hk => l1 k (Or.inr hk))) (by omega)) ?_
  rintro _ M2 ⟨rfl, hR2, l2⟩
  simp only [Option.toList, List.cons_append, List.nil_append]
  rw [w_icmp, if_pos (by simp [zcmp])]
  exact hK a M2 hP (zJC_k hC1 l2) hR2 ((l2 0 (by omega)).trans e0)
theorem LW_step (hd : 200 ≤ d) (h0 : 0 ≤ i) (h5 : i + 5 < Ln) (hL : Ln ≤ 3072) (hv : v ≤ 100000) (hA : ∀ j, zin32 (M 0 j)) (hP : zJP a) (hC : zJC a v M) (hR : zJR a M) (hK : zKt Ln d v i (M 0) Q) : zW (zSH Ln) d 264 (zblk 264 9) [zR 0, zR 2, zR 48, zI i] [] M Q := by
  rw [show zblk 264 9 = _ from k_LW_law_9, w_a1, w_ag h0 h5 hL (k := 1) (by omega) (by omega), w_ag h0 h5 hL (k := 2) (by omega) (by omega), w_ag h0 h5 hL (k := 3) (by omega) (by omega)]
  refine w_callv (k := 2) (ps := [zI (M 0 (i + 1)), zI (M 0 (i + 2)), zI (M 0 (i + 3))]) (st' := []) (by omega) rfl rfl (by omega) (sh_2 Ln) (Nat.le_of_ble_eq_true rfl) (Nat.le_of_ble_eq_true rfl) (zW_d (zC_step hP hC hv) (by omega)) ?_
  rintro _ M1 ⟨rfl, hC1, l1⟩
  have e0 : M1 0 = M 0 := l1 0 (Or.inl (by omega))
  simp only [Option.toList, List.cons_append, List.nil_append]
  rw [w_a2, w_ag h0 h5 hL (k := 1) (by omega) (by omega), w_ag h0 h5 hL (k := 2) (by omega) (by omega), w_ag h0 h5 hL (k := 3) (by omega) (by omega), e0]
  refine w_callv (k := 48) (ps := [zI (M 0 (i + 1)), zI (M 0 (i + 2)), zI (M 0 (i + 3))]) (st' := [zI _]) (by omega) rfl rfl (by omega) (sh_48 Ln) (Nat.le_of_ble_eq_true rfl) (Nat.le_of_ble_eq_true rfl) (zW_d (zR_step hP (zJR_k hR fun k hk => l1 k (Or.inr hk))) (by omega)) ?_
  rintro _ M2 ⟨rfl, hR2, l2⟩
  simp only [Option.toList, List.cons_append, List.nil_append]
  rw [w_icmp, if_pos (by simp [zcmp])]
  exact hK (zU_step a (M 0 (i + 1)) (M 0 (i + 2)) (M 0 (i + 3))) M2 (zP_step hP) (zJC_k hC1 l2) hR2 ((l2 0 (by omega)).trans e0)
theorem LW_leads (hd : 200 ≤ d) (h0 : 0 ≤ i) (h5 : i + 5 < Ln) (hL : Ln ≤ 3072) (hv : v ≤ 100000) (hA : ∀ j, zin32 (M 0 j)) (hP : zJP a) (hC : zJC a v M) (hR : zJR a M) (hK : zKt Ln d v i (M 0) Q) : zW (zSH Ln) d 264 (zblk 264 11) [zR 0, zR 2, zR 48, zI i] [] M Q := by
  rw [show zblk 264 11 = _ from k_LW_law_11, w_a1, w_ag h0 h5 hL (k := 1) (by omega) (by omega), w_ag h0 h5 hL (k := 2) (by omega) (by omega)]
  refine w_callv (k := 2) (ps := [zI (M 0 (i + 1)), zI (M 0 (i + 2))]) (st' := []) (by omega) rfl rfl (by omega) (sh_2 Ln) (Nat.le_of_ble_eq_true rfl) (Nat.le_of_ble_eq_true rfl) (zW_d (zC_leads hP hC) (by omega)) ?_
  rintro _ M1 ⟨rfl, hC1, l1⟩
  have e0 : M1 0 = M 0 := l1 0 (Or.inl (by omega))
  simp only [Option.toList, List.cons_append, List.nil_append]
  rw [w_a2, w_ag h0 h5 hL (k := 1) (by omega) (by omega), w_ag h0 h5 hL (k := 2) (by omega) (by omega), e0]
  refine w_callv (k := 48) (ps := [zI (M 0 (i + 1)), zI (M 0 (i + 2))]) (st' := [zI _]) (by omega) rfl rfl (by omega) (sh_48 Ln) (Nat.le_of_ble_eq_true rfl) (Nat.le_of_ble_eq_true rfl) (zW_d (zR_leads hP (zJR_k hR fun k hk => l1 k (Or.inr hk))) (by omega)) ?_
  rintro _ M2 ⟨rfl, hR2, l2⟩
  simp only [Option.toList, List.cons_append, List.nil_append]
  rw [w_icmp, if_pos (by simp [zcmp])]
  exact hK a M2 hP (zJC_k hC1 l2) hR2 ((l2 0 (by omega)).trans e0)
theorem LW_letters (hd : 200 ≤ d) (h0 : 0 ≤ i) (h5 : i + 5 < Ln) (hL : Ln ≤ 3072) (hv : v ≤ 100000) (hA : ∀ j, zin32 (M 0 j)) (hP : zJP a) (hC : zJC a v M) (hR : zJR a M) (hK : zKt Ln d v i (M 0) Q) : zW (zSH Ln) d 264 (zblk 264 13) [zR 0, zR 2, zR 48, zI i] [] M Q := by
  rw [show zblk 264 13 = _ from k_LW_law_13, w_a1, w_ag h0 h5 hL (k := 1) (by omega) (by omega), w_ag h0 h5 hL (k := 2) (by omega) (by omega)]
  refine w_callv (k := 2) (ps := [zI (M 0 (i + 1)), zI (M 0 (i + 2))]) (st' := []) (by omega) rfl rfl (by omega) (sh_2 Ln) (Nat.le_of_ble_eq_true rfl) (Nat.le_of_ble_eq_true rfl) (zW_d (zC_letters hP hC hv) (by omega)) ?_
  rintro _ M1 ⟨rfl, hC1, l1⟩
  have e0 : M1 0 = M 0 := l1 0 (Or.inl (by omega))
  simp only [Option.toList, List.cons_append, List.nil_append]
  rw [w_a2, w_ag h0 h5 hL (k := 1) (by omega) (by omega), w_ag h0 h5 hL (k := 2) (by omega) (by omega), e0]
  refine w_callv (k := 48) (ps := [zI (M 0 (i + 1)), zI (M 0 (i + 2))]) (st' := [zI _]) (by omega) rfl rfl (by omega) (sh_48 Ln) (Nat.le_of_ble_eq_true rfl) (Nat.le_of_ble_eq_true rfl) (zW_d (zR_letters hP (zJR_k hR fun k hk => l1 k (Or.inr hk))) (by omega)) ?_
  rintro _ M2 ⟨rfl, hR2, l2⟩
  simp only [Option.toList, List.cons_append, List.nil_append]
  rw [w_icmp, if_pos (by simp [zcmp])]
  exact hK (zU_letters a (M 0 (i + 1)) (M 0 (i + 2))) M2 (zP_letters hP) (zJC_k hC1 l2) hR2 ((l2 0 (by omega)).trans e0)
theorem LW_heap (hd : 200 ≤ d) (h0 : 0 ≤ i) (h5 : i + 5 < Ln) (hL : Ln ≤ 3072) (hv : v ≤ 100000) (hA : ∀ j, zin32 (M 0 j)) (hP : zJP a) (hC : zJC a v M) (hR : zJR a M) (hK : zKt Ln d v i (M 0) Q) : zW (zSH Ln) d 264 (zblk 264 15) [zR 0, zR 2, zR 48, zI i] [] M Q := by
  rw [show zblk 264 15 = _ from k_LW_law_15, w_a1, w_ag h0 h5 hL (k := 1) (by omega) (by omega), w_ag h0 h5 hL (k := 2) (by omega) (by omega), w_ag h0 h5 hL (k := 3) (by omega) (by omega)]
  refine w_callv (k := 2) (ps := [zI (M 0 (i + 1)), zI (M 0 (i + 2)), zI (M 0 (i + 3))]) (st' := []) (by omega) rfl rfl (by omega) (sh_2 Ln) (Nat.le_of_ble_eq_true rfl) (Nat.le_of_ble_eq_true rfl) (zW_d (zC_heap hP hC hv) (by omega)) ?_
  rintro _ M1 ⟨rfl, hC1, l1⟩
  have e0 : M1 0 = M 0 := l1 0 (Or.inl (by omega))
  simp only [Option.toList, List.cons_append, List.nil_append]
  rw [w_a2, w_ag h0 h5 hL (k := 1) (by omega) (by omega), w_ag h0 h5 hL (k := 2) (by omega) (by omega), w_ag h0 h5 hL (k := 3) (by omega) (by omega), e0]
  refine w_callv (k := 48) (ps := [zI (M 0 (i + 1)), zI (M 0 (i + 2)), zI (M 0 (i + 3))]) (st' := [zI _]) (by omega) rfl rfl (by omega) (sh_48 Ln) (Nat.le_of_ble_eq_true rfl) (Nat.le_of_ble_eq_true rfl) (zW_d (zR_heap hP (zJR_k hR fun k hk => l1 k (Or.inr hk))) (by omega)) ?_
  rintro _ M2 ⟨rfl, hR2, l2⟩
  simp only [Option.toList, List.cons_append, List.nil_append]
  rw [w_icmp, if_pos (by simp [zcmp])]
  exact hK (zU_heap a (M 0 (i + 1)) (M 0 (i + 2)) (M 0 (i + 3))) M2 (zP_heap hP) (zJC_k hC1 l2) hR2 ((l2 0 (by omega)).trans e0)
theorem LW_price (hd : 200 ≤ d) (h0 : 0 ≤ i) (h5 : i + 5 < Ln) (hL : Ln ≤ 3072) (hv : v ≤ 100000) (hA : ∀ j, zin32 (M 0 j)) (hP : zJP a) (hC : zJC a v M) (hR : zJR a M) (hK : zKt Ln d v i (M 0) Q) : zW (zSH Ln) d 264 (zblk 264 17) [zR 0, zR 2, zR 48, zI i] [] M Q := by
  rw [show zblk 264 17 = _ from k_LW_law_17, w_a1, w_ag h0 h5 hL (k := 1) (by omega) (by omega), w_ag h0 h5 hL (k := 2) (by omega) (by omega), w_ag h0 h5 hL (k := 3) (by omega) (by omega), w_ag h0 h5 hL (k := 4) (by omega) (by omega)]
  refine w_callv (k := 2) (ps := [zI (M 0 (i + 1)), zI (M 0 (i + 2)), zI (M 0 (i + 3)), zI (M 0 (i + 4))]) (st' := []) (by omega) rfl rfl (by omega) (sh_2 Ln) (Nat.le_of_ble_eq_true rfl) (Nat.le_of_ble_eq_true rfl) (zW_d (zC_price hP hC hv) (by omega)) ?_
  rintro _ M1 ⟨rfl, hC1, l1⟩
  have e0 : M1 0 = M 0 := l1 0 (Or.inl (by omega))
  simp only [Option.toList, List.cons_append, List.nil_append]
  rw [w_a2, w_ag h0 h5 hL (k := 1) (by omega) (by omega), w_ag h0 h5 hL (k := 2) (by omega) (by omega), w_ag h0 h5 hL (k := 3) (by omega) (by omega), w_ag h0 h5 hL (k := 4) (by omega) (by omega), e0]
  refine w_callv (k := 48) (ps := [zI (M 0 (i + 1)), zI (M 0 (i + 2)), zI (M 0 (i + 3)), zI (M 0 (i + 4))]) (st' := [zI _]) (by omega) rfl rfl (by omega) (sh_48 Ln) (Nat.le_of_ble_eq_true rfl) (Nat.le_of_ble_eq_true rfl) (zW_d (zR_price hP (zJR_k hR fun k hk => l1 k (Or.inr hk))) (by omega)) ?_
  rintro _ M2 ⟨rfl, hR2, l2⟩
  simp only [Option.toList, List.cons_append, List.nil_append]
  rw [w_icmp, if_pos (by simp [zcmp])]
  exact hK (zU_price a (M 0 (i + 1)) (M 0 (i + 2)) (M 0 (i + 3)) (M 0 (i + 4))) M2 (zP_price hP) (zJC_k hC1 l2) hR2 ((l2 0 (by omega)).trans e0)
theorem LW_steps (hd : 200 ≤ d) (h0 : 0 ≤ i) (h5 : i + 5 < Ln) (hL : Ln ≤ 3072) (hv : v ≤ 100000) (hA : ∀ j, zin32 (M 0 j)) (hP : zJP a) (hC : zJC a v M) (hR : zJR a M) (hK : zKt Ln d v i (M 0) Q) : zW (zSH Ln) d 264 (zblk 264 19) [zR 0, zR 2, zR 48, zI i] [] M Q := by
  rw [show zblk 264 19 = _ from k_LW_law_19, w_a1, w_ag h0 h5 hL (k := 1) (by omega) (by omega), w_ag h0 h5 hL (k := 2) (by omega) (by omega), w_ag h0 h5 hL (k := 3) (by omega) (by omega), w_ag h0 h5 hL (k := 4) (by omega) (by omega), w_ag h0 h5 hL (k := 5) (by omega) (by omega)]
  refine w_callv (k := 2) (ps := [zI (M 0 (i + 1)), zI (M 0 (i + 2)), zI (M 0 (i + 3)), zI (M 0 (i + 4)), zI (M 0 (i + 5))]) (st' := []) (by omega) rfl rfl (by omega) (sh_2 Ln) (Nat.le_of_ble_eq_true rfl) (Nat.le_of_ble_eq_true rfl) (zW_d (zC_steps hP hC hv) (by omega)) ?_
  rintro _ M1 ⟨rfl, hC1, l1⟩
  have e0 : M1 0 = M 0 := l1 0 (Or.inl (by omega))
  simp only [Option.toList, List.cons_append, List.nil_append]
  rw [w_a2, w_ag h0 h5 hL (k := 1) (by omega) (by omega), w_ag h0 h5 hL (k := 2) (by omega) (by omega), w_ag h0 h5 hL (k := 3) (by omega) (by omega), w_ag h0 h5 hL (k := 4) (by omega) (by omega), w_ag h0 h5 hL (k := 5) (by omega) (by omega), e0]
  refine w_callv (k := 48) (ps := [zI (M 0 (i + 1)), zI (M 0 (i + 2)), zI (M 0 (i + 3)), zI (M 0 (i + 4)), zI (M 0 (i + 5))]) (st' := [zI _]) (by omega) rfl rfl (by omega) (sh_48 Ln) (Nat.le_of_ble_eq_true rfl) (Nat.le_of_ble_eq_true rfl) (zW_d (zR_steps hP (zJR_k hR fun k hk => l1 k (Or.inr hk)) (hA _).2 (hA _)) (by omega)) ?_
  rintro _ M2 ⟨rfl, hR2, l2⟩
  simp only [Option.toList, List.cons_append, List.nil_append]
  rw [w_icmp, if_pos (by simp [zcmp])]
  exact hK (zU_steps a (M 0 (i + 1)) (M 0 (i + 2)) (M 0 (i + 3)) (M 0 (i + 4)) (M 0 (i + 5))) M2 (zP_steps hP) (zJC_k hC1 l2) hR2 ((l2 0 (by omega)).trans e0)
theorem LW_type (hd : 200 ≤ d) (h0 : 0 ≤ i) (h5 : i + 5 < Ln) (hL : Ln ≤ 3072) (hv : v ≤ 100000) (hA : ∀ j, zin32 (M 0 j)) (hP : zJP a) (hC : zJC a v M) (hR : zJR a M) (hK : zKt Ln d v i (M 0) Q) : zW (zSH Ln) d 264 (zblk 264 21) [zR 0, zR 2, zR 48, zI i] [] M Q := by
  rw [show zblk 264 21 = _ from k_LW_law_21, w_a1, w_ag h0 h5 hL (k := 1) (by omega) (by omega), w_i2l, w_iconst, w_lshl, w_ag h0 h5 hL (k := 2) (by omega) (by omega), w_i2l, w_sipush, w_land, w_lor, w_ag h0 h5 hL (k := 3) (by omega) (by omega)]
  refine w_callv (k := 2) (ps := [zL (zlor (zlshl (M 0 (i + 1)) 32) (zland (M 0 (i + 2)) 4294967295)), zI (M 0 (i + 3))]) (st' := []) (by omega) rfl rfl (by omega) (sh_2 Ln) (Nat.le_of_ble_eq_true rfl) (Nat.le_of_ble_eq_true rfl) (zW_d (zC_type hP hC) (by omega)) ?_
  rintro _ M1 ⟨rfl, hC1, l1⟩
  have e0 : M1 0 = M 0 := l1 0 (Or.inl (by omega))
  simp only [Option.toList, List.cons_append, List.nil_append]
  rw [w_a2, w_ag h0 h5 hL (k := 1) (by omega) (by omega), w_i2l, w_iconst, w_lshl, w_ag h0 h5 hL (k := 2) (by omega) (by omega), w_i2l, w_sipush, w_land, w_lor, w_ag h0 h5 hL (k := 3) (by omega) (by omega), e0]
  refine w_callv (k := 48) (ps := [zL (zlor (zlshl (M 0 (i + 1)) 32) (zland (M 0 (i + 2)) 4294967295)), zI (M 0 (i + 3))]) (st' := [zI _]) (by omega) rfl rfl (by omega) (sh_48 Ln) (Nat.le_of_ble_eq_true rfl) (Nat.le_of_ble_eq_true rfl) (zW_d (zR_type hP (zJR_k hR fun k hk => l1 k (Or.inr hk))) (by omega)) ?_
  rintro _ M2 ⟨rfl, hR2, l2⟩
  simp only [Option.toList, List.cons_append, List.nil_append]
  rw [w_icmp, if_pos (by simp [zcmp])]
  exact hK (zU_type a (zlor (zlshl (M 0 (i + 1)) 32) (zland (M 0 (i + 2)) 4294967295)) (M 0 (i + 3))) M2 (zP_type hP) (zJC_k hC1 l2) hR2 ((l2 0 (by omega)).trans e0)
theorem LW_form (hd : 200 ≤ d) (h0 : 0 ≤ i) (h5 : i + 5 < Ln) (hL : Ln ≤ 3072) (hv : v ≤ 100000) (hA : ∀ j, zin32 (M 0 j)) (hP : zJP a) (hC : zJC a v M) (hR : zJR a M) (hK : zKt Ln d v i (M 0) Q) : zW (zSH Ln) d 264 (zblk 264 23) [zR 0, zR 2, zR 48, zI i] [] M Q := by
  rw [show zblk 264 23 = _ from k_LW_law_23, w_a1]
  refine w_callv (k := 2) (ps := []) (st' := []) (by omega) rfl rfl (by omega) (sh_2 Ln) (Nat.le_of_ble_eq_true rfl) (Nat.le_of_ble_eq_true rfl) (zW_d (zC_form hP hC hv) (by omega)) ?_
  rintro _ M1 ⟨rfl, hC1, l1⟩
  have e0 : M1 0 = M 0 := l1 0 (Or.inl (by omega))
  simp only [Option.toList, List.cons_append, List.nil_append]
  rw [w_a2]
  refine w_callv (k := 48) (ps := []) (st' := [zI _]) (by omega) rfl rfl (by omega) (sh_48 Ln) (Nat.le_of_ble_eq_true rfl) (Nat.le_of_ble_eq_true rfl) (zW_d (zR_form hP (zJR_k hR fun k hk => l1 k (Or.inr hk))) (by omega)) ?_
  rintro _ M2 ⟨rfl, hR2, l2⟩
  simp only [Option.toList, List.cons_append, List.nil_append]
  rw [w_icmp, if_pos (by simp [zcmp])]
  exact hK (zU_form a) M2 (zP_form hP) (zJC_k hC1 l2) hR2 ((l2 0 (by omega)).trans e0)
theorem LW_holds (hd : 200 ≤ d) (h0 : 0 ≤ i) (h5 : i + 5 < Ln) (hL : Ln ≤ 3072) (hv : v ≤ 100000) (hA : ∀ j, zin32 (M 0 j)) (hP : zJP a) (hC : zJC a v M) (hR : zJR a M) (hK : zKt Ln d v i (M 0) Q) : zW (zSH Ln) d 264 (zblk 264 25) [zR 0, zR 2, zR 48, zI i] [] M Q := by
  rw [show zblk 264 25 = _ from k_LW_law_25, w_a1]
  refine w_callv (k := 2) (ps := []) (st' := []) (by omega) rfl rfl (by omega) (sh_2 Ln) (Nat.le_of_ble_eq_true rfl) (Nat.le_of_ble_eq_true rfl) (zW_d (zC_holds hP hC) (by omega)) ?_
  rintro _ M1 ⟨rfl, hC1, l1⟩
  have e0 : M1 0 = M 0 := l1 0 (Or.inl (by omega))
  simp only [Option.toList, List.cons_append, List.nil_append]
  rw [w_a2]
  refine w_callv (k := 48) (ps := []) (st' := [zI _]) (by omega) rfl rfl (by omega) (sh_48 Ln) (Nat.le_of_ble_eq_true rfl) (Nat.le_of_ble_eq_true rfl) (zW_d (zR_holds hP (zJR_k hR fun k hk => l1 k (Or.inr hk))) (by omega)) ?_
  rintro _ M2 ⟨rfl, hR2, l2⟩
  simp only [Option.toList, List.cons_append, List.nil_append]
  rw [w_icmp, if_pos (by simp [zcmp])]
  exact hK a M2 hP (zJC_k hC1 l2) hR2 ((l2 0 (by omega)).trans e0)
theorem LW_part (hd : 200 ≤ d) (h0 : 0 ≤ i) (h5 : i + 5 < Ln) (hL : Ln ≤ 3072) (hv : v ≤ 100000) (hA : ∀ j, zin32 (M 0 j)) (hP : zJP a) (hC : zJC a v M) (hR : zJR a M) (hK : zKt Ln d v i (M 0) Q) : zW (zSH Ln) d 264 (zblk 264 27) [zR 0, zR 2, zR 48, zI i] [] M Q := by
  rw [show zblk 264 27 = _ from k_LW_law_27, w_a1, w_ag h0 h5 hL (k := 1) (by omega) (by omega)]
  refine w_callv (k := 2) (ps := [zI (M 0 (i + 1))]) (st' := []) (by omega) rfl rfl (by omega) (sh_2 Ln) (Nat.le_of_ble_eq_true rfl) (Nat.le_of_ble_eq_true rfl) (zW_d (zC_part hP hC) (by omega)) ?_
  rintro _ M1 ⟨rfl, hC1, l1⟩
  have e0 : M1 0 = M 0 := l1 0 (Or.inl (by omega))
  simp only [Option.toList, List.cons_append, List.nil_append]
  rw [w_a2, w_ag h0 h5 hL (k := 1) (by omega) (by omega), e0]
  refine w_callv (k := 48) (ps := [zI (M 0 (i + 1))]) (st' := [zI _]) (by omega) rfl rfl (by omega) (sh_48 Ln) (Nat.le_of_ble_eq_true rfl) (Nat.le_of_ble_eq_true rfl) (zW_d (zR_part hP (zJR_k hR fun k hk => l1 k (Or.inr hk))) (by omega)) ?_
  rintro _ M2 ⟨rfl, hR2, l2⟩
  simp only [Option.toList, List.cons_append, List.nil_append]
  rw [w_icmp, if_pos (by simp [zcmp])]
  exact hK a M2 hP (zJC_k hC1 l2) hR2 ((l2 0 (by omega)).trans e0)
theorem LW_force (hd : 200 ≤ d) (h0 : 0 ≤ i) (h5 : i + 5 < Ln) (hL : Ln ≤ 3072) (hv : v ≤ 100000) (hA : ∀ j, zin32 (M 0 j)) (hP : zJP a) (hC : zJC a v M) (hR : zJR a M) (hK : zKt Ln d v i (M 0) Q) : zW (zSH Ln) d 264 (zblk 264 29) [zR 0, zR 2, zR 48, zI i] [] M Q := by
  rw [show zblk 264 29 = _ from k_LW_law_29, w_a1, w_ag h0 h5 hL (k := 1) (by omega) (by omega), w_ag h0 h5 hL (k := 2) (by omega) (by omega), w_ag h0 h5 hL (k := 3) (by omega) (by omega)]
  refine w_callv (k := 2) (ps := [zI (M 0 (i + 1)), zI (M 0 (i + 2)), zI (M 0 (i + 3))]) (st' := []) (by omega) rfl rfl (by omega) (sh_2 Ln) (Nat.le_of_ble_eq_true rfl) (Nat.le_of_ble_eq_true rfl) (zW_d (zC_force hP hC) (by omega)) ?_
  rintro _ M1 ⟨rfl, hC1, l1⟩
  have e0 : M1 0 = M 0 := l1 0 (Or.inl (by omega))
  simp only [Option.toList, List.cons_append, List.nil_append]
  rw [w_a2, w_ag h0 h5 hL (k := 1) (by omega) (by omega), w_ag h0 h5 hL (k := 2) (by omega) (by omega), w_ag h0 h5 hL (k := 3) (by omega) (by omega), e0]
  refine w_callv (k := 48) (ps := [zI (M 0 (i + 1)), zI (M 0 (i + 2)), zI (M 0 (i + 3))]) (st' := [zI _]) (by omega) rfl rfl (by omega) (sh_48 Ln) (Nat.le_of_ble_eq_true rfl) (Nat.le_of_ble_eq_true rfl) (zW_d (zR_force hP (zJR_k hR fun k hk => l1 k (Or.inr hk))) (by omega)) ?_
  rintro _ M2 ⟨rfl, hR2, l2⟩
  simp only [Option.toList, List.cons_append, List.nil_append]
  rw [w_icmp, if_pos (by simp [zcmp])]
  exact hK a M2 hP (zJC_k hC1 l2) hR2 ((l2 0 (by omega)).trans e0)
theorem LW_round (hd : 200 ≤ d) (h0 : 0 ≤ i) (h5 : i + 5 < Ln) (hL : Ln ≤ 3072) (hv : v ≤ 100000) (hA : ∀ j, zin32 (M 0 j)) (hP : zJP a) (hC : zJC a v M) (hR : zJR a M) (hK : zKt Ln d v i (M 0) Q) : zW (zSH Ln) d 264 (zblk 264 31) [zR 0, zR 2, zR 48, zI i] [] M Q := by
  rw [show zblk 264 31 = _ from k_LW_law_31, w_a1, w_ag h0 h5 hL (k := 1) (by omega) (by omega)]
  refine w_callv (k := 2) (ps := [zI (M 0 (i + 1))]) (st' := []) (by omega) rfl rfl (by omega) (sh_2 Ln) (Nat.le_of_ble_eq_true rfl) (Nat.le_of_ble_eq_true rfl) (zW_d (zC_round hP hC) (by omega)) ?_
  rintro _ M1 ⟨rfl, hC1, l1⟩
  have e0 : M1 0 = M 0 := l1 0 (Or.inl (by omega))
  simp only [Option.toList, List.cons_append, List.nil_append]
  rw [w_a2, w_ag h0 h5 hL (k := 1) (by omega) (by omega), e0]
  refine w_callv (k := 48) (ps := [zI (M 0 (i + 1))]) (st' := [zI _]) (by omega) rfl rfl (by omega) (sh_48 Ln) (Nat.le_of_ble_eq_true rfl) (Nat.le_of_ble_eq_true rfl) (zW_d (zR_round hP (zJR_k hR fun k hk => l1 k (Or.inr hk))) (by omega)) ?_
  rintro _ M2 ⟨rfl, hR2, l2⟩
  simp only [Option.toList, List.cons_append, List.nil_append]
  rw [w_icmp, if_pos (by simp [zcmp])]
  exact hK a M2 hP (zJC_k hC1 l2) hR2 ((l2 0 (by omega)).trans e0)
theorem LW_plan (hd : 200 ≤ d) (h0 : 0 ≤ i) (h5 : i + 5 < Ln) (hL : Ln ≤ 3072) (hv : v ≤ 100000) (hA : ∀ j, zin32 (M 0 j)) (hP : zJP a) (hC : zJC a v M) (hR : zJR a M) (hK : zKt Ln d v i (M 0) Q) : zW (zSH Ln) d 264 (zblk 264 33) [zR 0, zR 2, zR 48, zI i] [] M Q := by
  rw [show zblk 264 33 = _ from k_LW_law_33, w_a1, w_ag h0 h5 hL (k := 1) (by omega) (by omega)]
  refine w_callv (k := 2) (ps := [zI (M 0 (i + 1))]) (st' := []) (by omega) rfl rfl (by omega) (sh_2 Ln) (Nat.le_of_ble_eq_true rfl) (Nat.le_of_ble_eq_true rfl) (zW_d (zC_plan hP hC) (by omega)) ?_
  rintro _ M1 ⟨rfl, hC1, l1⟩
  have e0 : M1 0 = M 0 := l1 0 (Or.inl (by omega))
  simp only [Option.toList, List.cons_append, List.nil_append]
  rw [w_a2, w_ag h0 h5 hL (k := 1) (by omega) (by omega), e0]
  refine w_callv (k := 48) (ps := [zI (M 0 (i + 1))]) (st' := [zI _]) (by omega) rfl rfl (by omega) (sh_48 Ln) (Nat.le_of_ble_eq_true rfl) (Nat.le_of_ble_eq_true rfl) (zW_d (zR_plan hP (zJR_k hR fun k hk => l1 k (Or.inr hk))) (by omega)) ?_
  rintro _ M2 ⟨rfl, hR2, l2⟩
  simp only [Option.toList, List.cons_append, List.nil_append]
  rw [w_icmp, if_pos (by simp [zcmp])]
  exact hK a M2 hP (zJC_k hC1 l2) hR2 ((l2 0 (by omega)).trans e0)
theorem LW_answer (hd : 200 ≤ d) (h0 : 0 ≤ i) (h5 : i + 5 < Ln) (hL : Ln ≤ 3072) (hv : v ≤ 100000) (hA : ∀ j, zin32 (M 0 j)) (hP : zJP a) (hC : zJC a v M) (hR : zJR a M) (hK : zKt Ln d v i (M 0) Q) : zW (zSH Ln) d 264 (zblk 264 35) [zR 0, zR 2, zR 48, zI i] [] M Q := by
  rw [show zblk 264 35 = _ from k_LW_law_35, w_a1, w_ag h0 h5 hL (k := 1) (by omega) (by omega), w_ag h0 h5 hL (k := 2) (by omega) (by omega)]
  refine w_callv (k := 2) (ps := [zI (M 0 (i + 1)), zI (M 0 (i + 2))]) (st' := []) (by omega) rfl rfl (by omega) (sh_2 Ln) (Nat.le_of_ble_eq_true rfl) (Nat.le_of_ble_eq_true rfl) (zW_d (zC_answer hP hC) (by omega)) ?_
  rintro _ M1 ⟨rfl, hC1, l1⟩
  have e0 : M1 0 = M 0 := l1 0 (Or.inl (by omega))
  simp only [Option.toList, List.cons_append, List.nil_append]
  rw [w_a2, w_ag h0 h5 hL (k := 1) (by omega) (by omega), w_ag h0 h5 hL (k := 2) (by omega) (by omega), e0]
  refine w_callv (k := 48) (ps := [zI (M 0 (i + 1)), zI (M 0 (i + 2))]) (st' := [zI _]) (by omega) rfl rfl (by omega) (sh_48 Ln) (Nat.le_of_ble_eq_true rfl) (Nat.le_of_ble_eq_true rfl) (zW_d (zR_answer hP (zJR_k hR fun k hk => l1 k (Or.inr hk))) (by omega)) ?_
  rintro _ M2 ⟨rfl, hR2, l2⟩
  simp only [Option.toList, List.cons_append, List.nil_append]
  rw [w_icmp, if_pos (by simp [zcmp])]
  exact hK a M2 hP (zJC_k hC1 l2) hR2 ((l2 0 (by omega)).trans e0)
theorem LW_toll (hd : 200 ≤ d) (h0 : 0 ≤ i) (h5 : i + 5 < Ln) (hL : Ln ≤ 3072) (hv : v ≤ 100000) (hA : ∀ j, zin32 (M 0 j)) (hP : zJP a) (hC : zJC a v M) (hR : zJR a M) (hK : zKt Ln d v i (M 0) Q) : zW (zSH Ln) d 264 (zblk 264 37) [zR 0, zR 2, zR 48, zI i] [] M Q := by
  rw [show zblk 264 37 = _ from k_LW_law_37, w_a1, w_ag h0 h5 hL (k := 1) (by omega) (by omega)]
  refine w_callv (k := 2) (ps := [zI (M 0 (i + 1))]) (st' := []) (by omega) rfl rfl (by omega) (sh_2 Ln) (Nat.le_of_ble_eq_true rfl) (Nat.le_of_ble_eq_true rfl) (zW_d (zC_toll hP hC) (by omega)) ?_
  rintro _ M1 ⟨rfl, hC1, l1⟩
  have e0 : M1 0 = M 0 := l1 0 (Or.inl (by omega))
  simp only [Option.toList, List.cons_append, List.nil_append]
  rw [w_a2, w_ag h0 h5 hL (k := 1) (by omega) (by omega), e0]
  refine w_callv (k := 48) (ps := [zI (M 0 (i + 1))]) (st' := [zI _]) (by omega) rfl rfl (by omega) (sh_48 Ln) (Nat.le_of_ble_eq_true rfl) (Nat.le_of_ble_eq_true rfl) (zW_d (zR_toll hP (zJR_k hR fun k hk => l1 k (Or.inr hk))) (by omega)) ?_
  rintro _ M2 ⟨rfl, hR2, l2⟩
  simp only [Option.toList, List.cons_append, List.nil_append]
  rw [w_icmp, if_pos (by simp [zcmp])]
  exact hK a M2 hP (zJC_k hC1 l2) hR2 ((l2 0 (by omega)).trans e0)
theorem LW_walk (hd : 200 ≤ d) (h0 : 0 ≤ i) (h5 : i + 5 < Ln) (hL : Ln ≤ 3072) (hv : v ≤ 100000) (hA : ∀ j, zin32 (M 0 j)) (hP : zJP a) (hC : zJC a v M) (hR : zJR a M) (hK : zKt Ln d v i (M 0) Q) : zW (zSH Ln) d 264 (zblk 264 39) [zR 0, zR 2, zR 48, zI i] [] M Q := by
  rw [show zblk 264 39 = _ from k_LW_law_39, w_a1, w_ag h0 h5 hL (k := 1) (by omega) (by omega), w_ag h0 h5 hL (k := 2) (by omega) (by omega), w_ag h0 h5 hL (k := 3) (by omega) (by omega), w_ag h0 h5 hL (k := 4) (by omega) (by omega), w_ag h0 h5 hL (k := 5) (by omega) (by omega)]
  refine w_callv (k := 2) (ps := [zI (M 0 (i + 1)), zI (M 0 (i + 2)), zI (M 0 (i + 3)), zI (M 0 (i + 4)), zI (M 0 (i + 5))]) (st' := []) (by omega) rfl rfl (by omega) (sh_2 Ln) (Nat.le_of_ble_eq_true rfl) (Nat.le_of_ble_eq_true rfl) (zW_d (zC_walk hP hC) (by omega)) ?_
  rintro _ M1 ⟨rfl, hC1, l1⟩
  have e0 : M1 0 = M 0 := l1 0 (Or.inl (by omega))
  simp only [Option.toList, List.cons_append, List.nil_append]
  rw [w_a2, w_ag h0 h5 hL (k := 1) (by omega) (by omega), w_ag h0 h5 hL (k := 2) (by omega) (by omega), w_ag h0 h5 hL (k := 3) (by omega) (by omega), w_ag h0 h5 hL (k := 4) (by omega) (by omega), w_ag h0 h5 hL (k := 5) (by omega) (by omega), e0]
  refine w_callv (k := 48) (ps := [zI (M 0 (i + 1)), zI (M 0 (i + 2)), zI (M 0 (i + 3)), zI (M 0 (i + 4)), zI (M 0 (i + 5))]) (st' := [zI _]) (by omega) rfl rfl (by omega) (sh_48 Ln) (Nat.le_of_ble_eq_true rfl) (Nat.le_of_ble_eq_true rfl) (zW_d (zR_walk hP (zJR_k hR fun k hk => l1 k (Or.inr hk)) (hA _).2 (hA _)) (by omega)) ?_
  rintro _ M2 ⟨rfl, hR2, l2⟩
  simp only [Option.toList, List.cons_append, List.nil_append]
  rw [w_icmp, if_pos (by simp [zcmp])]
  exact hK (zU_walk a (M 0 (i + 1)) (M 0 (i + 2)) (M 0 (i + 3)) (M 0 (i + 4)) (M 0 (i + 5))) M2 (zP_walk hP) (zJC_k hC1 l2) hR2 ((l2 0 (by omega)).trans e0)
theorem LW_walked (hd : 200 ≤ d) (h0 : 0 ≤ i) (h5 : i + 5 < Ln) (hL : Ln ≤ 3072) (hv : v ≤ 100000) (hA : ∀ j, zin32 (M 0 j)) (hP : zJP a) (hC : zJC a v M) (hR : zJR a M) (hK : zKt Ln d v i (M 0) Q) : zW (zSH Ln) d 264 (zblk 264 41) [zR 0, zR 2, zR 48, zI i] [] M Q := by
  rw [show zblk 264 41 = _ from k_LW_law_41, w_a1, w_ag h0 h5 hL (k := 1) (by omega) (by omega)]
  refine w_callv (k := 2) (ps := [zI (M 0 (i + 1))]) (st' := []) (by omega) rfl rfl (by omega) (sh_2 Ln) (Nat.le_of_ble_eq_true rfl) (Nat.le_of_ble_eq_true rfl) (zW_d (zC_walked hP hC) (by omega)) ?_
  rintro _ M1 ⟨rfl, hC1, l1⟩
  have e0 : M1 0 = M 0 := l1 0 (Or.inl (by omega))
  simp only [Option.toList, List.cons_append, List.nil_append]
  rw [w_a2, w_ag h0 h5 hL (k := 1) (by omega) (by omega), e0]
  refine w_callv (k := 48) (ps := [zI (M 0 (i + 1))]) (st' := [zI _]) (by omega) rfl rfl (by omega) (sh_48 Ln) (Nat.le_of_ble_eq_true rfl) (Nat.le_of_ble_eq_true rfl) (zW_d (zR_walked hP (zJR_k hR fun k hk => l1 k (Or.inr hk))) (by omega)) ?_
  rintro _ M2 ⟨rfl, hR2, l2⟩
  simp only [Option.toList, List.cons_append, List.nil_append]
  rw [w_icmp, if_pos (by simp [zcmp])]
  exact hK a M2 hP (zJC_k hC1 l2) hR2 ((l2 0 (by omega)).trans e0)
theorem LW_blind (hd : 200 ≤ d) (h0 : 0 ≤ i) (h5 : i + 5 < Ln) (hL : Ln ≤ 3072) (hv : v ≤ 100000) (hA : ∀ j, zin32 (M 0 j)) (hP : zJP a) (hC : zJC a v M) (hR : zJR a M) (hK : zKt Ln d v i (M 0) Q) : zW (zSH Ln) d 264 (zblk 264 43) [zR 0, zR 2, zR 48, zI i] [] M Q := by
  rw [show zblk 264 43 = _ from k_LW_law_43, w_a1, w_ag h0 h5 hL (k := 1) (by omega) (by omega)]
  refine w_callv (k := 2) (ps := [zI (M 0 (i + 1))]) (st' := []) (by omega) rfl rfl (by omega) (sh_2 Ln) (Nat.le_of_ble_eq_true rfl) (Nat.le_of_ble_eq_true rfl) (zW_d (zC_blind hP hC) (by omega)) ?_
  rintro _ M1 ⟨rfl, hC1, l1⟩
  have e0 : M1 0 = M 0 := l1 0 (Or.inl (by omega))
  simp only [Option.toList, List.cons_append, List.nil_append]
  rw [w_a2, w_ag h0 h5 hL (k := 1) (by omega) (by omega), e0]
  refine w_callv (k := 48) (ps := [zI (M 0 (i + 1))]) (st' := [zI _]) (by omega) rfl rfl (by omega) (sh_48 Ln) (Nat.le_of_ble_eq_true rfl) (Nat.le_of_ble_eq_true rfl) (zW_d (zR_blind hP (zJR_k hR fun k hk => l1 k (Or.inr hk))) (by omega)) ?_
  rintro _ M2 ⟨rfl, hR2, l2⟩
  simp only [Option.toList, List.cons_append, List.nil_append]
  rw [w_icmp, if_pos (by simp [zcmp])]
  exact hK a M2 hP (zJC_k hC1 l2) hR2 ((l2 0 (by omega)).trans e0)
theorem LW_blindMove (hd : 200 ≤ d) (h0 : 0 ≤ i) (h5 : i + 5 < Ln) (hL : Ln ≤ 3072) (hv : v ≤ 100000) (hA : ∀ j, zin32 (M 0 j)) (hP : zJP a) (hC : zJC a v M) (hR : zJR a M) (hK : zKt Ln d v i (M 0) Q) : zW (zSH Ln) d 264 (zblk 264 45) [zR 0, zR 2, zR 48, zI i] [] M Q := by
  rw [show zblk 264 45 = _ from k_LW_law_45, w_a1, w_ag h0 h5 hL (k := 1) (by omega) (by omega), w_ag h0 h5 hL (k := 2) (by omega) (by omega), w_ag h0 h5 hL (k := 3) (by omega) (by omega)]
  refine w_callv (k := 2) (ps := [zI (M 0 (i + 1)), zI (M 0 (i + 2)), zI (M 0 (i + 3))]) (st' := []) (by omega) rfl rfl (by omega) (sh_2 Ln) (Nat.le_of_ble_eq_true rfl) (Nat.le_of_ble_eq_true rfl) (zW_d (zC_blindMove hP hC) (by omega)) ?_
  rintro _ M1 ⟨rfl, hC1, l1⟩
  have e0 : M1 0 = M 0 := l1 0 (Or.inl (by omega))
  simp only [Option.toList, List.cons_append, List.nil_append]
  rw [w_a2, w_ag h0 h5 hL (k := 1) (by omega) (by omega), w_ag h0 h5 hL (k := 2) (by omega) (by omega), w_ag h0 h5 hL (k := 3) (by omega) (by omega), e0]
  refine w_callv (k := 48) (ps := [zI (M 0 (i + 1)), zI (M 0 (i + 2)), zI (M 0 (i + 3))]) (st' := [zI _]) (by omega) rfl rfl (by omega) (sh_48 Ln) (Nat.le_of_ble_eq_true rfl) (Nat.le_of_ble_eq_true rfl) (zW_d (zR_blindMove hP (zJR_k hR fun k hk => l1 k (Or.inr hk))) (by omega)) ?_
  rintro _ M2 ⟨rfl, hR2, l2⟩
  simp only [Option.toList, List.cons_append, List.nil_append]
  rw [w_icmp, if_pos (by simp [zcmp])]
  exact hK a M2 hP (zJC_k hC1 l2) hR2 ((l2 0 (by omega)).trans e0)
theorem LW_choose (hd : 200 ≤ d) (h0 : 0 ≤ i) (h5 : i + 5 < Ln) (hL : Ln ≤ 3072) (hv : v ≤ 100000) (hA : ∀ j, zin32 (M 0 j)) (hP : zJP a) (hC : zJC a v M) (hR : zJR a M) (hK : zKt Ln d v i (M 0) Q) : zW (zSH Ln) d 264 (zblk 264 47) [zR 0, zR 2, zR 48, zI i] [] M Q := by
  rw [show zblk 264 47 = _ from k_LW_law_47, w_a1, w_ag h0 h5 hL (k := 1) (by omega) (by omega), w_ag h0 h5 hL (k := 2) (by omega) (by omega), w_ag h0 h5 hL (k := 3) (by omega) (by omega)]
  refine w_callv (k := 2) (ps := [zI (M 0 (i + 1)), zI (M 0 (i + 2)), zI (M 0 (i + 3))]) (st' := []) (by omega) rfl rfl (by omega) (sh_2 Ln) (Nat.le_of_ble_eq_true rfl) (Nat.le_of_ble_eq_true rfl) (zW_d (zC_choose hP hC hv) (by omega)) ?_
  rintro _ M1 ⟨rfl, hC1, l1⟩
  have e0 : M1 0 = M 0 := l1 0 (Or.inl (by omega))
  simp only [Option.toList, List.cons_append, List.nil_append]
  rw [w_a2, w_ag h0 h5 hL (k := 1) (by omega) (by omega), w_ag h0 h5 hL (k := 2) (by omega) (by omega), w_ag h0 h5 hL (k := 3) (by omega) (by omega), e0]
  refine w_callv (k := 48) (ps := [zI (M 0 (i + 1)), zI (M 0 (i + 2)), zI (M 0 (i + 3))]) (st' := [zI _]) (by omega) rfl rfl (by omega) (sh_48 Ln) (Nat.le_of_ble_eq_true rfl) (Nat.le_of_ble_eq_true rfl) (zW_d (zR_choose hP (zJR_k hR fun k hk => l1 k (Or.inr hk))) (by omega)) ?_
  rintro _ M2 ⟨rfl, hR2, l2⟩
  simp only [Option.toList, List.cons_append, List.nil_append]
  rw [w_icmp, if_pos (by simp [zcmp])]
  exact hK (zU_choose a (M 0 (i + 1)) (M 0 (i + 2)) (M 0 (i + 3))) M2 (zP_choose hP) (zJC_k hC1 l2) hR2 ((l2 0 (by omega)).trans e0)
theorem LW_lot (hd : 200 ≤ d) (h0 : 0 ≤ i) (h5 : i + 5 < Ln) (hL : Ln ≤ 3072) (hv : v ≤ 100000) (hA : ∀ j, zin32 (M 0 j)) (hP : zJP a) (hC : zJC a v M) (hR : zJR a M) (hK : zKt Ln d v i (M 0) Q) : zW (zSH Ln) d 264 (zblk 264 49) [zR 0, zR 2, zR 48, zI i] [] M Q := by
  rw [show zblk 264 49 = _ from k_LW_law_49, w_a1, w_ag h0 h5 hL (k := 1) (by omega) (by omega)]
  refine w_callv (k := 2) (ps := [zI (M 0 (i + 1))]) (st' := []) (by omega) rfl rfl (by omega) (sh_2 Ln) (Nat.le_of_ble_eq_true rfl) (Nat.le_of_ble_eq_true rfl) (zW_d (zC_lot hP hC hv) (by omega)) ?_
  rintro _ M1 ⟨rfl, hC1, l1⟩
  have e0 : M1 0 = M 0 := l1 0 (Or.inl (by omega))
  simp only [Option.toList, List.cons_append, List.nil_append]
  rw [w_a2, w_ag h0 h5 hL (k := 1) (by omega) (by omega), e0]
  refine w_callv (k := 48) (ps := [zI (M 0 (i + 1))]) (st' := [zI _]) (by omega) rfl rfl (by omega) (sh_48 Ln) (Nat.le_of_ble_eq_true rfl) (Nat.le_of_ble_eq_true rfl) (zW_d (zR_lot hP (zJR_k hR fun k hk => l1 k (Or.inr hk))) (by omega)) ?_
  rintro _ M2 ⟨rfl, hR2, l2⟩
  simp only [Option.toList, List.cons_append, List.nil_append]
  rw [w_icmp, if_pos (by simp [zcmp])]
  exact hK (zU_lot a (M 0 (i + 1))) M2 (zP_lot hP) (zJC_k hC1 l2) hR2 ((l2 0 (by omega)).trans e0)
theorem LW_chance (hd : 200 ≤ d) (h0 : 0 ≤ i) (h5 : i + 5 < Ln) (hL : Ln ≤ 3072) (hv : v ≤ 100000) (hA : ∀ j, zin32 (M 0 j)) (hP : zJP a) (hC : zJC a v M) (hR : zJR a M) (hK : zKt Ln d v i (M 0) Q) : zW (zSH Ln) d 264 (zblk 264 51) [zR 0, zR 2, zR 48, zI i] [] M Q := by
  rw [show zblk 264 51 = _ from k_LW_law_51, w_a1, w_ag h0 h5 hL (k := 1) (by omega) (by omega), w_ag h0 h5 hL (k := 2) (by omega) (by omega)]
  refine w_callv (k := 2) (ps := [zI (M 0 (i + 1)), zI (M 0 (i + 2))]) (st' := []) (by omega) rfl rfl (by omega) (sh_2 Ln) (Nat.le_of_ble_eq_true rfl) (Nat.le_of_ble_eq_true rfl) (zW_d (zC_chance hP hC) (by omega)) ?_
  rintro _ M1 ⟨rfl, hC1, l1⟩
  have e0 : M1 0 = M 0 := l1 0 (Or.inl (by omega))
  simp only [Option.toList, List.cons_append, List.nil_append]
  rw [w_a2, w_ag h0 h5 hL (k := 1) (by omega) (by omega), w_ag h0 h5 hL (k := 2) (by omega) (by omega), e0]
  refine w_callv (k := 48) (ps := [zI (M 0 (i + 1)), zI (M 0 (i + 2))]) (st' := [zL _]) (by omega) rfl rfl (by omega) (sh_48 Ln) (Nat.le_of_ble_eq_true rfl) (Nat.le_of_ble_eq_true rfl) (zW_d (zR_chance hP (zJR_k hR fun k hk => l1 k (Or.inr hk))) (by omega)) ?_
  rintro _ M2 ⟨rfl, hR2, l2⟩
  simp only [Option.toList, List.cons_append, List.nil_append]
  rw [w_lcmp, w_if, if_pos (by simp [zcmp, zlcmp])]
  exact hK a M2 hP (zJC_k hC1 l2) hR2 ((l2 0 (by omega)).trans e0)
theorem LW_goal (hd : 200 ≤ d) (h0 : 0 ≤ i) (h5 : i + 5 < Ln) (hL : Ln ≤ 3072) (hv : v ≤ 100000) (hA : ∀ j, zin32 (M 0 j)) (hP : zJP a) (hC : zJC a v M) (hR : zJR a M) (hK : zKt Ln d v i (M 0) Q) : zW (zSH Ln) d 264 (zblk 264 53) [zR 0, zR 2, zR 48, zI i] [] M Q := by
  rw [show zblk 264 53 = _ from k_LW_law_53, w_a1, w_ag h0 h5 hL (k := 1) (by omega) (by omega), w_ag h0 h5 hL (k := 2) (by omega) (by omega)]
  refine w_callv (k := 2) (ps := [zI (M 0 (i + 1)), zI (M 0 (i + 2))]) (st' := []) (by omega) rfl rfl (by omega) (sh_2 Ln) (Nat.le_of_ble_eq_true rfl) (Nat.le_of_ble_eq_true rfl) (zW_d (zC_goal hP hC hv) (by omega)) ?_
  rintro _ M1 ⟨rfl, hC1, l1⟩
  have e0 : M1 0 = M 0 := l1 0 (Or.inl (by omega))
  simp only [Option.toList, List.cons_append, List.nil_append]
  rw [w_a2, w_ag h0 h5 hL (k := 1) (by omega) (by omega), w_ag h0 h5 hL (k := 2) (by omega) (by omega), e0]
  refine w_callv (k := 48) (ps := [zI (M 0 (i + 1)), zI (M 0 (i + 2))]) (st' := [zI _]) (by omega) rfl rfl (by omega) (sh_48 Ln) (Nat.le_of_ble_eq_true rfl) (Nat.le_of_ble_eq_true rfl) (zW_d (zR_goal hP (zJR_k hR fun k hk => l1 k (Or.inr hk))) (by omega)) ?_
  rintro _ M2 ⟨rfl, hR2, l2⟩
  simp only [Option.toList, List.cons_append, List.nil_append]
  rw [w_icmp, if_pos (by simp [zcmp])]
  exact hK (zU_goal a (M 0 (i + 1)) (M 0 (i + 2))) M2 (zP_goal hP) (zJC_k hC1 l2) hR2 ((l2 0 (by omega)).trans e0)
theorem LW_content (hd : 200 ≤ d) (h0 : 0 ≤ i) (h5 : i + 5 < Ln) (hL : Ln ≤ 3072) (hv : v ≤ 100000) (hA : ∀ j, zin32 (M 0 j)) (hP : zJP a) (hC : zJC a v M) (hR : zJR a M) (hK : zKt Ln d v i (M 0) Q) : zW (zSH Ln) d 264 (zblk 264 55) [zR 0, zR 2, zR 48, zI i] [] M Q := by
  rw [show zblk 264 55 = _ from k_LW_law_55, w_a1, w_ag h0 h5 hL (k := 1) (by omega) (by omega)]
  refine w_callv (k := 2) (ps := [zI (M 0 (i + 1))]) (st' := []) (by omega) rfl rfl (by omega) (sh_2 Ln) (Nat.le_of_ble_eq_true rfl) (Nat.le_of_ble_eq_true rfl) (zW_d (zC_content hP hC) (by omega)) ?_
  rintro _ M1 ⟨rfl, hC1, l1⟩
  have e0 : M1 0 = M 0 := l1 0 (Or.inl (by omega))
  simp only [Option.toList, List.cons_append, List.nil_append]
  rw [w_a2, w_ag h0 h5 hL (k := 1) (by omega) (by omega), e0]
  refine w_callv (k := 48) (ps := [zI (M 0 (i + 1))]) (st' := [zI _]) (by omega) rfl rfl (by omega) (sh_48 Ln) (Nat.le_of_ble_eq_true rfl) (Nat.le_of_ble_eq_true rfl) (zW_d (zR_content hP (zJR_k hR fun k hk => l1 k (Or.inr hk))) (by omega)) ?_
  rintro _ M2 ⟨rfl, hR2, l2⟩
  simp only [Option.toList, List.cons_append, List.nil_append]
  rw [w_icmp, if_pos (by simp [zcmp])]
  exact hK a M2 hP (zJC_k hC1 l2) hR2 ((l2 0 (by omega)).trans e0)
theorem LW_stable (hd : 200 ≤ d) (h0 : 0 ≤ i) (h5 : i + 5 < Ln) (hL : Ln ≤ 3072) (hv : v ≤ 100000) (hA : ∀ j, zin32 (M 0 j)) (hP : zJP a) (hC : zJC a v M) (hR : zJR a M) (hK : zKt Ln d v i (M 0) Q) : zW (zSH Ln) d 264 (zblk 264 57) [zR 0, zR 2, zR 48, zI i] [] M Q := by
  rw [show zblk 264 57 = _ from k_LW_law_57, w_a1, w_ag h0 h5 hL (k := 1) (by omega) (by omega)]
  refine w_callv (k := 2) (ps := [zI (M 0 (i + 1))]) (st' := []) (by omega) rfl rfl (by omega) (sh_2 Ln) (Nat.le_of_ble_eq_true rfl) (Nat.le_of_ble_eq_true rfl) (zW_d (zC_stable hP hC) (by omega)) ?_
  rintro _ M1 ⟨rfl, hC1, l1⟩
  have e0 : M1 0 = M 0 := l1 0 (Or.inl (by omega))
  simp only [Option.toList, List.cons_append, List.nil_append]
  rw [w_a2, w_ag h0 h5 hL (k := 1) (by omega) (by omega), e0]
  refine w_callv (k := 48) (ps := [zI (M 0 (i + 1))]) (st' := [zI _]) (by omega) rfl rfl (by omega) (sh_48 Ln) (Nat.le_of_ble_eq_true rfl) (Nat.le_of_ble_eq_true rfl) (zW_d (zR_stable hP (zJR_k hR fun k hk => l1 k (Or.inr hk))) (by omega)) ?_
  rintro _ M2 ⟨rfl, hR2, l2⟩
  simp only [Option.toList, List.cons_append, List.nil_append]
  rw [w_icmp, if_pos (by simp [zcmp])]
  exact hK a M2 hP (zJC_k hC1 l2) hR2 ((l2 0 (by omega)).trans e0)
theorem LW_settle (hd : 200 ≤ d) (h0 : 0 ≤ i) (h5 : i + 5 < Ln) (hL : Ln ≤ 3072) (hv : v ≤ 100000) (hA : ∀ j, zin32 (M 0 j)) (hP : zJP a) (hC : zJC a v M) (hR : zJR a M) (hK : zKt Ln d v i (M 0) Q) : zW (zSH Ln) d 264 (zblk 264 59) [zR 0, zR 2, zR 48, zI i] [] M Q := by
  rw [show zblk 264 59 = _ from k_LW_law_59, w_a1, w_ag h0 h5 hL (k := 1) (by omega) (by omega)]
  refine w_callv (k := 2) (ps := [zI (M 0 (i + 1))]) (st' := []) (by omega) rfl rfl (by omega) (sh_2 Ln) (Nat.le_of_ble_eq_true rfl) (Nat.le_of_ble_eq_true rfl) (zW_d (zC_settle hP hC) (by omega)) ?_
  rintro _ M1 ⟨rfl, hC1, l1⟩
  have e0 : M1 0 = M 0 := l1 0 (Or.inl (by omega))
  simp only [Option.toList, List.cons_append, List.nil_append]
  rw [w_a2, w_ag h0 h5 hL (k := 1) (by omega) (by omega), e0]
  refine w_callv (k := 48) (ps := [zI (M 0 (i + 1))]) (st' := [zI _]) (by omega) rfl rfl (by omega) (sh_48 Ln) (Nat.le_of_ble_eq_true rfl) (Nat.le_of_ble_eq_true rfl) (zW_d (zR_settle hP (zJR_k hR fun k hk => l1 k (Or.inr hk))) (by omega)) ?_
  rintro _ M2 ⟨rfl, hR2, l2⟩
  simp only [Option.toList, List.cons_append, List.nil_append]
  rw [w_icmp, if_pos (by simp [zcmp])]
  exact hK (zU_settle a (M 0 (i + 1))) M2 (zP_settle hP) (zJC_k hC1 l2) hR2 ((l2 0 (by omega)).trans e0)
theorem LW_helpers (hd : 200 ≤ d) (h0 : 0 ≤ i) (h5 : i + 5 < Ln) (hL : Ln ≤ 3072) (hv : v ≤ 100000) (hA : ∀ j, zin32 (M 0 j)) (hP : zJP a) (hC : zJC a v M) (hR : zJR a M) (hK : zKt Ln d v i (M 0) Q) : zW (zSH Ln) d 264 (zblk 264 61) [zR 0, zR 2, zR 48, zI i] [] M Q := by
  rw [show zblk 264 61 = _ from k_LW_law_61, w_a1, w_ag h0 h5 hL (k := 1) (by omega) (by omega)]
  refine w_callv (k := 2) (ps := [zI (M 0 (i + 1))]) (st' := []) (by omega) rfl rfl (by omega) (sh_2 Ln) (Nat.le_of_ble_eq_true rfl) (Nat.le_of_ble_eq_true rfl) (zW_d (zC_helpers hP hC) (by omega)) ?_
  rintro _ M1 ⟨rfl, hC1, l1⟩
  have e0 : M1 0 = M 0 := l1 0 (Or.inl (by omega))
  simp only [Option.toList, List.cons_append, List.nil_append]
  rw [w_a2, w_ag h0 h5 hL (k := 1) (by omega) (by omega), e0]
  refine w_callv (k := 48) (ps := [zI (M 0 (i + 1))]) (st' := [zI _]) (by omega) rfl rfl (by omega) (sh_48 Ln) (Nat.le_of_ble_eq_true rfl) (Nat.le_of_ble_eq_true rfl) (zW_d (zR_helpers hP (zJR_k hR fun k hk => l1 k (Or.inr hk))) (by omega)) ?_
  rintro _ M2 ⟨rfl, hR2, l2⟩
  simp only [Option.toList, List.cons_append, List.nil_append]
  rw [w_icmp, if_pos (by simp [zcmp])]
  exact hK a M2 hP (zJC_k hC1 l2) hR2 ((l2 0 (by omega)).trans e0)
theorem LW_count (hd : 200 ≤ d) (h0 : 0 ≤ i) (h5 : i + 5 < Ln) (hL : Ln ≤ 3072) (hv : v ≤ 100000) (hA : ∀ j, zin32 (M 0 j)) (hP : zJP a) (hC : zJC a v M) (hR : zJR a M) (hK : zKt Ln d v i (M 0) Q) : zW (zSH Ln) d 264 (zblk 264 63) [zR 0, zR 2, zR 48, zI i] [] M Q := by
  rw [show zblk 264 63 = _ from k_LW_law_63, w_a1, w_ag h0 h5 hL (k := 1) (by omega) (by omega)]
  refine w_callv (k := 2) (ps := [zI (M 0 (i + 1))]) (st' := []) (by omega) rfl rfl (by omega) (sh_2 Ln) (Nat.le_of_ble_eq_true rfl) (Nat.le_of_ble_eq_true rfl) (zW_d (zC_count hP hC) (by omega)) ?_
  rintro _ M1 ⟨rfl, hC1, l1⟩
  have e0 : M1 0 = M 0 := l1 0 (Or.inl (by omega))
  simp only [Option.toList, List.cons_append, List.nil_append]
  rw [w_a2, w_ag h0 h5 hL (k := 1) (by omega) (by omega), e0]
  refine w_callv (k := 48) (ps := [zI (M 0 (i + 1))]) (st' := [zI _]) (by omega) rfl rfl (by omega) (sh_48 Ln) (Nat.le_of_ble_eq_true rfl) (Nat.le_of_ble_eq_true rfl) (zW_d (zR_count hP (zJR_k hR fun k hk => l1 k (Or.inr hk))) (by omega)) ?_
  rintro _ M2 ⟨rfl, hR2, l2⟩
  simp only [Option.toList, List.cons_append, List.nil_append]
  rw [w_icmp, if_pos (by simp [zcmp])]
  exact hK a M2 hP (zJC_k hC1 l2) hR2 ((l2 0 (by omega)).trans e0)
theorem LW_sheet (hd : 200 ≤ d) (h0 : 0 ≤ i) (h5 : i + 5 < Ln) (hL : Ln ≤ 3072) (hv : v ≤ 100000) (hA : ∀ j, zin32 (M 0 j)) (hP : zJP a) (hC : zJC a v M) (hR : zJR a M) (hK : zKt Ln d v i (M 0) Q) : zW (zSH Ln) d 264 (zblk 264 65) [zR 0, zR 2, zR 48, zI i] [] M Q := by
  rw [show zblk 264 65 = _ from k_LW_law_65, w_a1, w_ag h0 h5 hL (k := 1) (by omega) (by omega), w_ag h0 h5 hL (k := 2) (by omega) (by omega), w_ag h0 h5 hL (k := 3) (by omega) (by omega)]
  refine w_callv (k := 2) (ps := [zI (M 0 (i + 1)), zI (M 0 (i + 2)), zI (M 0 (i + 3))]) (st' := []) (by omega) rfl rfl (by omega) (sh_2 Ln) (Nat.le_of_ble_eq_true rfl) (Nat.le_of_ble_eq_true rfl) (zW_d (zC_sheet hP hC hv) (by omega)) ?_
  rintro _ M1 ⟨rfl, hC1, l1⟩
  have e0 : M1 0 = M 0 := l1 0 (Or.inl (by omega))
  simp only [Option.toList, List.cons_append, List.nil_append]
  rw [w_a2, w_ag h0 h5 hL (k := 1) (by omega) (by omega), w_ag h0 h5 hL (k := 2) (by omega) (by omega), w_ag h0 h5 hL (k := 3) (by omega) (by omega), e0]
  refine w_callv (k := 48) (ps := [zI (M 0 (i + 1)), zI (M 0 (i + 2)), zI (M 0 (i + 3))]) (st' := [zI _]) (by omega) rfl rfl (by omega) (sh_48 Ln) (Nat.le_of_ble_eq_true rfl) (Nat.le_of_ble_eq_true rfl) (zW_d (zR_sheet hP (zJR_k hR fun k hk => l1 k (Or.inr hk))) (by omega)) ?_
  rintro _ M2 ⟨rfl, hR2, l2⟩
  simp only [Option.toList, List.cons_append, List.nil_append]
  rw [w_icmp, if_pos (by simp [zcmp])]
  exact hK (zU_sheet a (M 0 (i + 1)) (M 0 (i + 2)) (M 0 (i + 3))) M2 (zP_sheet hP) (zJC_k hC1 l2) hR2 ((l2 0 (by omega)).trans e0)
theorem LW_drop (hd : 200 ≤ d) (h0 : 0 ≤ i) (h5 : i + 5 < Ln) (hL : Ln ≤ 3072) (hv : v ≤ 100000) (hA : ∀ j, zin32 (M 0 j)) (hP : zJP a) (hC : zJC a v M) (hR : zJR a M) (hK : zKt Ln d v i (M 0) Q) : zW (zSH Ln) d 264 (zblk 264 67) [zR 0, zR 2, zR 48, zI i] [] M Q := by
  rw [show zblk 264 67 = _ from k_LW_law_67, w_a1, w_ag h0 h5 hL (k := 1) (by omega) (by omega)]
  refine w_callv (k := 2) (ps := [zI (M 0 (i + 1))]) (st' := []) (by omega) rfl rfl (by omega) (sh_2 Ln) (Nat.le_of_ble_eq_true rfl) (Nat.le_of_ble_eq_true rfl) (zW_d (zC_drop hP hC hv) (by omega)) ?_
  rintro _ M1 ⟨rfl, hC1, l1⟩
  have e0 : M1 0 = M 0 := l1 0 (Or.inl (by omega))
  simp only [Option.toList, List.cons_append, List.nil_append]
  rw [w_a2, w_ag h0 h5 hL (k := 1) (by omega) (by omega), e0]
  refine w_callv (k := 48) (ps := [zI (M 0 (i + 1))]) (st' := [zI _]) (by omega) rfl rfl (by omega) (sh_48 Ln) (Nat.le_of_ble_eq_true rfl) (Nat.le_of_ble_eq_true rfl) (zW_d (zR_drop hP (zJR_k hR fun k hk => l1 k (Or.inr hk))) (by omega)) ?_
  rintro _ M2 ⟨rfl, hR2, l2⟩
  simp only [Option.toList, List.cons_append, List.nil_append]
  rw [w_icmp, if_pos (by simp [zcmp])]
  exact hK (zU_drop a (M 0 (i + 1))) M2 (zP_drop hP) (zJC_k hC1 l2) hR2 ((l2 0 (by omega)).trans e0)
theorem LW_item (hd : 200 ≤ d) (h0 : 0 ≤ i) (h5 : i + 5 < Ln) (hL : Ln ≤ 3072) (hv : v ≤ 100000) (hA : ∀ j, zin32 (M 0 j)) (hP : zJP a) (hC : zJC a v M) (hR : zJR a M) (hK : zKt Ln d v i (M 0) Q) : zW (zSH Ln) d 264 (zblk 264 69) [zR 0, zR 2, zR 48, zI i] [] M Q := by
  rw [show zblk 264 69 = _ from k_LW_law_69, w_a1, w_ag h0 h5 hL (k := 1) (by omega) (by omega), w_ag h0 h5 hL (k := 2) (by omega) (by omega), w_ag h0 h5 hL (k := 3) (by omega) (by omega), w_ag h0 h5 hL (k := 4) (by omega) (by omega)]
  refine w_callv (k := 2) (ps := [zI (M 0 (i + 1)), zI (M 0 (i + 2)), zI (M 0 (i + 3)), zI (M 0 (i + 4))]) (st' := []) (by omega) rfl rfl (by omega) (sh_2 Ln) (Nat.le_of_ble_eq_true rfl) (Nat.le_of_ble_eq_true rfl) (zW_d (zC_item hP hC hv) (by omega)) ?_
  rintro _ M1 ⟨rfl, hC1, l1⟩
  have e0 : M1 0 = M 0 := l1 0 (Or.inl (by omega))
  simp only [Option.toList, List.cons_append, List.nil_append]
  rw [w_a2, w_ag h0 h5 hL (k := 1) (by omega) (by omega), w_ag h0 h5 hL (k := 2) (by omega) (by omega), w_ag h0 h5 hL (k := 3) (by omega) (by omega), w_ag h0 h5 hL (k := 4) (by omega) (by omega), e0]
  refine w_callv (k := 48) (ps := [zI (M 0 (i + 1)), zI (M 0 (i + 2)), zI (M 0 (i + 3)), zI (M 0 (i + 4))]) (st' := [zI _]) (by omega) rfl rfl (by omega) (sh_48 Ln) (Nat.le_of_ble_eq_true rfl) (Nat.le_of_ble_eq_true rfl) (zW_d (zR_item hP (zJR_k hR fun k hk => l1 k (Or.inr hk)) (hA _).2) (by omega)) ?_
  rintro _ M2 ⟨rfl, hR2, l2⟩
  simp only [Option.toList, List.cons_append, List.nil_append]
  rw [w_icmp, if_pos (by simp [zcmp])]
  exact hK (zU_item a (M 0 (i + 1)) (M 0 (i + 2)) (M 0 (i + 3)) (M 0 (i + 4))) M2 (zP_item hP (hA _).2) (zJC_k hC1 l2) hR2 ((l2 0 (by omega)).trans e0)
theorem LW_copy (hd : 200 ≤ d) (h0 : 0 ≤ i) (h5 : i + 5 < Ln) (hL : Ln ≤ 3072) (hv : v ≤ 100000) (hA : ∀ j, zin32 (M 0 j)) (hP : zJP a) (hC : zJC a v M) (hR : zJR a M) (hK : zKt Ln d v i (M 0) Q) : zW (zSH Ln) d 264 (zblk 264 71) [zR 0, zR 2, zR 48, zI i] [] M Q := by
  rw [show zblk 264 71 = _ from k_LW_law_71, w_a1, w_ag h0 h5 hL (k := 1) (by omega) (by omega), w_ag h0 h5 hL (k := 2) (by omega) (by omega), w_ag h0 h5 hL (k := 3) (by omega) (by omega), w_ag h0 h5 hL (k := 4) (by omega) (by omega), w_ag h0 h5 hL (k := 5) (by omega) (by omega)]
  refine w_callv (k := 2) (ps := [zI (M 0 (i + 1)), zI (M 0 (i + 2)), zI (M 0 (i + 3)), zI (M 0 (i + 4)), zI (M 0 (i + 5))]) (st' := []) (by omega) rfl rfl (by omega) (sh_2 Ln) (Nat.le_of_ble_eq_true rfl) (Nat.le_of_ble_eq_true rfl) (zW_d (zC_copy hP hC hv) (by omega)) ?_
  rintro _ M1 ⟨rfl, hC1, l1⟩
  have e0 : M1 0 = M 0 := l1 0 (Or.inl (by omega))
  simp only [Option.toList, List.cons_append, List.nil_append]
  rw [w_a2, w_ag h0 h5 hL (k := 1) (by omega) (by omega), w_ag h0 h5 hL (k := 2) (by omega) (by omega), w_ag h0 h5 hL (k := 3) (by omega) (by omega), w_ag h0 h5 hL (k := 4) (by omega) (by omega), w_ag h0 h5 hL (k := 5) (by omega) (by omega), e0]
  refine w_callv (k := 48) (ps := [zI (M 0 (i + 1)), zI (M 0 (i + 2)), zI (M 0 (i + 3)), zI (M 0 (i + 4)), zI (M 0 (i + 5))]) (st' := [zI _]) (by omega) rfl rfl (by omega) (sh_48 Ln) (Nat.le_of_ble_eq_true rfl) (Nat.le_of_ble_eq_true rfl) (zW_d (zR_copy hP (zJR_k hR fun k hk => l1 k (Or.inr hk)) (hA _).2 (hA _).2 (hA _)) (by omega)) ?_
  rintro _ M2 ⟨rfl, hR2, l2⟩
  simp only [Option.toList, List.cons_append, List.nil_append]
  rw [w_icmp, if_pos (by simp [zcmp])]
  exact hK (zU_copy a (M 0 (i + 1)) (M 0 (i + 2)) (M 0 (i + 3)) (M 0 (i + 4)) (M 0 (i + 5))) M2 (zP_copy hP) (zJC_k hC1 l2) hR2 ((l2 0 (by omega)).trans e0)
end LC
