/-! each call as one step of the law's walk -/
/-- between two calls: what the class stands for, and the script -/
def yJ (a : zAbs) (n : Nat) (F0 : Int → Int) (M : Nat → Int → Int) : Prop := zJP a ∧ zJC a n M ∧ M 0 = F0
def yI (a : zAbs) (F0 : Int → Int) (M : Nat → Int → Int) : Prop := ∃ n, yJ a n F0 M
theorem yJ_up {a : zAbs} {n m : Nat} {F0 : Int → Int} {M : Nat → Int → Int} (h : yJ a n F0 M) (hm : n ≤ m) : yJ a m F0 M := ⟨h.1, zJC_v h.2.1 hm, h.2.2⟩
theorem yI_0 {a : zAbs} {F0 : Int → Int} {M : Nat → Int → Int} (h : yI a F0 M) : M 0 = F0 := by
  obtain ⟨n, h⟩ := h
  exact h.2.2
section YK
variable {Ln d mi o b9 vn : Nat} {a : zAbs} {F0 : Int → Int} {M : Nat → Int → Int} {es : List zEnt} {L st : List zMV} {Q : Option zMV → (Nat → Int → Int) → Prop}
theorem yk_net {x y : Int} (hd : 101 ≤ d) (hc : zcats st ≤ 8) (hv : vn ≤ 100000) (hJ : yJ a vn F0 M) (hk : ∀ M1, yJ (zU_net a x y) (vn + 100) F0 M1 → zW (zSH Ln) d mi es L (zI (if zNwG x y then 1 else -1) :: st) M1 Q) : zW (zSH Ln) d mi ((.invokevirtual o, 87, b9) :: es) L (zI y :: zI x :: zR 2 :: st) M Q := by
  refine w_callv (k := 2) (ps := [zI x, zI y]) (st' := st) (by omega) rfl rfl (by omega) (by exact sh_2 Ln) hc (Nat.le_of_ble_eq_true rfl) (zW_d (zC_net hJ.2.1 hv) (by omega)) ?_
  rintro _ M1 ⟨rfl, hC1, l1⟩
  exact hk M1 ⟨zP_net hJ.1, hC1, (l1 0 (Or.inl (by omega))).trans hJ.2.2⟩
theorem yk_moves {x y m : Int} (hd : 101 ≤ d) (hc : zcats st ≤ 8) (hv : vn ≤ 100000) (hJ : yJ a vn F0 M) (hk : ∀ M1, yJ (zU_moves a x y m) (vn + 100) F0 M1 → zW (zSH Ln) d mi es L (zI (if (0 ≤ x ∧ x < (a.S : Int)) ∧ (0 ≤ y ∧ y < (a.P : Int)) ∧ (1 ≤ m ∧ m ≤ 3) then (a.mv x.toNat y.toNat : Int) else -1) :: st) M1 Q) : zW (zSH Ln) d mi ((.invokevirtual o, 88, b9) :: es) L (zI m :: zI y :: zI x :: zR 2 :: st) M Q := by
  refine w_callv (k := 2) (ps := [zI x, zI y, zI m]) (st' := st) (by omega) rfl rfl (by omega) (by exact sh_2 Ln) hc (Nat.le_of_ble_eq_true rfl) (zW_d (zC_moves hJ.1 hJ.2.1 hv) (by omega)) ?_
  rintro _ M1 ⟨rfl, hC1, l1⟩
  exact hk M1 ⟨zP_moves hJ.1, hC1, (l1 0 (Or.inl (by omega))).trans hJ.2.2⟩
theorem yk_joint {x y : Int} (hd : 101 ≤ d) (hc : zcats st ≤ 8) (hJ : yJ a vn F0 M) (hk : ∀ M1, yJ a (vn + 100) F0 M1 → zW (zSH Ln) d mi es L (zI (zJoA a.S a.P a.mv x y) :: st) M1 Q) : zW (zSH Ln) d mi ((.invokevirtual o, 89, b9) :: es) L (zI y :: zI x :: zR 2 :: st) M Q := by
  refine w_callv (k := 2) (ps := [zI x, zI y]) (st' := st) (by omega) rfl rfl (by omega) (by exact sh_2 Ln) hc (Nat.le_of_ble_eq_true rfl) (zW_d (zC_joint hJ.1 hJ.2.1) (by omega)) ?_
  rintro _ M1 ⟨rfl, hC1, l1⟩
  exact hk M1 ⟨hJ.1, hC1, (l1 0 (Or.inl (by omega))).trans hJ.2.2⟩
theorem ya_joint {x y : Int} (hd : 101 ≤ d) (hc : zcats st ≤ 8) (hI : yI a F0 M) (hk : ∀ M1, yI a F0 M1 → zW (zSH Ln) d mi es L (zI (zJoA a.S a.P a.mv x y) :: st) M1 Q) : zW (zSH Ln) d mi ((.invokevirtual o, 89, b9) :: es) L (zI y :: zI x :: zR 2 :: st) M Q := by
  obtain ⟨vn, hJ⟩ := hI
  exact yk_joint hd hc hJ fun M1 h => hk M1 ⟨_, h⟩
theorem yk_step {x c t : Int} (hd : 101 ≤ d) (hc : zcats st ≤ 8) (hv : vn ≤ 100000) (hJ : yJ a vn F0 M) (hk : ∀ M1, yJ (zU_step a x c t) (vn + 100) F0 M1 → zW (zSH Ln) d mi es L (zI (if ((0 ≤ x ∧ x < (a.S : Int)) ∧ 0 ≤ c ∧ c < (zcnt (a.mv x.toNat) zall1 a.P : Int)) ∧ (0 ≤ t ∧ t < (a.S : Int)) then (a.tg x.toNat c.toNat : Int) else -1) :: st) M1 Q) : zW (zSH Ln) d mi ((.invokevirtual o, 90, b9) :: es) L (zI t :: zI c :: zI x :: zR 2 :: st) M Q := by
  refine w_callv (k := 2) (ps := [zI x, zI c, zI t]) (st' := st) (by omega) rfl rfl (by omega) (by exact sh_2 Ln) hc (Nat.le_of_ble_eq_true rfl) (zW_d (zC_step hJ.1 hJ.2.1 hv) (by omega)) ?_
  rintro _ M1 ⟨rfl, hC1, l1⟩
  exact hk M1 ⟨zP_step hJ.1, hC1, (l1 0 (Or.inl (by omega))).trans hJ.2.2⟩
theorem yk_letters {x b : Int} (hd : 101 ≤ d) (hc : zcats st ≤ 8) (hv : vn ≤ 100000) (hJ : yJ a vn F0 M) (hk : ∀ M1, yJ (zU_letters a x b) (vn + 100) F0 M1 → zW (zSH Ln) d mi es L (zI (if (0 ≤ x ∧ x < (a.S : Int)) ∧ (0 ≤ b ∧ b ≤ 255) then (a.lt x.toNat : Int) else -1) :: st) M1 Q) : zW (zSH Ln) d mi ((.invokevirtual o, 91, b9) :: es) L (zI b :: zI x :: zR 2 :: st) M Q := by
  refine w_callv (k := 2) (ps := [zI x, zI b]) (st' := st) (by omega) rfl rfl (by omega) (by exact sh_2 Ln) hc (Nat.le_of_ble_eq_true rfl) (zW_d (zC_letters hJ.1 hJ.2.1 hv) (by omega)) ?_
  rintro _ M1 ⟨rfl, hC1, l1⟩
  exact hk M1 ⟨zP_letters hJ.1, hC1, (l1 0 (Or.inl (by omega))).trans hJ.2.2⟩
theorem yk_price {x y z w : Int} (hd : 101 ≤ d) (hc : zcats st ≤ 8) (hv : vn ≤ 100000) (hJ : yJ a vn F0 M) (hk : ∀ M1, yJ (zU_price a x y z w) (vn + 100) F0 M1 → zW (zSH Ln) d mi es L (zI (if (0 ≤ x ∧ x < (a.S : Int)) ∧ (0 ≤ y ∧ y < (a.P : Int)) ∧ (0 ≤ z ∧ z < (a.mv x.toNat y.toNat : Int)) ∧ 0 ≤ w ∧ w ≤ 9 then (a.pr x.toNat y.toNat z.toNat : Int) else -1) :: st) M1 Q) : zW (zSH Ln) d mi ((.invokevirtual o, 92, b9) :: es) L (zI w :: zI z :: zI y :: zI x :: zR 2 :: st) M Q := by
  refine w_callv (k := 2) (ps := [zI x, zI y, zI z, zI w]) (st' := st) (by omega) rfl rfl (by omega) (by exact sh_2 Ln) hc (Nat.le_of_ble_eq_true rfl) (zW_d (zC_price hJ.1 hJ.2.1 hv) (by omega)) ?_
  rintro _ M1 ⟨rfl, hC1, l1⟩
  exact hk M1 ⟨zP_price hJ.1, hC1, (l1 0 (Or.inl (by omega))).trans hJ.2.2⟩
theorem yk_type {w n : Int} (hd : 101 ≤ d) (hc : zcats st ≤ 8) (hJ : yJ a vn F0 M) (hk : ∀ M1, yJ (zU_type a w n) (vn + 100) F0 M1 → zW (zSH Ln) d mi es L (zI (zTyA a.q w n) :: st) M1 Q) : zW (zSH Ln) d mi ((.invokevirtual o, 93, b9) :: es) L (zI n :: zL w :: zR 2 :: st) M Q := by
  refine w_callv (k := 2) (ps := [zL w, zI n]) (st' := st) (by omega) rfl rfl (by omega) (by exact sh_2 Ln) hc (Nat.le_of_ble_eq_true rfl) (zW_d (zC_type hJ.1 hJ.2.1) (by omega)) ?_
  rintro _ M1 ⟨rfl, hC1, l1⟩
  exact hk M1 ⟨zP_type hJ.1, hC1, (l1 0 (Or.inl (by omega))).trans hJ.2.2⟩
theorem ya_type {w n : Int} (hd : 101 ≤ d) (hc : zcats st ≤ 8) (hI : yI a F0 M) (hk : ∀ M1, yI (zU_type a w n) F0 M1 → zW (zSH Ln) d mi es L (zI (zTyA a.q w n) :: st) M1 Q) : zW (zSH Ln) d mi ((.invokevirtual o, 93, b9) :: es) L (zI n :: zL w :: zR 2 :: st) M Q := by
  obtain ⟨vn, hJ⟩ := hI
  exact yk_type hd hc hJ fun M1 h => hk M1 ⟨_, h⟩
theorem yk_form (hd : 101 ≤ d) (hc : zcats st ≤ 8) (hv : vn ≤ 100000) (hJ : yJ a vn F0 M) (hk : ∀ M1, yJ (zU_form a) (vn + 100) F0 M1 → zW (zSH Ln) d mi es L (zI (zFoR (zqT a.q a.P a.tb)) :: st) M1 Q) : zW (zSH Ln) d mi ((.invokevirtual o, 94, b9) :: es) L (zR 2 :: st) M Q := by
  refine w_callv (k := 2) (ps := []) (st' := st) (by omega) rfl rfl (by omega) (by exact sh_2 Ln) hc (Nat.le_of_ble_eq_true rfl) (zW_d (zC_form hJ.1 hJ.2.1 hv) (by omega)) ?_
  rintro _ M1 ⟨rfl, hC1, l1⟩
  exact hk M1 ⟨zP_form hJ.1, hC1, (l1 0 (Or.inl (by omega))).trans hJ.2.2⟩
theorem yk_holds (hd : 101 ≤ d) (hc : zcats st ≤ 8) (hJ : yJ a vn F0 M) (hk : ∀ M1, yJ a (vn + 100) F0 M1 → zW (zSH Ln) d mi es L (zI (zset a.S (zHp a.mv a.tg a.P a.lt a.kd a.lf a.rt a.gp 0)) :: st) M1 Q) : zW (zSH Ln) d mi ((.invokevirtual o, 95, b9) :: es) L (zR 2 :: st) M Q := by
  refine w_callv (k := 2) (ps := []) (st' := st) (by omega) rfl rfl (by omega) (by exact sh_2 Ln) hc (Nat.le_of_ble_eq_true rfl) (zW_d (zC_holds hJ.1 hJ.2.1) (by omega)) ?_
  rintro _ M1 ⟨rfl, hC1, l1⟩
  exact hk M1 ⟨hJ.1, hC1, (l1 0 (Or.inl (by omega))).trans hJ.2.2⟩
theorem ya_holds (hd : 101 ≤ d) (hc : zcats st ≤ 8) (hI : yI a F0 M) (hk : ∀ M1, yI a F0 M1 → zW (zSH Ln) d mi es L (zI (zset a.S (zHp a.mv a.tg a.P a.lt a.kd a.lf a.rt a.gp 0)) :: st) M1 Q) : zW (zSH Ln) d mi ((.invokevirtual o, 95, b9) :: es) L (zR 2 :: st) M Q := by
  obtain ⟨vn, hJ⟩ := hI
  exact yk_holds hd hc hJ fun M1 h => hk M1 ⟨_, h⟩
theorem yk_part {x : Int} (hd : 101 ≤ d) (hc : zcats st ≤ 8) (hJ : yJ a vn F0 M) (hk : ∀ M1, yJ a (vn + 100) F0 M1 → zW (zSH Ln) d mi es L (zI (zPaA a.S a.n a.mv a.tg a.P a.lt a.kd a.lf a.rt a.gp x) :: st) M1 Q) : zW (zSH Ln) d mi ((.invokevirtual o, 96, b9) :: es) L (zI x :: zR 2 :: st) M Q := by
  refine w_callv (k := 2) (ps := [zI x]) (st' := st) (by omega) rfl rfl (by omega) (by exact sh_2 Ln) hc (Nat.le_of_ble_eq_true rfl) (zW_d (zC_part hJ.1 hJ.2.1) (by omega)) ?_
  rintro _ M1 ⟨rfl, hC1, l1⟩
  exact hk M1 ⟨hJ.1, hC1, (l1 0 (Or.inl (by omega))).trans hJ.2.2⟩
theorem ya_part {x : Int} (hd : 101 ≤ d) (hc : zcats st ≤ 8) (hI : yI a F0 M) (hk : ∀ M1, yI a F0 M1 → zW (zSH Ln) d mi es L (zI (zPaA a.S a.n a.mv a.tg a.P a.lt a.kd a.lf a.rt a.gp x) :: st) M1 Q) : zW (zSH Ln) d mi ((.invokevirtual o, 96, b9) :: es) L (zI x :: zR 2 :: st) M Q := by
  obtain ⟨vn, hJ⟩ := hI
  exact yk_part hd hc hJ fun M1 h => hk M1 ⟨_, h⟩
theorem yk_round {x : Int} (hd : 101 ≤ d) (hc : zcats st ≤ 8) (hJ : yJ a vn F0 M) (hk : ∀ M1, yJ a (vn + 100) F0 M1 → zW (zSH Ln) d mi es L (zI (zRoA a.S a.P a.mv a.tg a.lt a.kd a.lf a.rt a.gp x) :: st) M1 Q) : zW (zSH Ln) d mi ((.invokevirtual o, 97, b9) :: es) L (zI x :: zR 2 :: st) M Q := by
  refine w_callv (k := 2) (ps := [zI x]) (st' := st) (by omega) rfl rfl (by omega) (by exact sh_2 Ln) hc (Nat.le_of_ble_eq_true rfl) (zW_d (zC_round hJ.1 hJ.2.1) (by omega)) ?_
  rintro _ M1 ⟨rfl, hC1, l1⟩
  exact hk M1 ⟨hJ.1, hC1, (l1 0 (Or.inl (by omega))).trans hJ.2.2⟩
theorem ya_round {x : Int} (hd : 101 ≤ d) (hc : zcats st ≤ 8) (hI : yI a F0 M) (hk : ∀ M1, yI a F0 M1 → zW (zSH Ln) d mi es L (zI (zRoA a.S a.P a.mv a.tg a.lt a.kd a.lf a.rt a.gp x) :: st) M1 Q) : zW (zSH Ln) d mi ((.invokevirtual o, 97, b9) :: es) L (zI x :: zR 2 :: st) M Q := by
  obtain ⟨vn, hJ⟩ := hI
  exact yk_round hd hc hJ fun M1 h => hk M1 ⟨_, h⟩
theorem yk_plan {x : Int} (hd : 101 ≤ d) (hc : zcats st ≤ 8) (hJ : yJ a vn F0 M) (hk : ∀ M1, yJ a (vn + 100) F0 M1 → zW (zSH Ln) d mi es L (zI (zPlA a.S a.P a.mv a.tg a.lt a.kd a.lf a.rt a.gp x) :: st) M1 Q) : zW (zSH Ln) d mi ((.invokevirtual o, 98, b9) :: es) L (zI x :: zR 2 :: st) M Q := by
  refine w_callv (k := 2) (ps := [zI x]) (st' := st) (by omega) rfl rfl (by omega) (by exact sh_2 Ln) hc (Nat.le_of_ble_eq_true rfl) (zW_d (zC_plan hJ.1 hJ.2.1) (by omega)) ?_
  rintro _ M1 ⟨rfl, hC1, l1⟩
  exact hk M1 ⟨hJ.1, hC1, (l1 0 (Or.inl (by omega))).trans hJ.2.2⟩
theorem ya_plan {x : Int} (hd : 101 ≤ d) (hc : zcats st ≤ 8) (hI : yI a F0 M) (hk : ∀ M1, yI a F0 M1 → zW (zSH Ln) d mi es L (zI (zPlA a.S a.P a.mv a.tg a.lt a.kd a.lf a.rt a.gp x) :: st) M1 Q) : zW (zSH Ln) d mi ((.invokevirtual o, 98, b9) :: es) L (zI x :: zR 2 :: st) M Q := by
  obtain ⟨vn, hJ⟩ := hI
  exact yk_plan hd hc hJ fun M1 h => hk M1 ⟨_, h⟩
theorem yk_answer {x y : Int} (hd : 101 ≤ d) (hc : zcats st ≤ 8) (hJ : yJ a vn F0 M) (hk : ∀ M1, yJ a (vn + 100) F0 M1 → zW (zSH Ln) d mi es L (zI (zAnA a.S a.P a.mv a.tg a.lt a.kd a.lf a.rt a.gp x y) :: st) M1 Q) : zW (zSH Ln) d mi ((.invokevirtual o, 99, b9) :: es) L (zI y :: zI x :: zR 2 :: st) M Q := by
  refine w_callv (k := 2) (ps := [zI x, zI y]) (st' := st) (by omega) rfl rfl (by omega) (by exact sh_2 Ln) hc (Nat.le_of_ble_eq_true rfl) (zW_d (zC_answer hJ.1 hJ.2.1) (by omega)) ?_
  rintro _ M1 ⟨rfl, hC1, l1⟩
  exact hk M1 ⟨hJ.1, hC1, (l1 0 (Or.inl (by omega))).trans hJ.2.2⟩
theorem ya_answer {x y : Int} (hd : 101 ≤ d) (hc : zcats st ≤ 8) (hI : yI a F0 M) (hk : ∀ M1, yI a F0 M1 → zW (zSH Ln) d mi es L (zI (zAnA a.S a.P a.mv a.tg a.lt a.kd a.lf a.rt a.gp x y) :: st) M1 Q) : zW (zSH Ln) d mi ((.invokevirtual o, 99, b9) :: es) L (zI y :: zI x :: zR 2 :: st) M Q := by
  obtain ⟨vn, hJ⟩ := hI
  exact yk_answer hd hc hJ fun M1 h => hk M1 ⟨_, h⟩
theorem yk_toll {x : Int} (hd : 101 ≤ d) (hc : zcats st ≤ 8) (hJ : yJ a vn F0 M) (hk : ∀ M1, yJ a (vn + 100) F0 M1 → zW (zSH Ln) d mi es L (zI (zTlA a.S a.P a.mv a.tg a.pr a.lt a.kd a.lf a.rt a.gp x) :: st) M1 Q) : zW (zSH Ln) d mi ((.invokevirtual o, 100, b9) :: es) L (zI x :: zR 2 :: st) M Q := by
  refine w_callv (k := 2) (ps := [zI x]) (st' := st) (by omega) rfl rfl (by omega) (by exact sh_2 Ln) hc (Nat.le_of_ble_eq_true rfl) (zW_d (zC_toll hJ.1 hJ.2.1) (by omega)) ?_
  rintro _ M1 ⟨rfl, hC1, l1⟩
  exact hk M1 ⟨hJ.1, hC1, (l1 0 (Or.inl (by omega))).trans hJ.2.2⟩
theorem ya_toll {x : Int} (hd : 101 ≤ d) (hc : zcats st ≤ 8) (hI : yI a F0 M) (hk : ∀ M1, yI a F0 M1 → zW (zSH Ln) d mi es L (zI (zTlA a.S a.P a.mv a.tg a.pr a.lt a.kd a.lf a.rt a.gp x) :: st) M1 Q) : zW (zSH Ln) d mi ((.invokevirtual o, 100, b9) :: es) L (zI x :: zR 2 :: st) M Q := by
  obtain ⟨vn, hJ⟩ := hI
  exact yk_toll hd hc hJ fun M1 h => hk M1 ⟨_, h⟩
theorem yk_walk {x y l i c : Int} (hd : 101 ≤ d) (hc : zcats st ≤ 8) (hJ : yJ a vn F0 M) (hk : ∀ M1, yJ (zU_walk a x y l i c) (vn + 100) F0 M1 → zW (zSH Ln) d mi es L (zI (zWlA a.S a.P a.mv a.tg a.lt a.kd a.lf a.rt a.gp a.ln a.sz a.it x y l i c) :: st) M1 Q) : zW (zSH Ln) d mi ((.invokevirtual o, 101, b9) :: es) L (zI c :: zI i :: zI l :: zI y :: zI x :: zR 2 :: st) M Q := by
  refine w_callv (k := 2) (ps := [zI x, zI y, zI l, zI i, zI c]) (st' := st) (by omega) rfl rfl (by omega) (by exact sh_2 Ln) hc (Nat.le_of_ble_eq_true rfl) (zW_d (zC_walk hJ.1 hJ.2.1) (by omega)) ?_
  rintro _ M1 ⟨rfl, hC1, l1⟩
  exact hk M1 ⟨zP_walk hJ.1, hC1, (l1 0 (Or.inl (by omega))).trans hJ.2.2⟩
theorem ya_walk {x y l i c : Int} (hd : 101 ≤ d) (hc : zcats st ≤ 8) (hI : yI a F0 M) (hk : ∀ M1, yI (zU_walk a x y l i c) F0 M1 → zW (zSH Ln) d mi es L (zI (zWlA a.S a.P a.mv a.tg a.lt a.kd a.lf a.rt a.gp a.ln a.sz a.it x y l i c) :: st) M1 Q) : zW (zSH Ln) d mi ((.invokevirtual o, 101, b9) :: es) L (zI c :: zI i :: zI l :: zI y :: zI x :: zR 2 :: st) M Q := by
  obtain ⟨vn, hJ⟩ := hI
  exact yk_walk hd hc hJ fun M1 h => hk M1 ⟨_, h⟩
theorem yk_walked {x : Int} (hd : 101 ≤ d) (hc : zcats st ≤ 8) (hJ : yJ a vn F0 M) (hk : ∀ M1, yJ a (vn + 100) F0 M1 → zW (zSH Ln) d mi es L (zI (if 0 ≤ x ∧ x < a.tn then (a.tr x.toNat : Int) else -1) :: st) M1 Q) : zW (zSH Ln) d mi ((.invokevirtual o, 102, b9) :: es) L (zI x :: zR 2 :: st) M Q := by
  refine w_callv (k := 2) (ps := [zI x]) (st' := st) (by omega) rfl rfl (by omega) (by exact sh_2 Ln) hc (Nat.le_of_ble_eq_true rfl) (zW_d (zC_walked hJ.1 hJ.2.1) (by omega)) ?_
  rintro _ M1 ⟨rfl, hC1, l1⟩
  exact hk M1 ⟨hJ.1, hC1, (l1 0 (Or.inl (by omega))).trans hJ.2.2⟩
theorem ya_walked {x : Int} (hd : 101 ≤ d) (hc : zcats st ≤ 8) (hI : yI a F0 M) (hk : ∀ M1, yI a F0 M1 → zW (zSH Ln) d mi es L (zI (if 0 ≤ x ∧ x < a.tn then (a.tr x.toNat : Int) else -1) :: st) M1 Q) : zW (zSH Ln) d mi ((.invokevirtual o, 102, b9) :: es) L (zI x :: zR 2 :: st) M Q := by
  obtain ⟨vn, hJ⟩ := hI
  exact yk_walked hd hc hJ fun M1 h => hk M1 ⟨_, h⟩
theorem yk_sheet {x y n : Int} (hd : 101 ≤ d) (hc : zcats st ≤ 8) (hv : vn ≤ 100000) (hJ : yJ a vn F0 M) (hk : ∀ M1, yJ (zU_sheet a x y n) (vn + 100) F0 M1 → zW (zSH Ln) d mi es L (zI (zShtA x y n) :: st) M1 Q) : zW (zSH Ln) d mi ((.invokevirtual o, 103, b9) :: es) L (zI n :: zI y :: zI x :: zR 2 :: st) M Q := by
  refine w_callv (k := 2) (ps := [zI x, zI y, zI n]) (st' := st) (by omega) rfl rfl (by omega) (by exact sh_2 Ln) hc (Nat.le_of_ble_eq_true rfl) (zW_d (zC_sheet hJ.1 hJ.2.1 hv) (by omega)) ?_
  rintro _ M1 ⟨rfl, hC1, l1⟩
  exact hk M1 ⟨zP_sheet hJ.1, hC1, (l1 0 (Or.inl (by omega))).trans hJ.2.2⟩
theorem yk_item {x y i w : Int} (hd : 101 ≤ d) (hc : zcats st ≤ 8) (hv : vn ≤ 100000) (hw : w < 2147483648) (hJ : yJ a vn F0 M) (hk : ∀ M1, yJ (zU_item a x y i w) (vn + 100) F0 M1 → zW (zSH Ln) d mi es L (zI (zItA a.ln a.sz x y i) :: st) M1 Q) : zW (zSH Ln) d mi ((.invokevirtual o, 104, b9) :: es) L (zI w :: zI i :: zI y :: zI x :: zR 2 :: st) M Q := by
  refine w_callv (k := 2) (ps := [zI x, zI y, zI i, zI w]) (st' := st) (by omega) rfl rfl (by omega) (by exact sh_2 Ln) hc (Nat.le_of_ble_eq_true rfl) (zW_d (zC_item hJ.1 hJ.2.1 hv) (by omega)) ?_
  rintro _ M1 ⟨rfl, hC1, l1⟩
  exact hk M1 ⟨zP_item hJ.1 hw, hC1, (l1 0 (Or.inl (by omega))).trans hJ.2.2⟩
end YK
