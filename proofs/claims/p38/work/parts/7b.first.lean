/-! the law's first lines -/
def zFst (M2 : Nat → Int → Int) : Prop := ((M2 3 0 = 4 ∧ M2 3 1 = 2 ∧ M2 3 2 = 1) ∧ (∀ x : Int, 0 ≤ x → x < 48 → M2 4 x = 1 ∧ M2 5 x = 0) ∧ (∀ x : Int, 0 ≤ x → x < 144 → M2 6 x = 0) ∧ (∀ t j : Nat, t < 12 → j < 81 → M2 7 ((t : Int) * 81 + j) = t) ∧ (∀ x : Int, 0 ≤ x → x < 12 → M2 8 x = 0) ∧ ∀ q t : Nat, q < 4 → t < 12 → M2 9 ((q : Int) * 12 + t) = t) ∧ (M2 10 0 = 1 ∧ M2 10 1 = 1 ∧ M2 11 0 = 0) ∧ (M2 15 5 = -1 ∧ M2 15 4 = -1) ∧ (M2 19 5 = -1 ∧ M2 19 6 = -1) ∧ (M2 22 2 = 0) ∧ (M2 29 6 = 0) ∧ (M2 36 1 = -1) ∧ (∀ i : Int, M2 42 i = 0) ∧ ((∀ k : Nat, k < 4 → M2 45 (k : Int) = -1) ∧ (∀ i : Int, M2 46 i = 0) ∧ ∀ i : Int, M2 47 i = 0)
section LS
variable {Ln : Nat}
set_option maxRecDepth 100000 in
theorem LW_start {d : Nat} {M : Nat → Int → Int} {Q : Option zMV → (Nat → Int → Int) → Prop} (hd : 9 ≤ d) (h : ∀ M', M' 0 = M 0 → zFst M' → zW (zSH Ln) d 118 ((zblk 118 0).drop 4) [zR 0, zR 2, zU, zU, zU, zU, zU, zU, zU, zU, zU, zU, zU, zU, zU, zU] [] M' Q) : zV d 118 (zblk 118 0) [zR 0, zU, zU, zU, zU, zU, zU, zU, zU, zU, zU, zU, zU, zU, zU, zU] [] ([(0, Ln, []), (0, Ln, [])], M) (fun r w2 => ∃ M', w2 = (zSH Ln, M') ∧ Q r M') := by
  refine zV_st 2 (L' := [zR 0, zU, zU, zU, zU, zU, zU, zU, zU, zU, zU, zU, zU, zU, zU, zU]) (st' := [zR 2, zR 2]) (w' := ([(0, Ln, []), (0, Ln, []), (13, 9, [none, none, none, none, none, none, none, none, none])], zzero M 2)) (es' := (zblk 118 0).drop 2) rfl ?_
  refine zV_call _ (ps := []) (k := 2) (st' := [zR 2]) (by omega) rfl rfl rfl (Nat.le_of_ble_eq_true rfl) (Nat.le_of_ble_eq_true rfl) (FN_init_V2 (M := M) (by omega)) ?_
  rintro _ _ ⟨rfl, M1, rfl, k1, f1⟩
  refine zV_st 1 (L' := [zR 0, zR 2, zU, zU, zU, zU, zU, zU, zU, zU, zU, zU, zU, zU, zU, zU]) (st' := []) (w' := (zSH Ln, M1)) (es' := (zblk 118 0).drop 4) rfl ?_
  exact zV_ofx (h M1 (k1 0 (by decide)) f1)
end LS
theorem zC_0 {M : Nat → Int → Int} (h : zFst M) : zJC zA0 1 M := by
  obtain ⟨⟨n0, n1, n2, n3, n4, n5⟩, ⟨f0, f1, f2⟩, ⟨t0, t1⟩, ⟨l0, l1⟩, tp, pl, lo, go, ⟨s0, s1, s2⟩⟩ := h
  obtain ⟨m0, m1, m2⟩ := n0
  have e5 : M 3 2 = 1 := m2
  refine zJC_mk (Nz := ⟨m0, m1, fun s p a b => (n1 _ (by omega) (by omega)).1, n3⟩) (Lz := fun s a => n4 _ (by omega) (by omega)) (Hz := fun p s a b => ?_) (Qz := fun s p q a b c => n2 _ (by omega) (by omega)) (Kz := fun s p a b => (n1 _ (by omega) (by omega)).2) (loz := lo) (Fz := ⟨f0, fun k hk => ?_⟩) (Tz := ⟨tp, fun j hj => absurd hj (Nat.not_lt_zero _)⟩) (Shz := ⟨fun k hk => ⟨s0 k hk, s1 _⟩, fun x a b => s2 x⟩) (Gz := fun p hp => (go _).trans zset_none.symm) (Wz := ⟨pl, fun k hk => absurd hk (Nat.not_lt_zero _)⟩) (tabz := fun z => by omega) (lawz := fun z => by omega) (v1z := by omega) (v2z := by omega) (v3z := by omega) (v4z := by omega) (v5z := by omega) (hlz := fun i hi => rfl)
  · show M 9 _ = ((if s < 12 then s else 0 : Nat) : Int)
    rw [if_pos b]
    exact n5 p s a b
  · obtain rfl : k = 0 := Nat.lt_one_iff.mp hk
    exact ⟨f2, fun z => absurd z (by decide), fun z => absurd z (by decide), fun z => absurd z (by decide)⟩
