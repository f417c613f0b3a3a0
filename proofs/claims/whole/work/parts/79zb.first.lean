/-! the law's first lines -/
def zFst (M2 : Nat → Int → Int) : Prop := ((M2 3 0 = 4 ∧ M2 3 1 = 2 ∧ M2 3 2 = 1) ∧ (∀ x : Int, 0 ≤ x → x < 48 → M2 4 x = 1 ∧ M2 5 x = 0) ∧ (∀ x : Int, 0 ≤ x → x < 144 → M2 6 x = 0) ∧ (∀ t j : Nat, t < 12 → j < 81 → M2 7 ((t : Int) * 81 + j) = t) ∧ (∀ x : Int, 0 ≤ x → x < 12 → M2 8 x = 0) ∧ ∀ q t : Nat, q < 4 → t < 12 → M2 9 ((q : Int) * 12 + t) = t) ∧ (M2 10 0 = 1 ∧ M2 10 1 = 1 ∧ M2 11 0 = 0) ∧ (M2 15 5 = -1 ∧ M2 15 4 = -1) ∧ (M2 19 5 = -1 ∧ M2 19 6 = -1) ∧ (M2 22 2 = 0) ∧ (M2 29 6 = 0) ∧ (M2 36 1 = -1) ∧ (∀ i : Int, M2 42 i = 0) ∧ ((∀ k : Nat, k < 4 → M2 45 (k : Int) = -1) ∧ (∀ i : Int, M2 46 i = 0) ∧ ∀ i : Int, M2 47 i = 0)
def zFsr (M2 : Nat → Int → Int) : Prop := zNwR 4 2 M2 ∧ (M2 48 9 = -1 ∧ M2 48 10 = 1 ∧ M2 48 31 = 0 ∧ M2 48 24 = 0) ∧ (∀ x : Nat, x < 4 → M2 55 (x : Int) = 0) ∧ M2 56 0 = 0 ∧ (∀ k : Nat, k < 4 → M2 72 (k : Int) = -1) ∧ ∀ i : Int, M2 57 i = 0 ∧ M2 58 i = 0 ∧ M2 61 i = 0 ∧ M2 62 i = 0 ∧ M2 73 i = 0 ∧ M2 74 i = 0
section LS
variable {Ln : Nat}
theorem zFst_k {M M' : Nat → Int → Int} (h : zFst M) (hk : ∀ k, k < 48 → M' k = M k) : zFst M' := by
  unfold zFst at h ⊢
  rw [hk 3 (by decide), hk 4 (by decide), hk 5 (by decide), hk 6 (by decide), hk 7 (by decide), hk 8 (by decide), hk 9 (by decide), hk 10 (by decide), hk 11 (by decide), hk 15 (by decide), hk 19 (by decide), hk 22 (by decide), hk 29 (by decide), hk 36 (by decide), hk 42 (by decide), hk 45 (by decide), hk 46 (by decide), hk 47 (by decide)]
  exact h
set_option maxRecDepth 100000 in
theorem LW_start {d : Nat} {M : Nat → Int → Int} {Q : Option zMV → (Nat → Int → Int) → Prop} (hd : 9 ≤ d) (h : ∀ M', M' 0 = M 0 → M' 1 = M 1 → zFst M' → zFsr M' → zW (zSH Ln) d 264 (zblk 264 1) [zR 0, zR 2, zR 48, zI 0] [] M' Q) : zV d 264 (zblk 264 0) [zR 0, zU, zU, zU] [] ([(0, Ln, []), (0, 16, [])], M) (fun r w2 => ∃ M', w2 = (zSH Ln, M') ∧ Q r M') := by
  rw [show zblk 264 0 = _ from k_LW_law_0]
  refine zV_st 2 (L' := [zR 0, zU, zU, zU]) (st' := [zR 2, zR 2]) (w' := ([(0, Ln, []), (0, 16, []), (13, 9, [none, none, none, none, none, none, none, none, none])], zzero M 2)) rfl ?_
  refine zV_call _ (ps := []) (k := 2) (st' := [zR 2]) (by omega) rfl rfl rfl (Nat.le_of_ble_eq_true rfl) (Nat.le_of_ble_eq_true rfl) (FN_init_V2 (M := M) (by omega)) ?_
  rintro _ _ ⟨rfl, M1, rfl, k1, f1⟩
  refine zV_st 3 (L' := [zR 0, zR 2, zU, zU]) (st' := [zR 48, zR 48]) (w' := ([(0, Ln, []), (0, 16, []), (13, 9, [some 3, some 10, some 22, some 19, some 29, some 32, some 36, some 41, some 44]), (8, 9, [none, none, none, some 4, some 5, some 6, some 7, some 8, some 9]), (0, 48, []), (0, 48, []), (0, 144, []), (0, 972, []), (0, 12, []), (0, 48, []), (4, 6, [none, none, some 11, some 12, some 13, some 14]), (0, 24, []), (0, 24, []), (0, 24, []), (0, 24, []), (11, 6, [some 3, some 16, some 17, some 18, none, none]), (0, 972, []), (0, 12, []), (0, 81, []), (6, 7, [some 3, some 10, some 15, some 20, some 21, none, none]), (0, 24, []), (0, 12, []), (12, 6, [some 23, some 24, none, none, none, none]), (0, 100, []), (4, 6, [none, none, some 25, some 26, some 27, some 28]), (0, 24, []), (0, 24, []), (0, 24, []), (0, 24, []), (9, 7, [some 3, some 10, some 15, some 19, some 30, some 31, none]), (0, 12, []), (0, 41, []), (3, 9, [some 3, some 15, some 33, some 34, some 35, none, none, none, none]), (0, 48, []), (0, 48, []), (0, 12, []), (7, 8, [some 3, none, none, none, some 37, some 38, some 39, some 40]), (0, 144, []), (0, 12, []), (0, 12, []), (1, 156, []), (5, 3, [some 3, some 42, some 43]), (0, 4, []), (0, 48, []), (10, 3, [some 45, some 46, some 47]), (0, 4, []), (0, 4, []), (0, 324, []), (14, 47, [none, none, none, none, none, none, none, none, none, none, none, none, none, none, none, none, none, none, none, none, none, none, none, none, none, none, none, none, none, none, none, none, none, none, none, none, none, none, none, none, none, none, none, none, none, none, none])], zzero M1 48)) rfl ?_
  refine zV_call _ (ps := []) (k := 48) (st' := [zR 48]) (by omega) rfl rfl rfl (Nat.le_of_ble_eq_true rfl) (Nat.le_of_ble_eq_true rfl) (Md_init_V48 (M := M1) (by omega)) ?_
  rintro _ _ ⟨rfl, M2, rfl, k2, f2⟩
  refine zV_st 4 (L' := [zR 0, zR 2, zR 48, zI 0]) (st' := []) (w' := (zSH Ln, M2)) rfl ?_
  refine zV_ofx (h M2 ?_ ?_ (zFst_k f1 fun k hk => k2 k ?_) f2)
  · rw [k2 0 (by decide), k1 0 (by decide)]
  · rw [k2 1 (by decide), k1 1 (by decide)]
  · simp only [List.mem_cons, List.not_mem_nil, or_false]
    omega
end LS
