/-! more rules: loops, returns, fields that are written, rows in memory -/
/-- a cell as a whole -/
def zst (M : Nat → Int → Int) (k : Nat) (F : Int → Int) : Nat → Int → Int := fun k' => if k' = k then F else M k'
def zf (F : Int → Int) (i v : Int) : Int → Int := fun j => if j = i then v else F j
theorem zst_s (M : Nat → Int → Int) (k : Nat) (F : Int → Int) : zst M k F k = F := by simp [zst]
theorem zst_n {M : Nat → Int → Int} {k k' : Nat} {F : Int → Int} (h : k' ≠ k) : zst M k F k' = M k' := by simp [zst, h]
theorem zf_s (F : Int → Int) (i v : Int) : zf F i v i = v := by simp [zf]
theorem zf_n {F : Int → Int} {i v j : Int} (h : j ≠ i) : zf F i v j = F j := by simp [zf, h]
theorem zup_s (M : Nat → Int → Int) (k : Nat) (i v : Int) : zup M k i v k i = v := by simp [zup]
theorem zup_n {M : Nat → Int → Int} {k k' : Nat} {i v : Int} (h : k' ≠ k) : zup M k i v k' = M k' := by funext x; simp [zup, h]
theorem zup_d {M : Nat → Int → Int} {k : Nat} {i j v : Int} (h : j ≠ i) : zup M k i v k j = M k j := by simp [zup, h]
theorem zup_st (M : Nat → Int → Int) (k : Nat) (i v : Int) : zup M k i v = zst M k (zf (M k) i v) := by
  funext k' x
  by_cases h : k' = k
  · subst h; simp [zup, zst, zf]
  · simp [zup, zst, h]
theorem zup_zs (M : Nat → Int → Int) (k : Nat) (F : Int → Int) (i v : Int) : zup (zst M k F) k i v = zst M k (zf F i v) := by
  funext k' x
  by_cases h : k' = k
  · subst h; simp [zup, zst, zf]
  · simp [zup, zst, h]
theorem zup_zn {M : Nat → Int → Int} {k k' : Nat} {F : Int → Int} {i v : Int} (h : k ≠ k') : zup (zst M k' F) k i v = zst (zup M k i v) k' F := by
  funext a x
  by_cases h2 : a = k'
  · subst h2; simp [zup, zst, Ne.symm h]
  · simp [zup, zst, h2]
theorem zst_id (M : Nat → Int → Int) (k : Nat) : zst M k (M k) = M := by
  funext k'
  by_cases h : k' = k
  · subst h; simp [zst]
  · simp [zst, h]
/-- but for some cells the same -/
def zKp (l : List Nat) (M M' : Nat → Int → Int) : Prop := ∀ k, k ∉ l → M' k = M k
theorem zKp_rf (l : List Nat) (M : Nat → Int → Int) : zKp l M M := fun _ _ => rfl
theorem zKp_tr {l : List Nat} {M M1 M2 : Nat → Int → Int} (h1 : zKp l M M1) (h2 : zKp l M1 M2) : zKp l M M2 := fun k hk => (h2 k hk).trans (h1 k hk)
theorem zKp_up {l : List Nat} {M M1 : Nat → Int → Int} {k : Nat} {i v : Int} (hk : k ∈ l) (h1 : zKp l M M1) : zKp l M (zup M1 k i v) := fun k' hk' => by
  rw [zup_n (fun e => hk' (by rw [e]; exact hk))]; exact h1 k' hk'
theorem zKp_st {l : List Nat} {M M1 : Nat → Int → Int} {k : Nat} {F : Int → Int} (hk : k ∈ l) (h1 : zKp l M M1) : zKp l M (zst M1 k F) := fun k' hk' => by
  rw [zst_n (fun e => hk' (by rw [e]; exact hk))]; exact h1 k' hk'
theorem zKp_mo {l l' : List Nat} {M M' : Nat → Int → Int} (h : zKp l M M') (hl : ∀ k ∈ l, k ∈ l') : zKp l' M M' := fun k hk => h k fun e => hk (hl k e)
theorem zif01b (b : Bool) : ((if b = true then (1 : Int) else 0) = 1) = (b = true) := by cases b <;> simp
section ZX
variable {S : List zSh} {d mi a b : Nat} {es : List zEnt} {L st : List zMV} {M : Nat → Int → Int} {Q : Option zMV → (Nat → Int → Int) → Prop} {x : Int}
theorem w_nret (h : zmR mi = some .int) : zW S d mi ((.ireturn, a, b) :: es) L [zI x] M Q = Q (some (zI x)) M := w_iret (y_int _ _ h)
theorem w_bret (h : zmR mi = some .boolean) (hx : x = 0 ∨ x = 1) : zW S d mi ((.ireturn, a, b) :: es) L [zI x] M Q = Q (some (zI x)) M := w_iret (y_bool _ _ h hx)
theorem w_vret (h : zmR mi = none) : zW S d mi ((.return_, a, b) :: es) L [] M Q = Q none M := w_ret (y_void _ h)
/-- p from a up to N -/
theorem zfor {a N b : Nat} (I : Nat → List zMV → (Nat → Int → Int) → Prop) {L0 : List zMV} {M0 : Nat → Int → Int} (ha : a ≤ N) (h0 : I a L0 M0)
    (step : ∀ p L M, a ≤ p → p < N → I p L M → (∀ L' M', I (p + 1) L' M' → zW S d mi (zblk mi b) L' [] M' Q) → zW S d mi (zblk mi b) L [] M Q)
    (exit : ∀ L M, I N L M → zW S d mi (zblk mi b) L [] M Q) : zW S d mi (zblk mi b) L0 [] M0 Q := by
  have : ∀ (k p : Nat) (L : List zMV) (M : Nat → Int → Int), p + k = N → a ≤ p → I p L M → zW S d mi (zblk mi b) L [] M Q := by
    intro k
    induction k with
    | zero => intro p L M hp _ hI; have : p = N := by omega
              subst this; exact exit L M hI
    | succ k ih => intro p L M hp hap hI; exact step p L M hap (by omega) hI fun L' M' h => ih (p + 1) L' M' (by omega) (by omega) h
  exact this (N - a) a L0 M0 (by omega) (Nat.le_refl _) h0
/-- p left, from N down to 0 -/
theorem zford {N b : Nat} (I : Nat → List zMV → (Nat → Int → Int) → Prop) {L0 : List zMV} {M0 : Nat → Int → Int} (h0 : I N L0 M0)
    (step : ∀ p L M, p < N → I (p + 1) L M → (∀ L' M', I p L' M' → zW S d mi (zblk mi b) L' [] M' Q) → zW S d mi (zblk mi b) L [] M Q)
    (exit : ∀ L M, I 0 L M → zW S d mi (zblk mi b) L [] M Q) : zW S d mi (zblk mi b) L0 [] M0 Q := by
  have : ∀ (p : Nat) (L : List zMV) (M : Nat → Int → Int), p ≤ N → I p L M → zW S d mi (zblk mi b) L [] M Q := by
    intro p
    induction p with
    | zero => intro L M _ hI; exact exit L M hI
    | succ p ih => intro L M hp hI; exact step p L M (by omega) hI fun L' M' h => ih L' M' (by omega) h
  exact this N L0 M0 (Nat.le_refl _) h0
end ZX
section ZY
variable {Ln d mi o b9 : Nat} {es : List zEnt} {L st : List zMV} {M : Nat → Int → Int} {Q : Option zMV → (Nat → Int → Int) → Prop} {i v x : Int}
theorem xp_3_0 : zW (zSH Ln) d mi ((.putfield o, 5, 0) :: es) L (zI x :: zR 3 :: st) M Q = zW (zSH Ln) d mi es L st (zup M 3 0 x) Q := x_putf (pf_3_0 Ln M x)
theorem xp_3_1 : zW (zSH Ln) d mi ((.putfield o, 5, 1) :: es) L (zI x :: zR 3 :: st) M Q = zW (zSH Ln) d mi es L st (zup M 3 1 x) Q := x_putf (pf_3_1 Ln M x)
theorem xp_3_2 : zW (zSH Ln) d mi ((.putfield o, 5, 2) :: es) L (zI x :: zR 3 :: st) M Q = zW (zSH Ln) d mi es L st (zup M 3 2 x) Q := x_putf (pf_3_2 Ln M x)
theorem xp_10_0 : zW (zSH Ln) d mi ((.putfield o, 1, 0) :: es) L (zI x :: zR 10 :: st) M Q = zW (zSH Ln) d mi es L st (zup M 10 0 x) Q := x_putf (pf_10_0 Ln M x)
theorem xp_10_1 : zW (zSH Ln) d mi ((.putfield o, 1, 1) :: es) L (zI x :: zR 10 :: st) M Q = zW (zSH Ln) d mi es L st (zup M 10 1 x) Q := x_putf (pf_10_1 Ln M x)
theorem xp_15_4 : zW (zSH Ln) d mi ((.putfield o, 8, 4) :: es) L (zI x :: zR 15 :: st) M Q = zW (zSH Ln) d mi es L st (zup M 15 4 x) Q := x_putf (pf_15_4 Ln M x)
theorem xp_15_5 : zW (zSH Ln) d mi ((.putfield o, 8, 5) :: es) L (zI x :: zR 15 :: st) M Q = zW (zSH Ln) d mi es L st (zup M 15 5 x) Q := x_putf (pf_15_5 Ln M x)
theorem xp_19_5 : zW (zSH Ln) d mi ((.putfield o, 3, 5) :: es) L (zI x :: zR 19 :: st) M Q = zW (zSH Ln) d mi es L st (zup M 19 5 x) Q := x_putf (pf_19_5 Ln M x)
theorem xp_19_6 : zW (zSH Ln) d mi ((.putfield o, 3, 6) :: es) L (zI x :: zR 19 :: st) M Q = zW (zSH Ln) d mi es L st (zup M 19 6 x) Q := x_putf (pf_19_6 Ln M x)
theorem xp_22_2 : zW (zSH Ln) d mi ((.putfield o, 9, 2) :: es) L (zI x :: zR 22 :: st) M Q = zW (zSH Ln) d mi es L st (zup M 22 2 x) Q := x_putf (pf_22_2 Ln M x)
theorem xp_22_3 : zW (zSH Ln) d mi ((.putfield o, 9, 3) :: es) L (zI x :: zR 22 :: st) M Q = zW (zSH Ln) d mi es L st (zup M 22 3 x) Q := x_putf (pf_22_3 Ln M x)
theorem xp_22_4 : zW (zSH Ln) d mi ((.putfield o, 9, 4) :: es) L (zI x :: zR 22 :: st) M Q = zW (zSH Ln) d mi es L st (zup M 22 4 x) Q := x_putf (pf_22_4 Ln M x)
theorem xp_22_5 : zW (zSH Ln) d mi ((.putfield o, 9, 5) :: es) L (zI x :: zR 22 :: st) M Q = zW (zSH Ln) d mi es L st (zup M 22 5 x) Q := x_putf (pf_22_5 Ln M x)
theorem xp_24_0 : zW (zSH Ln) d mi ((.putfield o, 1, 0) :: es) L (zI x :: zR 24 :: st) M Q = zW (zSH Ln) d mi es L st (zup M 24 0 x) Q := x_putf (pf_24_0 Ln M x)
theorem xp_24_1 : zW (zSH Ln) d mi ((.putfield o, 1, 1) :: es) L (zI x :: zR 24 :: st) M Q = zW (zSH Ln) d mi es L st (zup M 24 1 x) Q := x_putf (pf_24_1 Ln M x)
theorem xp_29_6 : zW (zSH Ln) d mi ((.putfield o, 6, 6) :: es) L (zI x :: zR 29 :: st) M Q = zW (zSH Ln) d mi es L st (zup M 29 6 x) Q := x_putf (pf_29_6 Ln M x)
theorem xp_36_1 : zW (zSH Ln) d mi ((.putfield o, 4, 1) :: es) L (zI x :: zR 36 :: st) M Q = zW (zSH Ln) d mi es L st (zup M 36 1 x) Q := x_putf (pf_36_1 Ln M x)
theorem sw_4 (hd : 2 ≤ d) (hc : zcats st ≤ 8) (h0 : 0 ≤ i) (h1 : i < 48) : zW (zSH Ln) d mi ((.invokestatic o, 107, b9) :: es) L (zI v :: zI i :: zR 4 :: st) M Q = zW (zSH Ln) d mi es L (zI (M 4 i) :: st) (zup M 4 i v) Q := by
  refine c_stat (vs := [zR 4, zI i, zI v]) (by omega) rfl rfl hc (Nat.le_of_ble_eq_true rfl) (r0 := some (zI (M 4 i))) ?_
  rw [zF_en k_FN_swap_0 (L := [zR 4, zI i, zI v, zU]) rfl]
  simp (disch := first | omega | exact Nat.le_of_ble_eq_true rfl) only [x_iload, x_lload, x_aload, x_istore, x_astore, x_iinc, x_getf, w_iconst, w_sipush, w_iadd, w_isub, w_imul, w_iand, w_ior, w_ixor, w_ishl, w_ishr, w_iushr, w_ladd, w_lsub, w_lmul, w_land, w_lor, w_lcmp, w_lshl, w_lshr, w_i2l, w_i2b, w_l2i, w_dupI, w_dupR, w_dup2, w_pop, w_if, w_icmp, w_goto, w_fall, q_eq, q_ne, q_lt, q_ge, q_gt, q_le, g_I, g_L, g_R, g_V, t_0, t_I, t_R, t_U, t_L, t_s, List.getElem?_cons_zero, List.getElem?_cons_succ, Nat.reduceAdd, at_4, pu_4, w_nret r_FN_swap, and_self]
theorem sw_6 (hd : 2 ≤ d) (hc : zcats st ≤ 8) (h0 : 0 ≤ i) (h1 : i < 144) : zW (zSH Ln) d mi ((.invokestatic o, 107, b9) :: es) L (zI v :: zI i :: zR 6 :: st) M Q = zW (zSH Ln) d mi es L (zI (M 6 i) :: st) (zup M 6 i v) Q := by
  refine c_stat (vs := [zR 6, zI i, zI v]) (by omega) rfl rfl hc (Nat.le_of_ble_eq_true rfl) (r0 := some (zI (M 6 i))) ?_
  rw [zF_en k_FN_swap_0 (L := [zR 6, zI i, zI v, zU]) rfl]
  simp (disch := first | omega | exact Nat.le_of_ble_eq_true rfl) only [x_iload, x_lload, x_aload, x_istore, x_astore, x_iinc, x_getf, w_iconst, w_sipush, w_iadd, w_isub, w_imul, w_iand, w_ior, w_ixor, w_ishl, w_ishr, w_iushr, w_ladd, w_lsub, w_lmul, w_land, w_lor, w_lcmp, w_lshl, w_lshr, w_i2l, w_i2b, w_l2i, w_dupI, w_dupR, w_dup2, w_pop, w_if, w_icmp, w_goto, w_fall, q_eq, q_ne, q_lt, q_ge, q_gt, q_le, g_I, g_L, g_R, g_V, t_0, t_I, t_R, t_U, t_L, t_s, List.getElem?_cons_zero, List.getElem?_cons_succ, Nat.reduceAdd, at_6, pu_6, w_nret r_FN_swap, and_self]
theorem sw_7 (hd : 2 ≤ d) (hc : zcats st ≤ 8) (h0 : 0 ≤ i) (h1 : i < 972) : zW (zSH Ln) d mi ((.invokestatic o, 107, b9) :: es) L (zI v :: zI i :: zR 7 :: st) M Q = zW (zSH Ln) d mi es L (zI (M 7 i) :: st) (zup M 7 i v) Q := by
  refine c_stat (vs := [zR 7, zI i, zI v]) (by omega) rfl rfl hc (Nat.le_of_ble_eq_true rfl) (r0 := some (zI (M 7 i))) ?_
  rw [zF_en k_FN_swap_0 (L := [zR 7, zI i, zI v, zU]) rfl]
  simp (disch := first | omega | exact Nat.le_of_ble_eq_true rfl) only [x_iload, x_lload, x_aload, x_istore, x_astore, x_iinc, x_getf, w_iconst, w_sipush, w_iadd, w_isub, w_imul, w_iand, w_ior, w_ixor, w_ishl, w_ishr, w_iushr, w_ladd, w_lsub, w_lmul, w_land, w_lor, w_lcmp, w_lshl, w_lshr, w_i2l, w_i2b, w_l2i, w_dupI, w_dupR, w_dup2, w_pop, w_if, w_icmp, w_goto, w_fall, q_eq, q_ne, q_lt, q_ge, q_gt, q_le, g_I, g_L, g_R, g_V, t_0, t_I, t_R, t_U, t_L, t_s, List.getElem?_cons_zero, List.getElem?_cons_succ, Nat.reduceAdd, at_7, pu_7, w_nret r_FN_swap, and_self]
theorem sw_8 (hd : 2 ≤ d) (hc : zcats st ≤ 8) (h0 : 0 ≤ i) (h1 : i < 12) : zW (zSH Ln) d mi ((.invokestatic o, 107, b9) :: es) L (zI v :: zI i :: zR 8 :: st) M Q = zW (zSH Ln) d mi es L (zI (M 8 i) :: st) (zup M 8 i v) Q := by
  refine c_stat (vs := [zR 8, zI i, zI v]) (by omega) rfl rfl hc (Nat.le_of_ble_eq_true rfl) (r0 := some (zI (M 8 i))) ?_
  rw [zF_en k_FN_swap_0 (L := [zR 8, zI i, zI v, zU]) rfl]
  simp (disch := first | omega | exact Nat.le_of_ble_eq_true rfl) only [x_iload, x_lload, x_aload, x_istore, x_astore, x_iinc, x_getf, w_iconst, w_sipush, w_iadd, w_isub, w_imul, w_iand, w_ior, w_ixor, w_ishl, w_ishr, w_iushr, w_ladd, w_lsub, w_lmul, w_land, w_lor, w_lcmp, w_lshl, w_lshr, w_i2l, w_i2b, w_l2i, w_dupI, w_dupR, w_dup2, w_pop, w_if, w_icmp, w_goto, w_fall, q_eq, q_ne, q_lt, q_ge, q_gt, q_le, g_I, g_L, g_R, g_V, t_0, t_I, t_R, t_U, t_L, t_s, List.getElem?_cons_zero, List.getElem?_cons_succ, Nat.reduceAdd, at_8, pu_8, w_nret r_FN_swap, and_self]
end ZY
