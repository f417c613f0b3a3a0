/-! more rules: loops, returns, fields that are written, rows in memory -/
/-- a cell as a whole -/
def zst (M : Nat → Int → Int) (k : Nat) (F : Int → Int) : Nat → Int → Int := fun k' => if k' = k then F else M k'
def zf (F : Int → Int) (i v : Int) : Int → Int := fun j => if j = i then v else F j
theorem zst_s (M : Nat → Int → Int) (k : Nat) (F : Int → Int) : zst M k F k = F := by simp [zst]
theorem zst_n {M : Nat → Int → Int} {k k' : Nat} {F : Int → Int} (h : k' ≠ k) : zst M k F k' = M k' := by simp [zst, h]
theorem zf_s (F : Int → Int) (i v : Int) : zf F i v i = v := by simp [zf]
theorem zf_n {F : Int → Int} {i v j : Int} (h : j ≠ i) : zf F i v j = F j := by simp [zf, h]
theorem zup_s (M : Nat → Int → Int) (k : Nat) (i v : Int) : zup M k i v k i = v := by simp [zup]
theorem zup_n {M : Nat → Int → Int} {k k' : Nat} {i v : Int} (h : k' ≠ k) : zup M k i v k' = M k' := by funext x; simp [zup, h]
theorem zup_d {M : Nat → Int → Int} {k : Nat} {i j v : Int} (h : j ≠ i) : zup M k i v k j = M k j := by simp [zup, h]
theorem zup_st (M : Nat → Int → Int) (k : Nat) (i v : Int) : zup M k i v = zst M k (zf (M k) i v) := by
  funext k' x
  by_cases h : k' = k
  · subst h; simp [zup, zst, zf]
  · simp [zup, zst, h]
theorem zup_zs (M : Nat → Int → Int) (k : Nat) (F : Int → Int) (i v : Int) : zup (zst M k F) k i v = zst M k (zf F i v) := by
  funext k' x
  by_cases h : k' = k
  · subst h; simp [zup, zst, zf]
  · simp [zup, zst, h]
theorem zup_zn {M : Nat → Int → Int} {k k' : Nat} {F : Int → Int} {i v : Int} (h : k ≠ k') : zup (zst M k' F) k i v = zst (zup M k i v) k' F := by
  funext a x
  by_cases h2 : a = k'
  · subst h2; simp [zup, zst, Ne.symm h]
  · simp [zup, zst, h2]
theorem zst_id (M : Nat → Int → Int) (k : Nat) : zst M k (M k) = M := by
  funext k'
  by_cases h : k' = k
  · subst h; simp [zst]
  · simp [zst, h]
/-- but for some cells the same -/
def zKp (l : List Nat) (M M' : Nat → Int → Int) : Prop := ∀ k, k ∉ l → M' k = M k
theorem zKp_rf (l : List Nat) (M : Nat → Int → Int) : zKp l M M := fun _ _ => rfl
theorem zKp_tr {l : List Nat} {M M1 M2 : Nat → Int → Int} (h1 : zKp l M M1) (h2 : zKp l M1 M2) : zKp l M M2 := fun k hk => (h2 k hk).trans (h1 k hk)
theorem zKp_up {l : List Nat} {M M1 : Nat → Int → Int} {k : Nat} {i v : Int} (hk : k ∈ l) (h1 : zKp l M M1) : zKp l M (zup M1 k i v) := fun k' hk' => by
  rw [zup_n (fun e => hk' (by rw [e]; exact hk))]; exact h1 k' hk'
theorem zKp_st {l : List Nat} {M M1 : Nat → Int → Int} {k : Nat} {F : Int → Int} (hk : k ∈ l) (h1 : zKp l M M1) : zKp l M (zst M1 k F) := fun k' hk' => by
  rw [zst_n (fun e => hk' (by rw [e]; exact hk))]; exact h1 k' hk'
theorem zKp_mo {l l' : List Nat} {M M' : Nat → Int → Int} (h : zKp l M M') (hl : ∀ k ∈ l, k ∈ l') : zKp l' M M' := fun k hk => h k fun e => hk (hl k e)
theorem zif01p (c : Prop) [Decidable c] : (if c then (1 : Int) else 0) = 0 ∨ (if c then (1 : Int) else 0) = 1 := by by_cases h : c <;> simp [h]
theorem zif01b (b : Bool) : ((if b = true then (1 : Int) else 0) = 1) = (b = true) := by cases b <;> simp
section ZX
variable {S : List zSh} {d mi a b : Nat} {es : List zEnt} {L st : List zMV} {M : Nat → Int → Int} {Q : Option zMV → (Nat → Int → Int) → Prop} {x : Int}
theorem w_nret (h : zmR mi = some .int) : zW S d mi ((.ireturn, a, b) :: es) L [zI x] M Q = Q (some (zI x)) M := w_iret (y_int _ _ h)
theorem w_bret (h : zmR mi = some .boolean) (hx : x = 0 ∨ x = 1) : zW S d mi ((.ireturn, a, b) :: es) L [zI x] M Q = Q (some (zI x)) M := w_iret (y_bool _ _ h hx)
theorem w_jret (h : zmR mi = some .long) : zW S d mi ((.lreturn, a, b) :: es) L [zL x] M Q = Q (some (zL x)) M := w_lret (y_long _ _ h)
theorem w_vret (h : zmR mi = none) : zW S d mi ((.return_, a, b) :: es) L [] M Q = Q none M := w_ret (y_void _ h)
theorem x_lstore2 {j : Nat} : zW S d mi ((.lstore j, a, b) :: es) L (zL x :: st) M Q = zst1 L j (zL x) fun L' => zst1 L' (j + 1) zU fun _ => j + 1 < L.length ∧ zW S d mi es (L'.set (j + 1) zU) st M Q := by
  rw [x_lstore, t2]
/-- p from a up to N -/
theorem zfor {a N b : Nat} (I : Nat → List zMV → (Nat → Int → Int) → Prop) {L0 : List zMV} {M0 : Nat → Int → Int} (ha : a ≤ N) (h0 : I a L0 M0)
    (step : ∀ p L M, a ≤ p → p < N → I p L M → (∀ L' M', I (p + 1) L' M' → zW S d mi (zblk mi b) L' [] M' Q) → zW S d mi (zblk mi b) L [] M Q)
    (exit : ∀ L M, I N L M → zW S d mi (zblk mi b) L [] M Q) : zW S d mi (zblk mi b) L0 [] M0 Q := by
  have : ∀ (k p : Nat) (L : List zMV) (M : Nat → Int → Int), p + k = N → a ≤ p → I p L M → zW S d mi (zblk mi b) L [] M Q := by
    intro k
    induction k with
    | zero => intro p L M hp _ hI; have : p = N := by omega
              subst this; exact exit L M hI
    | succ k ih => intro p L M hp hap hI; exact step p L M hap (by omega) hI fun L' M' h => ih (p + 1) L' M' (by omega) (by omega) h
  exact this (N - a) a L0 M0 (by omega) (Nat.le_refl _) h0
/-- p left, from N down to 0 -/
theorem zford {N b : Nat} (I : Nat → List zMV → (Nat → Int → Int) → Prop) {L0 : List zMV} {M0 : Nat → Int → Int} (h0 : I N L0 M0)
    (step : ∀ p L M, p < N → I (p + 1) L M → (∀ L' M', I p L' M' → zW S d mi (zblk mi b) L' [] M' Q) → zW S d mi (zblk mi b) L [] M Q)
    (exit : ∀ L M, I 0 L M → zW S d mi (zblk mi b) L [] M Q) : zW S d mi (zblk mi b) L0 [] M0 Q := by
  have : ∀ (p : Nat) (L : List zMV) (M : Nat → Int → Int), p ≤ N → I p L M → zW S d mi (zblk mi b) L [] M Q := by
    intro p
    induction p with
    | zero => intro L M _ hI; exact exit L M hI
    | succ p ih => intro L M hp hI; exact step p L M (by omega) hI fun L' M' h => ih L' M' (by omega) h
  exact this N L0 M0 (Nat.le_refl _) h0
/-- by a measure -/
theorem zwh {b : Nat} (I : Nat → List zMV → (Nat → Int → Int) → Prop)
    (step : ∀ n L M, I n L M → (∀ n' L' M', n' < n → I n' L' M' → zW S d mi (zblk mi b) L' [] M' Q) → zW S d mi (zblk mi b) L [] M Q) : ∀ n L M, I n L M → zW S d mi (zblk mi b) L [] M Q := by
  intro n
  induction n using Nat.strongRecOn with
  | _ n ih => intro L M hI; exact step n L M hI fun n' L' M' h1 h2 => ih n' h1 L' M' h2
end ZX
section ZY
variable {Ln d mi o b9 : Nat} {es : List zEnt} {L st : List zMV} {M : Nat → Int → Int} {Q : Option zMV → (Nat → Int → Int) → Prop} {i v x : Int}
theorem xp_3_0 : zW (zSH Ln) d mi ((.putfield o, 5, 0) :: es) L (zI x :: zR 3 :: st) M Q = zW (zSH Ln) d mi es L st (zup M 3 0 x) Q := x_putf (pf_3_0 Ln M x)
theorem xp_3_1 : zW (zSH Ln) d mi ((.putfield o, 5, 1) :: es) L (zI x :: zR 3 :: st) M Q = zW (zSH Ln) d mi es L st (zup M 3 1 x) Q := x_putf (pf_3_1 Ln M x)
theorem xp_3_2 : zW (zSH Ln) d mi ((.putfield o, 5, 2) :: es) L (zI x :: zR 3 :: st) M Q = zW (zSH Ln) d mi es L st (zup M 3 2 x) Q := x_putf (pf_3_2 Ln M x)
theorem xp_10_0 : zW (zSH Ln) d mi ((.putfield o, 1, 0) :: es) L (zI x :: zR 10 :: st) M Q = zW (zSH Ln) d mi es L st (zup M 10 0 x) Q := x_putf (pf_10_0 Ln M x)
theorem xp_10_1 : zW (zSH Ln) d mi ((.putfield o, 1, 1) :: es) L (zI x :: zR 10 :: st) M Q = zW (zSH Ln) d mi es L st (zup M 10 1 x) Q := x_putf (pf_10_1 Ln M x)
theorem xp_15_4 : zW (zSH Ln) d mi ((.putfield o, 8, 4) :: es) L (zI x :: zR 15 :: st) M Q = zW (zSH Ln) d mi es L st (zup M 15 4 x) Q := x_putf (pf_15_4 Ln M x)
theorem xp_15_5 : zW (zSH Ln) d mi ((.putfield o, 8, 5) :: es) L (zI x :: zR 15 :: st) M Q = zW (zSH Ln) d mi es L st (zup M 15 5 x) Q := x_putf (pf_15_5 Ln M x)
theorem xp_19_5 : zW (zSH Ln) d mi ((.putfield o, 3, 5) :: es) L (zI x :: zR 19 :: st) M Q = zW (zSH Ln) d mi es L st (zup M 19 5 x) Q := x_putf (pf_19_5 Ln M x)
theorem xp_19_6 : zW (zSH Ln) d mi ((.putfield o, 3, 6) :: es) L (zI x :: zR 19 :: st) M Q = zW (zSH Ln) d mi es L st (zup M 19 6 x) Q := x_putf (pf_19_6 Ln M x)
theorem xp_22_2 : zW (zSH Ln) d mi ((.putfield o, 9, 2) :: es) L (zI x :: zR 22 :: st) M Q = zW (zSH Ln) d mi es L st (zup M 22 2 x) Q := x_putf (pf_22_2 Ln M x)
theorem xp_22_3 : zW (zSH Ln) d mi ((.putfield o, 9, 3) :: es) L (zI x :: zR 22 :: st) M Q = zW (zSH Ln) d mi es L st (zup M 22 3 x) Q := x_putf (pf_22_3 Ln M x)
theorem xp_22_4 : zW (zSH Ln) d mi ((.putfield o, 9, 4) :: es) L (zI x :: zR 22 :: st) M Q = zW (zSH Ln) d mi es L st (zup M 22 4 x) Q := x_putf (pf_22_4 Ln M x)
theorem xp_22_5 : zW (zSH Ln) d mi ((.putfield o, 9, 5) :: es) L (zI x :: zR 22 :: st) M Q = zW (zSH Ln) d mi es L st (zup M 22 5 x) Q := x_putf (pf_22_5 Ln M x)
theorem xp_24_0 : zW (zSH Ln) d mi ((.putfield o, 1, 0) :: es) L (zI x :: zR 24 :: st) M Q = zW (zSH Ln) d mi es L st (zup M 24 0 x) Q := x_putf (pf_24_0 Ln M x)
theorem xp_24_1 : zW (zSH Ln) d mi ((.putfield o, 1, 1) :: es) L (zI x :: zR 24 :: st) M Q = zW (zSH Ln) d mi es L st (zup M 24 1 x) Q := x_putf (pf_24_1 Ln M x)
theorem xp_29_6 : zW (zSH Ln) d mi ((.putfield o, 6, 6) :: es) L (zI x :: zR 29 :: st) M Q = zW (zSH Ln) d mi es L st (zup M 29 6 x) Q := x_putf (pf_29_6 Ln M x)
theorem xp_32_5 : zW (zSH Ln) d mi ((.putfield o, 0, 5) :: es) L (zI x :: zR 32 :: st) M Q = zW (zSH Ln) d mi es L st (zup M 32 5 x) Q := x_putf (pf_32_5 Ln M x)
theorem xp_32_6 : zW (zSH Ln) d mi ((.putfield o, 0, 6) :: es) L (zI x :: zR 32 :: st) M Q = zW (zSH Ln) d mi es L st (zup M 32 6 x) Q := x_putf (pf_32_6 Ln M x)
theorem xp_32_7 : zW (zSH Ln) d mi ((.putfield o, 0, 7) :: es) L (zI x :: zR 32 :: st) M Q = zW (zSH Ln) d mi es L st (zup M 32 7 x) Q := x_putf (pf_32_7 Ln M x)
theorem xp_32_8 : zW (zSH Ln) d mi ((.putfield o, 0, 8) :: es) L (zI x :: zR 32 :: st) M Q = zW (zSH Ln) d mi es L st (zup M 32 8 x) Q := x_putf (pf_32_8 Ln M x)
theorem xp_36_1 : zW (zSH Ln) d mi ((.putfield o, 4, 1) :: es) L (zI x :: zR 36 :: st) M Q = zW (zSH Ln) d mi es L st (zup M 36 1 x) Q := x_putf (pf_36_1 Ln M x)
theorem xp_36_2 : zW (zSH Ln) d mi ((.putfield o, 4, 2) :: es) L (zL x :: zR 36 :: st) M Q = zW (zSH Ln) d mi es L st (zup M 36 2 x) Q := x_putf (pf_36_2 Ln M x)
theorem xp_36_3 : zW (zSH Ln) d mi ((.putfield o, 4, 3) :: es) L (zL x :: zR 36 :: st) M Q = zW (zSH Ln) d mi es L st (zup M 36 3 x) Q := x_putf (pf_36_3 Ln M x)
theorem xp_48_0 : zW (zSH Ln) d mi ((.putfield o, 11, 0) :: es) L (zI x :: zR 48 :: st) M Q = zW (zSH Ln) d mi es L st (zup M 48 0 x) Q := x_putf (pf_48_0 Ln M x)
theorem xp_48_1 : zW (zSH Ln) d mi ((.putfield o, 11, 1) :: es) L (zI x :: zR 48 :: st) M Q = zW (zSH Ln) d mi es L st (zup M 48 1 x) Q := x_putf (pf_48_1 Ln M x)
theorem xp_48_9 : zW (zSH Ln) d mi ((.putfield o, 11, 9) :: es) L (zI x :: zR 48 :: st) M Q = zW (zSH Ln) d mi es L st (zup M 48 9 x) Q := x_putf (pf_48_9 Ln M x)
theorem xp_48_10 : zW (zSH Ln) d mi ((.putfield o, 11, 10) :: es) L (zI x :: zR 48 :: st) M Q = zW (zSH Ln) d mi es L st (zup M 48 10 x) Q := x_putf (pf_48_10 Ln M x)
theorem xp_48_15 : zW (zSH Ln) d mi ((.putfield o, 11, 15) :: es) L (zI x :: zR 48 :: st) M Q = zW (zSH Ln) d mi es L st (zup M 48 15 x) Q := x_putf (pf_48_15 Ln M x)
theorem xp_48_22 : zW (zSH Ln) d mi ((.putfield o, 11, 22) :: es) L (zI x :: zR 48 :: st) M Q = zW (zSH Ln) d mi es L st (zup M 48 22 x) Q := x_putf (pf_48_22 Ln M x)
theorem xp_48_24 : zW (zSH Ln) d mi ((.putfield o, 11, 24) :: es) L (zI x :: zR 48 :: st) M Q = zW (zSH Ln) d mi es L st (zup M 48 24 x) Q := x_putf (pf_48_24 Ln M x)
theorem xp_48_25 : zW (zSH Ln) d mi ((.putfield o, 11, 25) :: es) L (zI x :: zR 48 :: st) M Q = zW (zSH Ln) d mi es L st (zup M 48 25 x) Q := x_putf (pf_48_25 Ln M x)
theorem xp_48_26 (hx : x = 0 ∨ x = 1) : zW (zSH Ln) d mi ((.putfield o, 11, 26) :: es) L (zI x :: zR 48 :: st) M Q = zW (zSH Ln) d mi es L st (zup M 48 26 x) Q := x_putf (pf_48_26 Ln M x hx)
theorem xp_48_31 : zW (zSH Ln) d mi ((.putfield o, 11, 31) :: es) L (zI x :: zR 48 :: st) M Q = zW (zSH Ln) d mi es L st (zup M 48 31 x) Q := x_putf (pf_48_31 Ln M x)
theorem xp_48_41 : zW (zSH Ln) d mi ((.putfield o, 11, 41) :: es) L (zI x :: zR 48 :: st) M Q = zW (zSH Ln) d mi es L st (zup M 48 41 x) Q := x_putf (pf_48_41 Ln M x)
theorem xp_48_44 : zW (zSH Ln) d mi ((.putfield o, 11, 44) :: es) L (zL x :: zR 48 :: st) M Q = zW (zSH Ln) d mi es L st (zup M 48 44 x) Q := x_putf (pf_48_44 Ln M x)
theorem xp_48_45 : zW (zSH Ln) d mi ((.putfield o, 11, 45) :: es) L (zL x :: zR 48 :: st) M Q = zW (zSH Ln) d mi es L st (zup M 48 45 x) Q := x_putf (pf_48_45 Ln M x)
theorem sw_4 (hd : 2 ≤ d) (hc : zcats st ≤ 8) (h0 : 0 ≤ i) (h1 : i < 48) : zW (zSH Ln) d mi ((.invokestatic o, 161, b9) :: es) L (zI v :: zI i :: zR 4 :: st) M Q = zW (zSH Ln) d mi es L (zI (M 4 i) :: st) (zup M 4 i v) Q := by
  refine c_stat (vs := [zR 4, zI i, zI v]) (by omega) rfl rfl hc (Nat.le_of_ble_eq_true rfl) (r0 := some (zI (M 4 i))) ?_
  rw [zF_en k_FN_swap_0 (L := [zR 4, zI i, zI v, zU]) rfl]
  simp (disch := first | omega | exact Nat.le_of_ble_eq_true rfl) only [x_iload, x_lload, x_aload, x_istore, x_astore, x_iinc, x_getf, w_iconst, w_sipush, w_iadd, w_isub, w_imul, w_iand, w_ior, w_ixor, w_ishl, w_ishr, w_iushr, w_ladd, w_lsub, w_lmul, w_land, w_lor, w_lcmp, w_lshl, w_lshr, w_i2l, w_i2b, w_l2i, w_dupI, w_dupR, w_dup2, w_pop, w_if, w_icmp, w_goto, w_fall, w_gets, q_eq, q_ne, q_lt, q_ge, q_gt, q_le, g_I, g_L, g_R, g_V, t_0, t_I, t_R, t_U, t_L, t_s, List.getElem?_cons_zero, List.getElem?_cons_succ, Nat.reduceAdd, at_4, pu_4, w_nret r_FN_swap, and_self]
theorem sw_5 (hd : 2 ≤ d) (hc : zcats st ≤ 8) (h0 : 0 ≤ i) (h1 : i < 48) : zW (zSH Ln) d mi ((.invokestatic o, 161, b9) :: es) L (zI v :: zI i :: zR 5 :: st) M Q = zW (zSH Ln) d mi es L (zI (M 5 i) :: st) (zup M 5 i v) Q := by
  refine c_stat (vs := [zR 5, zI i, zI v]) (by omega) rfl rfl hc (Nat.le_of_ble_eq_true rfl) (r0 := some (zI (M 5 i))) ?_
  rw [zF_en k_FN_swap_0 (L := [zR 5, zI i, zI v, zU]) rfl]
  simp (disch := first | omega | exact Nat.le_of_ble_eq_true rfl) only [x_iload, x_lload, x_aload, x_istore, x_astore, x_iinc, x_getf, w_iconst, w_sipush, w_iadd, w_isub, w_imul, w_iand, w_ior, w_ixor, w_ishl, w_ishr, w_iushr, w_ladd, w_lsub, w_lmul, w_land, w_lor, w_lcmp, w_lshl, w_lshr, w_i2l, w_i2b, w_l2i, w_dupI, w_dupR, w_dup2, w_pop, w_if, w_icmp, w_goto, w_fall, w_gets, q_eq, q_ne, q_lt, q_ge, q_gt, q_le, g_I, g_L, g_R, g_V, t_0, t_I, t_R, t_U, t_L, t_s, List.getElem?_cons_zero, List.getElem?_cons_succ, Nat.reduceAdd, at_5, pu_5, w_nret r_FN_swap, and_self]
theorem sw_6 (hd : 2 ≤ d) (hc : zcats st ≤ 8) (h0 : 0 ≤ i) (h1 : i < 144) : zW (zSH Ln) d mi ((.invokestatic o, 161, b9) :: es) L (zI v :: zI i :: zR 6 :: st) M Q = zW (zSH Ln) d mi es L (zI (M 6 i) :: st) (zup M 6 i v) Q := by
  refine c_stat (vs := [zR 6, zI i, zI v]) (by omega) rfl rfl hc (Nat.le_of_ble_eq_true rfl) (r0 := some (zI (M 6 i))) ?_
  rw [zF_en k_FN_swap_0 (L := [zR 6, zI i, zI v, zU]) rfl]
  simp (disch := first | omega | exact Nat.le_of_ble_eq_true rfl) only [x_iload, x_lload, x_aload, x_istore, x_astore, x_iinc, x_getf, w_iconst, w_sipush, w_iadd, w_isub, w_imul, w_iand, w_ior, w_ixor, w_ishl, w_ishr, w_iushr, w_ladd, w_lsub, w_lmul, w_land, w_lor, w_lcmp, w_lshl, w_lshr, w_i2l, w_i2b, w_l2i, w_dupI, w_dupR, w_dup2, w_pop, w_if, w_icmp, w_goto, w_fall, w_gets, q_eq, q_ne, q_lt, q_ge, q_gt, q_le, g_I, g_L, g_R, g_V, t_0, t_I, t_R, t_U, t_L, t_s, List.getElem?_cons_zero, List.getElem?_cons_succ, Nat.reduceAdd, at_6, pu_6, w_nret r_FN_swap, and_self]
theorem sw_7 (hd : 2 ≤ d) (hc : zcats st ≤ 8) (h0 : 0 ≤ i) (h1 : i < 972) : zW (zSH Ln) d mi ((.invokestatic o, 161, b9) :: es) L (zI v :: zI i :: zR 7 :: st) M Q = zW (zSH Ln) d mi es L (zI (M 7 i) :: st) (zup M 7 i v) Q := by
  refine c_stat (vs := [zR 7, zI i, zI v]) (by omega) rfl rfl hc (Nat.le_of_ble_eq_true rfl) (r0 := some (zI (M 7 i))) ?_
  rw [zF_en k_FN_swap_0 (L := [zR 7, zI i, zI v, zU]) rfl]
  simp (disch := first | omega | exact Nat.le_of_ble_eq_true rfl) only [x_iload, x_lload, x_aload, x_istore, x_astore, x_iinc, x_getf, w_iconst, w_sipush, w_iadd, w_isub, w_imul, w_iand, w_ior, w_ixor, w_ishl, w_ishr, w_iushr, w_ladd, w_lsub, w_lmul, w_land, w_lor, w_lcmp, w_lshl, w_lshr, w_i2l, w_i2b, w_l2i, w_dupI, w_dupR, w_dup2, w_pop, w_if, w_icmp, w_goto, w_fall, w_gets, q_eq, q_ne, q_lt, q_ge, q_gt, q_le, g_I, g_L, g_R, g_V, t_0, t_I, t_R, t_U, t_L, t_s, List.getElem?_cons_zero, List.getElem?_cons_succ, Nat.reduceAdd, at_7, pu_7, w_nret r_FN_swap, and_self]
theorem sw_8 (hd : 2 ≤ d) (hc : zcats st ≤ 8) (h0 : 0 ≤ i) (h1 : i < 12) : zW (zSH Ln) d mi ((.invokestatic o, 161, b9) :: es) L (zI v :: zI i :: zR 8 :: st) M Q = zW (zSH Ln) d mi es L (zI (M 8 i) :: st) (zup M 8 i v) Q := by
  refine c_stat (vs := [zR 8, zI i, zI v]) (by omega) rfl rfl hc (Nat.le_of_ble_eq_true rfl) (r0 := some (zI (M 8 i))) ?_
  rw [zF_en k_FN_swap_0 (L := [zR 8, zI i, zI v, zU]) rfl]
  simp (disch := first | omega | exact Nat.le_of_ble_eq_true rfl) only [x_iload, x_lload, x_aload, x_istore, x_astore, x_iinc, x_getf, w_iconst, w_sipush, w_iadd, w_isub, w_imul, w_iand, w_ior, w_ixor, w_ishl, w_ishr, w_iushr, w_ladd, w_lsub, w_lmul, w_land, w_lor, w_lcmp, w_lshl, w_lshr, w_i2l, w_i2b, w_l2i, w_dupI, w_dupR, w_dup2, w_pop, w_if, w_icmp, w_goto, w_fall, w_gets, q_eq, q_ne, q_lt, q_ge, q_gt, q_le, g_I, g_L, g_R, g_V, t_0, t_I, t_R, t_U, t_L, t_s, List.getElem?_cons_zero, List.getElem?_cons_succ, Nat.reduceAdd, at_8, pu_8, w_nret r_FN_swap, and_self]
theorem sw_9 (hd : 2 ≤ d) (hc : zcats st ≤ 8) (h0 : 0 ≤ i) (h1 : i < 48) : zW (zSH Ln) d mi ((.invokestatic o, 161, b9) :: es) L (zI v :: zI i :: zR 9 :: st) M Q = zW (zSH Ln) d mi es L (zI (M 9 i) :: st) (zup M 9 i v) Q := by
  refine c_stat (vs := [zR 9, zI i, zI v]) (by omega) rfl rfl hc (Nat.le_of_ble_eq_true rfl) (r0 := some (zI (M 9 i))) ?_
  rw [zF_en k_FN_swap_0 (L := [zR 9, zI i, zI v, zU]) rfl]
  simp (disch := first | omega | exact Nat.le_of_ble_eq_true rfl) only [x_iload, x_lload, x_aload, x_istore, x_astore, x_iinc, x_getf, w_iconst, w_sipush, w_iadd, w_isub, w_imul, w_iand, w_ior, w_ixor, w_ishl, w_ishr, w_iushr, w_ladd, w_lsub, w_lmul, w_land, w_lor, w_lcmp, w_lshl, w_lshr, w_i2l, w_i2b, w_l2i, w_dupI, w_dupR, w_dup2, w_pop, w_if, w_icmp, w_goto, w_fall, w_gets, q_eq, q_ne, q_lt, q_ge, q_gt, q_le, g_I, g_L, g_R, g_V, t_0, t_I, t_R, t_U, t_L, t_s, List.getElem?_cons_zero, List.getElem?_cons_succ, Nat.reduceAdd, at_9, pu_9, w_nret r_FN_swap, and_self]
theorem sw_11 (hd : 2 ≤ d) (hc : zcats st ≤ 8) (h0 : 0 ≤ i) (h1 : i < 24) : zW (zSH Ln) d mi ((.invokestatic o, 161, b9) :: es) L (zI v :: zI i :: zR 11 :: st) M Q = zW (zSH Ln) d mi es L (zI (M 11 i) :: st) (zup M 11 i v) Q := by
  refine c_stat (vs := [zR 11, zI i, zI v]) (by omega) rfl rfl hc (Nat.le_of_ble_eq_true rfl) (r0 := some (zI (M 11 i))) ?_
  rw [zF_en k_FN_swap_0 (L := [zR 11, zI i, zI v, zU]) rfl]
  simp (disch := first | omega | exact Nat.le_of_ble_eq_true rfl) only [x_iload, x_lload, x_aload, x_istore, x_astore, x_iinc, x_getf, w_iconst, w_sipush, w_iadd, w_isub, w_imul, w_iand, w_ior, w_ixor, w_ishl, w_ishr, w_iushr, w_ladd, w_lsub, w_lmul, w_land, w_lor, w_lcmp, w_lshl, w_lshr, w_i2l, w_i2b, w_l2i, w_dupI, w_dupR, w_dup2, w_pop, w_if, w_icmp, w_goto, w_fall, w_gets, q_eq, q_ne, q_lt, q_ge, q_gt, q_le, g_I, g_L, g_R, g_V, t_0, t_I, t_R, t_U, t_L, t_s, List.getElem?_cons_zero, List.getElem?_cons_succ, Nat.reduceAdd, at_11, pu_11, w_nret r_FN_swap, and_self]
theorem sw_12 (hd : 2 ≤ d) (hc : zcats st ≤ 8) (h0 : 0 ≤ i) (h1 : i < 24) : zW (zSH Ln) d mi ((.invokestatic o, 161, b9) :: es) L (zI v :: zI i :: zR 12 :: st) M Q = zW (zSH Ln) d mi es L (zI (M 12 i) :: st) (zup M 12 i v) Q := by
  refine c_stat (vs := [zR 12, zI i, zI v]) (by omega) rfl rfl hc (Nat.le_of_ble_eq_true rfl) (r0 := some (zI (M 12 i))) ?_
  rw [zF_en k_FN_swap_0 (L := [zR 12, zI i, zI v, zU]) rfl]
  simp (disch := first | omega | exact Nat.le_of_ble_eq_true rfl) only [x_iload, x_lload, x_aload, x_istore, x_astore, x_iinc, x_getf, w_iconst, w_sipush, w_iadd, w_isub, w_imul, w_iand, w_ior, w_ixor, w_ishl, w_ishr, w_iushr, w_ladd, w_lsub, w_lmul, w_land, w_lor, w_lcmp, w_lshl, w_lshr, w_i2l, w_i2b, w_l2i, w_dupI, w_dupR, w_dup2, w_pop, w_if, w_icmp, w_goto, w_fall, w_gets, q_eq, q_ne, q_lt, q_ge, q_gt, q_le, g_I, g_L, g_R, g_V, t_0, t_I, t_R, t_U, t_L, t_s, List.getElem?_cons_zero, List.getElem?_cons_succ, Nat.reduceAdd, at_12, pu_12, w_nret r_FN_swap, and_self]
theorem sw_13 (hd : 2 ≤ d) (hc : zcats st ≤ 8) (h0 : 0 ≤ i) (h1 : i < 24) : zW (zSH Ln) d mi ((.invokestatic o, 161, b9) :: es) L (zI v :: zI i :: zR 13 :: st) M Q = zW (zSH Ln) d mi es L (zI (M 13 i) :: st) (zup M 13 i v) Q := by
  refine c_stat (vs := [zR 13, zI i, zI v]) (by omega) rfl rfl hc (Nat.le_of_ble_eq_true rfl) (r0 := some (zI (M 13 i))) ?_
  rw [zF_en k_FN_swap_0 (L := [zR 13, zI i, zI v, zU]) rfl]
  simp (disch := first | omega | exact Nat.le_of_ble_eq_true rfl) only [x_iload, x_lload, x_aload, x_istore, x_astore, x_iinc, x_getf, w_iconst, w_sipush, w_iadd, w_isub, w_imul, w_iand, w_ior, w_ixor, w_ishl, w_ishr, w_iushr, w_ladd, w_lsub, w_lmul, w_land, w_lor, w_lcmp, w_lshl, w_lshr, w_i2l, w_i2b, w_l2i, w_dupI, w_dupR, w_dup2, w_pop, w_if, w_icmp, w_goto, w_fall, w_gets, q_eq, q_ne, q_lt, q_ge, q_gt, q_le, g_I, g_L, g_R, g_V, t_0, t_I, t_R, t_U, t_L, t_s, List.getElem?_cons_zero, List.getElem?_cons_succ, Nat.reduceAdd, at_13, pu_13, w_nret r_FN_swap, and_self]
theorem sw_14 (hd : 2 ≤ d) (hc : zcats st ≤ 8) (h0 : 0 ≤ i) (h1 : i < 24) : zW (zSH Ln) d mi ((.invokestatic o, 161, b9) :: es) L (zI v :: zI i :: zR 14 :: st) M Q = zW (zSH Ln) d mi es L (zI (M 14 i) :: st) (zup M 14 i v) Q := by
  refine c_stat (vs := [zR 14, zI i, zI v]) (by omega) rfl rfl hc (Nat.le_of_ble_eq_true rfl) (r0 := some (zI (M 14 i))) ?_
  rw [zF_en k_FN_swap_0 (L := [zR 14, zI i, zI v, zU]) rfl]
  simp (disch := first | omega | exact Nat.le_of_ble_eq_true rfl) only [x_iload, x_lload, x_aload, x_istore, x_astore, x_iinc, x_getf, w_iconst, w_sipush, w_iadd, w_isub, w_imul, w_iand, w_ior, w_ixor, w_ishl, w_ishr, w_iushr, w_ladd, w_lsub, w_lmul, w_land, w_lor, w_lcmp, w_lshl, w_lshr, w_i2l, w_i2b, w_l2i, w_dupI, w_dupR, w_dup2, w_pop, w_if, w_icmp, w_goto, w_fall, w_gets, q_eq, q_ne, q_lt, q_ge, q_gt, q_le, g_I, g_L, g_R, g_V, t_0, t_I, t_R, t_U, t_L, t_s, List.getElem?_cons_zero, List.getElem?_cons_succ, Nat.reduceAdd, at_14, pu_14, w_nret r_FN_swap, and_self]
theorem sw_16 (hd : 2 ≤ d) (hc : zcats st ≤ 8) (h0 : 0 ≤ i) (h1 : i < 972) : zW (zSH Ln) d mi ((.invokestatic o, 161, b9) :: es) L (zI v :: zI i :: zR 16 :: st) M Q = zW (zSH Ln) d mi es L (zI (M 16 i) :: st) (zup M 16 i v) Q := by
  refine c_stat (vs := [zR 16, zI i, zI v]) (by omega) rfl rfl hc (Nat.le_of_ble_eq_true rfl) (r0 := some (zI (M 16 i))) ?_
  rw [zF_en k_FN_swap_0 (L := [zR 16, zI i, zI v, zU]) rfl]
  simp (disch := first | omega | exact Nat.le_of_ble_eq_true rfl) only [x_iload, x_lload, x_aload, x_istore, x_astore, x_iinc, x_getf, w_iconst, w_sipush, w_iadd, w_isub, w_imul, w_iand, w_ior, w_ixor, w_ishl, w_ishr, w_iushr, w_ladd, w_lsub, w_lmul, w_land, w_lor, w_lcmp, w_lshl, w_lshr, w_i2l, w_i2b, w_l2i, w_dupI, w_dupR, w_dup2, w_pop, w_if, w_icmp, w_goto, w_fall, w_gets, q_eq, q_ne, q_lt, q_ge, q_gt, q_le, g_I, g_L, g_R, g_V, t_0, t_I, t_R, t_U, t_L, t_s, List.getElem?_cons_zero, List.getElem?_cons_succ, Nat.reduceAdd, at_16, pu_16, w_nret r_FN_swap, and_self]
theorem sw_17 (hd : 2 ≤ d) (hc : zcats st ≤ 8) (h0 : 0 ≤ i) (h1 : i < 12) : zW (zSH Ln) d mi ((.invokestatic o, 161, b9) :: es) L (zI v :: zI i :: zR 17 :: st) M Q = zW (zSH Ln) d mi es L (zI (M 17 i) :: st) (zup M 17 i v) Q := by
  refine c_stat (vs := [zR 17, zI i, zI v]) (by omega) rfl rfl hc (Nat.le_of_ble_eq_true rfl) (r0 := some (zI (M 17 i))) ?_
  rw [zF_en k_FN_swap_0 (L := [zR 17, zI i, zI v, zU]) rfl]
  simp (disch := first | omega | exact Nat.le_of_ble_eq_true rfl) only [x_iload, x_lload, x_aload, x_istore, x_astore, x_iinc, x_getf, w_iconst, w_sipush, w_iadd, w_isub, w_imul, w_iand, w_ior, w_ixor, w_ishl, w_ishr, w_iushr, w_ladd, w_lsub, w_lmul, w_land, w_lor, w_lcmp, w_lshl, w_lshr, w_i2l, w_i2b, w_l2i, w_dupI, w_dupR, w_dup2, w_pop, w_if, w_icmp, w_goto, w_fall, w_gets, q_eq, q_ne, q_lt, q_ge, q_gt, q_le, g_I, g_L, g_R, g_V, t_0, t_I, t_R, t_U, t_L, t_s, List.getElem?_cons_zero, List.getElem?_cons_succ, Nat.reduceAdd, at_17, pu_17, w_nret r_FN_swap, and_self]
theorem sw_18 (hd : 2 ≤ d) (hc : zcats st ≤ 8) (h0 : 0 ≤ i) (h1 : i < 81) : zW (zSH Ln) d mi ((.invokestatic o, 161, b9) :: es) L (zI v :: zI i :: zR 18 :: st) M Q = zW (zSH Ln) d mi es L (zI (M 18 i) :: st) (zup M 18 i v) Q := by
  refine c_stat (vs := [zR 18, zI i, zI v]) (by omega) rfl rfl hc (Nat.le_of_ble_eq_true rfl) (r0 := some (zI (M 18 i))) ?_
  rw [zF_en k_FN_swap_0 (L := [zR 18, zI i, zI v, zU]) rfl]
  simp (disch := first | omega | exact Nat.le_of_ble_eq_true rfl) only [x_iload, x_lload, x_aload, x_istore, x_astore, x_iinc, x_getf, w_iconst, w_sipush, w_iadd, w_isub, w_imul, w_iand, w_ior, w_ixor, w_ishl, w_ishr, w_iushr, w_ladd, w_lsub, w_lmul, w_land, w_lor, w_lcmp, w_lshl, w_lshr, w_i2l, w_i2b, w_l2i, w_dupI, w_dupR, w_dup2, w_pop, w_if, w_icmp, w_goto, w_fall, w_gets, q_eq, q_ne, q_lt, q_ge, q_gt, q_le, g_I, g_L, g_R, g_V, t_0, t_I, t_R, t_U, t_L, t_s, List.getElem?_cons_zero, List.getElem?_cons_succ, Nat.reduceAdd, at_18, pu_18, w_nret r_FN_swap, and_self]
theorem sw_20 (hd : 2 ≤ d) (hc : zcats st ≤ 8) (h0 : 0 ≤ i) (h1 : i < 24) : zW (zSH Ln) d mi ((.invokestatic o, 161, b9) :: es) L (zI v :: zI i :: zR 20 :: st) M Q = zW (zSH Ln) d mi es L (zI (M 20 i) :: st) (zup M 20 i v) Q := by
  refine c_stat (vs := [zR 20, zI i, zI v]) (by omega) rfl rfl hc (Nat.le_of_ble_eq_true rfl) (r0 := some (zI (M 20 i))) ?_
  rw [zF_en k_FN_swap_0 (L := [zR 20, zI i, zI v, zU]) rfl]
  simp (disch := first | omega | exact Nat.le_of_ble_eq_true rfl) only [x_iload, x_lload, x_aload, x_istore, x_astore, x_iinc, x_getf, w_iconst, w_sipush, w_iadd, w_isub, w_imul, w_iand, w_ior, w_ixor, w_ishl, w_ishr, w_iushr, w_ladd, w_lsub, w_lmul, w_land, w_lor, w_lcmp, w_lshl, w_lshr, w_i2l, w_i2b, w_l2i, w_dupI, w_dupR, w_dup2, w_pop, w_if, w_icmp, w_goto, w_fall, w_gets, q_eq, q_ne, q_lt, q_ge, q_gt, q_le, g_I, g_L, g_R, g_V, t_0, t_I, t_R, t_U, t_L, t_s, List.getElem?_cons_zero, List.getElem?_cons_succ, Nat.reduceAdd, at_20, pu_20, w_nret r_FN_swap, and_self]
theorem sw_21 (hd : 2 ≤ d) (hc : zcats st ≤ 8) (h0 : 0 ≤ i) (h1 : i < 12) : zW (zSH Ln) d mi ((.invokestatic o, 161, b9) :: es) L (zI v :: zI i :: zR 21 :: st) M Q = zW (zSH Ln) d mi es L (zI (M 21 i) :: st) (zup M 21 i v) Q := by
  refine c_stat (vs := [zR 21, zI i, zI v]) (by omega) rfl rfl hc (Nat.le_of_ble_eq_true rfl) (r0 := some (zI (M 21 i))) ?_
  rw [zF_en k_FN_swap_0 (L := [zR 21, zI i, zI v, zU]) rfl]
  simp (disch := first | omega | exact Nat.le_of_ble_eq_true rfl) only [x_iload, x_lload, x_aload, x_istore, x_astore, x_iinc, x_getf, w_iconst, w_sipush, w_iadd, w_isub, w_imul, w_iand, w_ior, w_ixor, w_ishl, w_ishr, w_iushr, w_ladd, w_lsub, w_lmul, w_land, w_lor, w_lcmp, w_lshl, w_lshr, w_i2l, w_i2b, w_l2i, w_dupI, w_dupR, w_dup2, w_pop, w_if, w_icmp, w_goto, w_fall, w_gets, q_eq, q_ne, q_lt, q_ge, q_gt, q_le, g_I, g_L, g_R, g_V, t_0, t_I, t_R, t_U, t_L, t_s, List.getElem?_cons_zero, List.getElem?_cons_succ, Nat.reduceAdd, at_21, pu_21, w_nret r_FN_swap, and_self]
theorem sw_23 (hd : 2 ≤ d) (hc : zcats st ≤ 8) (h0 : 0 ≤ i) (h1 : i < 100) : zW (zSH Ln) d mi ((.invokestatic o, 161, b9) :: es) L (zI v :: zI i :: zR 23 :: st) M Q = zW (zSH Ln) d mi es L (zI (M 23 i) :: st) (zup M 23 i v) Q := by
  refine c_stat (vs := [zR 23, zI i, zI v]) (by omega) rfl rfl hc (Nat.le_of_ble_eq_true rfl) (r0 := some (zI (M 23 i))) ?_
  rw [zF_en k_FN_swap_0 (L := [zR 23, zI i, zI v, zU]) rfl]
  simp (disch := first | omega | exact Nat.le_of_ble_eq_true rfl) only [x_iload, x_lload, x_aload, x_istore, x_astore, x_iinc, x_getf, w_iconst, w_sipush, w_iadd, w_isub, w_imul, w_iand, w_ior, w_ixor, w_ishl, w_ishr, w_iushr, w_ladd, w_lsub, w_lmul, w_land, w_lor, w_lcmp, w_lshl, w_lshr, w_i2l, w_i2b, w_l2i, w_dupI, w_dupR, w_dup2, w_pop, w_if, w_icmp, w_goto, w_fall, w_gets, q_eq, q_ne, q_lt, q_ge, q_gt, q_le, g_I, g_L, g_R, g_V, t_0, t_I, t_R, t_U, t_L, t_s, List.getElem?_cons_zero, List.getElem?_cons_succ, Nat.reduceAdd, at_23, pu_23, w_nret r_FN_swap, and_self]
theorem sw_25 (hd : 2 ≤ d) (hc : zcats st ≤ 8) (h0 : 0 ≤ i) (h1 : i < 24) : zW (zSH Ln) d mi ((.invokestatic o, 161, b9) :: es) L (zI v :: zI i :: zR 25 :: st) M Q = zW (zSH Ln) d mi es L (zI (M 25 i) :: st) (zup M 25 i v) Q := by
  refine c_stat (vs := [zR 25, zI i, zI v]) (by omega) rfl rfl hc (Nat.le_of_ble_eq_true rfl) (r0 := some (zI (M 25 i))) ?_
  rw [zF_en k_FN_swap_0 (L := [zR 25, zI i, zI v, zU]) rfl]
  simp (disch := first | omega | exact Nat.le_of_ble_eq_true rfl) only [x_iload, x_lload, x_aload, x_istore, x_astore, x_iinc, x_getf, w_iconst, w_sipush, w_iadd, w_isub, w_imul, w_iand, w_ior, w_ixor, w_ishl, w_ishr, w_iushr, w_ladd, w_lsub, w_lmul, w_land, w_lor, w_lcmp, w_lshl, w_lshr, w_i2l, w_i2b, w_l2i, w_dupI, w_dupR, w_dup2, w_pop, w_if, w_icmp, w_goto, w_fall, w_gets, q_eq, q_ne, q_lt, q_ge, q_gt, q_le, g_I, g_L, g_R, g_V, t_0, t_I, t_R, t_U, t_L, t_s, List.getElem?_cons_zero, List.getElem?_cons_succ, Nat.reduceAdd, at_25, pu_25, w_nret r_FN_swap, and_self]
theorem sw_26 (hd : 2 ≤ d) (hc : zcats st ≤ 8) (h0 : 0 ≤ i) (h1 : i < 24) : zW (zSH Ln) d mi ((.invokestatic o, 161, b9) :: es) L (zI v :: zI i :: zR 26 :: st) M Q = zW (zSH Ln) d mi es L (zI (M 26 i) :: st) (zup M 26 i v) Q := by
  refine c_stat (vs := [zR 26, zI i, zI v]) (by omega) rfl rfl hc (Nat.le_of_ble_eq_true rfl) (r0 := some (zI (M 26 i))) ?_
  rw [zF_en k_FN_swap_0 (L := [zR 26, zI i, zI v, zU]) rfl]
  simp (disch := first | omega | exact Nat.le_of_ble_eq_true rfl) only [x_iload, x_lload, x_aload, x_istore, x_astore, x_iinc, x_getf, w_iconst, w_sipush, w_iadd, w_isub, w_imul, w_iand, w_ior, w_ixor, w_ishl, w_ishr, w_iushr, w_ladd, w_lsub, w_lmul, w_land, w_lor, w_lcmp, w_lshl, w_lshr, w_i2l, w_i2b, w_l2i, w_dupI, w_dupR, w_dup2, w_pop, w_if, w_icmp, w_goto, w_fall, w_gets, q_eq, q_ne, q_lt, q_ge, q_gt, q_le, g_I, g_L, g_R, g_V, t_0, t_I, t_R, t_U, t_L, t_s, List.getElem?_cons_zero, List.getElem?_cons_succ, Nat.reduceAdd, at_26, pu_26, w_nret r_FN_swap, and_self]
theorem sw_27 (hd : 2 ≤ d) (hc : zcats st ≤ 8) (h0 : 0 ≤ i) (h1 : i < 24) : zW (zSH Ln) d mi ((.invokestatic o, 161, b9) :: es) L (zI v :: zI i :: zR 27 :: st) M Q = zW (zSH Ln) d mi es L (zI (M 27 i) :: st) (zup M 27 i v) Q := by
  refine c_stat (vs := [zR 27, zI i, zI v]) (by omega) rfl rfl hc (Nat.le_of_ble_eq_true rfl) (r0 := some (zI (M 27 i))) ?_
  rw [zF_en k_FN_swap_0 (L := [zR 27, zI i, zI v, zU]) rfl]
  simp (disch := first | omega | exact Nat.le_of_ble_eq_true rfl) only [x_iload, x_lload, x_aload, x_istore, x_astore, x_iinc, x_getf, w_iconst, w_sipush, w_iadd, w_isub, w_imul, w_iand, w_ior, w_ixor, w_ishl, w_ishr, w_iushr, w_ladd, w_lsub, w_lmul, w_land, w_lor, w_lcmp, w_lshl, w_lshr, w_i2l, w_i2b, w_l2i, w_dupI, w_dupR, w_dup2, w_pop, w_if, w_icmp, w_goto, w_fall, w_gets, q_eq, q_ne, q_lt, q_ge, q_gt, q_le, g_I, g_L, g_R, g_V, t_0, t_I, t_R, t_U, t_L, t_s, List.getElem?_cons_zero, List.getElem?_cons_succ, Nat.reduceAdd, at_27, pu_27, w_nret r_FN_swap, and_self]
theorem sw_28 (hd : 2 ≤ d) (hc : zcats st ≤ 8) (h0 : 0 ≤ i) (h1 : i < 24) : zW (zSH Ln) d mi ((.invokestatic o, 161, b9) :: es) L (zI v :: zI i :: zR 28 :: st) M Q = zW (zSH Ln) d mi es L (zI (M 28 i) :: st) (zup M 28 i v) Q := by
  refine c_stat (vs := [zR 28, zI i, zI v]) (by omega) rfl rfl hc (Nat.le_of_ble_eq_true rfl) (r0 := some (zI (M 28 i))) ?_
  rw [zF_en k_FN_swap_0 (L := [zR 28, zI i, zI v, zU]) rfl]
  simp (disch := first | omega | exact Nat.le_of_ble_eq_true rfl) only [x_iload, x_lload, x_aload, x_istore, x_astore, x_iinc, x_getf, w_iconst, w_sipush, w_iadd, w_isub, w_imul, w_iand, w_ior, w_ixor, w_ishl, w_ishr, w_iushr, w_ladd, w_lsub, w_lmul, w_land, w_lor, w_lcmp, w_lshl, w_lshr, w_i2l, w_i2b, w_l2i, w_dupI, w_dupR, w_dup2, w_pop, w_if, w_icmp, w_goto, w_fall, w_gets, q_eq, q_ne, q_lt, q_ge, q_gt, q_le, g_I, g_L, g_R, g_V, t_0, t_I, t_R, t_U, t_L, t_s, List.getElem?_cons_zero, List.getElem?_cons_succ, Nat.reduceAdd, at_28, pu_28, w_nret r_FN_swap, and_self]
theorem sw_30 (hd : 2 ≤ d) (hc : zcats st ≤ 8) (h0 : 0 ≤ i) (h1 : i < 12) : zW (zSH Ln) d mi ((.invokestatic o, 161, b9) :: es) L (zI v :: zI i :: zR 30 :: st) M Q = zW (zSH Ln) d mi es L (zI (M 30 i) :: st) (zup M 30 i v) Q := by
  refine c_stat (vs := [zR 30, zI i, zI v]) (by omega) rfl rfl hc (Nat.le_of_ble_eq_true rfl) (r0 := some (zI (M 30 i))) ?_
  rw [zF_en k_FN_swap_0 (L := [zR 30, zI i, zI v, zU]) rfl]
  simp (disch := first | omega | exact Nat.le_of_ble_eq_true rfl) only [x_iload, x_lload, x_aload, x_istore, x_astore, x_iinc, x_getf, w_iconst, w_sipush, w_iadd, w_isub, w_imul, w_iand, w_ior, w_ixor, w_ishl, w_ishr, w_iushr, w_ladd, w_lsub, w_lmul, w_land, w_lor, w_lcmp, w_lshl, w_lshr, w_i2l, w_i2b, w_l2i, w_dupI, w_dupR, w_dup2, w_pop, w_if, w_icmp, w_goto, w_fall, w_gets, q_eq, q_ne, q_lt, q_ge, q_gt, q_le, g_I, g_L, g_R, g_V, t_0, t_I, t_R, t_U, t_L, t_s, List.getElem?_cons_zero, List.getElem?_cons_succ, Nat.reduceAdd, at_30, pu_30, w_nret r_FN_swap, and_self]
theorem sw_31 (hd : 2 ≤ d) (hc : zcats st ≤ 8) (h0 : 0 ≤ i) (h1 : i < 41) : zW (zSH Ln) d mi ((.invokestatic o, 161, b9) :: es) L (zI v :: zI i :: zR 31 :: st) M Q = zW (zSH Ln) d mi es L (zI (M 31 i) :: st) (zup M 31 i v) Q := by
  refine c_stat (vs := [zR 31, zI i, zI v]) (by omega) rfl rfl hc (Nat.le_of_ble_eq_true rfl) (r0 := some (zI (M 31 i))) ?_
  rw [zF_en k_FN_swap_0 (L := [zR 31, zI i, zI v, zU]) rfl]
  simp (disch := first | omega | exact Nat.le_of_ble_eq_true rfl) only [x_iload, x_lload, x_aload, x_istore, x_astore, x_iinc, x_getf, w_iconst, w_sipush, w_iadd, w_isub, w_imul, w_iand, w_ior, w_ixor, w_ishl, w_ishr, w_iushr, w_ladd, w_lsub, w_lmul, w_land, w_lor, w_lcmp, w_lshl, w_lshr, w_i2l, w_i2b, w_l2i, w_dupI, w_dupR, w_dup2, w_pop, w_if, w_icmp, w_goto, w_fall, w_gets, q_eq, q_ne, q_lt, q_ge, q_gt, q_le, g_I, g_L, g_R, g_V, t_0, t_I, t_R, t_U, t_L, t_s, List.getElem?_cons_zero, List.getElem?_cons_succ, Nat.reduceAdd, at_31, pu_31, w_nret r_FN_swap, and_self]
theorem sw_33 (hd : 2 ≤ d) (hc : zcats st ≤ 8) (h0 : 0 ≤ i) (h1 : i < 48) : zW (zSH Ln) d mi ((.invokestatic o, 161, b9) :: es) L (zI v :: zI i :: zR 33 :: st) M Q = zW (zSH Ln) d mi es L (zI (M 33 i) :: st) (zup M 33 i v) Q := by
  refine c_stat (vs := [zR 33, zI i, zI v]) (by omega) rfl rfl hc (Nat.le_of_ble_eq_true rfl) (r0 := some (zI (M 33 i))) ?_
  rw [zF_en k_FN_swap_0 (L := [zR 33, zI i, zI v, zU]) rfl]
  simp (disch := first | omega | exact Nat.le_of_ble_eq_true rfl) only [x_iload, x_lload, x_aload, x_istore, x_astore, x_iinc, x_getf, w_iconst, w_sipush, w_iadd, w_isub, w_imul, w_iand, w_ior, w_ixor, w_ishl, w_ishr, w_iushr, w_ladd, w_lsub, w_lmul, w_land, w_lor, w_lcmp, w_lshl, w_lshr, w_i2l, w_i2b, w_l2i, w_dupI, w_dupR, w_dup2, w_pop, w_if, w_icmp, w_goto, w_fall, w_gets, q_eq, q_ne, q_lt, q_ge, q_gt, q_le, g_I, g_L, g_R, g_V, t_0, t_I, t_R, t_U, t_L, t_s, List.getElem?_cons_zero, List.getElem?_cons_succ, Nat.reduceAdd, at_33, pu_33, w_nret r_FN_swap, and_self]
theorem sw_34 (hd : 2 ≤ d) (hc : zcats st ≤ 8) (h0 : 0 ≤ i) (h1 : i < 48) : zW (zSH Ln) d mi ((.invokestatic o, 161, b9) :: es) L (zI v :: zI i :: zR 34 :: st) M Q = zW (zSH Ln) d mi es L (zI (M 34 i) :: st) (zup M 34 i v) Q := by
  refine c_stat (vs := [zR 34, zI i, zI v]) (by omega) rfl rfl hc (Nat.le_of_ble_eq_true rfl) (r0 := some (zI (M 34 i))) ?_
  rw [zF_en k_FN_swap_0 (L := [zR 34, zI i, zI v, zU]) rfl]
  simp (disch := first | omega | exact Nat.le_of_ble_eq_true rfl) only [x_iload, x_lload, x_aload, x_istore, x_astore, x_iinc, x_getf, w_iconst, w_sipush, w_iadd, w_isub, w_imul, w_iand, w_ior, w_ixor, w_ishl, w_ishr, w_iushr, w_ladd, w_lsub, w_lmul, w_land, w_lor, w_lcmp, w_lshl, w_lshr, w_i2l, w_i2b, w_l2i, w_dupI, w_dupR, w_dup2, w_pop, w_if, w_icmp, w_goto, w_fall, w_gets, q_eq, q_ne, q_lt, q_ge, q_gt, q_le, g_I, g_L, g_R, g_V, t_0, t_I, t_R, t_U, t_L, t_s, List.getElem?_cons_zero, List.getElem?_cons_succ, Nat.reduceAdd, at_34, pu_34, w_nret r_FN_swap, and_self]
theorem sw_35 (hd : 2 ≤ d) (hc : zcats st ≤ 8) (h0 : 0 ≤ i) (h1 : i < 12) : zW (zSH Ln) d mi ((.invokestatic o, 161, b9) :: es) L (zI v :: zI i :: zR 35 :: st) M Q = zW (zSH Ln) d mi es L (zI (M 35 i) :: st) (zup M 35 i v) Q := by
  refine c_stat (vs := [zR 35, zI i, zI v]) (by omega) rfl rfl hc (Nat.le_of_ble_eq_true rfl) (r0 := some (zI (M 35 i))) ?_
  rw [zF_en k_FN_swap_0 (L := [zR 35, zI i, zI v, zU]) rfl]
  simp (disch := first | omega | exact Nat.le_of_ble_eq_true rfl) only [x_iload, x_lload, x_aload, x_istore, x_astore, x_iinc, x_getf, w_iconst, w_sipush, w_iadd, w_isub, w_imul, w_iand, w_ior, w_ixor, w_ishl, w_ishr, w_iushr, w_ladd, w_lsub, w_lmul, w_land, w_lor, w_lcmp, w_lshl, w_lshr, w_i2l, w_i2b, w_l2i, w_dupI, w_dupR, w_dup2, w_pop, w_if, w_icmp, w_goto, w_fall, w_gets, q_eq, q_ne, q_lt, q_ge, q_gt, q_le, g_I, g_L, g_R, g_V, t_0, t_I, t_R, t_U, t_L, t_s, List.getElem?_cons_zero, List.getElem?_cons_succ, Nat.reduceAdd, at_35, pu_35, w_nret r_FN_swap, and_self]
theorem sw_37 (hd : 2 ≤ d) (hc : zcats st ≤ 8) (h0 : 0 ≤ i) (h1 : i < 144) : zW (zSH Ln) d mi ((.invokestatic o, 161, b9) :: es) L (zI v :: zI i :: zR 37 :: st) M Q = zW (zSH Ln) d mi es L (zI (M 37 i) :: st) (zup M 37 i v) Q := by
  refine c_stat (vs := [zR 37, zI i, zI v]) (by omega) rfl rfl hc (Nat.le_of_ble_eq_true rfl) (r0 := some (zI (M 37 i))) ?_
  rw [zF_en k_FN_swap_0 (L := [zR 37, zI i, zI v, zU]) rfl]
  simp (disch := first | omega | exact Nat.le_of_ble_eq_true rfl) only [x_iload, x_lload, x_aload, x_istore, x_astore, x_iinc, x_getf, w_iconst, w_sipush, w_iadd, w_isub, w_imul, w_iand, w_ior, w_ixor, w_ishl, w_ishr, w_iushr, w_ladd, w_lsub, w_lmul, w_land, w_lor, w_lcmp, w_lshl, w_lshr, w_i2l, w_i2b, w_l2i, w_dupI, w_dupR, w_dup2, w_pop, w_if, w_icmp, w_goto, w_fall, w_gets, q_eq, q_ne, q_lt, q_ge, q_gt, q_le, g_I, g_L, g_R, g_V, t_0, t_I, t_R, t_U, t_L, t_s, List.getElem?_cons_zero, List.getElem?_cons_succ, Nat.reduceAdd, at_37, pu_37, w_nret r_FN_swap, and_self]
theorem sw_38 (hd : 2 ≤ d) (hc : zcats st ≤ 8) (h0 : 0 ≤ i) (h1 : i < 12) : zW (zSH Ln) d mi ((.invokestatic o, 161, b9) :: es) L (zI v :: zI i :: zR 38 :: st) M Q = zW (zSH Ln) d mi es L (zI (M 38 i) :: st) (zup M 38 i v) Q := by
  refine c_stat (vs := [zR 38, zI i, zI v]) (by omega) rfl rfl hc (Nat.le_of_ble_eq_true rfl) (r0 := some (zI (M 38 i))) ?_
  rw [zF_en k_FN_swap_0 (L := [zR 38, zI i, zI v, zU]) rfl]
  simp (disch := first | omega | exact Nat.le_of_ble_eq_true rfl) only [x_iload, x_lload, x_aload, x_istore, x_astore, x_iinc, x_getf, w_iconst, w_sipush, w_iadd, w_isub, w_imul, w_iand, w_ior, w_ixor, w_ishl, w_ishr, w_iushr, w_ladd, w_lsub, w_lmul, w_land, w_lor, w_lcmp, w_lshl, w_lshr, w_i2l, w_i2b, w_l2i, w_dupI, w_dupR, w_dup2, w_pop, w_if, w_icmp, w_goto, w_fall, w_gets, q_eq, q_ne, q_lt, q_ge, q_gt, q_le, g_I, g_L, g_R, g_V, t_0, t_I, t_R, t_U, t_L, t_s, List.getElem?_cons_zero, List.getElem?_cons_succ, Nat.reduceAdd, at_38, pu_38, w_nret r_FN_swap, and_self]
theorem sw_39 (hd : 2 ≤ d) (hc : zcats st ≤ 8) (h0 : 0 ≤ i) (h1 : i < 12) : zW (zSH Ln) d mi ((.invokestatic o, 161, b9) :: es) L (zI v :: zI i :: zR 39 :: st) M Q = zW (zSH Ln) d mi es L (zI (M 39 i) :: st) (zup M 39 i v) Q := by
  refine c_stat (vs := [zR 39, zI i, zI v]) (by omega) rfl rfl hc (Nat.le_of_ble_eq_true rfl) (r0 := some (zI (M 39 i))) ?_
  rw [zF_en k_FN_swap_0 (L := [zR 39, zI i, zI v, zU]) rfl]
  simp (disch := first | omega | exact Nat.le_of_ble_eq_true rfl) only [x_iload, x_lload, x_aload, x_istore, x_astore, x_iinc, x_getf, w_iconst, w_sipush, w_iadd, w_isub, w_imul, w_iand, w_ior, w_ixor, w_ishl, w_ishr, w_iushr, w_ladd, w_lsub, w_lmul, w_land, w_lor, w_lcmp, w_lshl, w_lshr, w_i2l, w_i2b, w_l2i, w_dupI, w_dupR, w_dup2, w_pop, w_if, w_icmp, w_goto, w_fall, w_gets, q_eq, q_ne, q_lt, q_ge, q_gt, q_le, g_I, g_L, g_R, g_V, t_0, t_I, t_R, t_U, t_L, t_s, List.getElem?_cons_zero, List.getElem?_cons_succ, Nat.reduceAdd, at_39, pu_39, w_nret r_FN_swap, and_self]
theorem sw_42 (hd : 2 ≤ d) (hc : zcats st ≤ 8) (h0 : 0 ≤ i) (h1 : i < 4) : zW (zSH Ln) d mi ((.invokestatic o, 161, b9) :: es) L (zI v :: zI i :: zR 42 :: st) M Q = zW (zSH Ln) d mi es L (zI (M 42 i) :: st) (zup M 42 i v) Q := by
  refine c_stat (vs := [zR 42, zI i, zI v]) (by omega) rfl rfl hc (Nat.le_of_ble_eq_true rfl) (r0 := some (zI (M 42 i))) ?_
  rw [zF_en k_FN_swap_0 (L := [zR 42, zI i, zI v, zU]) rfl]
  simp (disch := first | omega | exact Nat.le_of_ble_eq_true rfl) only [x_iload, x_lload, x_aload, x_istore, x_astore, x_iinc, x_getf, w_iconst, w_sipush, w_iadd, w_isub, w_imul, w_iand, w_ior, w_ixor, w_ishl, w_ishr, w_iushr, w_ladd, w_lsub, w_lmul, w_land, w_lor, w_lcmp, w_lshl, w_lshr, w_i2l, w_i2b, w_l2i, w_dupI, w_dupR, w_dup2, w_pop, w_if, w_icmp, w_goto, w_fall, w_gets, q_eq, q_ne, q_lt, q_ge, q_gt, q_le, g_I, g_L, g_R, g_V, t_0, t_I, t_R, t_U, t_L, t_s, List.getElem?_cons_zero, List.getElem?_cons_succ, Nat.reduceAdd, at_42, pu_42, w_nret r_FN_swap, and_self]
theorem sw_43 (hd : 2 ≤ d) (hc : zcats st ≤ 8) (h0 : 0 ≤ i) (h1 : i < 48) : zW (zSH Ln) d mi ((.invokestatic o, 161, b9) :: es) L (zI v :: zI i :: zR 43 :: st) M Q = zW (zSH Ln) d mi es L (zI (M 43 i) :: st) (zup M 43 i v) Q := by
  refine c_stat (vs := [zR 43, zI i, zI v]) (by omega) rfl rfl hc (Nat.le_of_ble_eq_true rfl) (r0 := some (zI (M 43 i))) ?_
  rw [zF_en k_FN_swap_0 (L := [zR 43, zI i, zI v, zU]) rfl]
  simp (disch := first | omega | exact Nat.le_of_ble_eq_true rfl) only [x_iload, x_lload, x_aload, x_istore, x_astore, x_iinc, x_getf, w_iconst, w_sipush, w_iadd, w_isub, w_imul, w_iand, w_ior, w_ixor, w_ishl, w_ishr, w_iushr, w_ladd, w_lsub, w_lmul, w_land, w_lor, w_lcmp, w_lshl, w_lshr, w_i2l, w_i2b, w_l2i, w_dupI, w_dupR, w_dup2, w_pop, w_if, w_icmp, w_goto, w_fall, w_gets, q_eq, q_ne, q_lt, q_ge, q_gt, q_le, g_I, g_L, g_R, g_V, t_0, t_I, t_R, t_U, t_L, t_s, List.getElem?_cons_zero, List.getElem?_cons_succ, Nat.reduceAdd, at_43, pu_43, w_nret r_FN_swap, and_self]
theorem sw_45 (hd : 2 ≤ d) (hc : zcats st ≤ 8) (h0 : 0 ≤ i) (h1 : i < 4) : zW (zSH Ln) d mi ((.invokestatic o, 161, b9) :: es) L (zI v :: zI i :: zR 45 :: st) M Q = zW (zSH Ln) d mi es L (zI (M 45 i) :: st) (zup M 45 i v) Q := by
  refine c_stat (vs := [zR 45, zI i, zI v]) (by omega) rfl rfl hc (Nat.le_of_ble_eq_true rfl) (r0 := some (zI (M 45 i))) ?_
  rw [zF_en k_FN_swap_0 (L := [zR 45, zI i, zI v, zU]) rfl]
  simp (disch := first | omega | exact Nat.le_of_ble_eq_true rfl) only [x_iload, x_lload, x_aload, x_istore, x_astore, x_iinc, x_getf, w_iconst, w_sipush, w_iadd, w_isub, w_imul, w_iand, w_ior, w_ixor, w_ishl, w_ishr, w_iushr, w_ladd, w_lsub, w_lmul, w_land, w_lor, w_lcmp, w_lshl, w_lshr, w_i2l, w_i2b, w_l2i, w_dupI, w_dupR, w_dup2, w_pop, w_if, w_icmp, w_goto, w_fall, w_gets, q_eq, q_ne, q_lt, q_ge, q_gt, q_le, g_I, g_L, g_R, g_V, t_0, t_I, t_R, t_U, t_L, t_s, List.getElem?_cons_zero, List.getElem?_cons_succ, Nat.reduceAdd, at_45, pu_45, w_nret r_FN_swap, and_self]
theorem sw_46 (hd : 2 ≤ d) (hc : zcats st ≤ 8) (h0 : 0 ≤ i) (h1 : i < 4) : zW (zSH Ln) d mi ((.invokestatic o, 161, b9) :: es) L (zI v :: zI i :: zR 46 :: st) M Q = zW (zSH Ln) d mi es L (zI (M 46 i) :: st) (zup M 46 i v) Q := by
  refine c_stat (vs := [zR 46, zI i, zI v]) (by omega) rfl rfl hc (Nat.le_of_ble_eq_true rfl) (r0 := some (zI (M 46 i))) ?_
  rw [zF_en k_FN_swap_0 (L := [zR 46, zI i, zI v, zU]) rfl]
  simp (disch := first | omega | exact Nat.le_of_ble_eq_true rfl) only [x_iload, x_lload, x_aload, x_istore, x_astore, x_iinc, x_getf, w_iconst, w_sipush, w_iadd, w_isub, w_imul, w_iand, w_ior, w_ixor, w_ishl, w_ishr, w_iushr, w_ladd, w_lsub, w_lmul, w_land, w_lor, w_lcmp, w_lshl, w_lshr, w_i2l, w_i2b, w_l2i, w_dupI, w_dupR, w_dup2, w_pop, w_if, w_icmp, w_goto, w_fall, w_gets, q_eq, q_ne, q_lt, q_ge, q_gt, q_le, g_I, g_L, g_R, g_V, t_0, t_I, t_R, t_U, t_L, t_s, List.getElem?_cons_zero, List.getElem?_cons_succ, Nat.reduceAdd, at_46, pu_46, w_nret r_FN_swap, and_self]
theorem sw_47 (hd : 2 ≤ d) (hc : zcats st ≤ 8) (h0 : 0 ≤ i) (h1 : i < 324) : zW (zSH Ln) d mi ((.invokestatic o, 161, b9) :: es) L (zI v :: zI i :: zR 47 :: st) M Q = zW (zSH Ln) d mi es L (zI (M 47 i) :: st) (zup M 47 i v) Q := by
  refine c_stat (vs := [zR 47, zI i, zI v]) (by omega) rfl rfl hc (Nat.le_of_ble_eq_true rfl) (r0 := some (zI (M 47 i))) ?_
  rw [zF_en k_FN_swap_0 (L := [zR 47, zI i, zI v, zU]) rfl]
  simp (disch := first | omega | exact Nat.le_of_ble_eq_true rfl) only [x_iload, x_lload, x_aload, x_istore, x_astore, x_iinc, x_getf, w_iconst, w_sipush, w_iadd, w_isub, w_imul, w_iand, w_ior, w_ixor, w_ishl, w_ishr, w_iushr, w_ladd, w_lsub, w_lmul, w_land, w_lor, w_lcmp, w_lshl, w_lshr, w_i2l, w_i2b, w_l2i, w_dupI, w_dupR, w_dup2, w_pop, w_if, w_icmp, w_goto, w_fall, w_gets, q_eq, q_ne, q_lt, q_ge, q_gt, q_le, g_I, g_L, g_R, g_V, t_0, t_I, t_R, t_U, t_L, t_s, List.getElem?_cons_zero, List.getElem?_cons_succ, Nat.reduceAdd, at_47, pu_47, w_nret r_FN_swap, and_self]
end ZY
