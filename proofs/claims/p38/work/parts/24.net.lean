/-! the net: numbers of joint moves; the class's methods on it -/
/-- how many joint moves a group has, by the first p players -/
def zcnt (m : Nat → Nat) (g : Nat → Bool) : Nat → Nat
  | 0 => 1
  | p + 1 => zcnt m g p * if g p = true then m p else 1
/-- the joint move of all that a group's and the others' make -/
def zcomb (m : Nat → Nat) (g : Nat → Bool) : Nat → Nat → Nat → Nat
  | 0, _, _ => 0
  | p + 1, a, b => if g p = true then zcomb m g p (a / m p) b * m p + a % m p else zcomb m g p a (b / m p) * m p + b % m p
/-- by the joint move of all: the group's share -/
def zshare (m : Nat → Nat) (g : Nat → Bool) : Nat → Nat → Nat
  | 0, _ => 0
  | p + 1, j => if g p = true then zshare m g p (j / m p) * m p + j % m p else zshare m g p (j / m p)
def zall1 : Nat → Bool := fun _ => true
def znot (g : Nat → Bool) : Nat → Bool := fun i => !g i
def zmOK (m : Nat → Nat) : Prop := ∀ p, 1 ≤ m p ∧ m p ≤ 3
theorem zcnt_pos {m : Nat → Nat} (hm : zmOK m) (g : Nat → Bool) : ∀ p, 1 ≤ zcnt m g p
  | 0 => by simp [zcnt]
  | p + 1 => by
    have := zcnt_pos hm g p
    unfold zcnt
    have h2 : 1 ≤ (if g p = true then m p else 1) := by split; exact (hm p).1; omega
    exact Nat.mul_pos this h2
theorem zcnt_le {m : Nat → Nat} (hm : zmOK m) (g : Nat → Bool) : ∀ p, zcnt m g p ≤ 3 ^ p
  | 0 => by simp [zcnt]
  | p + 1 => by
    have := zcnt_le hm g p
    unfold zcnt
    have h2 : (if g p = true then m p else 1) ≤ 3 := by split; exact (hm p).2; omega
    rw [Nat.pow_succ]
    exact Nat.mul_le_mul this h2
theorem z3pow {p : Nat} (h : p ≤ 4) : 3 ^ p ≤ 81 := Nat.pow_le_pow_right (n := 3) (by omega) h
theorem zcnt_81 {m : Nat → Nat} (hm : zmOK m) (g : Nat → Bool) {p : Nat} (h : p ≤ 4) : zcnt m g p ≤ 81 := Nat.le_trans (zcnt_le hm g p) (z3pow h)
theorem zdvd {a c m : Nat} (h : a < c * m) (hm : 1 ≤ m) : a / m < c := (Nat.div_lt_iff_lt_mul (by omega)).mpr h
theorem zcomb_lt {m : Nat → Nat} (hm : zmOK m) (g : Nat → Bool) : ∀ (p a b : Nat), zcomb m g p a b < zcnt m zall1 p
  | 0, _, _ => by simp [zcomb, zcnt]
  | p + 1, a, b => by
    have hmp := hm p
    unfold zcnt zcomb
    simp only [zall1, if_true]
    have key : ∀ c r : Nat, c < zcnt m zall1 p → r < m p → c * m p + r < zcnt m zall1 p * m p := by
      intro c r hc hr
      calc c * m p + r < c * m p + m p := by omega
        _ = (c + 1) * m p := by rw [Nat.add_mul, Nat.one_mul]
        _ ≤ _ := Nat.mul_le_mul_right _ hc
    split
    · exact key _ _ (zcomb_lt hm g p _ _) (Nat.mod_lt a (by omega))
    · exact key _ _ (zcomb_lt hm g p _ _) (Nat.mod_lt b (by omega))
theorem zdm {c m r : Nat} (hr : r < m) : (c * m + r) / m = c ∧ (c * m + r) % m = r := by
  have hm : 0 < m := by omega
  constructor
  · rw [Nat.mul_comm, Nat.mul_add_div hm, Nat.div_eq_of_lt hr, Nat.add_zero]
  · rw [Nat.mul_comm, Nat.mul_add_mod, Nat.mod_eq_of_lt hr]
theorem zshare_comb {m : Nat → Nat} (hm : zmOK m) (g : Nat → Bool) : ∀ (p a b : Nat), a < zcnt m g p → b < zcnt m (znot g) p → zshare m g p (zcomb m g p a b) = a ∧ zshare m (znot g) p (zcomb m g p a b) = b
  | 0, a, b, ha, hb => by
    simp only [zcnt] at ha hb
    simp only [zshare]
    omega
  | p + 1, a, b, ha, hb => by
    have hmp := hm p
    unfold zcnt at ha hb
    unfold zcomb zshare
    by_cases hg : g p = true
    · have hn : znot g p = false := by simp [znot, hg]
      simp only [hg, hn, if_true, Bool.false_eq_true, if_false, Nat.mul_one] at ha hb ⊢
      obtain ⟨e1, e2⟩ := zdm (c := zcomb m g p (a / m p) b) (Nat.mod_lt a (show 0 < m p by omega))
      obtain ⟨i1, i2⟩ := zshare_comb hm g p (a / m p) b (zdvd ha hmp.1) hb
      rw [e1, e2, i1, i2]
      exact ⟨by rw [Nat.mul_comm]; exact Nat.div_add_mod a (m p), rfl⟩
    · have hn : znot g p = true := by simpa [znot] using hg
      simp only [hg, hn, if_true, Bool.false_eq_true, if_false, Nat.mul_one] at ha hb ⊢
      obtain ⟨e1, e2⟩ := zdm (c := zcomb m g p a (b / m p)) (Nat.mod_lt b (show 0 < m p by omega))
      obtain ⟨i1, i2⟩ := zshare_comb hm g p a (b / m p) ha (zdvd hb hmp.1)
      rw [e1, e2, i1, i2]
      exact ⟨rfl, by rw [Nat.mul_comm]; exact Nat.div_add_mod b (m p)⟩
theorem zcomb_share {m : Nat → Nat} (hm : zmOK m) (g : Nat → Bool) : ∀ (p j : Nat), j < zcnt m zall1 p → zshare m g p j < zcnt m g p ∧ zcomb m g p (zshare m g p j) (zshare m (znot g) p j) = j
  | 0, j, hj => by
    simp only [zcnt] at hj
    simp only [zshare, zcnt, zcomb]
    omega
  | p + 1, j, hj => by
    have hmp := hm p
    unfold zcnt at hj
    simp only [zall1, if_true] at hj
    have hj2 : j / m p < zcnt m zall1 p := zdvd hj hmp.1
    obtain ⟨i1, i2⟩ := zcomb_share hm g p (j / m p) hj2
    have hr := Nat.mod_lt j (show 0 < m p by omega)
    unfold zshare zcomb zcnt
    by_cases hg : g p = true
    · have hn : znot g p = false := by simp [znot, hg]
      simp only [hg, hn, if_true, Bool.false_eq_true, if_false]
      obtain ⟨e1, e2⟩ := zdm (c := zshare m g p (j / m p)) hr
      rw [e1, e2, i2]
      refine ⟨?_, by rw [Nat.mul_comm]; exact Nat.div_add_mod j (m p)⟩
      calc zshare m g p (j / m p) * m p + j % m p < zshare m g p (j / m p) * m p + m p := by omega
        _ = (zshare m g p (j / m p) + 1) * m p := by rw [Nat.add_mul, Nat.one_mul]
        _ ≤ _ := Nat.mul_le_mul_right _ i1
    · have hn : znot g p = true := by simpa [znot] using hg
      simp only [hg, hn, if_true, Bool.false_eq_true, if_false, Nat.mul_one]
      obtain ⟨e1, e2⟩ := zdm (c := zshare m (znot g) p (j / m p)) hr
      rw [e1, e2, i2]
      exact ⟨i1, by rw [Nat.mul_comm]; exact Nat.div_add_mod j (m p)⟩
theorem zcnt_congr {m : Nat → Nat} {g g' : Nat → Bool} : ∀ p, (∀ i, i < p → g i = g' i) → zcnt m g p = zcnt m g' p
  | 0, _ => rfl
  | p + 1, h => by unfold zcnt; rw [zcnt_congr p (fun i hi => h i (by omega)), h p (by omega)]
/-- for all below n -/
def zfa : Nat → (Nat → Bool) → Bool
  | 0, _ => true
  | n + 1, f => zfa n f && f n
theorem zfa_iff : ∀ (n : Nat) (f : Nat → Bool), zfa n f = true ↔ ∀ i, i < n → f i = true
  | 0, f => by simp [zfa]
  | n + 1, f => by
    unfold zfa
    rw [Bool.and_eq_true, zfa_iff n f]
    constructor
    · intro h i hi
      by_cases e : i = n
      · rw [e]; exact h.2
      · exact h.1 i (by omega)
    · intro h
      exact ⟨fun i hi => h i (by omega), h n (by omega)⟩
theorem zfa_congr {n : Nat} {f f' : Nat → Bool} (h : ∀ i, i < n → f i = f' i) : zfa n f = zfa n f' := by
  induction n with
  | zero => rfl
  | succ n ih => unfold zfa; rw [ih (fun i hi => h i (by omega)), h n (by omega)]
/-- the first below n with f; n: there is none -/
def zfst : Nat → (Nat → Bool) → Nat
  | 0, _ => 0
  | n + 1, f => if zfst n f < n then zfst n f else if f n = true then n else n + 1
theorem zfst_le : ∀ (n : Nat) (f : Nat → Bool), zfst n f ≤ n
  | 0, _ => Nat.le_refl _
  | n + 1, f => by have := zfst_le n f; unfold zfst; split; omega; split <;> omega
theorem zfst_no : ∀ (n : Nat) (f : Nat → Bool) (k : Nat), k < zfst n f → f k = false
  | 0, _, k, h => by simp [zfst] at h
  | n + 1, f, k, h => by
    unfold zfst at h
    split at h
    · exact zfst_no n f k h
    · have h2 := zfst_le n f
      by_cases e : k < zfst n f
      · exact zfst_no n f k e
      · split at h
        · omega
        · next hf =>
          have : k = n := by omega
          rw [this]; simpa using hf
theorem zfst_yes : ∀ (n : Nat) (f : Nat → Bool), zfst n f < n → f (zfst n f) = true
  | 0, _, h => by simp [zfst] at h
  | n + 1, f, h => by
    unfold zfst at h ⊢
    split
    · next h1 => exact zfst_yes n f h1
    · next h1 =>
      rw [if_neg h1] at h
      split
      · next hf => exact hf
      · next hf => rw [if_neg hf] at h; omega
/-- it is the one -/
theorem zfst_is {n k : Nat} {f : Nat → Bool} (hk : k < n) (hf : f k = true) (hn : ∀ i, i < k → f i = false) : zfst n f = k := by
  have h1 := zfst_le n f
  rcases Nat.lt_trichotomy (zfst n f) k with h | h | h
  · have := zfst_yes n f (by omega)
    rw [hn _ h] at this; cases this
  · exact h
  · have := zfst_no n f k h
    rw [hf] at this; cases this
theorem zfst_none {n : Nat} {f : Nat → Bool} (hn : ∀ i, i < n → f i = false) : zfst n f = n := by
  have h1 := zfst_le n f
  by_cases h : zfst n f < n
  · have := zfst_yes n f h
    rw [hn _ h] at this; cases this
  · omega
theorem zfst_congr {n : Nat} {f f' : Nat → Bool} (h : ∀ i, i < n → f i = f' i) : zfst n f = zfst n f' := by
  induction n with
  | zero => rfl
  | succ n ih => unfold zfst; rw [ih (fun i hi => h i (by omega)), h n (by omega)]
/-- a net: bounds -/
def zNet (S P : Nat) (mv tg : Nat → Nat → Nat) : Prop := 2 ≤ S ∧ S ≤ 12 ∧ 1 ≤ P ∧ P ≤ 4 ∧ (∀ s, zmOK (mv s)) ∧ ∀ s j, s < S → j < 81 → tg s j < S
/-- the class's cells of the net -/
def zNetC (S P : Nat) (mv tg : Nat → Nat → Nat) (M : Nat → Int → Int) : Prop := M 3 0 = S ∧ M 3 1 = P ∧ (∀ s p : Nat, s < 12 → p < 4 → M 4 ((s : Int) * 4 + p) = mv s p) ∧ ∀ s j : Nat, s < 12 → j < 81 → M 7 ((s : Int) * 81 + j) = tg s j
section NC
variable {Ln S P : Nat} {mv tg : Nat → Nat → Nat} {M : Nat → Int → Int}
theorem F_Ne_hasState {d : Nat} (hC : zNetC S P mv tg M) {x : Int} (hd : 0 ≤ d) : zF (zSH Ln) d i_Ne_hasState [zR 3, zI x] M fun r M' => r = some (zI (if 0 ≤ x ∧ x < S then 1 else 0)) ∧ M' = M := by
  rw [zF_en k_Ne_hasState_0 (L := [zR 3, zI x]) rfl]
  simp only [x_iload, x_lload, x_aload, x_istore, x_astore, x_lstore, x_iinc, x_getf, w_iconst, w_sipush, w_iadd, w_isub, w_imul, w_iand, w_ior, w_ixor, w_ishl, w_ishr, w_iushr, w_ladd, w_lsub, w_lmul, w_land, w_lor, w_lcmp, w_lshl, w_lshr, w_i2l, w_i2b, w_l2i, w_dupI, w_dupR, w_dup2, w_pop, w_if, w_icmp, w_goto, w_fall, q_eq, q_ne, q_lt, q_ge, q_gt, q_le, g_I, g_L, g_R, g_V, t_0, t_I, t_R, t_U, t_L, t_s, List.getElem?_cons_zero, List.getElem?_cons_succ, Nat.reduceAdd]
  by_cases h0 : x < 0
  · rw [if_pos h0, if_neg (by omega)]
    simp only [k_Ne_hasState_3, k_Ne_hasState_4, x_iload, x_lload, x_aload, x_istore, x_astore, x_lstore, x_iinc, x_getf, w_iconst, w_sipush, w_iadd, w_isub, w_imul, w_iand, w_ior, w_ixor, w_ishl, w_ishr, w_iushr, w_ladd, w_lsub, w_lmul, w_land, w_lor, w_lcmp, w_lshl, w_lshr, w_i2l, w_i2b, w_l2i, w_dupI, w_dupR, w_dup2, w_pop, w_if, w_icmp, w_goto, w_fall, q_eq, q_ne, q_lt, q_ge, q_gt, q_le, g_I, g_L, g_R, g_V, t_0, t_I, t_R, t_U, t_L, t_s, List.getElem?_cons_zero, List.getElem?_cons_succ, Nat.reduceAdd, w_iret (y_bool _ 0 r_Ne_hasState (Or.inl rfl)), and_self]
  · rw [if_neg h0]
    simp only [k_Ne_hasState_1, x_iload, x_lload, x_aload, x_istore, x_astore, x_lstore, x_iinc, x_getf, w_iconst, w_sipush, w_iadd, w_isub, w_imul, w_iand, w_ior, w_ixor, w_ishl, w_ishr, w_iushr, w_ladd, w_lsub, w_lmul, w_land, w_lor, w_lcmp, w_lshl, w_lshr, w_i2l, w_i2b, w_l2i, w_dupI, w_dupR, w_dup2, w_pop, w_if, w_icmp, w_goto, w_fall, q_eq, q_ne, q_lt, q_ge, q_gt, q_le, g_I, g_L, g_R, g_V, t_0, t_I, t_R, t_U, t_L, t_s, List.getElem?_cons_zero, List.getElem?_cons_succ, Nat.reduceAdd, gf_3_0, hC.1]
    by_cases h1 : (S : Int) ≤ x
    · rw [if_pos h1, if_neg (by omega)]
      simp only [k_Ne_hasState_3, k_Ne_hasState_4, x_iload, x_lload, x_aload, x_istore, x_astore, x_lstore, x_iinc, x_getf, w_iconst, w_sipush, w_iadd, w_isub, w_imul, w_iand, w_ior, w_ixor, w_ishl, w_ishr, w_iushr, w_ladd, w_lsub, w_lmul, w_land, w_lor, w_lcmp, w_lshl, w_lshr, w_i2l, w_i2b, w_l2i, w_dupI, w_dupR, w_dup2, w_pop, w_if, w_icmp, w_goto, w_fall, q_eq, q_ne, q_lt, q_ge, q_gt, q_le, g_I, g_L, g_R, g_V, t_0, t_I, t_R, t_U, t_L, t_s, List.getElem?_cons_zero, List.getElem?_cons_succ, Nat.reduceAdd, w_iret (y_bool _ 0 r_Ne_hasState (Or.inl rfl)), and_self]
    · rw [if_neg h1, if_pos (by omega)]
      simp only [k_Ne_hasState_2, k_Ne_hasState_4, x_iload, x_lload, x_aload, x_istore, x_astore, x_lstore, x_iinc, x_getf, w_iconst, w_sipush, w_iadd, w_isub, w_imul, w_iand, w_ior, w_ixor, w_ishl, w_ishr, w_iushr, w_ladd, w_lsub, w_lmul, w_land, w_lor, w_lcmp, w_lshl, w_lshr, w_i2l, w_i2b, w_l2i, w_dupI, w_dupR, w_dup2, w_pop, w_if, w_icmp, w_goto, w_fall, q_eq, q_ne, q_lt, q_ge, q_gt, q_le, g_I, g_L, g_R, g_V, t_0, t_I, t_R, t_U, t_L, t_s, List.getElem?_cons_zero, List.getElem?_cons_succ, Nat.reduceAdd, w_iret (y_bool _ 1 r_Ne_hasState (Or.inr rfl)), and_self]
theorem c_Ne_hasState {d mi o b9 : Nat} {es : List zEnt} {L st : List zMV} {Q : Option zMV → (Nat → Int → Int) → Prop} (hC : zNetC S P mv tg M) {x : Int} (hd : 0 + 1 ≤ d) (hc : zcats st ≤ 8) : zW (zSH Ln) d mi ((.invokevirtual o, 30, b9) :: es) L (zI x :: zR 3 :: st) M Q = zW (zSH Ln) d mi es L (zI (if 0 ≤ x ∧ x < S then 1 else 0) :: st) (M) Q :=
  c_virt (ps := [zI x]) (by omega) rfl rfl (by omega) (by exact sh_3 Ln) hc (Nat.le_of_ble_eq_true rfl) (F_Ne_hasState hC (by omega))
theorem F_Ne_hasPlayer {d : Nat} (hC : zNetC S P mv tg M) {x : Int} (hd : 0 ≤ d) : zF (zSH Ln) d i_Ne_hasPlayer [zR 3, zI x] M fun r M' => r = some (zI (if 0 ≤ x ∧ x < P then 1 else 0)) ∧ M' = M := by
  rw [zF_en k_Ne_hasPlayer_0 (L := [zR 3, zI x]) rfl]
  simp only [x_iload, x_lload, x_aload, x_istore, x_astore, x_lstore, x_iinc, x_getf, w_iconst, w_sipush, w_iadd, w_isub, w_imul, w_iand, w_ior, w_ixor, w_ishl, w_ishr, w_iushr, w_ladd, w_lsub, w_lmul, w_land, w_lor, w_lcmp, w_lshl, w_lshr, w_i2l, w_i2b, w_l2i, w_dupI, w_dupR, w_dup2, w_pop, w_if, w_icmp, w_goto, w_fall, q_eq, q_ne, q_lt, q_ge, q_gt, q_le, g_I, g_L, g_R, g_V, t_0, t_I, t_R, t_U, t_L, t_s, List.getElem?_cons_zero, List.getElem?_cons_succ, Nat.reduceAdd]
  by_cases h0 : x < 0
  · rw [if_pos h0, if_neg (by omega)]
    simp only [k_Ne_hasPlayer_3, k_Ne_hasPlayer_4, x_iload, x_lload, x_aload, x_istore, x_astore, x_lstore, x_iinc, x_getf, w_iconst, w_sipush, w_iadd, w_isub, w_imul, w_iand, w_ior, w_ixor, w_ishl, w_ishr, w_iushr, w_ladd, w_lsub, w_lmul, w_land, w_lor, w_lcmp, w_lshl, w_lshr, w_i2l, w_i2b, w_l2i, w_dupI, w_dupR, w_dup2, w_pop, w_if, w_icmp, w_goto, w_fall, q_eq, q_ne, q_lt, q_ge, q_gt, q_le, g_I, g_L, g_R, g_V, t_0, t_I, t_R, t_U, t_L, t_s, List.getElem?_cons_zero, List.getElem?_cons_succ, Nat.reduceAdd, w_iret (y_bool _ 0 r_Ne_hasPlayer (Or.inl rfl)), and_self]
  · rw [if_neg h0]
    simp only [k_Ne_hasPlayer_1, x_iload, x_lload, x_aload, x_istore, x_astore, x_lstore, x_iinc, x_getf, w_iconst, w_sipush, w_iadd, w_isub, w_imul, w_iand, w_ior, w_ixor, w_ishl, w_ishr, w_iushr, w_ladd, w_lsub, w_lmul, w_land, w_lor, w_lcmp, w_lshl, w_lshr, w_i2l, w_i2b, w_l2i, w_dupI, w_dupR, w_dup2, w_pop, w_if, w_icmp, w_goto, w_fall, q_eq, q_ne, q_lt, q_ge, q_gt, q_le, g_I, g_L, g_R, g_V, t_0, t_I, t_R, t_U, t_L, t_s, List.getElem?_cons_zero, List.getElem?_cons_succ, Nat.reduceAdd, gf_3_1, hC.2.1]
    by_cases h1 : (P : Int) ≤ x
    · rw [if_pos h1, if_neg (by omega)]
      simp only [k_Ne_hasPlayer_3, k_Ne_hasPlayer_4, x_iload, x_lload, x_aload, x_istore, x_astore, x_lstore, x_iinc, x_getf, w_iconst, w_sipush, w_iadd, w_isub, w_imul, w_iand, w_ior, w_ixor, w_ishl, w_ishr, w_iushr, w_ladd, w_lsub, w_lmul, w_land, w_lor, w_lcmp, w_lshl, w_lshr, w_i2l, w_i2b, w_l2i, w_dupI, w_dupR, w_dup2, w_pop, w_if, w_icmp, w_goto, w_fall, q_eq, q_ne, q_lt, q_ge, q_gt, q_le, g_I, g_L, g_R, g_V, t_0, t_I, t_R, t_U, t_L, t_s, List.getElem?_cons_zero, List.getElem?_cons_succ, Nat.reduceAdd, w_iret (y_bool _ 0 r_Ne_hasPlayer (Or.inl rfl)), and_self]
    · rw [if_neg h1, if_pos (by omega)]
      simp only [k_Ne_hasPlayer_2, k_Ne_hasPlayer_4, x_iload, x_lload, x_aload, x_istore, x_astore, x_lstore, x_iinc, x_getf, w_iconst, w_sipush, w_iadd, w_isub, w_imul, w_iand, w_ior, w_ixor, w_ishl, w_ishr, w_iushr, w_ladd, w_lsub, w_lmul, w_land, w_lor, w_lcmp, w_lshl, w_lshr, w_i2l, w_i2b, w_l2i, w_dupI, w_dupR, w_dup2, w_pop, w_if, w_icmp, w_goto, w_fall, q_eq, q_ne, q_lt, q_ge, q_gt, q_le, g_I, g_L, g_R, g_V, t_0, t_I, t_R, t_U, t_L, t_s, List.getElem?_cons_zero, List.getElem?_cons_succ, Nat.reduceAdd, w_iret (y_bool _ 1 r_Ne_hasPlayer (Or.inr rfl)), and_self]
theorem c_Ne_hasPlayer {d mi o b9 : Nat} {es : List zEnt} {L st : List zMV} {Q : Option zMV → (Nat → Int → Int) → Prop} (hC : zNetC S P mv tg M) {x : Int} (hd : 0 + 1 ≤ d) (hc : zcats st ≤ 8) : zW (zSH Ln) d mi ((.invokevirtual o, 31, b9) :: es) L (zI x :: zR 3 :: st) M Q = zW (zSH Ln) d mi es L (zI (if 0 ≤ x ∧ x < P then 1 else 0) :: st) (M) Q :=
  c_virt (ps := [zI x]) (by omega) rfl rfl (by omega) (by exact sh_3 Ln) hc (Nat.le_of_ble_eq_true rfl) (F_Ne_hasPlayer hC (by omega))
theorem zev {n : Nat} (hn : n ≤ 30) : zsub (zshl 1 (n : Int)) 1 = zset n fun _ => true := by
  have := zpow_in hn
  rw [zshl_1 hn, zset_all, zsub_eq (by have := this.1; have h2 := Nat.two_pow_pos n; omega) (by have := this.2; omega)]
theorem F_Ne_everyone {d : Nat} (hN : zNet S P mv tg) (hC : zNetC S P mv tg M) (hd : 0 ≤ d) : zF (zSH Ln) d i_Ne_everyone [zR 3] M fun r M' => r = some (zI (zset P fun _ => true)) ∧ M' = M := by
  rw [zF_en k_Ne_everyone_0 (L := [zR 3]) rfl]
  have := hN.2.2.2.1
  simp only [x_iload, x_lload, x_aload, x_istore, x_astore, x_lstore, x_iinc, x_getf, w_iconst, w_sipush, w_iadd, w_isub, w_imul, w_iand, w_ior, w_ixor, w_ishl, w_ishr, w_iushr, w_ladd, w_lsub, w_lmul, w_land, w_lor, w_lcmp, w_lshl, w_lshr, w_i2l, w_i2b, w_l2i, w_dupI, w_dupR, w_dup2, w_pop, w_if, w_icmp, w_goto, w_fall, q_eq, q_ne, q_lt, q_ge, q_gt, q_le, g_I, g_L, g_R, g_V, t_0, t_I, t_R, t_U, t_L, t_s, List.getElem?_cons_zero, List.getElem?_cons_succ, Nat.reduceAdd, gf_3_1, hC.2.1, zev (show P ≤ 30 by omega), w_iret (y_int _ _ r_Ne_everyone), and_self]
theorem c_Ne_everyone {d mi o b9 : Nat} {es : List zEnt} {L st : List zMV} {Q : Option zMV → (Nat → Int → Int) → Prop} (hN : zNet S P mv tg) (hC : zNetC S P mv tg M) (hd : 0 + 1 ≤ d) (hc : zcats st ≤ 8) : zW (zSH Ln) d mi ((.invokevirtual o, 35, b9) :: es) L (zR 3 :: st) M Q = zW (zSH Ln) d mi es L (zI (zset P fun _ => true) :: st) (M) Q :=
  c_virt (ps := []) (by omega) rfl rfl (by omega) (by exact sh_3 Ln) hc (Nat.le_of_ble_eq_true rfl) (F_Ne_everyone hN hC (by omega))
theorem F_Ne_everywhere {d : Nat} (hN : zNet S P mv tg) (hC : zNetC S P mv tg M) (hd : 0 ≤ d) : zF (zSH Ln) d i_Ne_everywhere [zR 3] M fun r M' => r = some (zI (zset S fun _ => true)) ∧ M' = M := by
  rw [zF_en k_Ne_everywhere_0 (L := [zR 3]) rfl]
  have := hN.2.1
  simp only [x_iload, x_lload, x_aload, x_istore, x_astore, x_lstore, x_iinc, x_getf, w_iconst, w_sipush, w_iadd, w_isub, w_imul, w_iand, w_ior, w_ixor, w_ishl, w_ishr, w_iushr, w_ladd, w_lsub, w_lmul, w_land, w_lor, w_lcmp, w_lshl, w_lshr, w_i2l, w_i2b, w_l2i, w_dupI, w_dupR, w_dup2, w_pop, w_if, w_icmp, w_goto, w_fall, q_eq, q_ne, q_lt, q_ge, q_gt, q_le, g_I, g_L, g_R, g_V, t_0, t_I, t_R, t_U, t_L, t_s, List.getElem?_cons_zero, List.getElem?_cons_succ, Nat.reduceAdd, gf_3_0, hC.1, zev (show S ≤ 30 by omega), w_iret (y_int _ _ r_Ne_everywhere), and_self]
theorem c_Ne_everywhere {d mi o b9 : Nat} {es : List zEnt} {L st : List zMV} {Q : Option zMV → (Nat → Int → Int) → Prop} (hN : zNet S P mv tg) (hC : zNetC S P mv tg M) (hd : 0 + 1 ≤ d) (hc : zcats st ≤ 8) : zW (zSH Ln) d mi ((.invokevirtual o, 36, b9) :: es) L (zR 3 :: st) M Q = zW (zSH Ln) d mi es L (zI (zset S fun _ => true) :: st) (M) Q :=
  c_virt (ps := []) (by omega) rfl rfl (by omega) (by exact sh_3 Ln) hc (Nat.le_of_ble_eq_true rfl) (F_Ne_everywhere hN hC (by omega))
theorem F_Ne_movesOf {d : Nat} (hC : zNetC S P mv tg M) {s p : Nat} (hs : s < 12) (hp : p < 4) (hd : 1 ≤ d) : zF (zSH Ln) d i_Ne_movesOf [zR 3, zI (s : Int), zI (p : Int)] M fun r M' => r = some (zI (mv s p : Int)) ∧ M' = M := by
  rw [zF_en k_Ne_movesOf_0 (L := [zR 3, zI (s : Int), zI (p : Int)]) rfl]
  simp (disch := first | omega | exact Nat.le_of_ble_eq_true rfl | assumption) only [x_iload, x_lload, x_aload, x_istore, x_astore, x_lstore, x_iinc, x_getf, w_iconst, w_sipush, w_iadd, w_isub, w_imul, w_iand, w_ior, w_ixor, w_ishl, w_ishr, w_iushr, w_ladd, w_lsub, w_lmul, w_land, w_lor, w_lcmp, w_lshl, w_lshr, w_i2l, w_i2b, w_l2i, w_dupI, w_dupR, w_dup2, w_pop, w_if, w_icmp, w_goto, w_fall, q_eq, q_ne, q_lt, q_ge, q_gt, q_le, g_I, g_L, g_R, g_V, t_0, t_I, t_R, t_U, t_L, t_s, List.getElem?_cons_zero, List.getElem?_cons_succ, Nat.reduceAdd, gf_3_3, zmul_eq, zadd_eq, at_4, hC.2.2.1 s p hs hp, w_iret (y_int _ _ r_Ne_movesOf), and_self]
theorem c_Ne_movesOf {d mi o b9 : Nat} {es : List zEnt} {L st : List zMV} {Q : Option zMV → (Nat → Int → Int) → Prop} (hC : zNetC S P mv tg M) {s p : Nat} (hs : s < 12) (hp : p < 4) (hd : 1 + 1 ≤ d) (hc : zcats st ≤ 8) : zW (zSH Ln) d mi ((.invokevirtual o, 37, b9) :: es) L (zI (p : Int) :: zI (s : Int) :: zR 3 :: st) M Q = zW (zSH Ln) d mi es L (zI (mv s p : Int) :: st) (M) Q :=
  c_virt (ps := [zI (s : Int), zI (p : Int)]) (by omega) rfl rfl (by omega) (by exact sh_3 Ln) hc (Nat.le_of_ble_eq_true rfl) (F_Ne_movesOf hC hs hp (by omega))
theorem F_Ne_target {d : Nat} (hC : zNetC S P mv tg M) {s j : Nat} (hs : s < 12) (hj : j < 81) (hd : 1 ≤ d) : zF (zSH Ln) d i_Ne_target [zR 3, zI (s : Int), zI (j : Int)] M fun r M' => r = some (zI (tg s j : Int)) ∧ M' = M := by
  rw [zF_en k_Ne_target_0 (L := [zR 3, zI (s : Int), zI (j : Int)]) rfl]
  simp (disch := first | omega | exact Nat.le_of_ble_eq_true rfl | assumption) only [x_iload, x_lload, x_aload, x_istore, x_astore, x_lstore, x_iinc, x_getf, w_iconst, w_sipush, w_iadd, w_isub, w_imul, w_iand, w_ior, w_ixor, w_ishl, w_ishr, w_iushr, w_ladd, w_lsub, w_lmul, w_land, w_lor, w_lcmp, w_lshl, w_lshr, w_i2l, w_i2b, w_l2i, w_dupI, w_dupR, w_dup2, w_pop, w_if, w_icmp, w_goto, w_fall, q_eq, q_ne, q_lt, q_ge, q_gt, q_le, g_I, g_L, g_R, g_V, t_0, t_I, t_R, t_U, t_L, t_s, List.getElem?_cons_zero, List.getElem?_cons_succ, Nat.reduceAdd, gf_3_6, zmul_eq, zadd_eq, at_7, hC.2.2.2 s j hs hj, w_iret (y_int _ _ r_Ne_target), and_self]
theorem c_Ne_target {d mi o b9 : Nat} {es : List zEnt} {L st : List zMV} {Q : Option zMV → (Nat → Int → Int) → Prop} (hC : zNetC S P mv tg M) {s j : Nat} (hs : s < 12) (hj : j < 81) (hd : 1 + 1 ≤ d) (hc : zcats st ≤ 8) : zW (zSH Ln) d mi ((.invokevirtual o, 38, b9) :: es) L (zI (j : Int) :: zI (s : Int) :: zR 3 :: st) M Q = zW (zSH Ln) d mi es L (zI (tg s j : Int) :: st) (M) Q :=
  c_virt (ps := [zI (s : Int), zI (j : Int)]) (by omega) rfl rfl (by omega) (by exact sh_3 Ln) hc (Nat.le_of_ble_eq_true rfl) (F_Ne_target hC hs hj (by omega))
theorem F_Ne_ways {d : Nat} (hN : zNet S P mv tg) (hC : zNetC S P mv tg M) {s : Nat} {g : Int} (hs : s < 12) (hd : 2 ≤ d) : zF (zSH Ln) d i_Ne_ways [zR 3, zI (s : Int), zI g] M fun r M' => r = some (zI (zcnt (mv s) (zbit g) P : Int)) ∧ M' = M := by
  rw [zF_en k_Ne_ways_0 (L := [zR 3, zI (s : Int), zI g, zU, zU]) rfl]
  have hP4 := hN.2.2.2.1
  have hm := hN.2.2.2.2.1 s
  have loop : ∀ k p : Nat, p + k = P → zW (zSH Ln) d i_Ne_ways (zblk 43 1) [zR 3, zI s, zI g, zI (zcnt (mv s) (zbit g) p : Int), zI (p : Int)] [] M fun r M' => r = some (zI (zcnt (mv s) (zbit g) P : Int)) ∧ M' = M := by
    intro k
    induction k with
    | zero =>
      intro p hp
      have : p = P := by omega
      subst this
      simp only [k_Ne_ways_1, x_iload, x_lload, x_aload, x_istore, x_astore, x_lstore, x_iinc, x_getf, w_iconst, w_sipush, w_iadd, w_isub, w_imul, w_iand, w_ior, w_ixor, w_ishl, w_ishr, w_iushr, w_ladd, w_lsub, w_lmul, w_land, w_lor, w_lcmp, w_lshl, w_lshr, w_i2l, w_i2b, w_l2i, w_dupI, w_dupR, w_dup2, w_pop, w_if, w_icmp, w_goto, w_fall, q_eq, q_ne, q_lt, q_ge, q_gt, q_le, g_I, g_L, g_R, g_V, t_0, t_I, t_R, t_U, t_L, t_s, List.getElem?_cons_zero, List.getElem?_cons_succ, Nat.reduceAdd, gf_3_1, hC.2.1]
      rw [if_pos (by omega)]
      simp only [k_Ne_ways_5, x_iload, x_lload, x_aload, x_istore, x_astore, x_lstore, x_iinc, x_getf, w_iconst, w_sipush, w_iadd, w_isub, w_imul, w_iand, w_ior, w_ixor, w_ishl, w_ishr, w_iushr, w_ladd, w_lsub, w_lmul, w_land, w_lor, w_lcmp, w_lshl, w_lshr, w_i2l, w_i2b, w_l2i, w_dupI, w_dupR, w_dup2, w_pop, w_if, w_icmp, w_goto, w_fall, q_eq, q_ne, q_lt, q_ge, q_gt, q_le, g_I, g_L, g_R, g_V, t_0, t_I, t_R, t_U, t_L, t_s, List.getElem?_cons_zero, List.getElem?_cons_succ, Nat.reduceAdd, w_iret (y_int _ _ r_Ne_ways), and_self]
    | succ k ih =>
      intro p hp
      simp only [k_Ne_ways_1, x_iload, x_lload, x_aload, x_istore, x_astore, x_lstore, x_iinc, x_getf, w_iconst, w_sipush, w_iadd, w_isub, w_imul, w_iand, w_ior, w_ixor, w_ishl, w_ishr, w_iushr, w_ladd, w_lsub, w_lmul, w_land, w_lor, w_lcmp, w_lshl, w_lshr, w_i2l, w_i2b, w_l2i, w_dupI, w_dupR, w_dup2, w_pop, w_if, w_icmp, w_goto, w_fall, q_eq, q_ne, q_lt, q_ge, q_gt, q_le, g_I, g_L, g_R, g_V, t_0, t_I, t_R, t_U, t_L, t_s, List.getElem?_cons_zero, List.getElem?_cons_succ, Nat.reduceAdd, gf_3_1, hC.2.1]
      rw [if_neg (by omega)]
      simp (disch := first | omega | exact Nat.le_of_ble_eq_true rfl | assumption) only [k_Ne_ways_2, x_iload, x_lload, x_aload, x_istore, x_astore, x_lstore, x_iinc, x_getf, w_iconst, w_sipush, w_iadd, w_isub, w_imul, w_iand, w_ior, w_ixor, w_ishl, w_ishr, w_iushr, w_ladd, w_lsub, w_lmul, w_land, w_lor, w_lcmp, w_lshl, w_lshr, w_i2l, w_i2b, w_l2i, w_dupI, w_dupR, w_dup2, w_pop, w_if, w_icmp, w_goto, w_fall, q_eq, q_ne, q_lt, q_ge, q_gt, q_le, g_I, g_L, g_R, g_V, t_0, t_I, t_R, t_U, t_L, t_s, List.getElem?_cons_zero, List.getElem?_cons_succ, Nat.reduceAdd, c_has, zif10]
      have hb := zcnt_81 hm (zbit g) (show p ≤ 4 by omega)
      have hmp := hm p
      have hmul : zcnt (mv s) (zbit g) p * mv s p ≤ 81 * 3 := Nat.mul_le_mul hb hmp.2
      have ih := ih (p + 1) (by omega)
      by_cases hg : zbit g p = true
      · rw [if_neg (by rw [hg]; decide)]
        simp (disch := first | omega | exact Nat.le_of_ble_eq_true rfl | assumption) only [k_Ne_ways_3, k_Ne_ways_4, x_iload, x_lload, x_aload, x_istore, x_astore, x_lstore, x_iinc, x_getf, w_iconst, w_sipush, w_iadd, w_isub, w_imul, w_iand, w_ior, w_ixor, w_ishl, w_ishr, w_iushr, w_ladd, w_lsub, w_lmul, w_land, w_lor, w_lcmp, w_lshl, w_lshr, w_i2l, w_i2b, w_l2i, w_dupI, w_dupR, w_dup2, w_pop, w_if, w_icmp, w_goto, w_fall, q_eq, q_ne, q_lt, q_ge, q_gt, q_le, g_I, g_L, g_R, g_V, t_0, t_I, t_R, t_U, t_L, t_s, List.getElem?_cons_zero, List.getElem?_cons_succ, Nat.reduceAdd, c_Ne_movesOf hC, zmul_nat (show zcnt (mv s) (zbit g) p * mv s p < 2147483648 by omega), zadd_eq]
        simp only [zcnt, if_pos hg] at ih
        exact ih
      · rw [if_pos (by simpa using hg)]
        simp (disch := first | omega | exact Nat.le_of_ble_eq_true rfl | assumption) only [k_Ne_ways_4, x_iload, x_lload, x_aload, x_istore, x_astore, x_lstore, x_iinc, x_getf, w_iconst, w_sipush, w_iadd, w_isub, w_imul, w_iand, w_ior, w_ixor, w_ishl, w_ishr, w_iushr, w_ladd, w_lsub, w_lmul, w_land, w_lor, w_lcmp, w_lshl, w_lshr, w_i2l, w_i2b, w_l2i, w_dupI, w_dupR, w_dup2, w_pop, w_if, w_icmp, w_goto, w_fall, q_eq, q_ne, q_lt, q_ge, q_gt, q_le, g_I, g_L, g_R, g_V, t_0, t_I, t_R, t_U, t_L, t_s, List.getElem?_cons_zero, List.getElem?_cons_succ, Nat.reduceAdd, zadd_eq]
        simp only [zcnt, if_neg hg, Nat.mul_one] at ih
        exact ih
  simp only [x_iload, x_lload, x_aload, x_istore, x_astore, x_lstore, x_iinc, x_getf, w_iconst, w_sipush, w_iadd, w_isub, w_imul, w_iand, w_ior, w_ixor, w_ishl, w_ishr, w_iushr, w_ladd, w_lsub, w_lmul, w_land, w_lor, w_lcmp, w_lshl, w_lshr, w_i2l, w_i2b, w_l2i, w_dupI, w_dupR, w_dup2, w_pop, w_if, w_icmp, w_goto, w_fall, q_eq, q_ne, q_lt, q_ge, q_gt, q_le, g_I, g_L, g_R, g_V, t_0, t_I, t_R, t_U, t_L, t_s, List.getElem?_cons_zero, List.getElem?_cons_succ, Nat.reduceAdd]
  exact loop P 0 (by omega)
theorem c_Ne_ways {d mi o b9 : Nat} {es : List zEnt} {L st : List zMV} {Q : Option zMV → (Nat → Int → Int) → Prop} (hN : zNet S P mv tg) (hC : zNetC S P mv tg M) {s : Nat} {g : Int} (hs : s < 12) (hd : 2 + 1 ≤ d) (hc : zcats st ≤ 8) : zW (zSH Ln) d mi ((.invokevirtual o, 43, b9) :: es) L (zI g :: zI (s : Int) :: zR 3 :: st) M Q = zW (zSH Ln) d mi es L (zI (zcnt (mv s) (zbit g) P : Int) :: st) (M) Q :=
  c_virt (ps := [zI (s : Int), zI g]) (by omega) rfl rfl (by omega) (by exact sh_3 Ln) hc (Nat.le_of_ble_eq_true rfl) (F_Ne_ways hN hC hs (by omega))
end NC
