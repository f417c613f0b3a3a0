/-! runs of the small machine, said by what comes of them -/
def zW (S : List zSh) (d mi : Nat) (es : List zEnt) (L st : List zMV) (M : Nat → Int → Int) (Q : Option zMV → (Nat → Int → Int) → Prop) : Prop := ∃ (n : Nat) (r : Option zMV) (M' : Nat → Int → Int), zrun n d mi es L st (S, M) = some (r, (S, M')) ∧ Q r M'
def zF (S : List zSh) (d mi : Nat) (vs : List zMV) (M : Nat → Int → Int) (Q : Option zMV → (Nat → Int → Int) → Prop) : Prop := zW S d mi (zblk mi 0) (zlocs vs (zmL mi)) [] M Q
theorem zrun_up : ∀ (n d mi : Nat) (es : List zEnt) (L st : List zMV) (w : zWd) (x : Option zMV × zWd), zrun n d mi es L st w = some x → ∀ n' d', n ≤ n' → d ≤ d' → zrun n' d' mi es L st w = some x
  | 0, _, _, _, _, _, _, _, h => by cases h
  | _ + 1, _, _, [], _, _, _, _, h => by cases h
  | n + 1, d, mi, e :: es, L, st, w, x, h => by
    intro n' d' hn hd
    obtain ⟨n', rfl⟩ : ∃ k, n' = k + 1 := ⟨n' - 1, by omega⟩
    rw [zrun_eq] at h ⊢
    have hn2 : n ≤ n' := by omega
    by_cases hc : zisC e.1 = false
    · rw [zrun_nx hc] at h ⊢
      split at h
      · next hx => exact zrun_up n d mi _ _ _ _ _ h n' d' hn2 hd
      · next hx => exact zrun_up n d mi _ _ _ _ _ h n' d' hn2 hd
      · cases h
    · have call : ∀ {m2 : Nat} {vs rest : List zMV}, zcall (zrun n) d mi m2 es L vs rest w = some x → zcall (zrun n') d' mi m2 es L vs rest w = some x := by
        intro m2 vs rest hm
        obtain ⟨d1, v, w2, rfl, h1, h2, h3, h4⟩ := zcall_inv hm
        obtain ⟨d', rfl⟩ : ∃ k, d' = k + 1 := ⟨d' - 1, by omega⟩
        unfold zcall
        dsimp only
        rw [if_pos ⟨h1, h2⟩, zrun_up n d1 m2 _ _ _ _ _ h3 n' d' hn2 (by omega)]
        exact zrun_up n (d1 + 1) mi _ _ _ _ _ h4 n' (d' + 1) hn2 hd
      unfold zbody at h ⊢
      split at h
      · split at h
        · next hq => rw [if_pos hq]; exact call h
        · cases h
      · split at h
        · next hq => rw [if_pos hq]; exact call h
        · cases h
      · exact h
      · exact h
      · exact h
      · next h1 h2 h3 h4 h5 =>
        refine absurd ?_ hc
        cases he : e.1 <;> first
          | rfl
          | exact absurd he (h1 _)
          | exact absurd he (h2 _)
          | exact absurd he h3
          | exact absurd he h4
          | exact absurd he h5
theorem zrun_det {n d n' d' mi : Nat} {es : List zEnt} {L st : List zMV} {w : zWd} {x y : Option zMV × zWd} (h : zrun n d mi es L st w = some x) (h' : zrun n' d' mi es L st w = some y) : x = y := by
  have h1 := zrun_up _ _ _ _ _ _ _ _ h (max n n') (max d d') (by omega) (by omega)
  have h2 := zrun_up _ _ _ _ _ _ _ _ h' (max n n') (max d d') (by omega) (by omega)
  rw [h1] at h2
  exact Option.some.inj h2
section ZX
variable {S : List zSh} {d mi : Nat} {e : zEnt} {es : List zEnt} {L st : List zMV} {M : Nat → Int → Int} {Q : Option zMV → (Nat → Int → Int) → Prop}
theorem zW_mono {Q' : Option zMV → (Nat → Int → Int) → Prop} (h : zW S d mi es L st M Q) (hQ : ∀ r M', Q r M' → Q' r M') : zW S d mi es L st M Q' := by
  obtain ⟨n, r, M', h1, h2⟩ := h
  exact ⟨n, r, M', h1, hQ r M' h2⟩
theorem zW_d {d' : Nat} (h : zW S d mi es L st M Q) (hd : d ≤ d') : zW S d' mi es L st M Q := by
  obtain ⟨n, r, M', h1, h2⟩ := h
  exact ⟨n, r, M', zrun_up _ _ _ _ _ _ _ _ h1 n d' (Nat.le_refl _) hd, h2⟩
/-- one instruction -/
theorem zW_nx (hc : zisC e.1 = false) {L' st' : List zMV} {M1 : Nat → Int → Int} (h : znxt e L st (S, M) = some (none, L', st', (S, M1))) : zW S d mi (e :: es) L st M Q = zW S d mi es L' st' M1 Q := by
  apply propext
  constructor
  · rintro ⟨n, r, M', h1, h2⟩
    cases n with
    | zero => cases h1
    | succ n =>
      rw [zrun_eq, zrun_nx hc, h] at h1
      exact ⟨n, r, M', h1, h2⟩
  · rintro ⟨n, r, M', h1, h2⟩
    exact ⟨n + 1, r, M', by rw [zrun_eq, zrun_nx hc, h]; exact h1, h2⟩
theorem zW_jp (hc : zisC e.1 = false) {L' st' : List zMV} {b : Nat} (h : znxt e L st (S, M) = some (some b, L', st', (S, M))) : zW S d mi (e :: es) L st M Q = zW S d mi (zblk mi b) L' st' M Q := by
  apply propext
  constructor
  · rintro ⟨n, r, M', h1, h2⟩
    cases n with
    | zero => cases h1
    | succ n =>
      rw [zrun_eq, zrun_nx hc, h] at h1
      exact ⟨n, r, M', h1, h2⟩
  · rintro ⟨n, r, M', h1, h2⟩
    exact ⟨n + 1, r, M', by rw [zrun_eq, zrun_nx hc, h]; exact h1, h2⟩
variable {a b : Nat}
theorem w_iconst {v : Int} : zW S d mi ((.iconst v, a, b) :: es) L st M Q = zW S d mi es L (zI v :: st) M Q := zW_nx rfl rfl
theorem w_sipush {v : Int} : zW S d mi ((.sipush v, a, b) :: es) L st M Q = zW S d mi es L (zL v :: st) M Q := zW_nx rfl rfl
theorem w_iload {j : Nat} {x : Int} (h : L[j]? = some (zI x)) : zW S d mi ((.iload j, a, b) :: es) L st M Q = zW S d mi es L (zI x :: st) M Q := zW_nx rfl (by simp only [znxt, h]; rfl)
theorem w_lload {j : Nat} {x : Int} (h : L[j]? = some (zL x)) : zW S d mi ((.lload j, a, b) :: es) L st M Q = zW S d mi es L (zL x :: st) M Q := zW_nx rfl (by simp only [znxt, h]; rfl)
theorem w_aload {j k : Nat} (h : L[j]? = some (zR k)) : zW S d mi ((.aload j, a, b) :: es) L st M Q = zW S d mi es L (zR k :: st) M Q := zW_nx rfl (by simp only [znxt, h]; rfl)
theorem w_istore {j : Nat} {x : Int} {L' : List zMV} (h : zset1 L j (zI x) = L') (hj : j < L.length) : zW S d mi ((.istore j, a, b) :: es) L (zI x :: st) M Q = zW S d mi es L' st M Q := zW_nx rfl (by simp only [znxt, if_pos hj, h]; rfl)
theorem w_astore {j k : Nat} {L' : List zMV} (h : zset1 L j (zR k) = L') (hj : j < L.length) : zW S d mi ((.astore j, a, b) :: es) L (zR k :: st) M Q = zW S d mi es L' st M Q := zW_nx rfl (by simp only [znxt, if_pos hj, h]; rfl)
theorem w_lstore {j : Nat} {x : Int} {L' : List zMV} (h : zset2 L j (zL x) = L') (hj : j + 1 < L.length) : zW S d mi ((.lstore j, a, b) :: es) L (zL x :: st) M Q = zW S d mi es L' st M Q := zW_nx rfl (by simp only [znxt, if_pos hj, h]; rfl)
theorem w_iinc {j : Nat} {x n : Int} {L' : List zMV} (h0 : L[j]? = some (zI x)) (h : zset1 L j (zI (zadd x n)) = L') (hj : j < L.length) : zW S d mi ((.iinc j n, a, b) :: es) L st M Q = zW S d mi es L' st M Q := zW_nx rfl (by simp only [znxt, h0, if_pos hj, h]; rfl)
theorem w_iadd {x y : Int} : zW S d mi ((.iadd, a, b) :: es) L (zI y :: zI x :: st) M Q = zW S d mi es L (zI (zadd x y) :: st) M Q := zW_nx rfl rfl
theorem w_isub {x y : Int} : zW S d mi ((.isub, a, b) :: es) L (zI y :: zI x :: st) M Q = zW S d mi es L (zI (zsub x y) :: st) M Q := zW_nx rfl rfl
theorem w_imul {x y : Int} : zW S d mi ((.imul, a, b) :: es) L (zI y :: zI x :: st) M Q = zW S d mi es L (zI (zmul x y) :: st) M Q := zW_nx rfl rfl
theorem w_iand {x y : Int} : zW S d mi ((.iand, a, b) :: es) L (zI y :: zI x :: st) M Q = zW S d mi es L (zI (zand x y) :: st) M Q := zW_nx rfl rfl
theorem w_ior {x y : Int} : zW S d mi ((.ior, a, b) :: es) L (zI y :: zI x :: st) M Q = zW S d mi es L (zI (zor x y) :: st) M Q := zW_nx rfl rfl
theorem w_ixor {x y : Int} : zW S d mi ((.ixor, a, b) :: es) L (zI y :: zI x :: st) M Q = zW S d mi es L (zI (zxor x y) :: st) M Q := zW_nx rfl rfl
theorem w_ishl {x y : Int} : zW S d mi ((.ishl, a, b) :: es) L (zI y :: zI x :: st) M Q = zW S d mi es L (zI (zshl x y) :: st) M Q := zW_nx rfl rfl
theorem w_ishr {x y : Int} : zW S d mi ((.ishr, a, b) :: es) L (zI y :: zI x :: st) M Q = zW S d mi es L (zI (zshr x y) :: st) M Q := zW_nx rfl rfl
theorem w_iushr {x y : Int} : zW S d mi ((.iushr, a, b) :: es) L (zI y :: zI x :: st) M Q = zW S d mi es L (zI (zushr x y) :: st) M Q := zW_nx rfl rfl
theorem w_idiv {x y : Int} (h : y ≠ 0) : zW S d mi ((.idiv, a, b) :: es) L (zI y :: zI x :: st) M Q = zW S d mi es L (zI (zdiv x y) :: st) M Q := zW_nx rfl (by simp only [znxt, zii, if_neg h]; rfl)
theorem w_irem {x y : Int} (h : y ≠ 0) : zW S d mi ((.irem, a, b) :: es) L (zI y :: zI x :: st) M Q = zW S d mi es L (zI (zrem x y) :: st) M Q := zW_nx rfl (by simp only [znxt, zii, if_neg h]; rfl)
theorem w_ladd {x y : Int} : zW S d mi ((.ladd, a, b) :: es) L (zL y :: zL x :: st) M Q = zW S d mi es L (zL (zladd x y) :: st) M Q := zW_nx rfl rfl
theorem w_lsub {x y : Int} : zW S d mi ((.lsub, a, b) :: es) L (zL y :: zL x :: st) M Q = zW S d mi es L (zL (zlsub x y) :: st) M Q := zW_nx rfl rfl
theorem w_lmul {x y : Int} : zW S d mi ((.lmul, a, b) :: es) L (zL y :: zL x :: st) M Q = zW S d mi es L (zL (zlmul x y) :: st) M Q := zW_nx rfl rfl
theorem w_ldiv {x y : Int} (h : y ≠ 0) : zW S d mi ((.ldiv, a, b) :: es) L (zL y :: zL x :: st) M Q = zW S d mi es L (zL (zldiv x y) :: st) M Q := zW_nx rfl (by simp only [znxt, zll, if_neg h]; rfl)
theorem w_lrem {x y : Int} (h : y ≠ 0) : zW S d mi ((.lrem, a, b) :: es) L (zL y :: zL x :: st) M Q = zW S d mi es L (zL (zlrem x y) :: st) M Q := zW_nx rfl (by simp only [znxt, zll, if_neg h]; rfl)
theorem w_land {x y : Int} : zW S d mi ((.land, a, b) :: es) L (zL y :: zL x :: st) M Q = zW S d mi es L (zL (zland x y) :: st) M Q := zW_nx rfl rfl
theorem w_lor {x y : Int} : zW S d mi ((.lor, a, b) :: es) L (zL y :: zL x :: st) M Q = zW S d mi es L (zL (zlor x y) :: st) M Q := zW_nx rfl rfl
theorem w_lcmp {x y : Int} : zW S d mi ((.lcmp, a, b) :: es) L (zL y :: zL x :: st) M Q = zW S d mi es L (zI (zlcmp x y) :: st) M Q := zW_nx rfl rfl
theorem w_lshl {x y : Int} : zW S d mi ((.lshl, a, b) :: es) L (zI y :: zL x :: st) M Q = zW S d mi es L (zL (zlshl x y) :: st) M Q := zW_nx rfl rfl
theorem w_lshr {x y : Int} : zW S d mi ((.lshr, a, b) :: es) L (zI y :: zL x :: st) M Q = zW S d mi es L (zL (zlshr x y) :: st) M Q := zW_nx rfl rfl
theorem w_imax {x y : Int} (h : zcats (zI y :: zI x :: st) ≤ 12) : zW S d mi ((.fadd, a, b) :: es) L (zI y :: zI x :: st) M Q = zW S d mi es L (zI (if x < y then y else x) :: st) M Q := zW_nx rfl (by simp only [znxt, if_pos h]; rfl)
theorem w_imin {x y : Int} (h : zcats (zI y :: zI x :: st) ≤ 12) : zW S d mi ((.fsub, a, b) :: es) L (zI y :: zI x :: st) M Q = zW S d mi es L (zI (if y < x then y else x) :: st) M Q := zW_nx rfl (by simp only [znxt, if_pos h]; rfl)
theorem w_lmin {x y : Int} (h : zcats (zL y :: zL x :: st) ≤ 12) : zW S d mi ((.dsub, a, b) :: es) L (zL y :: zL x :: st) M Q = zW S d mi es L (zL (if y < x then y else x) :: st) M Q := zW_nx rfl (by simp only [znxt, if_pos h]; rfl)
theorem w_i2l {x : Int} : zW S d mi ((.i2l, a, b) :: es) L (zI x :: st) M Q = zW S d mi es L (zL x :: st) M Q := zW_nx rfl rfl
theorem w_i2b {x : Int} : zW S d mi ((.i2b, a, b) :: es) L (zI x :: st) M Q = zW S d mi es L (zI (zi2b x) :: st) M Q := zW_nx rfl rfl
theorem w_l2i {x : Int} : zW S d mi ((.l2i, a, b) :: es) L (zL x :: st) M Q = zW S d mi es L (zI (zl2i x) :: st) M Q := zW_nx rfl rfl
theorem w_dupI {x : Int} : zW S d mi ((.dup, a, b) :: es) L (zI x :: st) M Q = zW S d mi es L (zI x :: zI x :: st) M Q := zW_nx rfl rfl
theorem w_dupR {k : Nat} : zW S d mi ((.dup, a, b) :: es) L (zR k :: st) M Q = zW S d mi es L (zR k :: zR k :: st) M Q := zW_nx rfl (by simp [znxt, zfall, zcat])
theorem w_dup2 {x : Int} {k : Nat} : zW S d mi ((.dup2, a, b) :: es) L (zI x :: zR k :: st) M Q = zW S d mi es L (zI x :: zR k :: zI x :: zR k :: st) M Q := zW_nx rfl (by simp [znxt, zfall, zcat])
theorem w_pop {x : Int} : zW S d mi ((.pop, a, b) :: es) L (zI x :: st) M Q = zW S d mi es L st M Q := zW_nx rfl (by simp [znxt, zfall, zcat])
theorem w_if {c : ClassFile.Cond} {x o : Int} : zW S d mi ((.ifCond c o, a, b) :: es) L (zI x :: st) M Q = if zcmp c x 0 = true then zW S d mi (zblk mi a) L st M Q else zW S d mi es L st M Q := by
  by_cases h : zcmp c x 0 = true
  · rw [if_pos h]; exact zW_jp rfl (by simp only [znxt, if_pos h])
  · rw [if_neg h]; exact zW_nx rfl (by simp only [znxt, if_neg h])
theorem w_icmp {c : ClassFile.Cond} {x y o : Int} : zW S d mi ((.if_icmp c o, a, b) :: es) L (zI y :: zI x :: st) M Q = if zcmp c x y = true then zW S d mi (zblk mi a) L st M Q else zW S d mi es L st M Q := by
  by_cases h : zcmp c x y = true
  · rw [if_pos h]; exact zW_jp rfl (by simp only [znxt, if_pos h])
  · rw [if_neg h]; exact zW_nx rfl (by simp only [znxt, if_neg h])
theorem w_goto {o : Int} : zW S d mi ((.goto o, a, b) :: es) L st M Q = zW S d mi (zblk mi a) L st M Q := zW_jp rfl rfl
theorem w_fall {o : Int} : zW S d mi ((.goto_w o, a, b) :: es) L st M Q = zW S d mi (zblk mi a) L st M Q := zW_jp rfl rfl
theorem w_tsw {dd lo hi x : Int} {offs : Array Int} : zW S d mi ((.tableswitch dd lo hi offs, a, b) :: es) L (zI x :: st) M Q = zW S d mi (zblk mi (ztsw dd.toNat lo hi offs x)) L st M Q := zW_jp rfl rfl
theorem w_lsw {dd x : Int} {ps : Array (Int × Int)} : zW S d mi ((.lookupswitch dd ps, a, b) :: es) L (zI x :: st) M Q = zW S d mi (zblk mi (zlsw dd.toNat ps.toList x)) L st M Q := zW_jp rfl rfl
theorem w_getf {k j : Nat} {o : Nat} {v : zMV} (h : zgetf (S, M) k a b = some v) : zW S d mi ((.getfield o, a, b) :: es) L (zR k :: st) M Q = zW S d mi es L (v :: st) M Q := zW_nx rfl (by simp only [znxt, h]; rfl)
theorem w_putf {k o : Nat} {v : zMV} {M1 : Nat → Int → Int} (h : zputf (S, M) k a b v = some (S, M1)) : zW S d mi ((.putfield o, a, b) :: es) L (v :: zR k :: st) M Q = zW S d mi es L st M1 Q := zW_nx rfl (by simp only [znxt, h]; rfl)
theorem zlen_of {k kd n : Nat} {rs : List (Option Nat)} (h : S[k]? = some (kd, n, rs)) : zlen (S, M) k kd = some n := by simp only [zlen, h, if_true]
theorem w_iald {k n : Nat} {i : Int} {rs : List (Option Nat)} (h : S[k]? = some (0, n, rs)) (h0 : 0 ≤ i) (h1 : i < n) : zW S d mi ((.iaload, a, b) :: es) L (zI i :: zR k :: st) M Q = zW S d mi es L (zI (M k i) :: st) M Q := zW_nx rfl (by simp only [znxt, zaget, zlen_of h, if_pos (show 0 ≤ i ∧ i < (n : Int) from ⟨h0, h1⟩)]; rfl)
theorem w_lald {k n : Nat} {i : Int} {rs : List (Option Nat)} (h : S[k]? = some (1, n, rs)) (h2 : 2 ≤ k) (h0 : 0 ≤ i) (h1 : i < n) : zW S d mi ((.laload, a, b) :: es) L (zI i :: zR k :: st) M Q = zW S d mi es L (zL (M k i) :: st) M Q := zW_nx rfl (by simp only [znxt, if_pos h2, zaget, zlen_of h, if_pos (show 0 ≤ i ∧ i < (n : Int) from ⟨h0, h1⟩)]; rfl)
theorem w_iast {k n : Nat} {i v : Int} {rs : List (Option Nat)} (h : S[k]? = some (0, n, rs)) (h2 : 2 ≤ k) (h0 : 0 ≤ i) (h1 : i < n) : zW S d mi ((.iastore, a, b) :: es) L (zI v :: zI i :: zR k :: st) M Q = zW S d mi es L st (zup M k i v) Q := zW_nx rfl (by simp only [znxt, zaput, zlen_of h, if_pos (show 0 ≤ i ∧ i < (n : Int) ∧ 2 ≤ k from ⟨h0, h1, h2⟩)]; rfl)
theorem w_last {k n : Nat} {i v : Int} {rs : List (Option Nat)} (h : S[k]? = some (1, n, rs)) (h2 : 2 ≤ k) (h0 : 0 ≤ i) (h1 : i < n) : zW S d mi ((.lastore, a, b) :: es) L (zL v :: zI i :: zR k :: st) M Q = zW S d mi es L st (zup M k i v) Q := zW_nx rfl (by simp only [znxt, zaput, zlen_of h, if_pos (show 0 ≤ i ∧ i < (n : Int) ∧ 2 ≤ k from ⟨h0, h1, h2⟩)]; rfl)
theorem w_alen {k n : Nat} {rs : List (Option Nat)} (h : S[k]? = some (0, n, rs)) : zW S d mi ((.arraylength, a, b) :: es) L (zR k :: st) M Q = zW S d mi es L (zI n :: st) M Q := zW_nx rfl (by simp only [znxt, zlen1, zlen_of h]; rfl)
theorem zlen_1 {k n : Nat} {rs : List (Option Nat)} (h : S[k]? = some (1, n, rs)) : zlen (S, M) k 0 = none := by simp [zlen, h]
theorem w_alenL {k n : Nat} {rs : List (Option Nat)} (h : S[k]? = some (1, n, rs)) (h2 : 2 ≤ k) : zW S d mi ((.arraylength, a, b) :: es) L (zR k :: st) M Q = zW S d mi es L (zI n :: st) M Q := zW_nx rfl (by simp only [znxt, zlen1, zlen_1 h, zlen_of h, if_pos h2]; rfl)
theorem w_objI {k : Nat} (h : zcats st ≤ 8) : zW S d mi ((.nop, a, b) :: es) L (zR k :: st) M Q = zW S d mi es L st M Q := zW_nx rfl (by simp only [znxt, if_pos h])
theorem w_copy {ka kb na nb : Nat} {i j n : Int} {ra rb : List (Option Nat)} (h1 : S[ka]? = some (0, na, ra)) (h2 : S[kb]? = some (0, nb, rb)) (h : 0 ≤ n ∧ 0 ≤ i ∧ 0 ≤ j ∧ i + n ≤ na ∧ j + n ≤ nb ∧ 2 ≤ ka ∧ 2 ≤ kb ∧ zcats st ≤ 8) : zW S d mi ((.swap, a, b) :: es) L (zI n :: zI j :: zR kb :: zI i :: zR ka :: st) M Q = zW S d mi es L st (zcpy M ka i kb j n) Q := zW_nx rfl (by simp only [znxt, zlen_of h1, zlen_of h2, if_pos h])
theorem w_ret (hq : zrok (zmR mi) .return_ st = some none) : zW S d mi ((.return_, a, b) :: es) L st M Q = Q none M := by
  apply propext
  constructor
  · rintro ⟨n, r, M', h1, h2⟩
    cases n with
    | zero => cases h1
    | succ n =>
      have : zrun (n + 1) d mi ((.return_, a, b) :: es) L st (S, M) = (zrok (zmR mi) .return_ st).map (·, (S, M)) := rfl
      rw [this, hq] at h1
      cases h1
      exact h2
  · intro h
    exact ⟨1, none, M, by
      have : zrun (0 + 1) d mi ((.return_, a, b) :: es) L st (S, M) = (zrok (zmR mi) .return_ st).map (·, (S, M)) := rfl
      rw [this, hq]; rfl, h⟩
theorem w_iret {x : Int} (hq : zrok (zmR mi) .ireturn [zI x] = some (some (zI x))) : zW S d mi ((.ireturn, a, b) :: es) L [zI x] M Q = Q (some (zI x)) M := by
  apply propext
  have e1 : ∀ n, zrun (n + 1) d mi ((.ireturn, a, b) :: es) L [zI x] (S, M) = some (some (zI x), (S, M)) := fun n => by
    have : zrun (n + 1) d mi ((.ireturn, a, b) :: es) L [zI x] (S, M) = (zrok (zmR mi) .ireturn [zI x]).map (·, (S, M)) := rfl
    rw [this, hq]; rfl
  constructor
  · rintro ⟨n, r, M', h1, h2⟩
    cases n with
    | zero => cases h1
    | succ n =>
      rw [e1] at h1
      cases h1
      exact h2
  · intro h
    exact ⟨1, _, M, e1 0, h⟩
theorem w_lret {x : Int} (hq : zrok (zmR mi) .lreturn [zL x] = some (some (zL x))) : zW S d mi ((.lreturn, a, b) :: es) L [zL x] M Q = Q (some (zL x)) M := by
  apply propext
  have e1 : ∀ n, zrun (n + 1) d mi ((.lreturn, a, b) :: es) L [zL x] (S, M) = some (some (zL x), (S, M)) := fun n => by
    have : zrun (n + 1) d mi ((.lreturn, a, b) :: es) L [zL x] (S, M) = (zrok (zmR mi) .lreturn [zL x]).map (·, (S, M)) := rfl
    rw [this, hq]; rfl
  constructor
  · rintro ⟨n, r, M', h1, h2⟩
    cases n with
    | zero => cases h1
    | succ n =>
      rw [e1] at h1
      cases h1
      exact h2
  · intro h
    exact ⟨1, _, M, e1 0, h⟩
/-- a call, by what the called method does -/
theorem w_calls {o m2 : Nat} {vs st' : List zMV} {Q2 : Option zMV → (Nat → Int → Int) → Prop} (hd : 1 ≤ d) (h1 : st = vs.reverse ++ st') (hl : vs.length = zmA m2) (hc : zcats st' ≤ 8) (hs : (zspread vs).length ≤ zmL m2) (hF : zF S (d - 1) m2 vs M Q2) (hk : ∀ r M', Q2 r M' → zW S d mi es L (r.toList ++ st') M' Q) : zW S d mi ((.invokestatic o, m2, b) :: es) L st M Q := by
  obtain ⟨n, r, M1, h2, h3⟩ := hF
  obtain ⟨n', r', M', h4, h5⟩ := hk r M1 h3
  obtain ⟨d, rfl⟩ : ∃ k, d = k + 1 := ⟨d - 1, by omega⟩
  have ht : st.take (zmA m2) = vs.reverse := by rw [h1, List.take_left' (by simpa using hl)]
  have hdp : st.drop (zmA m2) = st' := by rw [h1, List.drop_left' (by simpa using hl)]
  refine ⟨max n n' + 1, r', M', ?_, h5⟩
  have : zrun (max n n' + 1) (d + 1) mi ((.invokestatic o, m2, b) :: es) L st (S, M) = if (st.take (zmA m2)).length = zmA m2 then zcall (zrun (max n n')) (d + 1) mi m2 es L (st.take (zmA m2)).reverse (st.drop (zmA m2)) (S, M) else none := rfl
  rw [this, ht, hdp, if_pos (by simpa using hl), List.reverse_reverse]
  unfold zcall
  dsimp only
  rw [if_pos ⟨hc, hs⟩, zrun_up _ _ _ _ _ _ _ _ h2 (max n n') d (by omega) (by omega)]
  exact zrun_up _ _ _ _ _ _ _ _ h4 (max n n') (d + 1) (by omega) (by omega)
theorem w_callv {o m2 k n9 : Nat} {rs9 : List (Option Nat)} {ps st' : List zMV} {Q2 : Option zMV → (Nat → Int → Int) → Prop} (hd : 1 ≤ d) (h1 : st = ps.reverse ++ zR k :: st') (hl : ps.length = zmA m2) (hk2 : 2 ≤ k) (hk9 : S[k]? = some (3 + zmO m2, n9, rs9)) (hc : zcats st' ≤ 8) (hs : (zspread (zR k :: ps)).length ≤ zmL m2) (hF : zF S (d - 1) m2 (zR k :: ps) M Q2) (hk : ∀ r M', Q2 r M' → zW S d mi es L (r.toList ++ st') M' Q) : zW S d mi ((.invokevirtual o, m2, b) :: es) L st M Q := by
  obtain ⟨n, r, M1, h2, h3⟩ := hF
  obtain ⟨n', r', M', h4, h5⟩ := hk r M1 h3
  obtain ⟨d, rfl⟩ : ∃ k, d = k + 1 := ⟨d - 1, by omega⟩
  have e1 : st = (ps.reverse ++ [zR k]) ++ st' := by rw [h1]; simp
  have hl2 : (ps.reverse ++ [zR k]).length = zmA m2 + 1 := by simp [hl]
  have ht : st.take (zmA m2 + 1) = ps.reverse ++ [zR k] := by rw [e1, List.take_left' hl2]
  have hdp : st.drop (zmA m2 + 1) = st' := by rw [e1, List.drop_left' hl2]
  have hrv : (ps.reverse ++ [zR k]).reverse = zR k :: ps := by simp
  refine ⟨max n n' + 1, r', M', ?_, h5⟩
  have : zrun (max n n' + 1) (d + 1) mi ((.invokevirtual o, m2, b) :: es) L st (S, M) = if (st.take (zmA m2 + 1)).length = zmA m2 + 1 ∧ zrecv (S, M) m2 (st.take (zmA m2 + 1)).reverse = true then zcall (zrun (max n n')) (d + 1) mi m2 es L (st.take (zmA m2 + 1)).reverse (st.drop (zmA m2 + 1)) (S, M) else none := rfl
  rw [this, ht, hdp, hrv, if_pos ⟨hl2, by simp [zrecv, hk9, hk2]⟩]
  unfold zcall
  dsimp only
  rw [if_pos ⟨hc, hs⟩, zrun_up _ _ _ _ _ _ _ _ h2 (max n n') d (by omega) (by omega)]
  exact zrun_up _ _ _ _ _ _ _ _ h4 (max n n') (d + 1) (by omega) (by omega)
end ZX
theorem zs1_0 (a v : zMV) (L : List zMV) : zset1 (a :: L) 0 v = v :: L := rfl
theorem zs1_I (x : Int) (a v : zMV) (L : List zMV) : zset1 (zI x :: a :: L) 1 v = zI x :: v :: L := rfl
theorem zs1_R (x : Nat) (a v : zMV) (L : List zMV) : zset1 (zR x :: a :: L) 1 v = zR x :: v :: L := rfl
theorem zs1_U (a v : zMV) (L : List zMV) : zset1 (zU :: a :: L) 1 v = zU :: v :: L := rfl
theorem zs1_L (x : Int) (a v : zMV) (L : List zMV) : zset1 (zL x :: a :: L) 1 v = zU :: v :: L := rfl
theorem zs1_s (j : Nat) (a v : zMV) (L : List zMV) : zset1 (a :: L) (j + 2) v = a :: zset1 L (j + 1) v := by
  simp only [zset1, List.getElem?_cons_succ]
  split <;> simp
