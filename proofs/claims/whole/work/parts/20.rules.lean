/-! the rows as rewriting rules -/
def zgI (o : Option zMV) (f : zMV → Prop) : Prop := match o with
  | some (.inl x) => f (zI x)
  | _ => False
def zgL (o : Option zMV) (f : zMV → Prop) : Prop := match o with
  | some (.inr (.inl x)) => f (zL x)
  | _ => False
def zgR (o : Option zMV) (f : zMV → Prop) : Prop := match o with
  | some (.inr (.inr (some x))) => f (zR x)
  | _ => False
def zgV (o : Option zMV) (f : zMV → Prop) : Prop := match o with
  | some v => f v
  | none => False
def zgP (S : List zSh) (o : Option zWd) (f : (Nat → Int → Int) → Prop) : Prop := ∃ M1, o = some (S, M1) ∧ f M1
def zst1 (L : List zMV) (j : Nat) (v : zMV) (f : List zMV → Prop) : Prop := j < L.length ∧ f (zset1 L j v)
def zst2 (L : List zMV) (j : Nat) (v : zMV) (f : List zMV → Prop) : Prop := j + 1 < L.length ∧ f (zset2 L j v)
theorem g_I (x : Int) (f : zMV → Prop) : zgI (some (zI x)) f = f (zI x) := rfl
theorem g_L (x : Int) (f : zMV → Prop) : zgL (some (zL x)) f = f (zL x) := rfl
theorem g_R (x : Nat) (f : zMV → Prop) : zgR (some (zR x)) f = f (zR x) := rfl
theorem g_V (v : zMV) (f : zMV → Prop) : zgV (some v) f = f v := rfl
theorem g_P (S : List zSh) (M1 : Nat → Int → Int) (f : (Nat → Int → Int) → Prop) : zgP S (some (S, M1)) f = f M1 := by
  apply propext
  constructor
  · rintro ⟨M2, h, h2⟩
    cases h
    exact h2
  · intro h
    exact ⟨M1, rfl, h⟩
theorem t_0 (a v : zMV) (L : List zMV) (f : List zMV → Prop) : zst1 (a :: L) 0 v f = f (v :: L) := by
  simp [zst1, zs1_0]
theorem t_I (x : Int) (a v : zMV) (L : List zMV) (f : List zMV → Prop) : zst1 (zI x :: a :: L) 1 v f = f (zI x :: v :: L) := by
  simp [zst1, zs1_I]
theorem t_R (x : Nat) (a v : zMV) (L : List zMV) (f : List zMV → Prop) : zst1 (zR x :: a :: L) 1 v f = f (zR x :: v :: L) := by
  simp [zst1, zs1_R]
theorem t_U (a v : zMV) (L : List zMV) (f : List zMV → Prop) : zst1 (zU :: a :: L) 1 v f = f (zU :: v :: L) := by
  simp [zst1, zs1_U]
theorem t_L (x : Int) (a v : zMV) (L : List zMV) (f : List zMV → Prop) : zst1 (zL x :: a :: L) 1 v f = f (zU :: v :: L) := by
  simp [zst1, zs1_L]
theorem t_s (j : Nat) (a v : zMV) (L : List zMV) (f : List zMV → Prop) : zst1 (a :: L) (j + 2) v f = zst1 L (j + 1) v fun L' => f (a :: L') := by
  simp [zst1, zs1_s]
  intro _
  omega
theorem t2 (L : List zMV) (j : Nat) (v : zMV) (f : List zMV → Prop) : zst2 L j v f = zst1 L j v fun L' => zst1 L' (j + 1) zU fun L'' => j + 1 < L.length ∧ f (L'.set (j + 1) zU) := by
  apply propext
  unfold zst2 zst1 zset2
  constructor
  · rintro ⟨h1, h2⟩
    exact ⟨by omega, by rw [zset1_len]; exact h1, h1, h2⟩
  · rintro ⟨h1, h2, h3, h4⟩
    exact ⟨h3, h4⟩
section ZX
variable {S : List zSh} {d mi : Nat} {e : zEnt} {es : List zEnt} {L st : List zMV} {M : Nat → Int → Int} {Q : Option zMV → (Nat → Int → Int) → Prop} {a b : Nat}
/-- stuck -/
theorem zW_no (hc : zisC e.1 = false) (h : znxt e L st (S, M) = none) : zW S d mi (e :: es) L st M Q = False := by
  apply propext
  constructor
  · rintro ⟨n, r, M', h1, h2⟩
    cases n with
    | zero => cases h1
    | succ n => rw [zrun_eq, zrun_nx hc, h] at h1; cases h1
  · exact False.elim
theorem x_iload {j : Nat} : zW S d mi ((.iload j, a, b) :: es) L st M Q = zgI L[j]? fun v => zW S d mi es L (v :: st) M Q := by
  unfold zgI
  split
  · next x h => exact w_iload h
  · next h =>
    refine zW_no rfl ?_
    simp only [znxt]
theorem x_lload {j : Nat} : zW S d mi ((.lload j, a, b) :: es) L st M Q = zgL L[j]? fun v => zW S d mi es L (v :: st) M Q := by
  unfold zgL
  split
  · next x h => exact w_lload h
  · next h =>
    refine zW_no rfl ?_
    simp only [znxt]
theorem x_aload {j : Nat} : zW S d mi ((.aload j, a, b) :: es) L st M Q = zgR L[j]? fun v => zW S d mi es L (v :: st) M Q := by
  unfold zgR
  split
  · next x h => exact w_aload h
  · next h =>
    refine zW_no rfl ?_
    simp only [znxt]
theorem x_istore {j : Nat} {x : Int} : zW S d mi ((.istore j, a, b) :: es) L (zI x :: st) M Q = zst1 L j (zI x) fun L' => zW S d mi es L' st M Q := by
  unfold zst1
  by_cases h : j < L.length
  · rw [w_istore rfl h]; simp [h]
  · rw [zW_no rfl (by simp only [znxt, if_neg h])]; simp [h]
theorem x_astore {j k : Nat} : zW S d mi ((.astore j, a, b) :: es) L (zR k :: st) M Q = zst1 L j (zR k) fun L' => zW S d mi es L' st M Q := by
  unfold zst1
  by_cases h : j < L.length
  · rw [w_astore rfl h]; simp [h]
  · rw [zW_no rfl (by simp only [znxt, if_neg h])]; simp [h]
theorem x_lstore {j : Nat} {x : Int} : zW S d mi ((.lstore j, a, b) :: es) L (zL x :: st) M Q = zst2 L j (zL x) fun L' => zW S d mi es L' st M Q := by
  unfold zst2
  by_cases h : j + 1 < L.length
  · rw [w_lstore rfl h]; simp [h]
  · rw [zW_no rfl (by simp only [znxt, if_neg h])]; simp [h]
theorem x_iinc {j : Nat} {n : Int} : zW S d mi ((.iinc j n, a, b) :: es) L st M Q = zgI L[j]? fun v => match v with
    | .inl x => zst1 L j (zI (zadd x n)) fun L' => zW S d mi es L' st M Q
    | _ => False := by
  unfold zgI zst1
  split
  · next x h =>
    have hj : j < L.length := (List.getElem?_eq_some_iff.mp h).1
    rw [w_iinc h rfl hj]; simp [hj]
  · next h =>
    refine zW_no rfl ?_
    simp only [znxt]
theorem x_getf {k o : Nat} : zW S d mi ((.getfield o, a, b) :: es) L (zR k :: st) M Q = zgV (zgetf (S, M) k a b) fun v => zW S d mi es L (v :: st) M Q := by
  unfold zgV
  split
  · next v h => exact w_getf (j := 0) h
  · next h => exact zW_no rfl (by simp only [znxt, h]; rfl)
theorem x_putf {k o : Nat} {v : zMV} {M1 : Nat → Int → Int} (h : zputf (S, M) k a b v = some (S, M1)) : zW S d mi ((.putfield o, a, b) :: es) L (v :: zR k :: st) M Q = zW S d mi es L st M1 Q := w_putf h
/-- a call of a method whose answer and memory are known -/
theorem c_stat {o m2 : Nat} {vs st' : List zMV} {r0 : Option zMV} {M0 : Nat → Int → Int} (hd : 1 ≤ d) (h1 : st = vs.reverse ++ st') (hl : vs.length = zmA m2) (hc : zcats st' ≤ 8) (hs : (zspread vs).length ≤ zmL m2) (hF : zF S (d - 1) m2 vs M fun r M' => r = r0 ∧ M' = M0) : zW S d mi ((.invokestatic o, m2, b) :: es) L st M Q = zW S d mi es L (r0.toList ++ st') M0 Q := by
  apply propext
  constructor
  · rintro ⟨n, r, M', h2, h3⟩
    cases n with
    | zero => cases h2
    | succ n =>
      obtain ⟨d, rfl⟩ : ∃ k, d = k + 1 := ⟨d - 1, by omega⟩
      have ht : st.take (zmA m2) = vs.reverse := by rw [h1, List.take_left' (by simpa using hl)]
      have hdp : st.drop (zmA m2) = st' := by rw [h1, List.drop_left' (by simpa using hl)]
      have : zrun (n + 1) (d + 1) mi ((.invokestatic o, m2, b) :: es) L st (S, M) = if (st.take (zmA m2)).length = zmA m2 then zcall (zrun n) (d + 1) mi m2 es L (st.take (zmA m2)).reverse (st.drop (zmA m2)) (S, M) else none := rfl
      rw [this, ht, hdp, if_pos (by simpa using hl), List.reverse_reverse] at h2
      obtain ⟨d1, v, w', e1, -, -, e4, e5⟩ := zcall_inv h2
      obtain ⟨n2, r2, M2, f1, rfl, rfl⟩ := hF
      have e6 : d1 = d := by omega
      subst e6
      have := zrun_det e4 f1
      cases this
      exact ⟨n, r, M', e5, h3⟩
  · intro h
    exact w_calls hd h1 hl hc hs hF (fun r M' h2 => by rw [h2.1, h2.2]; exact h)
theorem c_virt {o m2 k n9 : Nat} {rs9 : List (Option Nat)} {ps st' : List zMV} {r0 : Option zMV} {M0 : Nat → Int → Int} (hd : 1 ≤ d) (h1 : st = ps.reverse ++ zR k :: st') (hl : ps.length = zmA m2) (hk2 : 2 ≤ k) (hk9 : S[k]? = some (3 + zmO m2, n9, rs9)) (hc : zcats st' ≤ 8) (hs : (zspread (zR k :: ps)).length ≤ zmL m2) (hF : zF S (d - 1) m2 (zR k :: ps) M fun r M' => r = r0 ∧ M' = M0) : zW S d mi ((.invokevirtual o, m2, b) :: es) L st M Q = zW S d mi es L (r0.toList ++ st') M0 Q := by
  apply propext
  constructor
  · rintro ⟨n, r, M', h2, h3⟩
    cases n with
    | zero => cases h2
    | succ n =>
      obtain ⟨d, rfl⟩ : ∃ k, d = k + 1 := ⟨d - 1, by omega⟩
      have e1 : st = (ps.reverse ++ [zR k]) ++ st' := by rw [h1]; simp
      have hl2 : (ps.reverse ++ [zR k]).length = zmA m2 + 1 := by simp [hl]
      have ht : st.take (zmA m2 + 1) = ps.reverse ++ [zR k] := by rw [e1, List.take_left' hl2]
      have hdp : st.drop (zmA m2 + 1) = st' := by rw [e1, List.drop_left' hl2]
      have hrv : (ps.reverse ++ [zR k]).reverse = zR k :: ps := by simp
      have : zrun (n + 1) (d + 1) mi ((.invokevirtual o, m2, b) :: es) L st (S, M) = if (st.take (zmA m2 + 1)).length = zmA m2 + 1 ∧ zrecv (S, M) m2 (st.take (zmA m2 + 1)).reverse = true then zcall (zrun n) (d + 1) mi m2 es L (st.take (zmA m2 + 1)).reverse (st.drop (zmA m2 + 1)) (S, M) else none := rfl
      rw [this, ht, hdp, hrv, if_pos ⟨hl2, by simp [zrecv, hk9, hk2]⟩] at h2
      obtain ⟨d1, v, w', e1, -, -, e4, e5⟩ := zcall_inv h2
      obtain ⟨n2, r2, M2, f1, rfl, rfl⟩ := hF
      have e6 : d1 = d := by omega
      subst e6
      have := zrun_det e4 f1
      cases this
      exact ⟨n, r, M', e5, h3⟩
  · intro h
    exact w_callv hd h1 hl hk2 hk9 hc hs hF (fun r M' h2 => by rw [h2.1, h2.2]; exact h)
theorem zF_en {vs : List zMV} {es : List zEnt} (h1 : zblk mi 0 = es) {L : List zMV} (h2 : zlocs vs (zmL mi) = L) : zF S d mi vs M Q = zW S d mi es L [] M Q := by
  unfold zF
  rw [h1, h2]
theorem q_eq (x y : Int) : (zcmp .eq x y = true) = (x = y) := by simp [zcmp]
theorem q_ne (x y : Int) : (zcmp .ne x y = true) = ¬ (x = y) := by simp [zcmp]
theorem q_lt (x y : Int) : (zcmp .lt x y = true) = (x < y) := by simp [zcmp]
theorem q_ge (x y : Int) : (zcmp .ge x y = true) = (y ≤ x) := by simp [zcmp]
theorem q_gt (x y : Int) : (zcmp .gt x y = true) = (y < x) := by simp [zcmp]
theorem q_le (x y : Int) : (zcmp .le x y = true) = (x ≤ y) := by simp [zcmp]
theorem y_int (t : Option FieldType) (x : Int) (h : t = some .int) : zrok t .ireturn [zI x] = some (some (zI x)) := by rw [h]; rfl
theorem y_bool (t : Option FieldType) (x : Int) (h : t = some .boolean) (hx : x = 0 ∨ x = 1) : zrok t .ireturn [zI x] = some (some (zI x)) := by rw [h]; simp [zrok, hx]
theorem y_long (t : Option FieldType) (x : Int) (h : t = some .long) : zrok t .lreturn [zL x] = some (some (zL x)) := by rw [h]; rfl
theorem y_void (t : Option FieldType) (h : t = none) : zrok t .return_ [] = some none := by rw [h]; rfl
end ZX
section ZY
variable {Ln d mi : Nat} {es : List zEnt} {L st : List zMV} {M : Nat → Int → Int} {Q : Option zMV → (Nat → Int → Int) → Prop} {a b : Nat} {i v : Int}
theorem ia_1 (h0 : 0 ≤ i) (h1 : i < 16) : zW (zSH Ln) d mi ((.iaload, a, b) :: es) L (zI i :: zR 1 :: st) M Q = zW (zSH Ln) d mi es L (zI (M 1 i) :: st) M Q := w_iald (n := 16) (rs := []) rfl h0 h1
theorem ia_4 (h0 : 0 ≤ i) (h1 : i < 48) : zW (zSH Ln) d mi ((.iaload, a, b) :: es) L (zI i :: zR 4 :: st) M Q = zW (zSH Ln) d mi es L (zI (M 4 i) :: st) M Q := w_iald (n := 48) (rs := []) rfl h0 h1
theorem sa_4 (h0 : 0 ≤ i) (h1 : i < 48) : zW (zSH Ln) d mi ((.iastore, a, b) :: es) L (zI v :: zI i :: zR 4 :: st) M Q = zW (zSH Ln) d mi es L st (zup M 4 i v) Q := w_iast (n := 48) (rs := []) rfl (by omega) h0 h1
theorem ia_5 (h0 : 0 ≤ i) (h1 : i < 48) : zW (zSH Ln) d mi ((.iaload, a, b) :: es) L (zI i :: zR 5 :: st) M Q = zW (zSH Ln) d mi es L (zI (M 5 i) :: st) M Q := w_iald (n := 48) (rs := []) rfl h0 h1
theorem sa_5 (h0 : 0 ≤ i) (h1 : i < 48) : zW (zSH Ln) d mi ((.iastore, a, b) :: es) L (zI v :: zI i :: zR 5 :: st) M Q = zW (zSH Ln) d mi es L st (zup M 5 i v) Q := w_iast (n := 48) (rs := []) rfl (by omega) h0 h1
theorem ia_6 (h0 : 0 ≤ i) (h1 : i < 144) : zW (zSH Ln) d mi ((.iaload, a, b) :: es) L (zI i :: zR 6 :: st) M Q = zW (zSH Ln) d mi es L (zI (M 6 i) :: st) M Q := w_iald (n := 144) (rs := []) rfl h0 h1
theorem sa_6 (h0 : 0 ≤ i) (h1 : i < 144) : zW (zSH Ln) d mi ((.iastore, a, b) :: es) L (zI v :: zI i :: zR 6 :: st) M Q = zW (zSH Ln) d mi es L st (zup M 6 i v) Q := w_iast (n := 144) (rs := []) rfl (by omega) h0 h1
theorem ia_7 (h0 : 0 ≤ i) (h1 : i < 972) : zW (zSH Ln) d mi ((.iaload, a, b) :: es) L (zI i :: zR 7 :: st) M Q = zW (zSH Ln) d mi es L (zI (M 7 i) :: st) M Q := w_iald (n := 972) (rs := []) rfl h0 h1
theorem sa_7 (h0 : 0 ≤ i) (h1 : i < 972) : zW (zSH Ln) d mi ((.iastore, a, b) :: es) L (zI v :: zI i :: zR 7 :: st) M Q = zW (zSH Ln) d mi es L st (zup M 7 i v) Q := w_iast (n := 972) (rs := []) rfl (by omega) h0 h1
theorem ia_8 (h0 : 0 ≤ i) (h1 : i < 12) : zW (zSH Ln) d mi ((.iaload, a, b) :: es) L (zI i :: zR 8 :: st) M Q = zW (zSH Ln) d mi es L (zI (M 8 i) :: st) M Q := w_iald (n := 12) (rs := []) rfl h0 h1
theorem sa_8 (h0 : 0 ≤ i) (h1 : i < 12) : zW (zSH Ln) d mi ((.iastore, a, b) :: es) L (zI v :: zI i :: zR 8 :: st) M Q = zW (zSH Ln) d mi es L st (zup M 8 i v) Q := w_iast (n := 12) (rs := []) rfl (by omega) h0 h1
theorem ia_9 (h0 : 0 ≤ i) (h1 : i < 48) : zW (zSH Ln) d mi ((.iaload, a, b) :: es) L (zI i :: zR 9 :: st) M Q = zW (zSH Ln) d mi es L (zI (M 9 i) :: st) M Q := w_iald (n := 48) (rs := []) rfl h0 h1
theorem sa_9 (h0 : 0 ≤ i) (h1 : i < 48) : zW (zSH Ln) d mi ((.iastore, a, b) :: es) L (zI v :: zI i :: zR 9 :: st) M Q = zW (zSH Ln) d mi es L st (zup M 9 i v) Q := w_iast (n := 48) (rs := []) rfl (by omega) h0 h1
theorem ia_11 (h0 : 0 ≤ i) (h1 : i < 24) : zW (zSH Ln) d mi ((.iaload, a, b) :: es) L (zI i :: zR 11 :: st) M Q = zW (zSH Ln) d mi es L (zI (M 11 i) :: st) M Q := w_iald (n := 24) (rs := []) rfl h0 h1
theorem sa_11 (h0 : 0 ≤ i) (h1 : i < 24) : zW (zSH Ln) d mi ((.iastore, a, b) :: es) L (zI v :: zI i :: zR 11 :: st) M Q = zW (zSH Ln) d mi es L st (zup M 11 i v) Q := w_iast (n := 24) (rs := []) rfl (by omega) h0 h1
theorem ia_12 (h0 : 0 ≤ i) (h1 : i < 24) : zW (zSH Ln) d mi ((.iaload, a, b) :: es) L (zI i :: zR 12 :: st) M Q = zW (zSH Ln) d mi es L (zI (M 12 i) :: st) M Q := w_iald (n := 24) (rs := []) rfl h0 h1
theorem sa_12 (h0 : 0 ≤ i) (h1 : i < 24) : zW (zSH Ln) d mi ((.iastore, a, b) :: es) L (zI v :: zI i :: zR 12 :: st) M Q = zW (zSH Ln) d mi es L st (zup M 12 i v) Q := w_iast (n := 24) (rs := []) rfl (by omega) h0 h1
theorem ia_13 (h0 : 0 ≤ i) (h1 : i < 24) : zW (zSH Ln) d mi ((.iaload, a, b) :: es) L (zI i :: zR 13 :: st) M Q = zW (zSH Ln) d mi es L (zI (M 13 i) :: st) M Q := w_iald (n := 24) (rs := []) rfl h0 h1
theorem sa_13 (h0 : 0 ≤ i) (h1 : i < 24) : zW (zSH Ln) d mi ((.iastore, a, b) :: es) L (zI v :: zI i :: zR 13 :: st) M Q = zW (zSH Ln) d mi es L st (zup M 13 i v) Q := w_iast (n := 24) (rs := []) rfl (by omega) h0 h1
theorem ia_14 (h0 : 0 ≤ i) (h1 : i < 24) : zW (zSH Ln) d mi ((.iaload, a, b) :: es) L (zI i :: zR 14 :: st) M Q = zW (zSH Ln) d mi es L (zI (M 14 i) :: st) M Q := w_iald (n := 24) (rs := []) rfl h0 h1
theorem sa_14 (h0 : 0 ≤ i) (h1 : i < 24) : zW (zSH Ln) d mi ((.iastore, a, b) :: es) L (zI v :: zI i :: zR 14 :: st) M Q = zW (zSH Ln) d mi es L st (zup M 14 i v) Q := w_iast (n := 24) (rs := []) rfl (by omega) h0 h1
theorem ia_16 (h0 : 0 ≤ i) (h1 : i < 972) : zW (zSH Ln) d mi ((.iaload, a, b) :: es) L (zI i :: zR 16 :: st) M Q = zW (zSH Ln) d mi es L (zI (M 16 i) :: st) M Q := w_iald (n := 972) (rs := []) rfl h0 h1
theorem sa_16 (h0 : 0 ≤ i) (h1 : i < 972) : zW (zSH Ln) d mi ((.iastore, a, b) :: es) L (zI v :: zI i :: zR 16 :: st) M Q = zW (zSH Ln) d mi es L st (zup M 16 i v) Q := w_iast (n := 972) (rs := []) rfl (by omega) h0 h1
theorem ia_17 (h0 : 0 ≤ i) (h1 : i < 12) : zW (zSH Ln) d mi ((.iaload, a, b) :: es) L (zI i :: zR 17 :: st) M Q = zW (zSH Ln) d mi es L (zI (M 17 i) :: st) M Q := w_iald (n := 12) (rs := []) rfl h0 h1
theorem sa_17 (h0 : 0 ≤ i) (h1 : i < 12) : zW (zSH Ln) d mi ((.iastore, a, b) :: es) L (zI v :: zI i :: zR 17 :: st) M Q = zW (zSH Ln) d mi es L st (zup M 17 i v) Q := w_iast (n := 12) (rs := []) rfl (by omega) h0 h1
theorem ia_18 (h0 : 0 ≤ i) (h1 : i < 81) : zW (zSH Ln) d mi ((.iaload, a, b) :: es) L (zI i :: zR 18 :: st) M Q = zW (zSH Ln) d mi es L (zI (M 18 i) :: st) M Q := w_iald (n := 81) (rs := []) rfl h0 h1
theorem sa_18 (h0 : 0 ≤ i) (h1 : i < 81) : zW (zSH Ln) d mi ((.iastore, a, b) :: es) L (zI v :: zI i :: zR 18 :: st) M Q = zW (zSH Ln) d mi es L st (zup M 18 i v) Q := w_iast (n := 81) (rs := []) rfl (by omega) h0 h1
theorem ia_20 (h0 : 0 ≤ i) (h1 : i < 24) : zW (zSH Ln) d mi ((.iaload, a, b) :: es) L (zI i :: zR 20 :: st) M Q = zW (zSH Ln) d mi es L (zI (M 20 i) :: st) M Q := w_iald (n := 24) (rs := []) rfl h0 h1
theorem sa_20 (h0 : 0 ≤ i) (h1 : i < 24) : zW (zSH Ln) d mi ((.iastore, a, b) :: es) L (zI v :: zI i :: zR 20 :: st) M Q = zW (zSH Ln) d mi es L st (zup M 20 i v) Q := w_iast (n := 24) (rs := []) rfl (by omega) h0 h1
theorem ia_21 (h0 : 0 ≤ i) (h1 : i < 12) : zW (zSH Ln) d mi ((.iaload, a, b) :: es) L (zI i :: zR 21 :: st) M Q = zW (zSH Ln) d mi es L (zI (M 21 i) :: st) M Q := w_iald (n := 12) (rs := []) rfl h0 h1
theorem sa_21 (h0 : 0 ≤ i) (h1 : i < 12) : zW (zSH Ln) d mi ((.iastore, a, b) :: es) L (zI v :: zI i :: zR 21 :: st) M Q = zW (zSH Ln) d mi es L st (zup M 21 i v) Q := w_iast (n := 12) (rs := []) rfl (by omega) h0 h1
theorem ia_23 (h0 : 0 ≤ i) (h1 : i < 100) : zW (zSH Ln) d mi ((.iaload, a, b) :: es) L (zI i :: zR 23 :: st) M Q = zW (zSH Ln) d mi es L (zI (M 23 i) :: st) M Q := w_iald (n := 100) (rs := []) rfl h0 h1
theorem sa_23 (h0 : 0 ≤ i) (h1 : i < 100) : zW (zSH Ln) d mi ((.iastore, a, b) :: es) L (zI v :: zI i :: zR 23 :: st) M Q = zW (zSH Ln) d mi es L st (zup M 23 i v) Q := w_iast (n := 100) (rs := []) rfl (by omega) h0 h1
theorem ia_25 (h0 : 0 ≤ i) (h1 : i < 24) : zW (zSH Ln) d mi ((.iaload, a, b) :: es) L (zI i :: zR 25 :: st) M Q = zW (zSH Ln) d mi es L (zI (M 25 i) :: st) M Q := w_iald (n := 24) (rs := []) rfl h0 h1
theorem sa_25 (h0 : 0 ≤ i) (h1 : i < 24) : zW (zSH Ln) d mi ((.iastore, a, b) :: es) L (zI v :: zI i :: zR 25 :: st) M Q = zW (zSH Ln) d mi es L st (zup M 25 i v) Q := w_iast (n := 24) (rs := []) rfl (by omega) h0 h1
theorem ia_26 (h0 : 0 ≤ i) (h1 : i < 24) : zW (zSH Ln) d mi ((.iaload, a, b) :: es) L (zI i :: zR 26 :: st) M Q = zW (zSH Ln) d mi es L (zI (M 26 i) :: st) M Q := w_iald (n := 24) (rs := []) rfl h0 h1
theorem sa_26 (h0 : 0 ≤ i) (h1 : i < 24) : zW (zSH Ln) d mi ((.iastore, a, b) :: es) L (zI v :: zI i :: zR 26 :: st) M Q = zW (zSH Ln) d mi es L st (zup M 26 i v) Q := w_iast (n := 24) (rs := []) rfl (by omega) h0 h1
theorem ia_27 (h0 : 0 ≤ i) (h1 : i < 24) : zW (zSH Ln) d mi ((.iaload, a, b) :: es) L (zI i :: zR 27 :: st) M Q = zW (zSH Ln) d mi es L (zI (M 27 i) :: st) M Q := w_iald (n := 24) (rs := []) rfl h0 h1
theorem sa_27 (h0 : 0 ≤ i) (h1 : i < 24) : zW (zSH Ln) d mi ((.iastore, a, b) :: es) L (zI v :: zI i :: zR 27 :: st) M Q = zW (zSH Ln) d mi es L st (zup M 27 i v) Q := w_iast (n := 24) (rs := []) rfl (by omega) h0 h1
theorem ia_28 (h0 : 0 ≤ i) (h1 : i < 24) : zW (zSH Ln) d mi ((.iaload, a, b) :: es) L (zI i :: zR 28 :: st) M Q = zW (zSH Ln) d mi es L (zI (M 28 i) :: st) M Q := w_iald (n := 24) (rs := []) rfl h0 h1
theorem sa_28 (h0 : 0 ≤ i) (h1 : i < 24) : zW (zSH Ln) d mi ((.iastore, a, b) :: es) L (zI v :: zI i :: zR 28 :: st) M Q = zW (zSH Ln) d mi es L st (zup M 28 i v) Q := w_iast (n := 24) (rs := []) rfl (by omega) h0 h1
theorem ia_30 (h0 : 0 ≤ i) (h1 : i < 12) : zW (zSH Ln) d mi ((.iaload, a, b) :: es) L (zI i :: zR 30 :: st) M Q = zW (zSH Ln) d mi es L (zI (M 30 i) :: st) M Q := w_iald (n := 12) (rs := []) rfl h0 h1
theorem sa_30 (h0 : 0 ≤ i) (h1 : i < 12) : zW (zSH Ln) d mi ((.iastore, a, b) :: es) L (zI v :: zI i :: zR 30 :: st) M Q = zW (zSH Ln) d mi es L st (zup M 30 i v) Q := w_iast (n := 12) (rs := []) rfl (by omega) h0 h1
theorem ia_31 (h0 : 0 ≤ i) (h1 : i < 41) : zW (zSH Ln) d mi ((.iaload, a, b) :: es) L (zI i :: zR 31 :: st) M Q = zW (zSH Ln) d mi es L (zI (M 31 i) :: st) M Q := w_iald (n := 41) (rs := []) rfl h0 h1
theorem sa_31 (h0 : 0 ≤ i) (h1 : i < 41) : zW (zSH Ln) d mi ((.iastore, a, b) :: es) L (zI v :: zI i :: zR 31 :: st) M Q = zW (zSH Ln) d mi es L st (zup M 31 i v) Q := w_iast (n := 41) (rs := []) rfl (by omega) h0 h1
theorem ia_33 (h0 : 0 ≤ i) (h1 : i < 48) : zW (zSH Ln) d mi ((.iaload, a, b) :: es) L (zI i :: zR 33 :: st) M Q = zW (zSH Ln) d mi es L (zI (M 33 i) :: st) M Q := w_iald (n := 48) (rs := []) rfl h0 h1
theorem sa_33 (h0 : 0 ≤ i) (h1 : i < 48) : zW (zSH Ln) d mi ((.iastore, a, b) :: es) L (zI v :: zI i :: zR 33 :: st) M Q = zW (zSH Ln) d mi es L st (zup M 33 i v) Q := w_iast (n := 48) (rs := []) rfl (by omega) h0 h1
theorem ia_34 (h0 : 0 ≤ i) (h1 : i < 48) : zW (zSH Ln) d mi ((.iaload, a, b) :: es) L (zI i :: zR 34 :: st) M Q = zW (zSH Ln) d mi es L (zI (M 34 i) :: st) M Q := w_iald (n := 48) (rs := []) rfl h0 h1
theorem sa_34 (h0 : 0 ≤ i) (h1 : i < 48) : zW (zSH Ln) d mi ((.iastore, a, b) :: es) L (zI v :: zI i :: zR 34 :: st) M Q = zW (zSH Ln) d mi es L st (zup M 34 i v) Q := w_iast (n := 48) (rs := []) rfl (by omega) h0 h1
theorem ia_35 (h0 : 0 ≤ i) (h1 : i < 12) : zW (zSH Ln) d mi ((.iaload, a, b) :: es) L (zI i :: zR 35 :: st) M Q = zW (zSH Ln) d mi es L (zI (M 35 i) :: st) M Q := w_iald (n := 12) (rs := []) rfl h0 h1
theorem sa_35 (h0 : 0 ≤ i) (h1 : i < 12) : zW (zSH Ln) d mi ((.iastore, a, b) :: es) L (zI v :: zI i :: zR 35 :: st) M Q = zW (zSH Ln) d mi es L st (zup M 35 i v) Q := w_iast (n := 12) (rs := []) rfl (by omega) h0 h1
theorem ia_37 (h0 : 0 ≤ i) (h1 : i < 144) : zW (zSH Ln) d mi ((.iaload, a, b) :: es) L (zI i :: zR 37 :: st) M Q = zW (zSH Ln) d mi es L (zI (M 37 i) :: st) M Q := w_iald (n := 144) (rs := []) rfl h0 h1
theorem sa_37 (h0 : 0 ≤ i) (h1 : i < 144) : zW (zSH Ln) d mi ((.iastore, a, b) :: es) L (zI v :: zI i :: zR 37 :: st) M Q = zW (zSH Ln) d mi es L st (zup M 37 i v) Q := w_iast (n := 144) (rs := []) rfl (by omega) h0 h1
theorem ia_38 (h0 : 0 ≤ i) (h1 : i < 12) : zW (zSH Ln) d mi ((.iaload, a, b) :: es) L (zI i :: zR 38 :: st) M Q = zW (zSH Ln) d mi es L (zI (M 38 i) :: st) M Q := w_iald (n := 12) (rs := []) rfl h0 h1
theorem sa_38 (h0 : 0 ≤ i) (h1 : i < 12) : zW (zSH Ln) d mi ((.iastore, a, b) :: es) L (zI v :: zI i :: zR 38 :: st) M Q = zW (zSH Ln) d mi es L st (zup M 38 i v) Q := w_iast (n := 12) (rs := []) rfl (by omega) h0 h1
theorem ia_39 (h0 : 0 ≤ i) (h1 : i < 12) : zW (zSH Ln) d mi ((.iaload, a, b) :: es) L (zI i :: zR 39 :: st) M Q = zW (zSH Ln) d mi es L (zI (M 39 i) :: st) M Q := w_iald (n := 12) (rs := []) rfl h0 h1
theorem sa_39 (h0 : 0 ≤ i) (h1 : i < 12) : zW (zSH Ln) d mi ((.iastore, a, b) :: es) L (zI v :: zI i :: zR 39 :: st) M Q = zW (zSH Ln) d mi es L st (zup M 39 i v) Q := w_iast (n := 12) (rs := []) rfl (by omega) h0 h1
theorem ia_40 (h0 : 0 ≤ i) (h1 : i < 156) : zW (zSH Ln) d mi ((.laload, a, b) :: es) L (zI i :: zR 40 :: st) M Q = zW (zSH Ln) d mi es L (zL (M 40 i) :: st) M Q := w_lald (n := 156) (rs := []) rfl (by omega) h0 h1
theorem sa_40 (h0 : 0 ≤ i) (h1 : i < 156) : zW (zSH Ln) d mi ((.lastore, a, b) :: es) L (zL v :: zI i :: zR 40 :: st) M Q = zW (zSH Ln) d mi es L st (zup M 40 i v) Q := w_last (n := 156) (rs := []) rfl (by omega) h0 h1
theorem ia_42 (h0 : 0 ≤ i) (h1 : i < 4) : zW (zSH Ln) d mi ((.iaload, a, b) :: es) L (zI i :: zR 42 :: st) M Q = zW (zSH Ln) d mi es L (zI (M 42 i) :: st) M Q := w_iald (n := 4) (rs := []) rfl h0 h1
theorem sa_42 (h0 : 0 ≤ i) (h1 : i < 4) : zW (zSH Ln) d mi ((.iastore, a, b) :: es) L (zI v :: zI i :: zR 42 :: st) M Q = zW (zSH Ln) d mi es L st (zup M 42 i v) Q := w_iast (n := 4) (rs := []) rfl (by omega) h0 h1
theorem ia_43 (h0 : 0 ≤ i) (h1 : i < 48) : zW (zSH Ln) d mi ((.iaload, a, b) :: es) L (zI i :: zR 43 :: st) M Q = zW (zSH Ln) d mi es L (zI (M 43 i) :: st) M Q := w_iald (n := 48) (rs := []) rfl h0 h1
theorem sa_43 (h0 : 0 ≤ i) (h1 : i < 48) : zW (zSH Ln) d mi ((.iastore, a, b) :: es) L (zI v :: zI i :: zR 43 :: st) M Q = zW (zSH Ln) d mi es L st (zup M 43 i v) Q := w_iast (n := 48) (rs := []) rfl (by omega) h0 h1
theorem ia_45 (h0 : 0 ≤ i) (h1 : i < 4) : zW (zSH Ln) d mi ((.iaload, a, b) :: es) L (zI i :: zR 45 :: st) M Q = zW (zSH Ln) d mi es L (zI (M 45 i) :: st) M Q := w_iald (n := 4) (rs := []) rfl h0 h1
theorem sa_45 (h0 : 0 ≤ i) (h1 : i < 4) : zW (zSH Ln) d mi ((.iastore, a, b) :: es) L (zI v :: zI i :: zR 45 :: st) M Q = zW (zSH Ln) d mi es L st (zup M 45 i v) Q := w_iast (n := 4) (rs := []) rfl (by omega) h0 h1
theorem ia_46 (h0 : 0 ≤ i) (h1 : i < 4) : zW (zSH Ln) d mi ((.iaload, a, b) :: es) L (zI i :: zR 46 :: st) M Q = zW (zSH Ln) d mi es L (zI (M 46 i) :: st) M Q := w_iald (n := 4) (rs := []) rfl h0 h1
theorem sa_46 (h0 : 0 ≤ i) (h1 : i < 4) : zW (zSH Ln) d mi ((.iastore, a, b) :: es) L (zI v :: zI i :: zR 46 :: st) M Q = zW (zSH Ln) d mi es L st (zup M 46 i v) Q := w_iast (n := 4) (rs := []) rfl (by omega) h0 h1
theorem ia_47 (h0 : 0 ≤ i) (h1 : i < 324) : zW (zSH Ln) d mi ((.iaload, a, b) :: es) L (zI i :: zR 47 :: st) M Q = zW (zSH Ln) d mi es L (zI (M 47 i) :: st) M Q := w_iald (n := 324) (rs := []) rfl h0 h1
theorem sa_47 (h0 : 0 ≤ i) (h1 : i < 324) : zW (zSH Ln) d mi ((.iastore, a, b) :: es) L (zI v :: zI i :: zR 47 :: st) M Q = zW (zSH Ln) d mi es L st (zup M 47 i v) Q := w_iast (n := 324) (rs := []) rfl (by omega) h0 h1
theorem ia_49 (h0 : 0 ≤ i) (h1 : i < 48) : zW (zSH Ln) d mi ((.iaload, a, b) :: es) L (zI i :: zR 49 :: st) M Q = zW (zSH Ln) d mi es L (zI (M 49 i) :: st) M Q := w_iald (n := 48) (rs := []) rfl h0 h1
theorem sa_49 (h0 : 0 ≤ i) (h1 : i < 48) : zW (zSH Ln) d mi ((.iastore, a, b) :: es) L (zI v :: zI i :: zR 49 :: st) M Q = zW (zSH Ln) d mi es L st (zup M 49 i v) Q := w_iast (n := 48) (rs := []) rfl (by omega) h0 h1
theorem ia_50 (h0 : 0 ≤ i) (h1 : i < 972) : zW (zSH Ln) d mi ((.iaload, a, b) :: es) L (zI i :: zR 50 :: st) M Q = zW (zSH Ln) d mi es L (zI (M 50 i) :: st) M Q := w_iald (n := 972) (rs := []) rfl h0 h1
theorem sa_50 (h0 : 0 ≤ i) (h1 : i < 972) : zW (zSH Ln) d mi ((.iastore, a, b) :: es) L (zI v :: zI i :: zR 50 :: st) M Q = zW (zSH Ln) d mi es L st (zup M 50 i v) Q := w_iast (n := 972) (rs := []) rfl (by omega) h0 h1
theorem ia_51 (h0 : 0 ≤ i) (h1 : i < 144) : zW (zSH Ln) d mi ((.iaload, a, b) :: es) L (zI i :: zR 51 :: st) M Q = zW (zSH Ln) d mi es L (zI (M 51 i) :: st) M Q := w_iald (n := 144) (rs := []) rfl h0 h1
theorem sa_51 (h0 : 0 ≤ i) (h1 : i < 144) : zW (zSH Ln) d mi ((.iastore, a, b) :: es) L (zI v :: zI i :: zR 51 :: st) M Q = zW (zSH Ln) d mi es L st (zup M 51 i v) Q := w_iast (n := 144) (rs := []) rfl (by omega) h0 h1
theorem ia_52 (h0 : 0 ≤ i) (h1 : i < 12) : zW (zSH Ln) d mi ((.iaload, a, b) :: es) L (zI i :: zR 52 :: st) M Q = zW (zSH Ln) d mi es L (zI (M 52 i) :: st) M Q := w_iald (n := 12) (rs := []) rfl h0 h1
theorem sa_52 (h0 : 0 ≤ i) (h1 : i < 12) : zW (zSH Ln) d mi ((.iastore, a, b) :: es) L (zI v :: zI i :: zR 52 :: st) M Q = zW (zSH Ln) d mi es L st (zup M 52 i v) Q := w_iast (n := 12) (rs := []) rfl (by omega) h0 h1
theorem ia_53 (h0 : 0 ≤ i) (h1 : i < 48) : zW (zSH Ln) d mi ((.iaload, a, b) :: es) L (zI i :: zR 53 :: st) M Q = zW (zSH Ln) d mi es L (zI (M 53 i) :: st) M Q := w_iald (n := 48) (rs := []) rfl h0 h1
theorem sa_53 (h0 : 0 ≤ i) (h1 : i < 48) : zW (zSH Ln) d mi ((.iastore, a, b) :: es) L (zI v :: zI i :: zR 53 :: st) M Q = zW (zSH Ln) d mi es L st (zup M 53 i v) Q := w_iast (n := 48) (rs := []) rfl (by omega) h0 h1
theorem ia_54 (h0 : 0 ≤ i) (h1 : i < 48) : zW (zSH Ln) d mi ((.iaload, a, b) :: es) L (zI i :: zR 54 :: st) M Q = zW (zSH Ln) d mi es L (zI (M 54 i) :: st) M Q := w_iald (n := 48) (rs := []) rfl h0 h1
theorem sa_54 (h0 : 0 ≤ i) (h1 : i < 48) : zW (zSH Ln) d mi ((.iastore, a, b) :: es) L (zI v :: zI i :: zR 54 :: st) M Q = zW (zSH Ln) d mi es L st (zup M 54 i v) Q := w_iast (n := 48) (rs := []) rfl (by omega) h0 h1
theorem ia_55 (h0 : 0 ≤ i) (h1 : i < 4) : zW (zSH Ln) d mi ((.iaload, a, b) :: es) L (zI i :: zR 55 :: st) M Q = zW (zSH Ln) d mi es L (zI (M 55 i) :: st) M Q := w_iald (n := 4) (rs := []) rfl h0 h1
theorem sa_55 (h0 : 0 ≤ i) (h1 : i < 4) : zW (zSH Ln) d mi ((.iastore, a, b) :: es) L (zI v :: zI i :: zR 55 :: st) M Q = zW (zSH Ln) d mi es L st (zup M 55 i v) Q := w_iast (n := 4) (rs := []) rfl (by omega) h0 h1
theorem ia_56 (h0 : 0 ≤ i) (h1 : i < 24) : zW (zSH Ln) d mi ((.iaload, a, b) :: es) L (zI i :: zR 56 :: st) M Q = zW (zSH Ln) d mi es L (zI (M 56 i) :: st) M Q := w_iald (n := 24) (rs := []) rfl h0 h1
theorem sa_56 (h0 : 0 ≤ i) (h1 : i < 24) : zW (zSH Ln) d mi ((.iastore, a, b) :: es) L (zI v :: zI i :: zR 56 :: st) M Q = zW (zSH Ln) d mi es L st (zup M 56 i v) Q := w_iast (n := 24) (rs := []) rfl (by omega) h0 h1
theorem ia_57 (h0 : 0 ≤ i) (h1 : i < 24) : zW (zSH Ln) d mi ((.iaload, a, b) :: es) L (zI i :: zR 57 :: st) M Q = zW (zSH Ln) d mi es L (zI (M 57 i) :: st) M Q := w_iald (n := 24) (rs := []) rfl h0 h1
theorem sa_57 (h0 : 0 ≤ i) (h1 : i < 24) : zW (zSH Ln) d mi ((.iastore, a, b) :: es) L (zI v :: zI i :: zR 57 :: st) M Q = zW (zSH Ln) d mi es L st (zup M 57 i v) Q := w_iast (n := 24) (rs := []) rfl (by omega) h0 h1
theorem ia_58 (h0 : 0 ≤ i) (h1 : i < 24) : zW (zSH Ln) d mi ((.iaload, a, b) :: es) L (zI i :: zR 58 :: st) M Q = zW (zSH Ln) d mi es L (zI (M 58 i) :: st) M Q := w_iald (n := 24) (rs := []) rfl h0 h1
theorem sa_58 (h0 : 0 ≤ i) (h1 : i < 24) : zW (zSH Ln) d mi ((.iastore, a, b) :: es) L (zI v :: zI i :: zR 58 :: st) M Q = zW (zSH Ln) d mi es L st (zup M 58 i v) Q := w_iast (n := 24) (rs := []) rfl (by omega) h0 h1
theorem ia_59 (h0 : 0 ≤ i) (h1 : i < 24) : zW (zSH Ln) d mi ((.iaload, a, b) :: es) L (zI i :: zR 59 :: st) M Q = zW (zSH Ln) d mi es L (zI (M 59 i) :: st) M Q := w_iald (n := 24) (rs := []) rfl h0 h1
theorem sa_59 (h0 : 0 ≤ i) (h1 : i < 24) : zW (zSH Ln) d mi ((.iastore, a, b) :: es) L (zI v :: zI i :: zR 59 :: st) M Q = zW (zSH Ln) d mi es L st (zup M 59 i v) Q := w_iast (n := 24) (rs := []) rfl (by omega) h0 h1
theorem ia_60 (h0 : 0 ≤ i) (h1 : i < 24) : zW (zSH Ln) d mi ((.iaload, a, b) :: es) L (zI i :: zR 60 :: st) M Q = zW (zSH Ln) d mi es L (zI (M 60 i) :: st) M Q := w_iald (n := 24) (rs := []) rfl h0 h1
theorem sa_60 (h0 : 0 ≤ i) (h1 : i < 24) : zW (zSH Ln) d mi ((.iastore, a, b) :: es) L (zI v :: zI i :: zR 60 :: st) M Q = zW (zSH Ln) d mi es L st (zup M 60 i v) Q := w_iast (n := 24) (rs := []) rfl (by omega) h0 h1
theorem ia_61 (h0 : 0 ≤ i) (h1 : i < 24) : zW (zSH Ln) d mi ((.iaload, a, b) :: es) L (zI i :: zR 61 :: st) M Q = zW (zSH Ln) d mi es L (zI (M 61 i) :: st) M Q := w_iald (n := 24) (rs := []) rfl h0 h1
theorem sa_61 (h0 : 0 ≤ i) (h1 : i < 24) : zW (zSH Ln) d mi ((.iastore, a, b) :: es) L (zI v :: zI i :: zR 61 :: st) M Q = zW (zSH Ln) d mi es L st (zup M 61 i v) Q := w_iast (n := 24) (rs := []) rfl (by omega) h0 h1
theorem ia_62 (h0 : 0 ≤ i) (h1 : i < 24) : zW (zSH Ln) d mi ((.iaload, a, b) :: es) L (zI i :: zR 62 :: st) M Q = zW (zSH Ln) d mi es L (zI (M 62 i) :: st) M Q := w_iald (n := 24) (rs := []) rfl h0 h1
theorem sa_62 (h0 : 0 ≤ i) (h1 : i < 24) : zW (zSH Ln) d mi ((.iastore, a, b) :: es) L (zI v :: zI i :: zR 62 :: st) M Q = zW (zSH Ln) d mi es L st (zup M 62 i v) Q := w_iast (n := 24) (rs := []) rfl (by omega) h0 h1
theorem ia_63 (h0 : 0 ≤ i) (h1 : i < 24) : zW (zSH Ln) d mi ((.iaload, a, b) :: es) L (zI i :: zR 63 :: st) M Q = zW (zSH Ln) d mi es L (zI (M 63 i) :: st) M Q := w_iald (n := 24) (rs := []) rfl h0 h1
theorem sa_63 (h0 : 0 ≤ i) (h1 : i < 24) : zW (zSH Ln) d mi ((.iastore, a, b) :: es) L (zI v :: zI i :: zR 63 :: st) M Q = zW (zSH Ln) d mi es L st (zup M 63 i v) Q := w_iast (n := 24) (rs := []) rfl (by omega) h0 h1
theorem ia_64 (h0 : 0 ≤ i) (h1 : i < 24) : zW (zSH Ln) d mi ((.iaload, a, b) :: es) L (zI i :: zR 64 :: st) M Q = zW (zSH Ln) d mi es L (zI (M 64 i) :: st) M Q := w_iald (n := 24) (rs := []) rfl h0 h1
theorem sa_64 (h0 : 0 ≤ i) (h1 : i < 24) : zW (zSH Ln) d mi ((.iastore, a, b) :: es) L (zI v :: zI i :: zR 64 :: st) M Q = zW (zSH Ln) d mi es L st (zup M 64 i v) Q := w_iast (n := 24) (rs := []) rfl (by omega) h0 h1
theorem ia_65 (h0 : 0 ≤ i) (h1 : i < 24) : zW (zSH Ln) d mi ((.baload, a, b) :: es) L (zI i :: zR 65 :: st) M Q = zW (zSH Ln) d mi es L (zI (M 65 i) :: st) M Q := w_bald (n := 24) (rs := []) rfl (by omega) h0 h1
theorem sa_65 (h0 : 0 ≤ i) (h1 : i < 24) (hv : v = 0 ∨ v = 1) : zW (zSH Ln) d mi ((.bastore, a, b) :: es) L (zI v :: zI i :: zR 65 :: st) M Q = zW (zSH Ln) d mi es L st (zup M 65 i v) Q := w_bast (n := 24) (rs := []) rfl (by omega) h0 h1 hv
theorem ia_66 (h0 : 0 ≤ i) (h1 : i < 100) : zW (zSH Ln) d mi ((.iaload, a, b) :: es) L (zI i :: zR 66 :: st) M Q = zW (zSH Ln) d mi es L (zI (M 66 i) :: st) M Q := w_iald (n := 100) (rs := []) rfl h0 h1
theorem sa_66 (h0 : 0 ≤ i) (h1 : i < 100) : zW (zSH Ln) d mi ((.iastore, a, b) :: es) L (zI v :: zI i :: zR 66 :: st) M Q = zW (zSH Ln) d mi es L st (zup M 66 i v) Q := w_iast (n := 100) (rs := []) rfl (by omega) h0 h1
theorem ia_67 (h0 : 0 ≤ i) (h1 : i < 24) : zW (zSH Ln) d mi ((.iaload, a, b) :: es) L (zI i :: zR 67 :: st) M Q = zW (zSH Ln) d mi es L (zI (M 67 i) :: st) M Q := w_iald (n := 24) (rs := []) rfl h0 h1
theorem sa_67 (h0 : 0 ≤ i) (h1 : i < 24) : zW (zSH Ln) d mi ((.iastore, a, b) :: es) L (zI v :: zI i :: zR 67 :: st) M Q = zW (zSH Ln) d mi es L st (zup M 67 i v) Q := w_iast (n := 24) (rs := []) rfl (by omega) h0 h1
theorem ia_68 (h0 : 0 ≤ i) (h1 : i < 12) : zW (zSH Ln) d mi ((.iaload, a, b) :: es) L (zI i :: zR 68 :: st) M Q = zW (zSH Ln) d mi es L (zI (M 68 i) :: st) M Q := w_iald (n := 12) (rs := []) rfl h0 h1
theorem sa_68 (h0 : 0 ≤ i) (h1 : i < 12) : zW (zSH Ln) d mi ((.iastore, a, b) :: es) L (zI v :: zI i :: zR 68 :: st) M Q = zW (zSH Ln) d mi es L st (zup M 68 i v) Q := w_iast (n := 12) (rs := []) rfl (by omega) h0 h1
theorem ia_69 (h0 : 0 ≤ i) (h1 : i < 12) : zW (zSH Ln) d mi ((.iaload, a, b) :: es) L (zI i :: zR 69 :: st) M Q = zW (zSH Ln) d mi es L (zI (M 69 i) :: st) M Q := w_iald (n := 12) (rs := []) rfl h0 h1
theorem sa_69 (h0 : 0 ≤ i) (h1 : i < 12) : zW (zSH Ln) d mi ((.iastore, a, b) :: es) L (zI v :: zI i :: zR 69 :: st) M Q = zW (zSH Ln) d mi es L st (zup M 69 i v) Q := w_iast (n := 12) (rs := []) rfl (by omega) h0 h1
theorem ia_70 (h0 : 0 ≤ i) (h1 : i < 12) : zW (zSH Ln) d mi ((.iaload, a, b) :: es) L (zI i :: zR 70 :: st) M Q = zW (zSH Ln) d mi es L (zI (M 70 i) :: st) M Q := w_iald (n := 12) (rs := []) rfl h0 h1
theorem sa_70 (h0 : 0 ≤ i) (h1 : i < 12) : zW (zSH Ln) d mi ((.iastore, a, b) :: es) L (zI v :: zI i :: zR 70 :: st) M Q = zW (zSH Ln) d mi es L st (zup M 70 i v) Q := w_iast (n := 12) (rs := []) rfl (by omega) h0 h1
theorem ia_71 (h0 : 0 ≤ i) (h1 : i < 41) : zW (zSH Ln) d mi ((.iaload, a, b) :: es) L (zI i :: zR 71 :: st) M Q = zW (zSH Ln) d mi es L (zI (M 71 i) :: st) M Q := w_iald (n := 41) (rs := []) rfl h0 h1
theorem sa_71 (h0 : 0 ≤ i) (h1 : i < 41) : zW (zSH Ln) d mi ((.iastore, a, b) :: es) L (zI v :: zI i :: zR 71 :: st) M Q = zW (zSH Ln) d mi es L st (zup M 71 i v) Q := w_iast (n := 41) (rs := []) rfl (by omega) h0 h1
theorem ia_72 (h0 : 0 ≤ i) (h1 : i < 4) : zW (zSH Ln) d mi ((.iaload, a, b) :: es) L (zI i :: zR 72 :: st) M Q = zW (zSH Ln) d mi es L (zI (M 72 i) :: st) M Q := w_iald (n := 4) (rs := []) rfl h0 h1
theorem sa_72 (h0 : 0 ≤ i) (h1 : i < 4) : zW (zSH Ln) d mi ((.iastore, a, b) :: es) L (zI v :: zI i :: zR 72 :: st) M Q = zW (zSH Ln) d mi es L st (zup M 72 i v) Q := w_iast (n := 4) (rs := []) rfl (by omega) h0 h1
theorem ia_73 (h0 : 0 ≤ i) (h1 : i < 4) : zW (zSH Ln) d mi ((.iaload, a, b) :: es) L (zI i :: zR 73 :: st) M Q = zW (zSH Ln) d mi es L (zI (M 73 i) :: st) M Q := w_iald (n := 4) (rs := []) rfl h0 h1
theorem sa_73 (h0 : 0 ≤ i) (h1 : i < 4) : zW (zSH Ln) d mi ((.iastore, a, b) :: es) L (zI v :: zI i :: zR 73 :: st) M Q = zW (zSH Ln) d mi es L st (zup M 73 i v) Q := w_iast (n := 4) (rs := []) rfl (by omega) h0 h1
theorem ia_74 (h0 : 0 ≤ i) (h1 : i < 324) : zW (zSH Ln) d mi ((.iaload, a, b) :: es) L (zI i :: zR 74 :: st) M Q = zW (zSH Ln) d mi es L (zI (M 74 i) :: st) M Q := w_iald (n := 324) (rs := []) rfl h0 h1
theorem sa_74 (h0 : 0 ≤ i) (h1 : i < 324) : zW (zSH Ln) d mi ((.iastore, a, b) :: es) L (zI v :: zI i :: zR 74 :: st) M Q = zW (zSH Ln) d mi es L st (zup M 74 i v) Q := w_iast (n := 324) (rs := []) rfl (by omega) h0 h1
theorem ia_75 (h0 : 0 ≤ i) (h1 : i < 81) : zW (zSH Ln) d mi ((.iaload, a, b) :: es) L (zI i :: zR 75 :: st) M Q = zW (zSH Ln) d mi es L (zI (M 75 i) :: st) M Q := w_iald (n := 81) (rs := []) rfl h0 h1
theorem sa_75 (h0 : 0 ≤ i) (h1 : i < 81) : zW (zSH Ln) d mi ((.iastore, a, b) :: es) L (zI v :: zI i :: zR 75 :: st) M Q = zW (zSH Ln) d mi es L st (zup M 75 i v) Q := w_iast (n := 81) (rs := []) rfl (by omega) h0 h1
theorem ia_76 (h0 : 0 ≤ i) (h1 : i < 48) : zW (zSH Ln) d mi ((.iaload, a, b) :: es) L (zI i :: zR 76 :: st) M Q = zW (zSH Ln) d mi es L (zI (M 76 i) :: st) M Q := w_iald (n := 48) (rs := []) rfl h0 h1
theorem sa_76 (h0 : 0 ≤ i) (h1 : i < 48) : zW (zSH Ln) d mi ((.iastore, a, b) :: es) L (zI v :: zI i :: zR 76 :: st) M Q = zW (zSH Ln) d mi es L st (zup M 76 i v) Q := w_iast (n := 48) (rs := []) rfl (by omega) h0 h1
theorem ia_77 (h0 : 0 ≤ i) (h1 : i < 48) : zW (zSH Ln) d mi ((.iaload, a, b) :: es) L (zI i :: zR 77 :: st) M Q = zW (zSH Ln) d mi es L (zI (M 77 i) :: st) M Q := w_iald (n := 48) (rs := []) rfl h0 h1
theorem sa_77 (h0 : 0 ≤ i) (h1 : i < 48) : zW (zSH Ln) d mi ((.iastore, a, b) :: es) L (zI v :: zI i :: zR 77 :: st) M Q = zW (zSH Ln) d mi es L st (zup M 77 i v) Q := w_iast (n := 48) (rs := []) rfl (by omega) h0 h1
theorem ia_78 (h0 : 0 ≤ i) (h1 : i < 48) : zW (zSH Ln) d mi ((.iaload, a, b) :: es) L (zI i :: zR 78 :: st) M Q = zW (zSH Ln) d mi es L (zI (M 78 i) :: st) M Q := w_iald (n := 48) (rs := []) rfl h0 h1
theorem sa_78 (h0 : 0 ≤ i) (h1 : i < 48) : zW (zSH Ln) d mi ((.iastore, a, b) :: es) L (zI v :: zI i :: zR 78 :: st) M Q = zW (zSH Ln) d mi es L st (zup M 78 i v) Q := w_iast (n := 48) (rs := []) rfl (by omega) h0 h1
theorem ia_79 (h0 : 0 ≤ i) (h1 : i < 48) : zW (zSH Ln) d mi ((.iaload, a, b) :: es) L (zI i :: zR 79 :: st) M Q = zW (zSH Ln) d mi es L (zI (M 79 i) :: st) M Q := w_iald (n := 48) (rs := []) rfl h0 h1
theorem sa_79 (h0 : 0 ≤ i) (h1 : i < 48) : zW (zSH Ln) d mi ((.iastore, a, b) :: es) L (zI v :: zI i :: zR 79 :: st) M Q = zW (zSH Ln) d mi es L st (zup M 79 i v) Q := w_iast (n := 48) (rs := []) rfl (by omega) h0 h1
theorem ia_80 (h0 : 0 ≤ i) (h1 : i < 12) : zW (zSH Ln) d mi ((.iaload, a, b) :: es) L (zI i :: zR 80 :: st) M Q = zW (zSH Ln) d mi es L (zI (M 80 i) :: st) M Q := w_iald (n := 12) (rs := []) rfl h0 h1
theorem sa_80 (h0 : 0 ≤ i) (h1 : i < 12) : zW (zSH Ln) d mi ((.iastore, a, b) :: es) L (zI v :: zI i :: zR 80 :: st) M Q = zW (zSH Ln) d mi es L st (zup M 80 i v) Q := w_iast (n := 12) (rs := []) rfl (by omega) h0 h1
theorem ia_81 (h0 : 0 ≤ i) (h1 : i < 156) : zW (zSH Ln) d mi ((.laload, a, b) :: es) L (zI i :: zR 81 :: st) M Q = zW (zSH Ln) d mi es L (zL (M 81 i) :: st) M Q := w_lald (n := 156) (rs := []) rfl (by omega) h0 h1
theorem sa_81 (h0 : 0 ≤ i) (h1 : i < 156) : zW (zSH Ln) d mi ((.lastore, a, b) :: es) L (zL v :: zI i :: zR 81 :: st) M Q = zW (zSH Ln) d mi es L st (zup M 81 i v) Q := w_last (n := 156) (rs := []) rfl (by omega) h0 h1
theorem ia_82 (h0 : 0 ≤ i) (h1 : i < 48) : zW (zSH Ln) d mi ((.iaload, a, b) :: es) L (zI i :: zR 82 :: st) M Q = zW (zSH Ln) d mi es L (zI (M 82 i) :: st) M Q := w_iald (n := 48) (rs := []) rfl h0 h1
theorem sa_82 (h0 : 0 ≤ i) (h1 : i < 48) : zW (zSH Ln) d mi ((.iastore, a, b) :: es) L (zI v :: zI i :: zR 82 :: st) M Q = zW (zSH Ln) d mi es L st (zup M 82 i v) Q := w_iast (n := 48) (rs := []) rfl (by omega) h0 h1
end ZY
