/-! the rows as rewriting rules -/
def zgI (o : Option zMV) (f : zMV → Prop) : Prop := match o with
  | some (.inl x) => f (zI x)
  | _ => False
def zgL (o : Option zMV) (f : zMV → Prop) : Prop := match o with
  | some (.inr (.inl x)) => f (zL x)
  | _ => False
def zgR (o : Option zMV) (f : zMV → Prop) : Prop := match o with
  | some (.inr (.inr (some x))) => f (zR x)
  | _ => False
def zgV (o : Option zMV) (f : zMV → Prop) : Prop := match o with
  | some v => f v
  | none => False
def zst1 (L : List zMV) (j : Nat) (v : zMV) (f : List zMV → Prop) : Prop := j < L.length ∧ f (zset1 L j v)
def zst2 (L : List zMV) (j : Nat) (v : zMV) (f : List zMV → Prop) : Prop := j + 1 < L.length ∧ f (zset2 L j v)
theorem g_I (x : Int) (f : zMV → Prop) : zgI (some (zI x)) f = f (zI x) := rfl
theorem g_L (x : Int) (f : zMV → Prop) : zgL (some (zL x)) f = f (zL x) := rfl
theorem g_R (x : Nat) (f : zMV → Prop) : zgR (some (zR x)) f = f (zR x) := rfl
theorem g_V (v : zMV) (f : zMV → Prop) : zgV (some v) f = f v := rfl
theorem t_0 (a v : zMV) (L : List zMV) (f : List zMV → Prop) : zst1 (a :: L) 0 v f = f (v :: L) := by
  simp [zst1, zs1_0]
theorem t_I (x : Int) (a v : zMV) (L : List zMV) (f : List zMV → Prop) : zst1 (zI x :: a :: L) 1 v f = f (zI x :: v :: L) := by
  simp [zst1, zs1_I]
theorem t_R (x : Nat) (a v : zMV) (L : List zMV) (f : List zMV → Prop) : zst1 (zR x :: a :: L) 1 v f = f (zR x :: v :: L) := by
  simp [zst1, zs1_R]
theorem t_U (a v : zMV) (L : List zMV) (f : List zMV → Prop) : zst1 (zU :: a :: L) 1 v f = f (zU :: v :: L) := by
  simp [zst1, zs1_U]
theorem t_L (x : Int) (a v : zMV) (L : List zMV) (f : List zMV → Prop) : zst1 (zL x :: a :: L) 1 v f = f (zU :: v :: L) := by
  simp [zst1, zs1_L]
theorem t_s (j : Nat) (a v : zMV) (L : List zMV) (f : List zMV → Prop) : zst1 (a :: L) (j + 2) v f = zst1 L (j + 1) v fun L' => f (a :: L') := by
  simp [zst1, zs1_s]
  intro _
  omega
theorem t2 (L : List zMV) (j : Nat) (v : zMV) (f : List zMV → Prop) : zst2 L j v f = zst1 L j v fun L' => zst1 L' (j + 1) zU fun L'' => j + 1 < L.length ∧ f (L'.set (j + 1) zU) := by
  apply propext
  unfold zst2 zst1 zset2
  constructor
  · rintro ⟨h1, h2⟩
    exact ⟨by omega, by rw [zset1_len]; exact h1, h1, h2⟩
  · rintro ⟨h1, h2, h3, h4⟩
    exact ⟨h3, h4⟩
section ZX
variable {S : List zSh} {d mi : Nat} {e : zEnt} {es : List zEnt} {L st : List zMV} {M : Nat → Int → Int} {Q : Option zMV → (Nat → Int → Int) → Prop} {a b : Nat}
/-- stuck -/
theorem zW_no (hc : zisC e.1 = false) (h : znxt e L st (S, M) = none) : zW S d mi (e :: es) L st M Q = False := by
  apply propext
  constructor
  · rintro ⟨n, r, M', h1, h2⟩
    cases n with
    | zero => cases h1
    | succ n => rw [zrun_eq, zrun_nx hc, h] at h1; cases h1
  · exact False.elim
theorem x_iload {j : Nat} : zW S d mi ((.iload j, a, b) :: es) L st M Q = zgI L[j]? fun v => zW S d mi es L (v :: st) M Q := by
  unfold zgI
  split
  · next x h => exact w_iload h
  · next h =>
    refine zW_no rfl ?_
    simp only [znxt]
theorem x_lload {j : Nat} : zW S d mi ((.lload j, a, b) :: es) L st M Q = zgL L[j]? fun v => zW S d mi es L (v :: st) M Q := by
  unfold zgL
  split
  · next x h => exact w_lload h
  · next h =>
    refine zW_no rfl ?_
    simp only [znxt]
theorem x_aload {j : Nat} : zW S d mi ((.aload j, a, b) :: es) L st M Q = zgR L[j]? fun v => zW S d mi es L (v :: st) M Q := by
  unfold zgR
  split
  · next x h => exact w_aload h
  · next h =>
    refine zW_no rfl ?_
    simp only [znxt]
theorem x_istore {j : Nat} {x : Int} : zW S d mi ((.istore j, a, b) :: es) L (zI x :: st) M Q = zst1 L j (zI x) fun L' => zW S d mi es L' st M Q := by
  unfold zst1
  by_cases h : j < L.length
  · rw [w_istore rfl h]; simp [h]
  · rw [zW_no rfl (by simp only [znxt, if_neg h])]; simp [h]
theorem x_astore {j k : Nat} : zW S d mi ((.astore j, a, b) :: es) L (zR k :: st) M Q = zst1 L j (zR k) fun L' => zW S d mi es L' st M Q := by
  unfold zst1
  by_cases h : j < L.length
  · rw [w_astore rfl h]; simp [h]
  · rw [zW_no rfl (by simp only [znxt, if_neg h])]; simp [h]
theorem x_lstore {j : Nat} {x : Int} : zW S d mi ((.lstore j, a, b) :: es) L (zL x :: st) M Q = zst2 L j (zL x) fun L' => zW S d mi es L' st M Q := by
  unfold zst2
  by_cases h : j + 1 < L.length
  · rw [w_lstore rfl h]; simp [h]
  · rw [zW_no rfl (by simp only [znxt, if_neg h])]; simp [h]
theorem x_iinc {j : Nat} {n : Int} : zW S d mi ((.iinc j n, a, b) :: es) L st M Q = zgI L[j]? fun v => match v with
    | .inl x => zst1 L j (zI (zadd x n)) fun L' => zW S d mi es L' st M Q
    | _ => False := by
  unfold zgI zst1
  split
  · next x h =>
    have hj : j < L.length := (List.getElem?_eq_some_iff.mp h).1
    rw [w_iinc h rfl hj]; simp [hj]
  · next h =>
    refine zW_no rfl ?_
    simp only [znxt]
theorem x_getf {k o : Nat} : zW S d mi ((.getfield o, a, b) :: es) L (zR k :: st) M Q = zgV (zgetf (S, M) k a b) fun v => zW S d mi es L (v :: st) M Q := by
  unfold zgV
  split
  · next v h => exact w_getf (j := 0) h
  · next h => exact zW_no rfl (by simp only [znxt, h]; rfl)
theorem x_putf {k o : Nat} {v : zMV} {M1 : Nat → Int → Int} (h : zputf (S, M) k a b v = some (S, M1)) : zW S d mi ((.putfield o, a, b) :: es) L (v :: zR k :: st) M Q = zW S d mi es L st M1 Q := w_putf h
/-- a call of a method whose answer and memory are known -/
theorem c_stat {o m2 : Nat} {vs st' : List zMV} {r0 : Option zMV} {M0 : Nat → Int → Int} (hd : 1 ≤ d) (h1 : st = vs.reverse ++ st') (hl : vs.length = zmA m2) (hc : zcats st' ≤ 8) (hs : (zspread vs).length ≤ zmL m2) (hF : zF S (d - 1) m2 vs M fun r M' => r = r0 ∧ M' = M0) : zW S d mi ((.invokestatic o, m2, b) :: es) L st M Q = zW S d mi es L (r0.toList ++ st') M0 Q := by
  apply propext
  constructor
  · rintro ⟨n, r, M', h2, h3⟩
    cases n with
    | zero => cases h2
    | succ n =>
      obtain ⟨d, rfl⟩ : ∃ k, d = k + 1 := ⟨d - 1, by omega⟩
      have ht : st.take (zmA m2) = vs.reverse := by rw [h1, List.take_left' (by simpa using hl)]
      have hdp : st.drop (zmA m2) = st' := by rw [h1, List.drop_left' (by simpa using hl)]
      have : zrun (n + 1) (d + 1) mi ((.invokestatic o, m2, b) :: es) L st (S, M) = if (st.take (zmA m2)).length = zmA m2 then zcall (zrun n) (d + 1) mi m2 es L (st.take (zmA m2)).reverse (st.drop (zmA m2)) (S, M) else none := rfl
      rw [this, ht, hdp, if_pos (by simpa using hl), List.reverse_reverse] at h2
      obtain ⟨d1, v, w', e1, -, -, e4, e5⟩ := zcall_inv h2
      obtain ⟨n2, r2, M2, f1, rfl, rfl⟩ := hF
      have e6 : d1 = d := by omega
      subst e6
      have := zrun_det e4 f1
      cases this
      exact ⟨n, r, M', e5, h3⟩
  · intro h
    exact w_calls hd h1 hl hc hs hF (fun r M' h2 => by rw [h2.1, h2.2]; exact h)
theorem c_virt {o m2 k n9 : Nat} {rs9 : List (Option Nat)} {ps st' : List zMV} {r0 : Option zMV} {M0 : Nat → Int → Int} (hd : 1 ≤ d) (h1 : st = ps.reverse ++ zR k :: st') (hl : ps.length = zmA m2) (hk2 : 2 ≤ k) (hk9 : S[k]? = some (3 + zmO m2, n9, rs9)) (hc : zcats st' ≤ 8) (hs : (zspread (zR k :: ps)).length ≤ zmL m2) (hF : zF S (d - 1) m2 (zR k :: ps) M fun r M' => r = r0 ∧ M' = M0) : zW S d mi ((.invokevirtual o, m2, b) :: es) L st M Q = zW S d mi es L (r0.toList ++ st') M0 Q := by
  apply propext
  constructor
  · rintro ⟨n, r, M', h2, h3⟩
    cases n with
    | zero => cases h2
    | succ n =>
      obtain ⟨d, rfl⟩ : ∃ k, d = k + 1 := ⟨d - 1, by omega⟩
      have e1 : st = (ps.reverse ++ [zR k]) ++ st' := by rw [h1]; simp
      have hl2 : (ps.reverse ++ [zR k]).length = zmA m2 + 1 := by simp [hl]
      have ht : st.take (zmA m2 + 1) = ps.reverse ++ [zR k] := by rw [e1, List.take_left' hl2]
      have hdp : st.drop (zmA m2 + 1) = st' := by rw [e1, List.drop_left' hl2]
      have hrv : (ps.reverse ++ [zR k]).reverse = zR k :: ps := by simp
      have : zrun (n + 1) (d + 1) mi ((.invokevirtual o, m2, b) :: es) L st (S, M) = if (st.take (zmA m2 + 1)).length = zmA m2 + 1 ∧ zrecv (S, M) m2 (st.take (zmA m2 + 1)).reverse = true then zcall (zrun n) (d + 1) mi m2 es L (st.take (zmA m2 + 1)).reverse (st.drop (zmA m2 + 1)) (S, M) else none := rfl
      rw [this, ht, hdp, hrv, if_pos ⟨hl2, by simp [zrecv, hk9, hk2]⟩] at h2
      obtain ⟨d1, v, w', e1, -, -, e4, e5⟩ := zcall_inv h2
      obtain ⟨n2, r2, M2, f1, rfl, rfl⟩ := hF
      have e6 : d1 = d := by omega
      subst e6
      have := zrun_det e4 f1
      cases this
      exact ⟨n, r, M', e5, h3⟩
  · intro h
    exact w_callv hd h1 hl hk2 hk9 hc hs hF (fun r M' h2 => by rw [h2.1, h2.2]; exact h)
theorem zF_en {vs : List zMV} {es : List zEnt} (h1 : zblk mi 0 = es) {L : List zMV} (h2 : zlocs vs (zmL mi) = L) : zF S d mi vs M Q = zW S d mi es L [] M Q := by
  unfold zF
  rw [h1, h2]
theorem q_eq (x y : Int) : (zcmp .eq x y = true) = (x = y) := by simp [zcmp]
theorem q_ne (x y : Int) : (zcmp .ne x y = true) = ¬ (x = y) := by simp [zcmp]
theorem q_lt (x y : Int) : (zcmp .lt x y = true) = (x < y) := by simp [zcmp]
theorem q_ge (x y : Int) : (zcmp .ge x y = true) = (y ≤ x) := by simp [zcmp]
theorem q_gt (x y : Int) : (zcmp .gt x y = true) = (y < x) := by simp [zcmp]
theorem q_le (x y : Int) : (zcmp .le x y = true) = (x ≤ y) := by simp [zcmp]
theorem y_int (t : Option FieldType) (x : Int) (h : t = some .int) : zrok t .ireturn [zI x] = some (some (zI x)) := by rw [h]; rfl
theorem y_bool (t : Option FieldType) (x : Int) (h : t = some .boolean) (hx : x = 0 ∨ x = 1) : zrok t .ireturn [zI x] = some (some (zI x)) := by rw [h]; simp [zrok, hx]
theorem y_void (t : Option FieldType) (h : t = none) : zrok t .return_ [] = some none := by rw [h]; rfl
end ZX
section ZY
variable {Ln d mi : Nat} {es : List zEnt} {L st : List zMV} {M : Nat → Int → Int} {Q : Option zMV → (Nat → Int → Int) → Prop} {a b : Nat} {i v : Int}
end ZY
