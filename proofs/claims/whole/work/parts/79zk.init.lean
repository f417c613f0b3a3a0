/-! how it begins, and the whole run -/
def zA0 : zAbs := (4, 2, fun _ _ => 1, fun s _ => s, fun _ => 0, fun _ s => if s < 12 then s else 0, fun _ _ _ => 0, fun _ _ => 0, -1, 1, fun _ => 0, fun _ => 0, fun _ => 0, fun _ => 0, 0, fun _ => 0, fun _ => -1, fun _ => 0, fun _ => 0, fun _ _ => false, 0, fun _ => 0)
theorem zP_0 : zJP zA0 := zJP_mk
  (Nz := ⟨by show 2 ≤ 4; omega, by show 4 ≤ 12; omega, by show 1 ≤ 2; omega, by show 2 ≤ 4; omega, fun s p => ⟨Nat.le_refl 1, by show 1 ≤ 3; omega⟩, fun s j hs hj => hs⟩)
  (ltz := fun s => by show 0 < 256; omega)
  (hpz := fun p s => by show (if s < 12 then s else 0) < 12; split <;> omega)
  (prz := fun s p q => Nat.zero_le _)
  (chz := fun s p => Nat.zero_lt_one)
  (loz := by show (-1 : Int) ≤ -1 ∧ (-1 : Int) < 2; omega)
  (Fz := ⟨Nat.le_refl 1, by show 1 ≤ 24; omega, fun k hk => ⟨Nat.zero_le _, fun z => absurd z (show ¬ (0 = 1) by omega), fun z => absurd z (show ¬ (2 ≤ 0) by omega), fun z => absurd z (show ¬ (ztwo 0 = true) by decide), fun z => absurd z (show ¬ (5 ≤ 0) by omega)⟩⟩)
  (qz := Nat.zero_le _) (tbz := fun j hj => absurd hj (Nat.not_lt_zero _))
  (szz := fun k hk => Nat.zero_le _) (lnz := fun k hk => by show (-1 : Int) ≤ -1; omega)
  (itz := fun z => by show (0 : Int) < 2147483648; omega) (tnz := Nat.zero_le _)
theorem zHL_h : ∀ i : Nat, i < 16 → zHL.getD i 0 = ((zhlp i : Nat) : Int) := by decide
theorem zC_0 {M : Nat → Int → Int} (h1 : M 1 = zf1) (h : zFst M) : zJC zA0 1 M := by
  obtain ⟨⟨n0, n1, n2, n3, n4, n5⟩, ⟨f0, f1, f2⟩, ⟨t0, t1⟩, ⟨l0, l1⟩, tp, pl, lo, go, ⟨s0, s1, s2⟩⟩ := h
  obtain ⟨m0, m1, m2⟩ := n0
  have e5 : M 3 2 = 1 := m2
  refine zJC_mk (Nz := ⟨m0, m1, fun s p a b => (n1 _ (by omega) (by omega)).1, n3⟩) (Lz := fun s a => n4 _ (by omega) (by omega)) (Hz := fun p s a b => ?_) (Qz := fun s p q a b c => n2 _ (by omega) (by omega)) (Kz := fun s p a b => (n1 _ (by omega) (by omega)).2) (loz := lo) (Fz := ⟨f0, fun k hk => ?_⟩) (Tz := ⟨tp, fun j hj => absurd hj (Nat.not_lt_zero _)⟩) (Shz := ⟨fun k hk => ⟨s0 k hk, s1 _⟩, fun x a b => s2 x⟩) (Gz := fun p hp => (go _).trans zset_none.symm) (Wz := ⟨pl, fun k hk => absurd hk (Nat.not_lt_zero _)⟩) (tabz := fun z => by omega) (lawz := fun z => by omega) (v1z := by omega) (v2z := by omega) (v3z := by omega) (v4z := by omega) (v5z := by omega) (hlz := fun i hi => ?_)
  · show M 9 _ = ((if s < 12 then s else 0 : Nat) : Int)
    rw [if_pos b]
    exact n5 p s a b
  · obtain rfl : k = 0 := Nat.lt_one_iff.mp hk
    exact ⟨f2, fun z => absurd z (by decide), fun z => absurd z (by decide), fun z => absurd z (by decide)⟩
  · rw [h1]
    exact zHL_h i hi
theorem zR_0 {M : Nat → Int → Int} (h : zFsr M) : zJR zA0 M := by
  obtain ⟨nw, ⟨e9, e10, e31, e24⟩, h55, h56, h72, hz⟩ := h
  refine zJR_mk (Nz := nw.1) (Lz := nw.2.1) (Hz := fun p s a b => ?_) (Qz := nw.2.2.2.1) (Kz := nw.2.2.2.2) (loz := e9) (Fz := ⟨e10, fun k hk => ?_, fun k hk => ?_⟩) (Tz := ⟨e24, fun j hj => absurd hj (Nat.not_lt_zero _)⟩) (Shz := ⟨fun k hk => ⟨h72 k hk, (hz _).2.2.2.2.1⟩, fun x a b => (hz x).2.2.2.2.2⟩) (Gz := fun p hp => (h55 p (by have : p < 2 := hp; omega)).trans zset_none.symm) (Wz := ⟨e31, fun k hk => absurd hk (Nat.not_lt_zero _)⟩) (rgz := fun k hk => ?_)
  · show M 53 _ = ((if s < 12 then s else 0 : Nat) : Int)
    rw [if_pos b]
    exact nw.2.2.1 p s a b
  · obtain rfl : k = 0 := Nat.lt_one_iff.mp hk
    exact ⟨h56.trans rfl, fun z => absurd z (by decide), fun z => absurd z (by decide), fun z => absurd z (by decide)⟩
  · rw [(hz k).1, (hz k).2.1]
    omega
  · rw [(hz k).2.2.1, (hz k).2.2.2.1]
    omega
theorem LW_run {L : Nat} {xs : Nat → Int32} (hL : L ≤ 3072) : ∃ (n d : Nat) (w1 : zWd), zrun n d 264 (zblk 264 0) [zR 0, zU, zU, zU] [] (zw0 L xs) = some (some (zI 1), w1) ∧ d ≤ 2000 ∧ w1.1.length ≤ 600000 ∧ zcs w1 ≤ 7300000 := by
  have key : zV 300 264 (zblk 264 0) [zR 0, zU, zU, zU] [] ([(0, L, []), (0, 16, [])], zM0 L xs) (fun r w2 => ∃ M' : Nat → Int → Int, w2 = (zSH L, M') ∧ r = some (zI 1)) := by
    refine LW_start (Q := fun r _ => r = some (zI 1)) (by omega) ?_
    intro M' e0 e1 hs hr
    have := LW_loop (Ln := L) (d := 300) (by omega) hL 600 0 zA0 M' (by omega) (by omega) (fun j => by rw [e0]; exact zin32_toInt _) zP_0 (zC_0 e1 hs) (zR_0 hr)
    exact this
  obtain ⟨n, r, w1, h1, M', rfl, rfl⟩ := key
  refine ⟨n, 300, _, h1, by omega, ?_, ?_⟩
  · show 83 ≤ 600000
    omega
  · simp [zcs, zSH]
    omega
