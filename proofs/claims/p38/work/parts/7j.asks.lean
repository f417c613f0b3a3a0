/-! the asks of the main loop -/
/-- what the last walk left -/
def ywk (a : zAbs) (n : Nat) (t : Nat → Nat) : zAbs := (a.S, a.P, a.mv, a.tg, a.lt, a.hp, a.pr, a.ch, a.lo, a.n, a.kd, a.lf, a.rt, a.gp, a.q, a.tb, a.ln, a.sz, a.it, a.gl, n, t)
def yT_ (a : zAbs) (x : Nat) : Nat → Nat := zWkT a.mv a.tg a.P a.lt a.kd a.lf a.rt a.gp a.it (1 * 81 + 0) x
theorem yT_s (a : zAbs) (x k : Nat) : yT_ a x (k + 1) = yGo a (yT_ a x k) (a.it (1 * 81 + 0 + (k : Int))).toNat := rfl
theorem yT_lt {a : zAbs} (hP : zJP a) {x : Nat} (hx : x < a.S) (k : Nat) : yT_ a x k < a.S := zWkT_lt hP.N hx k
theorem yhas {S : Nat} (hS : S ≤ 30) {f : Nat → Bool} {x : Nat} (hx : x < S) : zand (zshr (zset S f) (x : Int)) 1 = if f x = true then 1 else 0 := by
  rw [zhas _ (by omega), zset_bit hS]
  simp [hx]
theorem yhas2 {S : Nat} (hS : S ≤ 30) {f h : Nat → Bool} {x : Nat} (hx : x < S) : zand (zand (zshr (zset S f) (x : Int)) (zshr (zset S h) (x : Int))) 1 = if f x = true ∧ h x = true then 1 else 0 := by
  refine zext (zand_in _ _) (by split <;> constructor <;> decide) fun i hi => ?_
  rw [zbit_and, zbit_and, zbit_1, zbit_shr _ (by omega) hi, zbit_shr _ (by omega) hi]
  by_cases h0 : i = 0
  · subst h0
    rw [if_pos (by omega), if_pos (by omega), Nat.add_zero, zset_bit hS, zset_bit hS]
    by_cases hf : f x = true <;> by_cases hh : h x = true <;> simp [hf, hh, hx, zbit_1, zbit_nat] <;> decide
  · have e : zbit (if f x = true ∧ h x = true then 1 else 0) i = false := by
      split
      · rw [zbit_1]; simpa using h0
      · show zbit ((0 : Nat) : Int) i = false
        rw [zbit_nat _ hi, Nat.zero_testBit]
    rw [e]
    simp [h0]
section YA
variable {Ln d mi o b9 n x : Nat} {a : zAbs} {T : Nat → Nat} {F0 : Int → Int} {M : Nat → Int → Int} {es : List zEnt} {L st : List zMV} {Q : Option zMV → (Nat → Int → Int) → Prop}
theorem yw_walk {S P g w : Nat} (hd : 101 ≤ d) (hc : zcats st ≤ 8) (hF : yF S P g w a) (hw : w < 5) (hx : x < a.S) (hi : ∀ j : Nat, j < 40 → 0 ≤ a.it (81 + (j : Int))) (hI : yI (ywk a n T) F0 M) (hk : ∀ M1, yI (ywk a 41 (yT_ a x)) F0 M1 → zW (zSH Ln) d mi es L (zI (yT_ a x 40 : Int) :: st) M1 Q) : zW (zSH Ln) d mi ((.invokevirtual o, 101, b9) :: es) L (zI 40 :: zI 0 :: zI 1 :: zI 1 :: zI (x : Int) :: zR 2 :: st) M Q := by
  have h1 : zWlK a.S (x : Int) 1 1 40 := ⟨⟨by omega, by omega⟩, by decide, by decide, by decide⟩
  have h2 : zWrg a.ln a.sz (1 : Int).toNat 1 0 40 = 0 := by
    show zWrg a.ln a.sz 1 1 0 40 = 0
    unfold zWrg
    rw [hF.2.2.2.2.2.2.2.1, hF.2.2.2.2.2.2.2.2, if_neg (by decide), if_pos rfl, if_pos (by decide)]
  have h3 : 5 ≤ a.kd 0 := by
    rw [hF.2.2.1]
    unfold yk_k
    split
    · omega
    · split
      · omega
      · split
        · omega
        · split <;> omega
  have h4 : ¬ zan (40 : Int).toNat (zNeg a.it (1 * 81 + 0)) = true := by
    intro z
    obtain ⟨j, hj, hz⟩ := (zan_iff _ _).mp z
    have hz2 : a.it (1 * 81 + 0 + (j : Int)) < 0 := of_decide_eq_true hz
    have := hi j hj
    have e : (1 * 81 + 0 + (j : Int)) = 81 + (j : Int) := by omega
    rw [e] at hz2
    omega
  refine ya_walk hd hc hI fun M1 h => ?_
  have e1 : zU_walk (ywk a n T) (x : Int) 1 1 0 40 = ywk a 41 (yT_ a x) := by
    unfold zU_walk
    rw [if_pos (show zWlG (ywk a n T).S ((ywk a n T).kd 0) (ywk a n T).ln (ywk a n T).sz (ywk a n T).it (x : Int) 1 1 0 40 from ⟨h1, h2, h3, h4⟩)]
    rfl
  have e2 : zWlA (ywk a n T).S (ywk a n T).P (ywk a n T).mv (ywk a n T).tg (ywk a n T).lt (ywk a n T).kd (ywk a n T).lf (ywk a n T).rt (ywk a n T).gp (ywk a n T).ln (ywk a n T).sz (ywk a n T).it (x : Int) 1 1 0 40 = (yT_ a x 40 : Int) := by
    unfold zWlA
    rw [if_pos (show zWlK (ywk a n T).S (x : Int) 1 1 40 from h1), if_pos (show zWrg (ywk a n T).ln (ywk a n T).sz (1 : Int).toNat 1 0 40 = 0 from h2), if_pos (show 5 ≤ (ywk a n T).kd 0 ∧ ¬ zan (40 : Int).toNat (zNeg (ywk a n T).it (1 * 81 + 0)) = true from ⟨h3, h4⟩)]
    rfl
  rw [e2]
  rw [e1] at h
  exact hk M1 h
theorem yw_walked {k : Nat} {i : Int} (hd : 101 ≤ d) (hc : zcats st ≤ 8) (he : i = (k : Int)) (hk40 : k ≤ 40) (hI : yI (ywk a 41 T) F0 M) (hk : ∀ M1, yI (ywk a 41 T) F0 M1 → zW (zSH Ln) d mi es L (zI (T k : Int) :: st) M1 Q) : zW (zSH Ln) d mi ((.invokevirtual o, 102, b9) :: es) L (zI i :: zR 2 :: st) M Q := by
  subst he
  refine ya_walked hd hc hI fun M1 h => ?_
  have e : (if 0 ≤ (k : Int) ∧ (k : Int) < ((ywk a 41 T).tn : Int) then ((ywk a 41 T).tr (k : Int).toNat : Int) else -1) = (T k : Int) := by
    show (if 0 ≤ (k : Int) ∧ (k : Int) < ((41 : Nat) : Int) then (T (k : Int).toNat : Int) else -1) = (T k : Int)
    rw [if_pos ⟨by omega, by omega⟩, Int.toNat_natCast]
  rw [e]
  exact hk M1 h
theorem yw_walked41 (hd : 101 ≤ d) (hc : zcats st ≤ 8) (hI : yI (ywk a 41 T) F0 M) (hk : ∀ M1, yI (ywk a 41 T) F0 M1 → zW (zSH Ln) d mi es L (zI (-1) :: st) M1 Q) : zW (zSH Ln) d mi ((.invokevirtual o, 102, b9) :: es) L (zI 41 :: zR 2 :: st) M Q := by
  refine ya_walked hd hc hI fun M1 h => ?_
  have e : (if 0 ≤ (41 : Int) ∧ (41 : Int) < ((ywk a 41 T).tn : Int) then ((ywk a 41 T).tr (41 : Int).toNat : Int) else -1) = -1 := by
    show (if 0 ≤ (41 : Int) ∧ (41 : Int) < ((41 : Nat) : Int) then (T (41 : Int).toNat : Int) else -1) = -1
    rw [if_neg (by decide)]
  rw [e]
  exact hk M1 h
theorem yw_joint (hd : 101 ≤ d) (hc : zcats st ≤ 8) (hx : x < a.S) (hg : a.gp 0 < 2 ^ a.P) (hI : yI (ywk a n T) F0 M) (hk : ∀ M1, yI (ywk a n T) F0 M1 → zW (zSH Ln) d mi es L (zI (zcnt (a.mv x) (yG a) a.P : Int) :: st) M1 Q) : zW (zSH Ln) d mi ((.invokevirtual o, 89, b9) :: es) L (zI (a.gp 0 : Int) :: zI (x : Int) :: zR 2 :: st) M Q := by
  refine ya_joint hd hc hI fun M1 h => ?_
  have e : zJoA (ywk a n T).S (ywk a n T).P (ywk a n T).mv (x : Int) (a.gp 0 : Int) = (zcnt (a.mv x) (yG a) a.P : Int) := by
    show zJoA a.S a.P a.mv (x : Int) (a.gp 0 : Int) = _
    unfold zJoA
    rw [if_pos ⟨⟨by omega, by omega⟩, by omega, by rw [zset_all]; have : ((a.gp 0 : Nat) : Int) < ((2 ^ a.P : Nat) : Int) := Int.ofNat_lt.mpr hg; omega⟩, Int.toNat_natCast]
  rw [e]
  exact hk M1 h
theorem yw_answer {m : Nat} (hd : 101 ≤ d) (hc : zcats st ≤ 8) (hx : x < a.S) (h5 : 5 ≤ a.kd 0) (hl : a.lf 0 = 1) (hm : m < zcnt (a.mv x) (yG a) a.P) (hI : yI (ywk a n T) F0 M) (hk : ∀ M1, yI (ywk a n T) F0 M1 → zW (zSH Ln) d mi es L (zI (zAns (a.mv x) (a.tg x) (yG a) a.P (if a.kd 0 = 5 then yH a 1 else yH a 0) m) :: st) M1 Q) : zW (zSH Ln) d mi ((.invokevirtual o, 99, b9) :: es) L (zI (m : Int) :: zI (x : Int) :: zR 2 :: st) M Q := by
  refine ya_answer hd hc hI fun M1 h => ?_
  have e : zAnA (ywk a n T).S (ywk a n T).P (ywk a n T).mv (ywk a n T).tg (ywk a n T).lt (ywk a n T).kd (ywk a n T).lf (ywk a n T).rt (ywk a n T).gp (x : Int) (m : Int) = zAns (a.mv x) (a.tg x) (yG a) a.P (if a.kd 0 = 5 then yH a 1 else yH a 0) m := by
    show zAnA a.S a.P a.mv a.tg a.lt a.kd a.lf a.rt a.gp (x : Int) (m : Int) = _
    unfold zAnA
    have hm' : m < zcnt (a.mv x) (zbit (a.gp 0 : Int)) a.P := hm
    rw [if_pos ⟨by omega, by omega⟩, if_pos h5, Int.toNat_natCast, if_pos ⟨by omega, by omega⟩, Int.toNat_natCast, hl]
    rfl
  rw [e]
  exact hk M1 h
theorem yw_plan (hd : 101 ≤ d) (hc : zcats st ≤ 8) (hx : x < a.S) (h5 : 5 ≤ a.kd 0) (hn : ¬ yH a 0 x = true) (hI : yI (ywk a n T) F0 M) (hk : ∀ M1, yI (ywk a n T) F0 M1 → zW (zSH Ln) d mi es L (zI (-4) :: st) M1 Q) : zW (zSH Ln) d mi ((.invokevirtual o, 98, b9) :: es) L (zI (x : Int) :: zR 2 :: st) M Q := by
  refine ya_plan hd hc hI fun M1 h => ?_
  have e : zPlA (ywk a n T).S (ywk a n T).P (ywk a n T).mv (ywk a n T).tg (ywk a n T).lt (ywk a n T).kd (ywk a n T).lf (ywk a n T).rt (ywk a n T).gp (x : Int) = -4 := by
    show zPlA a.S a.P a.mv a.tg a.lt a.kd a.lf a.rt a.gp (x : Int) = _
    unfold zPlA
    rw [if_pos ⟨by omega, by omega⟩, if_pos h5, Int.toNat_natCast]
    unfold zPlan
    rw [if_neg (show ¬ zHp a.mv a.tg a.P a.lt a.kd a.lf a.rt a.gp 0 x = true from hn)]
  rw [e]
  exact hk M1 h
theorem yw_round {s : Nat} (hd : 101 ≤ d) (hc : zcats st ≤ 8) (hs : s < a.S) (h7 : 7 ≤ a.kd 0) (hW : yH a 0 s = true) (hI : yI (ywk a n T) F0 M) (hk : ∀ M1, yI (ywk a n T) F0 M1 → zW (zSH Ln) d mi es L (zI (yR a s : Int) :: st) M1 Q) : zW (zSH Ln) d mi ((.invokevirtual o, 97, b9) :: es) L (zI (s : Int) :: zR 2 :: st) M Q := by
  refine ya_round hd hc hI fun M1 h => ?_
  have e : zRoA (ywk a n T).S (ywk a n T).P (ywk a n T).mv (ywk a n T).tg (ywk a n T).lt (ywk a n T).kd (ywk a n T).lf (ywk a n T).rt (ywk a n T).gp (s : Int) = (yR a s : Int) := by
    show zRoA a.S a.P a.mv a.tg a.lt a.kd a.lf a.rt a.gp (s : Int) = _
    unfold zRoA
    rw [if_pos ⟨by omega, by omega⟩, if_pos h7, Int.toNat_natCast, if_pos (show zHp a.mv a.tg a.P a.lt a.kd a.lf a.rt a.gp 0 s = true from hW)]
    rfl
  rw [e]
  exact hk M1 h
theorem yw_round5 {s : Nat} (hd : 101 ≤ d) (hc : zcats st ≤ 8) (hs : s < a.S) (h7 : ¬ 7 ≤ a.kd 0) (hI : yI (ywk a n T) F0 M) (hk : ∀ M1, yI (ywk a n T) F0 M1 → zW (zSH Ln) d mi es L (zI (-2) :: st) M1 Q) : zW (zSH Ln) d mi ((.invokevirtual o, 97, b9) :: es) L (zI (s : Int) :: zR 2 :: st) M Q := by
  refine ya_round hd hc hI fun M1 h => ?_
  have e : zRoA (ywk a n T).S (ywk a n T).P (ywk a n T).mv (ywk a n T).tg (ywk a n T).lt (ywk a n T).kd (ywk a n T).lf (ywk a n T).rt (ywk a n T).gp (s : Int) = -2 := by
    show zRoA a.S a.P a.mv a.tg a.lt a.kd a.lf a.rt a.gp (s : Int) = _
    unfold zRoA
    rw [if_pos ⟨by omega, by omega⟩, if_neg h7]
  rw [e]
  exact hk M1 h
theorem yw_toll {s : Nat} (hd : 101 ≤ d) (hc : zcats st ≤ 8) (hs : s < a.S) (h7 : a.kd 0 = 7 ∨ a.kd 0 = 8) (hW : yH a 0 s = true) (hI : yI (ywk a n T) F0 M) (hk : ∀ M1, yI (ywk a n T) F0 M1 → zW (zSH Ln) d mi es L (zI (zTl a.S a.P a.mv a.tg a.pr (yG a) (fun s => decide (yR a s = 0)) (yH a 0) a.S s : Int) :: st) M1 Q) : zW (zSH Ln) d mi ((.invokevirtual o, 100, b9) :: es) L (zI (s : Int) :: zR 2 :: st) M Q := by
  refine ya_toll hd hc hI fun M1 h => ?_
  have e : zTlA (ywk a n T).S (ywk a n T).P (ywk a n T).mv (ywk a n T).tg (ywk a n T).pr (ywk a n T).lt (ywk a n T).kd (ywk a n T).lf (ywk a n T).rt (ywk a n T).gp (s : Int) = (zTl a.S a.P a.mv a.tg a.pr (yG a) (fun s => decide (yR a s = 0)) (yH a 0) a.S s : Int) := by
    show zTlA a.S a.P a.mv a.tg a.pr a.lt a.kd a.lf a.rt a.gp (s : Int) = _
    unfold zTlA
    rw [if_pos ⟨by omega, by omega⟩, if_pos h7, Int.toNat_natCast, if_pos (show zHp a.mv a.tg a.P a.lt a.kd a.lf a.rt a.gp 0 s = true from hW)]
    rfl
  rw [e]
  exact hk M1 h
end YA
