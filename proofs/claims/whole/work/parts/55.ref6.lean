/-! the reference: the toll -/
def zTlA (S P : Nat) (mv tg : Nat → Nat → Nat) (pr : Nat → Nat → Nat → Nat) (lt kd lf rt gp : Nat → Nat) (x : Int) : Int := if 0 ≤ x ∧ x < S then (if kd 0 = 7 ∨ kd 0 = 8 then (if zHp mv tg P lt kd lf rt gp 0 x.toNat = true then (zTl S P mv tg pr (zbit (gp 0 : Int)) (fun s => decide (zRd mv tg P lt kd lf rt gp s = 0)) (zHp mv tg P lt kd lf rt gp 0) S x.toNat : Int) else -4) else -2) else -1
section RE
variable {Ln S P n : Nat} {mv tg : Nat → Nat → Nat} {lt kd lf rt gp : Nat → Nat} {pr : Nat → Nat → Nat → Nat} {M : Nat → Int → Int}
/-- by all of f as by those alone in which it holds -/
theorem zTo_ok {c : Nat → Nat → Nat} {g : Nat → Bool} {A B : Nat → Bool} {r0 : Nat → Bool} (hN : zNet S P mv tg) (hr0 : ∀ s, s < S → r0 s = true → zUn (zCn mv tg P g) A B 12 s = true) (hA : ∀ s, s < S → zUn (zCn mv tg P g) A B 12 s = true → r0 s = true ∨ A s = true) : ∀ k s, s < S → zTo S (fun s => zcnt (mv s) g P) c (fun s a => zend (mv s) (tg s) g P a) r0 A k s = zTo S (fun s => zcnt (mv s) g P) c (fun s a => zend (mv s) (tg s) g P a) r0 (zUn (zCn mv tg P g) A B 12) k s
  | 0, _, _ => rfl
  | k + 1, s, hs => by
    have hS := hN.2.1
    have hCg : zCg S (zCn mv tg P g) := zcan_Cg hN g
    have ih := zTo_ok (c := c) hN hr0 hA k
    show zPh _ _ _ _ _ _ _ _ = zPh _ _ _ _ _ _ _ _
    unfold zPh
    by_cases h0 : r0 s = true
    · rw [if_pos h0, if_pos h0]
    · rw [if_neg h0, if_neg h0]
      have e : ∀ a, zmx S (zend (mv s) (tg s) g P a) (zTo S (fun s => zcnt (mv s) g P) c (fun s a => zend (mv s) (tg s) g P a) r0 A k) = zmx S (zend (mv s) (tg s) g P a) (zTo S (fun s => zcnt (mv s) g P) c (fun s a => zend (mv s) (tg s) g P a) r0 (zUn (zCn mv tg P g) A B 12) k) := fun a => zmx_congr fun t ht _ => ih t ht
      simp only [e]
      by_cases hw : zUn (zCn mv tg P g) A B 12 s = true
      · rw [if_pos hw, if_pos ((hA s hs hw).resolve_left h0)]
      · rw [if_neg hw]
        split
        · next ha =>
          have hno : zCn mv tg P g (zUn (zCn mv tg P g) A B 12) s = false := by
            have h3 := zUn_stay (A := A) (B := B) hCg 12 13 (Or.inr hS) (by omega) s hs
            have h3 : (zUn (zCn mv tg P g) A B 12 s || ((A s && !zUn (zCn mv tg P g) A B 12 s) && zCn mv tg P g (zUn (zCn mv tg P g) A B 12) s)) = zUn (zCn mv tg P g) A B 12 s := h3
            have hwf : zUn (zCn mv tg P g) A B 12 s = false := by simpa using hw
            rw [hwf, ha] at h3
            simpa using h3
          have hfar : ∀ t, t < S → ¬ zUn (zCn mv tg P g) A B 12 t = true → zTo S (fun s => zcnt (mv s) g P) c (fun s a => zend (mv s) (tg s) g P a) r0 (zUn (zCn mv tg P g) A B 12) k t = 1000000 := fun t ht h => by
            have hr : ¬ r0 t = true := fun z => h (hr0 t ht z)
            cases k with
            | zero => show (if _ then _ else _) = _; rw [if_neg hr]
            | succ k =>
              simp only [zTo]
              unfold zPh
              rw [if_neg hr, if_neg h]
          refine Nat.le_antisymm (zmn_far _ _) ?_
          rcases Nat.lt_or_ge (zmn (zcnt (mv s) g P) fun a => c s a + zmx S (zend (mv s) (tg s) g P a) (zTo S (fun s => zcnt (mv s) g P) c (fun s a => zend (mv s) (tg s) g P a) r0 (zUn (zCn mv tg P g) A B 12) k)) 1000000 with h | h
          · obtain ⟨a, ha2, he⟩ := zmn_ex _ _ h
            have hz : zinto (mv s) (tg s) g P (zUn (zCn mv tg P g) A B 12) a = false := by
              have h4 : ¬ zleast (mv s) (tg s) g P (zUn (zCn mv tg P g) A B 12) < zcnt (mv s) g P := of_decide_eq_false hno
              exact zfst_no _ _ a (Nat.lt_of_lt_of_le ha2 (Nat.le_of_not_lt h4))
            have : ∃ t, t < S ∧ zend (mv s) (tg s) g P a t = true ∧ ¬ zUn (zCn mv tg P g) A B 12 t = true := Classical.byContradiction fun z => by
              rw [(zinto_end (zNet_t hN hs) (hN.2.2.2.2.1 s)).mpr fun t ht h5 => Classical.byContradiction fun h6 => z ⟨t, ht, h5, h6⟩] at hz
              cases hz
            obtain ⟨t, ht, h5, h6⟩ := this
            have h7 := zmx_ge S (zend (mv s) (tg s) g P a) (zTo S (fun s => zcnt (mv s) g P) c (fun s a => zend (mv s) (tg s) g P a) r0 (zUn (zCn mv tg P g) A B 12) k) t ht h5
            rw [hfar t ht h6] at h7
            omega
          · exact h
        · rfl
/-- what is told is small -/
theorem zTo_small {na : Nat → Nat} {c : Nat → Nat → Nat} {E : Nat → Nat → Nat → Bool} {r0 ok : Nat → Bool} (hc : ∀ s a, c s a ≤ 36) : ∀ k s, zTo S na c E r0 ok k s < 1000000 → zTo S na c E r0 ok k s ≤ 36 * k
  | 0, s, h => by
    simp only [zTo] at h ⊢
    split
    · omega
    · next h2 => rw [if_neg h2] at h; omega
  | k + 1, s, h => by
    have ih := zTo_small (na := na) (E := E) (r0 := r0) (ok := ok) hc k
    simp only [zTo] at h ⊢
    unfold zPh at h ⊢
    split
    · omega
    · next h2 =>
      rw [if_neg h2] at h
      split
      · next h3 =>
        rw [if_pos h3] at h
        obtain ⟨a, _, he⟩ := zmn_ex _ _ h
        have h4 := hc s a
        have h5 := zmx_le S (E s a) (zTo S na c E r0 ok k) (36 * k) fun t ht hte => by
          have h6 := zmx_ge S (E s a) (zTo S na c E r0 ok k) t ht hte
          exact ih t (by omega)
        omega
      · next h3 => rw [if_neg h3] at h; omega
end RE
