/-! what a text reads as -/
def zSkp (tb : Nat → Nat) : Nat → Nat → Nat
  | 0, p => p
  | f + 1, p => if tb p = 32 then zSkp tb f (p + 1) else p
/-- the place of the next byte behind blanks -/
def zNp (q : Nat) (tb : Nat → Nat) (p : Nat) : Nat := zSkp tb (q - p) p
/-- the next byte; 0: the end -/
def zNc (q : Nat) (tb : Nat → Nat) (p : Nat) : Nat := if zNp q tb p < q then tb (zNp q tb p) else 0
theorem zSkp_ge (tb : Nat → Nat) : ∀ f p, p ≤ zSkp tb f p ∧ zSkp tb f p ≤ p + f
  | 0, p => ⟨Nat.le_refl _, Nat.le_refl _⟩
  | f + 1, p => by
    unfold zSkp
    split
    · have := zSkp_ge tb f (p + 1); omega
    · omega
theorem zNp_ge (q : Nat) (tb : Nat → Nat) (p : Nat) : p ≤ zNp q tb p := (zSkp_ge tb (q - p) p).1
theorem zNp_le {q : Nat} {tb : Nat → Nat} {p : Nat} (h : p ≤ q) : zNp q tb p ≤ q := by have := (zSkp_ge tb (q - p) p).2; unfold zNp; omega
theorem zNp_q {q : Nat} {tb : Nat → Nat} {p : Nat} (h : q ≤ p) : zNp q tb p = p := by
  unfold zNp; rw [show q - p = 0 by omega]; rfl
theorem zNp_s {q : Nat} {tb : Nat → Nat} {p : Nat} (h : p < q) (hb : tb p = 32) : zNp q tb p = zNp q tb (p + 1) := by
  unfold zNp
  rw [show q - p = (q - (p + 1)) + 1 by omega]
  show (if tb p = 32 then zSkp tb (q - (p + 1)) (p + 1) else p) = _
  rw [if_pos hb]
theorem zNp_n {q : Nat} {tb : Nat → Nat} {p : Nat} (hb : tb p ≠ 32) : zNp q tb p = p := by
  unfold zNp
  cases q - p with
  | zero => rfl
  | succ f =>
    show (if tb p = 32 then zSkp tb f (p + 1) else p) = _
    rw [if_neg hb]
theorem zSkp_st (tb : Nat → Nat) : ∀ f p, zSkp tb f p < p + f → tb (zSkp tb f p) ≠ 32
  | 0, p, h => by have := (zSkp_ge tb 0 p).1; omega
  | f + 1, p, h => by
    unfold zSkp at h ⊢
    split
    · next hb =>
      rw [if_pos hb] at h
      exact zSkp_st tb f (p + 1) (by omega)
    · assumption
theorem zNp_st {q : Nat} {tb : Nat → Nat} {p : Nat} (h : zNp q tb p < q) : tb (zNp q tb p) ≠ 32 := by
  by_cases hp : p ≤ q
  · exact zSkp_st tb (q - p) p (by unfold zNp at h; omega)
  · have := zNp_ge q tb p; omega
theorem zNp_id (q : Nat) (tb : Nat → Nat) (p : Nat) : zNp q tb (zNp q tb p) = zNp q tb p := by
  by_cases h : zNp q tb p < q
  · exact zNp_n (zNp_st h)
  · exact zNp_q (by omega)
theorem zNc_id (q : Nat) (tb : Nat → Nat) (p : Nat) : zNc q tb (zNp q tb p) = zNc q tb p := by
  unfold zNc; rw [zNp_id]
theorem zNc_lt {q : Nat} {tb : Nat → Nat} {p : Nat} (h : zNc q tb p ≠ 0) : zNp q tb p < q := by
  unfold zNc at h
  split at h
  · assumption
  · exact absurd rfl h
abbrev zqP : Type := Nat × Nat × Nat × Nat
abbrev zqR : Type := Nat ⊕ (Nat × List zqP)
/-- the digits of a group: turns, place, least, bits -/
def zGd (q P : Nat) (tb : Nat → Nat) : Nat → Nat → Nat → Nat → Nat × Nat
  | 0, p, _, g => (zNp q tb p, g)
  | f + 1, p, l, g => if 48 + l ≤ zNc q tb p ∧ zNc q tb p < 48 + P then zGd q P tb f (zNp q tb p + 1) (zNc q tb p - 48 + 1) (g + 2 ^ (zNc q tb p - 48)) else (zNp q tb p, g)
def zqL (c : Nat) : Nat := if c = 88 then 5 else if c = 71 then 6 else if c = 70 then 7 else if c = 73 then 9 else 0
def zqK (og : Bool) (c : Nat) : Nat := if og = true then (if c = 85 then 8 else 0) else if c = 38 then 3 else if c = 124 then 4 else 0
/-- a part ahead of what was read -/
def zqC (x : zqP) : zqR → zqR
  | .inl e => .inl e
  | .inr (p, l) => .inr (p, x :: l)
def zqPair (rf : Nat → Nat → zqR) (q : Nat) (tb : Nat → Nat) (og : Bool) (p k g : Nat) : zqR :=
  match rf p (k + 1) with
  | .inl e => .inl e
  | .inr (p1, l1) => if zqK og (zNc q tb p1) = 0 then .inl (zNp q tb p1) else
    match rf (zNp q tb p1 + 1) (k + 1 + l1.length) with
    | .inl e => .inl e
    | .inr (p2, l2) => if zNc q tb p2 = 41 then .inr (zNp q tb p2 + 1, (zqK og (zNc q tb p1), k + 1, k + 1 + l1.length, g) :: (l1 ++ l2)) else .inl (zNp q tb p2)
/-- a form from a place on, its first part's number -/
def zqF (q P : Nat) (tb : Nat → Nat) : Nat → Nat → Nat → zqR
  | 0, p, _ => .inl p
  | f + 1, p, n =>
    if 24 ≤ n then .inl (zNp q tb p)
    else if zNc q tb p = 84 then .inr (zNp q tb p + 1, [(0, 0, 0, 0)])
    else if 97 ≤ zNc q tb p ∧ zNc q tb p ≤ 104 then .inr (zNp q tb p + 1, [(1, zNc q tb p - 97, 0, 0)])
    else if zNc q tb p = 33 then zqC (2, n + 1, 0, 0) (zqF q P tb f (zNp q tb p + 1) (n + 1))
    else if zNc q tb p = 40 then zqPair (zqF q P tb f) q tb false (zNp q tb p + 1) n 0
    else if zNc q tb p = 60 then
      (if zNc q tb (zGd q P tb 4 (zNp q tb p + 1) 0 0).1 = 62 then
        (if zNc q tb (zNp q tb (zGd q P tb 4 (zNp q tb p + 1) 0 0).1 + 1) = 40 then zqPair (zqF q P tb f) q tb true (zNp q tb (zNp q tb (zGd q P tb 4 (zNp q tb p + 1) 0 0).1 + 1) + 1) n (zGd q P tb 4 (zNp q tb p + 1) 0 0).2
        else if zqL (zNc q tb (zNp q tb (zGd q P tb 4 (zNp q tb p + 1) 0 0).1 + 1)) = 0 then .inl (zNp q tb (zNp q tb (zGd q P tb 4 (zNp q tb p + 1) 0 0).1 + 1))
        else zqC (zqL (zNc q tb (zNp q tb (zGd q P tb 4 (zNp q tb p + 1) 0 0).1 + 1)), n + 1, 0, (zGd q P tb 4 (zNp q tb p + 1) 0 0).2) (zqF q P tb f (zNp q tb (zNp q tb (zGd q P tb 4 (zNp q tb p + 1) 0 0).1 + 1) + 1) (n + 1)))
      else .inl (zNp q tb (zGd q P tb 4 (zNp q tb p + 1) 0 0).1))
    else .inl (zNp q tb p)
theorem zGd_le {q P : Nat} {tb : Nat → Nat} : ∀ f p l g, p ≤ q → (zGd q P tb f p l g).1 ≤ q
  | 0, p, l, g, h => zNp_le h
  | f + 1, p, l, g, h => by
    unfold zGd
    split
    · next hc =>
      have := zNc_lt (q := q) (tb := tb) (p := p) (by omega)
      exact zGd_le f _ _ _ (by omega)
    · exact zNp_le h
theorem zGd_ge {q P : Nat} {tb : Nat → Nat} : ∀ f p l g, p ≤ (zGd q P tb f p l g).1
  | 0, p, l, g => zNp_ge q tb p
  | f + 1, p, l, g => by
    have := zNp_ge q tb p
    unfold zGd
    split
    · have := zGd_ge (q := q) (P := P) (tb := tb) f (zNp q tb p + 1) (zNc q tb p - 48 + 1) (g + 2 ^ (zNc q tb p - 48))
      omega
    · exact this
theorem zGd_np {q P : Nat} {tb : Nat → Nat} : ∀ f p l g, zNp q tb (zGd q P tb f p l g).1 = (zGd q P tb f p l g).1
  | 0, p, l, g => zNp_id q tb p
  | f + 1, p, l, g => by
    unfold zGd
    split
    · exact zGd_np f _ _ _
    · exact zNp_id q tb p
theorem zGd_lt {q P : Nat} {tb : Nat → Nat} : ∀ f p l g, g < 2 ^ l → l ≤ P → (zGd q P tb f p l g).2 < 2 ^ P
  | 0, p, l, g, h, hl => Nat.lt_of_lt_of_le h (Nat.pow_le_pow_right (by omega) hl)
  | f + 1, p, l, g, h, hl => by
    unfold zGd
    split
    · next hc =>
      refine zGd_lt f _ _ _ ?_ (by omega)
      have h1 : 2 ^ l ≤ 2 ^ (zNc q tb p - 48) := Nat.pow_le_pow_right (by omega) (by omega)
      rw [Nat.pow_succ]; omega
    · exact Nat.lt_of_lt_of_le h (Nat.pow_le_pow_right (by omega) hl)
/-- what a part must be, of parts n .. m -/
def zqW (P m k : Nat) (x : zqP) : Prop := x.1 ≤ 9 ∧ (x.1 = 1 → x.2.1 < 8) ∧ (2 ≤ x.1 → k < x.2.1 ∧ x.2.1 < m) ∧ (ztwo x.1 = true → k < x.2.2.1 ∧ x.2.2.1 < m) ∧ (5 ≤ x.1 → x.2.2.2 < 2 ^ P)
def zqWL (P m : Nat) : Nat → List zqP → Prop
  | _, [] => True
  | k, x :: l => zqW P m k x ∧ zqWL P m (k + 1) l
theorem zqW_mo {P m m' k : Nat} {x : zqP} (h : zqW P m k x) (hm : m ≤ m') : zqW P m' k x := by
  obtain ⟨a, b, c, d, e⟩ := h
  exact ⟨a, b, fun h => ⟨(c h).1, by have := (c h).2; omega⟩, fun h => ⟨(d h).1, by have := (d h).2; omega⟩, e⟩
theorem zqWL_mo {P m m' : Nat} (hm : m ≤ m') : ∀ (l : List zqP) (k : Nat), zqWL P m k l → zqWL P m' k l
  | [], _, _ => trivial
  | x :: l, k, h => ⟨zqW_mo h.1 hm, zqWL_mo hm l (k + 1) h.2⟩
theorem zqWL_app {P m : Nat} : ∀ (l l2 : List zqP) (k : Nat), zqWL P m k l → zqWL P m (k + l.length) l2 → zqWL P m k (l ++ l2)
  | [], l2, k, _, h => h
  | x :: l, l2, k, h, h2 => ⟨h.1, zqWL_app l l2 (k + 1) h.2 (by rw [show k + 1 + l.length = k + (x :: l).length by simp; omega]; exact h2)⟩
theorem zqWL_at {P m : Nat} : ∀ (l : List zqP) (k i : Nat), zqWL P m k l → i < l.length → zqW P m (k + i) (l.getD i (0, 0, 0, 0))
  | [], _, i, _, h => by simp at h
  | x :: l, k, 0, h, _ => h.1
  | x :: l, k, i + 1, h, hi => by
    have := zqWL_at l (k + 1) i h.2 (by simpa using hi)
    rw [show k + 1 + i = k + (i + 1) by omega] at this
    exact this
/-- what a good reading is -/
def zqG (q P p n : Nat) : zqR → Prop
  | .inl e => e ≤ q
  | .inr (p', l) => p ≤ p' ∧ p' ≤ q ∧ 1 ≤ l.length ∧ n + l.length ≤ 24 ∧ zqWL P (n + l.length) n l
theorem zqK_v (og : Bool) (c : Nat) : zqK og c ≤ 9 := by unfold zqK; (repeat' split) <;> omega
theorem zqK_k {og : Bool} {c : Nat} (h : zqK og c ≠ 0) : (og = true ∧ zqK og c = 8) ∨ (og = false ∧ (zqK og c = 3 ∨ zqK og c = 4)) := by
  unfold zqK at h ⊢
  cases og
  · simp only [Bool.false_eq_true, if_false] at h ⊢
    (repeat' split) <;> simp_all
  · simp only [if_true] at h ⊢
    split <;> simp_all
theorem zqL_k {c : Nat} (h : zqL c ≠ 0) : zqL c = 5 ∨ zqL c = 6 ∨ zqL c = 7 ∨ zqL c = 9 := by
  unfold zqL at h ⊢
  (repeat' split) <;> simp_all
theorem zqC_g {q P p p1 n : Nat} {x : zqP} {r : zqR} (h : zqG q P p1 (n + 1) r) (hp : p ≤ p1) (hx : ∀ m, n + 1 < m → zqW P m n x) : zqG q P p n (zqC x r) := by
  cases r with
  | inl e => exact h
  | inr y =>
    obtain ⟨p', l⟩ := y
    obtain ⟨h1, h2, h3, h4, h5⟩ := h
    have hl : (x :: l).length = l.length + 1 := rfl
    refine ⟨by omega, h2, by omega, by omega, hx _ (by omega), ?_⟩
    rw [hl, show n + (l.length + 1) = n + 1 + l.length by omega]; exact h5
theorem zqPair_g {q P p k g : Nat} {tb : Nat → Nat} {og : Bool} {rf : Nat → Nat → zqR} (hrf : ∀ p1 n1, p1 ≤ q → k + 1 ≤ n1 → n1 ≤ 24 → zqG q P p1 n1 (rf p1 n1)) (hp : p ≤ q) (hk : k + 1 ≤ 24) (hg : og = true → g < 2 ^ P) : zqG q P p k (zqPair rf q tb og p k g) := by
  unfold zqPair
  have h1 := hrf p (k + 1) hp (Nat.le_refl _) hk
  cases e1 : rf p (k + 1) with
  | inl e => rw [e1] at h1; exact h1
  | inr y =>
    obtain ⟨p1, l1⟩ := y
    rw [e1] at h1
    obtain ⟨a1, a2, a3, a4, a5⟩ := h1
    have hnp := zNp_le (tb := tb) a2
    have hge := zNp_ge q tb p1
    show zqG q P p k (if zqK og (zNc q tb p1) = 0 then _ else _)
    split
    · exact hnp
    · next hc =>
      have hlt : zNp q tb p1 < q := zNc_lt (fun z => hc (by rw [z]; unfold zqK; cases og <;> rfl))
      have h2 := hrf (zNp q tb p1 + 1) (k + 1 + l1.length) (by omega) (by omega) (by omega)
      cases e2 : rf (zNp q tb p1 + 1) (k + 1 + l1.length) with
      | inl e => rw [e2] at h2; exact h2
      | inr y2 =>
        obtain ⟨p2, l2⟩ := y2
        rw [e2] at h2
        obtain ⟨b1, b2, b3, b4, b5⟩ := h2
        have hnp2 := zNp_le (tb := tb) b2
        have hge2 := zNp_ge q tb p2
        show zqG q P p k (if zNc q tb p2 = 41 then _ else _)
        split
        · next hc2 =>
          have hlt2 : zNp q tb p2 < q := zNc_lt (by omega)
          have hl : (((zqK og (zNc q tb p1), k + 1, k + 1 + l1.length, g) : zqP) :: (l1 ++ l2)).length = l1.length + l2.length + 1 := by simp
          refine ⟨by omega, by omega, by omega, by omega, ?_, ?_⟩
          · refine ⟨zqK_v og _, fun h => ?_, fun h => ⟨by show k < k + 1; omega, by show k + 1 < _; omega⟩, fun h => ⟨by show k < k + 1 + l1.length; omega, by show k + 1 + l1.length < _; omega⟩, fun h => ?_⟩
            · have h : zqK og (zNc q tb p1) = 1 := h
              have := zqK_k hc; omega
            · have h : 5 ≤ zqK og (zNc q tb p1) := h
              rcases zqK_k hc with ⟨z, _⟩ | ⟨_, z⟩
              · exact hg z
              · omega
          · rw [hl]
            refine zqWL_app l1 l2 (k + 1) (zqWL_mo (by omega) l1 _ a5) ?_
            have e3 : k + (l1.length + l2.length + 1) = k + 1 + l1.length + l2.length := by omega
            rw [e3]; exact b5
        · exact hnp2
theorem zqF_g {q P : Nat} {tb : Nat → Nat} : ∀ f p n, p ≤ q → n ≤ 24 → zqG q P p n (zqF q P tb f p n)
  | 0, p, n, hp, _ => hp
  | f + 1, p, n, hp, hn => by
    have hnp := zNp_le (tb := tb) hp
    have hge := zNp_ge q tb p
    have ih := fun p n (h : p ≤ q) (hn : n ≤ 24) => zqF_g (q := q) (P := P) (tb := tb) f p n h hn
    unfold zqF
    split
    · exact hnp
    next h24 =>
    split
    · next hc =>
      have hlt : zNp q tb p < q := zNc_lt (by omega)
      exact ⟨by omega, by omega, Nat.le_refl _, by show n + 1 ≤ 24; omega, ⟨by show 0 ≤ 9; omega, fun h => absurd h (by decide), fun h => absurd h (by decide), fun h => absurd h (by decide), fun h => absurd h (by decide)⟩, trivial⟩
    split
    · next hc =>
      have hlt : zNp q tb p < q := zNc_lt (by omega)
      exact ⟨by omega, by omega, Nat.le_refl _, by show n + 1 ≤ 24; omega, ⟨by show 1 ≤ 9; omega, fun _ => by show zNc q tb p - 97 < 8; omega, fun h => absurd (show 2 ≤ 1 from h) (by decide), fun h => absurd (show ztwo 1 = true from h) (by decide), fun h => absurd (show 5 ≤ 1 from h) (by decide)⟩, trivial⟩
    split
    · next hc =>
      have hlt : zNp q tb p < q := zNc_lt (by omega)
      exact zqC_g (ih _ _ (by omega) (by omega)) (by omega) fun m hm => ⟨by show 2 ≤ 9; omega, fun h => absurd (show 2 = 1 from h) (by decide), fun _ => ⟨by show n < n + 1; omega, by show n + 1 < m; omega⟩, fun h => absurd (show ztwo 2 = true from h) (by decide), fun h => absurd (show 5 ≤ 2 from h) (by decide)⟩
    split
    · next hc =>
      have hlt : zNp q tb p < q := zNc_lt (by omega)
      have := zqPair_g (q := q) (P := P) (p := zNp q tb p + 1) (k := n) (g := 0) (tb := tb) (og := false) (rf := zqF q P tb f) (fun p1 n1 h1 _ h3 => ih p1 n1 h1 h3) (by omega) (by omega) (fun h => absurd h (by decide))
      revert this
      cases zqPair (zqF q P tb f) q tb false (zNp q tb p + 1) n 0 with
      | inl e => exact id
      | inr y => exact fun h => ⟨by have := h.1; omega, h.2⟩
    split
    · next hc =>
      have hlt : zNp q tb p < q := zNc_lt (by omega)
      have hg1 := zGd_le (q := q) (P := P) (tb := tb) 4 (zNp q tb p + 1) 0 0 (by omega)
      have hg2 := zGd_lt (q := q) (P := P) (tb := tb) 4 (zNp q tb p + 1) 0 0 (by decide) (Nat.zero_le _)
      have hg3 := zGd_np (q := q) (P := P) (tb := tb) 4 (zNp q tb p + 1) 0 0
      have hge1 : zNp q tb p + 1 ≤ (zGd q P tb 4 (zNp q tb p + 1) 0 0).1 := zGd_ge 4 _ _ _
      generalize zGd q P tb 4 (zNp q tb p + 1) 0 0 = G at *
      split
      · next hc2 =>
        have hlt2 : zNp q tb G.1 < q := zNc_lt (by omega)
        have hnp3 := zNp_le (q := q) (tb := tb) (p := zNp q tb G.1 + 1) (by omega)
        have hge3 := zNp_ge q tb (zNp q tb G.1 + 1)
        generalize hc3 : zNc q tb (zNp q tb G.1 + 1) = c3 at *
        split
        · next hc4 =>
          have hlt3 : zNp q tb (zNp q tb G.1 + 1) < q := zNc_lt (by omega)
          have := zqPair_g (q := q) (P := P) (p := zNp q tb (zNp q tb G.1 + 1) + 1) (k := n) (g := G.2) (tb := tb) (og := true) (rf := zqF q P tb f) (fun p1 n1 h1 _ h3 => ih p1 n1 h1 h3) (by omega) (by omega) (fun _ => hg2)
          revert this
          cases zqPair (zqF q P tb f) q tb true (zNp q tb (zNp q tb G.1 + 1) + 1) n G.2 with
          | inl e => exact id
          | inr y => exact fun h => ⟨by have := h.1; omega, h.2⟩
        split
        · exact hnp3
        · next hc5 =>
          have hlt3 : zNp q tb (zNp q tb G.1 + 1) < q := zNc_lt (fun z => hc5 (by rw [← hc3, z]; rfl))
          refine zqC_g (ih _ _ (by omega) (by omega)) (by omega) fun m hm => ?_
          have hL := zqL_k hc5
          refine ⟨by show zqL c3 ≤ 9; omega, fun h => ?_, fun _ => ⟨by show n < n + 1; omega, by show n + 1 < m; omega⟩, fun h => ?_, fun _ => hg2⟩
          · have h : zqL c3 = 1 := h
            omega
          · have h : ztwo (zqL c3) = true := h
            rcases hL with e | e | e | e <;> rw [e] at h <;> exact absurd h (by decide)
      · exact zNp_le hg1
    · exact hnp
