/-! one step: fields, rows, new cells -/
theorem zcs_def (w : zWd) : zcs w = (w.1.map (·.2.1)).sum := rfl
theorem zcs_set {S : List zSh} {k : Nat} {sh sh' : zSh} (h : S[k]? = some sh) (he : sh'.2.1 = sh.2.1) : ((S.set k sh').map (·.2.1)).sum = (S.map (·.2.1)).sum := by
  congr 1
  apply List.ext_getElem?
  intro j
  rw [List.getElem?_map, List.getElem?_map, List.getElem?_set]
  by_cases hj : k = j
  · subst hj
    rw [if_pos rfl, if_pos (List.getElem?_eq_some_iff.mp h).1, h]
    simp [he]
  · rw [if_neg hj]
theorem zInv_2 {n0 n1 : Nat} {f0 f1 : Int → Int} {w : zWd} (h : zInv n0 n1 f0 f1 w) : 2 ≤ w.1.length := by
  have := (List.getElem?_eq_some_iff.mp h.2.1).1
  omega
theorem zInv_k {n0 n1 : Nat} {f0 f1 : Int → Int} {w : zWd} (h : zInv n0 n1 f0 f1 w) {k kd n : Nat} {rs : List (Option Nat)} (hk : w.1[k]? = some (kd, n, rs)) (hd : 0 < kd) : 2 ≤ k := by
  match k, hk with
  | 0, hk => rw [h.1] at hk; cases hk; omega
  | 1, hk => rw [h.2.1] at hk; cases hk; omega
  | k + 2, _ => omega
theorem zInv_up {n0 n1 : Nat} {f0 f1 : Int → Int} {w : zWd} (h : zInv n0 n1 f0 f1 w) {k : Nat} {sh : zSh} (hk : w.1[k]? = some sh) (h2 : 2 ≤ k) {i v : Int} (hv : zsr sh i v) : zInv n0 n1 f0 f1 (w.1, zup w.2 k i v) := by
  obtain ⟨a1, a2, a3, a4, a5⟩ := h
  refine ⟨a1, a2, ?_, ?_, fun j sj hj => ?_⟩
  · funext x; simp [zup, show (0 : Nat) ≠ k by omega, a3]
  · funext x; simp [zup, show (1 : Nat) ≠ k by omega, a4]
  · obtain ⟨b1, b2, b3, b4, b5⟩ := a5 j sj hj
    refine ⟨b1, b2, b3, b4, fun x => ?_⟩
    show zsr sj x (if j = k ∧ x = i then v else w.2 j x)
    by_cases hx : j = k ∧ x = i
    · rw [if_pos hx]
      obtain ⟨rfl, rfl⟩ := hx
      cases hk.symm.trans hj
      exact hv
    · rw [if_neg hx]; exact b5 x
theorem zInv_ref {n0 n1 : Nat} {f0 f1 : Int → Int} {w : zWd} (h : zInv n0 n1 f0 f1 w) {k kd n j r : Nat} {rs : List (Option Nat)} (hk : w.1[k]? = some (kd, n, rs)) (h2 : 2 ≤ k) (hr : r < w.1.length) : zInv n0 n1 f0 f1 (w.1.set k (kd, n, rs.set j (some r)), w.2) := by
  obtain ⟨a1, a2, a3, a4, a5⟩ := h
  refine ⟨?_, ?_, a3, a4, fun j' sj hj => ?_⟩
  · show (w.1.set k _)[0]? = _
    rw [List.getElem?_set_ne (by omega)]; exact a1
  · show (w.1.set k _)[1]? = _
    rw [List.getElem?_set_ne (by omega)]; exact a2
  · have hj2 : (w.1.set k (kd, n, rs.set j (some r)))[j']? = some sj := hj
    rw [List.getElem?_set] at hj2
    by_cases hkj : k = j'
    · rw [if_pos hkj] at hj2
      split at hj2
      · cases hj2
        subst hkj
        obtain ⟨b1, b2, b3, b4, b5⟩ := a5 k _ hk
        refine ⟨b1, b2, fun x y hx => ?_, fun q => ⟨(b4 q).1, by simp [List.length_set]; exact (b4 q).2⟩, fun x => b5 x⟩
        show y < (w.1.set k _).length
        rw [List.length_set]
        have hx2 : (rs.set j (some r))[x]? = some (some y) := hx
        rw [List.getElem?_set] at hx2
        by_cases q : j = x
        · rw [if_pos q] at hx2
          split at hx2
          · cases hx2; exact hr
          · cases hx2
        · rw [if_neg q] at hx2; exact b3 x y hx2
      · cases hj2
    · rw [if_neg hkj] at hj2
      obtain ⟨b1, b2, b3, b4, b5⟩ := a5 j' sj hj2
      refine ⟨b1, b2, fun x y hx => ?_, b4, b5⟩
      show y < (w.1.set k _).length
      rw [List.length_set]
      exact b3 x y hx
theorem zInv_push {n0 n1 : Nat} {f0 f1 : Int → Int} {w : zWd} (h : zInv n0 n1 f0 f1 w) {sh : zSh} (h1 : sh.1 < 15) (h2 : sh.2.1 < 2147483648) (h3 : ∀ (j r : Nat), sh.2.2[j]? = some (some r) → r < w.1.length) (h4 : 3 ≤ sh.1 → sh.2.1 = znf (sh.1 - 3) ∧ sh.2.2.length = znf (sh.1 - 3)) : zInv n0 n1 f0 f1 (w.1 ++ [sh], zzero w.2 w.1.length) := by
  have hl := zInv_2 h
  obtain ⟨a1, a2, a3, a4, a5⟩ := h
  refine ⟨?_, ?_, ?_, ?_, fun j sj hj => ?_⟩
  · show (w.1 ++ [sh])[0]? = _
    rw [List.getElem?_append_left (by omega)]; exact a1
  · show (w.1 ++ [sh])[1]? = _
    rw [List.getElem?_append_left (by omega)]; exact a2
  · funext x; simp [zzero, show (0 : Nat) ≠ w.1.length by omega, a3]
  · funext x; simp [zzero, show (1 : Nat) ≠ w.1.length by omega, a4]
  · have hj2 : (w.1 ++ [sh])[j]? = some sj := hj
    have hlen : (w.1 ++ [sh], zzero w.2 w.1.length).1.length = w.1.length + 1 := by simp
    by_cases hjl : j < w.1.length
    · rw [List.getElem?_append_left hjl] at hj2
      obtain ⟨b1, b2, b3, b4, b5⟩ := a5 j sj hj2
      refine ⟨b1, b2, fun x y hx => by rw [hlen]; have := b3 x y hx; omega, b4, fun x => ?_⟩
      show zsr sj x (if j = w.1.length then 0 else w.2 j x)
      rw [if_neg (by omega)]; exact b5 x
    · rw [List.getElem?_append_right (by omega)] at hj2
      have hz : j - w.1.length = 0 := by
        have := (List.getElem?_eq_some_iff.mp hj2).1
        simp at this; exact this
      rw [hz] at hj2
      cases hj2
      refine ⟨h1, h2, fun x y hx => by rw [hlen]; have := h3 x y hx; omega, h4, fun x => ?_⟩
      show zsr sh x (if j = w.1.length then 0 else w.2 j x)
      rw [if_pos (by omega)]
      unfold zsr
      split
      · exact ⟨by decide, by decide⟩
      · exact zin0
theorem zInv_cpy {n0 n1 : Nat} {f0 f1 : Int → Int} {w : zWd} (h : zInv n0 n1 f0 f1 w) {a b : Nat} {i j n : Int} {na nb : Nat} {ra rb : List (Option Nat)} (ha : w.1[a]? = some (0, na, ra)) (hb : w.1[b]? = some (0, nb, rb)) (h2 : 2 ≤ b) : zInv n0 n1 f0 f1 (w.1, zcpy w.2 a i b j n) := by
  obtain ⟨a1, a2, a3, a4, a5⟩ := h
  refine ⟨a1, a2, ?_, ?_, fun k sk hk => ?_⟩
  · funext x; simp [zcpy, show (0 : Nat) ≠ b by omega, a3]
  · funext x; simp [zcpy, show (1 : Nat) ≠ b by omega, a4]
  · obtain ⟨b1, b2, b3, b4, b5⟩ := a5 k sk hk
    refine ⟨b1, b2, b3, b4, fun x => ?_⟩
    show zsr sk x (if k = b ∧ j ≤ x ∧ x < j + n then w.2 a (i + (x - j)) else w.2 k x)
    by_cases hx : k = b ∧ j ≤ x ∧ x < j + n
    · rw [if_pos hx]
      have hkb := hx.1
      subst hkb
      cases hb.symm.trans hk
      have := (a5 a _ ha).2.2.2.2 (i + (x - j))
      simpa [zsr] using this
    · rw [if_neg hx]; exact b5 x
theorem zsr_int {kd n : Nat} {rs : List (Option Nat)} {i v : Int} (h : kd = 0 ∨ kd = 2) : zsr (kd, n, rs) i v ↔ zin32 v := by
  rcases h with rfl | rfl <;> simp [zsr]
theorem zsr_long {n : Nat} {rs : List (Option Nat)} {i v : Int} : zsr (1, n, rs) i v ↔ zin64 v := by simp [zsr]
theorem zsr_obj {ci n : Nat} {rs : List (Option Nat)} {j : Nat} {v : Int} : zsr (3 + ci, n, rs) (j : Int) v ↔ (if zfty ci j = 1 then zin64 v else zin32 v) := by
  have e1 : 3 + ci - 3 = ci := by omega
  unfold zsr
  simp only [e1, Int.toNat_natCast]
  by_cases h : zfty ci j = 1
  · rw [if_pos h, if_pos (Or.inr ⟨by omega, h⟩)]
  · rw [if_neg h, if_neg (fun z => z.elim (fun z => by omega) (fun z => h z.2))]
/-- the frame of a store of one number -/
theorem zws_up {adr : Nat → Nat} {cI cL cZ : ClassId} {w : zWd} {k : Nat} {sh : zSh} (h2 : 2 ≤ k) (hk : w.1[k]? = some sh) (g : Int → Int) (M : Nat → Int → Int) (hM : ∀ j, j ≠ k → M j = w.2 j) (hg : M k = g) : zws adr cI cL cZ (w.1, M) = (zws adr cI cL cZ w).set (k - 2) (adr k, zent adr cI cL cZ g sh) := by
  obtain ⟨k, rfl⟩ : ∃ j, k = j + 2 := ⟨k - 2, by omega⟩
  have := zws_set (adr := adr) (cI := cI) (cL := cL) (cZ := cZ) (w := w) (w' := (w.1, M)) (k := k) rfl (fun j hj => ⟨rfl, hM j hj⟩) hk
  rw [this, show k + 2 - 2 = k by omega]
  show _ = (zws adr cI cL cZ w).set k (adr (k + 2), zent adr cI cL cZ g sh)
  rw [← hg]
theorem zws_at {adr : Nat → Nat} {cI cL cZ : ClassId} {w : zWd} {k : Nat} {sh : zSh} (h2 : 2 ≤ k) (hk : w.1[k]? = some sh) : (zws adr cI cL cZ w)[k - 2]? = some (adr k, zent adr cI cL cZ (w.2 k) sh) := by
  obtain ⟨k, rfl⟩ : ∃ j, k = j + 2 := ⟨k - 2, by omega⟩
  exact zws_get hk
theorem zfs_get (adr : Nat → Nat) (g : Int → Int) (ci : Nat) (rs : List (Option Nat)) {j : Nat} (hj : j < znf ci) : ((List.range (znf ci)).map (zfv adr g ci rs))[j]? = some (zfv adr g ci rs j) := by
  rw [List.getElem?_map, List.getElem?_range hj]; rfl
theorem zfs_set (adr : Nat → Nat) (g g' : Int → Int) (ci : Nat) (rs rs' : List (Option Nat)) {j : Nat} (ho : ∀ x, x ≠ j → zfv adr g' ci rs' x = zfv adr g ci rs x) : (List.range (znf ci)).map (zfv adr g' ci rs') = ((List.range (znf ci)).map (zfv adr g ci rs)).set j (zfv adr g' ci rs' j) := by
  apply List.ext_getElem?
  intro x
  rw [List.getElem?_set, List.getElem?_map, List.getElem?_map]
  by_cases hx : j = x
  · subst hx
    rw [if_pos rfl]
    by_cases hl : j < znf ci
    · rw [List.getElem?_range hl]
      rw [if_pos (by simpa using hl)]
      rfl
    · rw [if_neg (by simpa using hl), List.getElem?_eq_none (by simpa using hl)]; rfl
  · rw [if_neg hx]
    by_cases hl : x < znf ci
    · rw [List.getElem?_range hl]
      show some _ = some _
      rw [ho x (fun z => hx z.symm)]
    · rw [List.getElem?_eq_none (by simpa using hl)]
      rfl
theorem zent_obj (adr : Nat → Nat) (cI cL cZ : ClassId) (g : Int → Int) (ci n : Nat) (rs : List (Option Nat)) : zent adr cI cL cZ g (3 + ci, n, rs) = .inr (ci, (List.range (znf ci)).map (zfv adr g ci rs)) := by
  rw [Nat.add_comm]; rfl
