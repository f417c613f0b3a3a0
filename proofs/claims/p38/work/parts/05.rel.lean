/-! How the small machine's state stands for the JVM's -/
def zin32 (x : Int) : Prop := -2147483648 ≤ x ∧ x < 2147483648
def zin64 (x : Int) : Prop := -9223372036854775808 ≤ x ∧ x < 9223372036854775808
theorem zin32_toInt (x : Int32) : zin32 x.toInt := ⟨by have := Int32.le_toInt x; simpa using this, by have := Int32.toInt_lt x; simpa using this⟩
theorem zin64_toInt (x : Int64) : zin64 x.toInt := ⟨by have := Int64.le_toInt x; simpa using this, by have := Int64.toInt_lt x; simpa using this⟩
theorem zofI (x : Int32) : Int32.ofInt x.toInt = x := Int32.ofInt_toInt x
theorem zofL (x : Int64) : Int64.ofInt x.toInt = x := Int64.ofInt_toInt x
theorem ztoI {x : Int} (h : zin32 x) : (Int32.ofInt x).toInt = x := Int32.toInt_ofInt_of_le (by simpa using h.1) (by simpa using h.2)
theorem ztoL {x : Int} (h : zin64 x) : (Int64.ofInt x).toInt = x := Int64.toInt_ofInt_of_le (by simpa using h.1) (by simpa using h.2)
theorem zltI {x y : Int} (hx : zin32 x) (hy : zin32 y) : Int32.ofInt x < Int32.ofInt y ↔ x < y := by rw [Int32.lt_iff_toInt_lt, ztoI hx, ztoI hy]
theorem zleI {x y : Int} (hx : zin32 x) (hy : zin32 y) : Int32.ofInt x ≤ Int32.ofInt y ↔ x ≤ y := by rw [Int32.le_iff_toInt_le, ztoI hx, ztoI hy]
theorem zeqI {x y : Int} (hx : zin32 x) (hy : zin32 y) : Int32.ofInt x = Int32.ofInt y ↔ x = y := ⟨fun h => by rw [← ztoI hx, ← ztoI hy, h], fun h => by rw [h]⟩
theorem zltL {x y : Int} (hx : zin64 x) (hy : zin64 y) : Int64.ofInt x < Int64.ofInt y ↔ x < y := by rw [Int64.lt_iff_toInt_lt, ztoL hx, ztoL hy]
theorem zeqL {x y : Int} (hx : zin64 x) (hy : zin64 y) : Int64.ofInt x = Int64.ofInt y ↔ x = y := ⟨fun h => by rw [← ztoL hx, ← ztoL hy, h], fun h => by rw [h]⟩
theorem zclamp {i : Int} (h : zin32 i) : (Int32.ofInt i).toNatClampNeg = i.toNat := by show (Int32.ofInt i).toInt.toNat = i.toNat; rw [ztoI h]
theorem zin0 : zin32 0 := ⟨by decide, by decide⟩
theorem zvpin {i : Int} {n : Nat} (h : zin32 i) (h0 : 0 ≤ i) (h1 : i < n) : vp_in (Int32.ofInt i) n := by
  unfold vp_in
  rw [show (0 : Int32) = Int32.ofInt 0 from rfl, zltI h zin0, zclamp h]
  omega
/-- values -/
def ztr (adr : Nat → Nat) (v : zMV) : Value := match v with
  | .inl x => .int (Int32.ofInt x)
  | .inr (.inl x) => .long (Int64.ofInt x)
  | .inr (.inr (some k)) => .ref (adr k)
  | .inr (.inr none) => .null
def zokv (n : Nat) (v : zMV) : Prop := match v with
  | .inl x => zin32 x
  | .inr (.inl x) => zin64 x
  | .inr (.inr (some k)) => k < n
  | .inr (.inr none) => True
theorem zokv_mono {n n' : Nat} (h : n ≤ n') {v : zMV} (hv : zokv n v) : zokv n' v := by
  match v, hv with
  | .inl _, hv => exact hv
  | .inr (.inl _), hv => exact hv
  | .inr (.inr (some _)), hv => exact Nat.lt_of_lt_of_le hv h
  | .inr (.inr none), _ => trivial
theorem ztr_agree {n : Nat} {adr adr' : Nat → Nat} (h : ∀ k, k < n → adr' k = adr k) {v : zMV} (hv : zokv n v) : ztr adr' v = ztr adr v := by
  match v, hv with
  | .inl _, _ => rfl
  | .inr (.inl _), _ => rfl
  | .inr (.inr (some k)), hv => show Value.ref (adr' k) = Value.ref (adr k); rw [h k hv]
  | .inr (.inr none), _ => rfl
theorem zcat_tr (adr : Nat → Nat) (v : zMV) : (ztr adr v).category = zcat v := by
  match v with
  | .inl _ => rfl
  | .inr (.inl _) => rfl
  | .inr (.inr (some k)) => rfl
  | .inr (.inr none) => rfl
theorem zcats_tr (adr : Nat → Nat) (st : List zMV) : ((st.map (ztr adr)).map fun v => v.category).sum = zcats st := by
  unfold zcats
  rw [List.map_map]
  congr 1
  apply List.map_congr_left
  intro v _
  exact zcat_tr adr v
/-- locals -/
def zlv (adr : Nat → Nat) (ls : Array Slot) (n : Nat) (L : List zMV) : Prop := ls.size = n ∧ lv_wf ls ∧ L.length = n ∧ ∀ (j : Nat) (v : zMV), L[j]? = some v → v ≠ zU → ls[j]? = some (.val (ztr adr v))
def zll2 (adr : Nat → Nat) (L : List zMV) : List (Nat × Value) := (List.range L.length).filterMap fun j => match L[j]? with
  | some v => if v = zU then none else some (j, ztr adr v)
  | none => none
theorem zll2_mem {adr : Nat → Nat} {L : List zMV} {q : Nat × Value} : q ∈ zll2 adr L ↔ ∃ v, L[q.1]? = some v ∧ v ≠ zU ∧ q.2 = ztr adr v := by
  unfold zll2
  rw [List.mem_filterMap]
  constructor
  · rintro ⟨j, hj, h⟩
    cases hv : L[j]? with
    | none => rw [hv] at h; cases h
    | some v =>
      rw [hv] at h
      by_cases hu : v = zU
      · simp [hu] at h
      · simp only [hu, if_false] at h
        cases h
        exact ⟨v, hv, hu, rfl⟩
  · rintro ⟨v, h1, h2, h3⟩
    refine ⟨q.1, List.mem_range.mpr (List.getElem?_eq_some_iff.mp h1).1, ?_⟩
    rw [h1]
    simp only [h2, if_false]
    rw [← h3]
theorem zlv_has {adr : Nat → Nat} {ls : Array Slot} {n : Nat} {L : List zMV} (h : zlv adr ls n L) : lv_has ls n (zll2 adr L) := by
  refine ⟨h.1, h.2.1, fun q hq => ?_⟩
  obtain ⟨v, h1, h2, h3⟩ := zll2_mem.mp hq
  rw [h.2.2.2 q.1 v h1 h2, h3]
theorem zset1_len (L : List zMV) (j : Nat) (v : zMV) : (zset1 L j v).length = L.length := by
  cases j with
  | zero => simp [zset1]
  | succ i =>
    simp only [zset1, List.length_set]
    split <;> simp
theorem zset1_get {L : List zMV} {j : Nat} {v : zMV} (hj : j < L.length) {k : Nat} {u : zMV} (h : (zset1 L j v)[k]? = some u) (hu : u ≠ zU) : (k = j ∧ u = v) ∨ (k ≠ j ∧ L[k]? = some u ∧ ¬ (k + 1 = j ∧ zcat u = 2)) := by
  cases j with
  | zero =>
    simp only [zset1, List.getElem?_set] at h
    by_cases hk : 0 = k
    · rw [if_pos hk, if_pos (by omega)] at h
      cases h
      exact Or.inl ⟨hk.symm, rfl⟩
    · rw [if_neg hk] at h
      exact Or.inr ⟨fun e => hk e.symm, h, fun q => by omega⟩
  | succ i =>
    simp only [zset1] at h
    rw [List.getElem?_set] at h
    by_cases hk : i + 1 = k
    · rw [if_pos hk] at h
      split at h <;> (split at h <;> first | (cases h; exact Or.inl ⟨hk.symm, rfl⟩) | cases h)
    · rw [if_neg hk] at h
      refine Or.inr ⟨fun e => hk e.symm, ?_⟩
      split at h
      · next x hx =>
        rw [List.getElem?_set] at h
        by_cases hi : i = k
        · rw [if_pos hi] at h
          split at h
          · cases h; exact absurd rfl hu
          · cases h
        · rw [if_neg hi] at h
          exact ⟨h, fun q => by omega⟩
      · next hx =>
        refine ⟨h, fun q => ?_⟩
        have : k = i := by omega
        subst this
        match u, q.2 with
        | .inr (.inl x), _ => exact hx x h
theorem zlv_set1 {adr : Nat → Nat} {ls ls' : Array Slot} {n : Nat} {L : List zMV} {j : Nat} {v : zMV} (h : zlv adr ls n L) (hj : j < L.length)
    (h' : lv_has ls' n ((j, ztr adr v) :: (zll2 adr L).filter (fun q => !(q.1 == j) && !(q.1 + 1 == j && q.2.category == 2)))) : zlv adr ls' n (zset1 L j v) := by
  refine ⟨h'.1, h'.2.1, by rw [zset1_len]; exact h.2.2.1, fun k u hk hu => ?_⟩
  rcases zset1_get hj hk hu with ⟨rfl, rfl⟩ | ⟨h1, h2, h3⟩
  · exact h'.2.2 (k, ztr adr u) List.mem_cons_self
  · refine h'.2.2 (k, ztr adr u) (List.mem_cons_of_mem _ (List.mem_filter.mpr ⟨zll2_mem.mpr ⟨u, h2, hu, rfl⟩, ?_⟩))
    rw [zcat_tr]
    simp only [Bool.and_eq_true, Bool.not_eq_true', beq_eq_false_iff_ne, ne_eq, Bool.and_eq_false_iff]
    refine ⟨h1, ?_⟩
    by_cases q : k + 1 = j
    · exact Or.inr fun z => h3 ⟨q, z⟩
    · exact Or.inl q
theorem zlv_set2 {adr : Nat → Nat} {ls ls' : Array Slot} {n : Nat} {L : List zMV} {j : Nat} {v : zMV} (h : zlv adr ls n L) (hj : j + 1 < L.length)
    (h' : lv_has ls' n ((j, ztr adr v) :: (zll2 adr L).filter (fun q => !(q.1 == j) && (!(q.1 == j + 1) && !(q.1 + 1 == j && q.2.category == 2))))) : zlv adr ls' n (zset2 L j v) := by
  refine ⟨h'.1, h'.2.1, by simp [zset2, zset1_len]; exact h.2.2.1, fun k u hk hu => ?_⟩
  unfold zset2 at hk
  rw [List.getElem?_set] at hk
  by_cases hkj : j + 1 = k
  · rw [if_pos hkj] at hk
    split at hk
    · cases hk; exact absurd rfl hu
    · cases hk
  · rw [if_neg hkj] at hk
    rcases zset1_get (by omega) hk hu with ⟨rfl, rfl⟩ | ⟨h1, h2, h3⟩
    · exact h'.2.2 (k, ztr adr u) List.mem_cons_self
    · refine h'.2.2 (k, ztr adr u) (List.mem_cons_of_mem _ (List.mem_filter.mpr ⟨zll2_mem.mpr ⟨u, h2, hu, rfl⟩, ?_⟩))
      rw [zcat_tr]
      simp only [Bool.and_eq_true, Bool.not_eq_true', beq_eq_false_iff_ne, ne_eq, Bool.and_eq_false_iff]
      refine ⟨h1, fun z => hkj z.symm, ?_⟩
      by_cases q : k + 1 = j
      · exact Or.inr fun z => h3 ⟨q, z⟩
      · exact Or.inl q
theorem zset1_ok {n : Nat} {L : List zMV} {j : Nat} {v : zMV} (hj : j < L.length) (h : ∀ u ∈ L, zokv n u) (hv : zokv n v) : ∀ u ∈ zset1 L j v, zokv n u := by
  intro u hu
  obtain ⟨k, hk⟩ := List.getElem?_of_mem hu
  by_cases hz : u = zU
  · subst hz; exact trivial
  · rcases zset1_get hj hk hz with ⟨-, rfl⟩ | ⟨-, h2, -⟩
    · exact hv
    · exact h u (List.mem_of_getElem? h2)
theorem zset2_ok {n : Nat} {L : List zMV} {j : Nat} {v : zMV} (hj : j < L.length) (h : ∀ u ∈ L, zokv n u) (hv : zokv n v) : ∀ u ∈ zset2 L j v, zokv n u := by
  intro u hu
  unfold zset2 at hu
  rcases List.mem_or_eq_of_mem_set hu with h1 | h1
  · exact zset1_ok hj h hv u h1
  · subst h1; exact trivial
theorem zlv_agree {n k : Nat} {adr adr' : Nat → Nat} {ls : Array Slot} {L : List zMV} (h : zlv adr ls n L) (ha : ∀ j, j < k → adr' j = adr j) (ho : ∀ v ∈ L, zokv k v) : zlv adr' ls n L :=
  ⟨h.1, h.2.1, h.2.2.1, fun j v h1 h2 => by rw [ztr_agree ha (ho v (List.mem_of_getElem? h1))]; exact h.2.2.2 j v h1 h2⟩
/-- the world -/
def zfv (adr : Nat → Nat) (g : Int → Int) (ci : Nat) (rs : List (Option Nat)) (j : Nat) : Value := match zfty ci j with
  | 0 => .int (Int32.ofInt (g j))
  | 1 => .long (Int64.ofInt (g j))
  | 2 => .int (Int32.ofInt (g j))
  | _ => match rs[j]? with
    | some (some r) => .ref (adr r)
    | _ => .null
def zent (adr : Nat → Nat) (cI cL cZ : ClassId) (g : Int → Int) (sh : zSh) : va_E := match sh.1 with
  | 0 => .inl (cI, (sh.2.1, .inl (fun j => Int32.ofInt (g j))))
  | 1 => .inl (cL, (sh.2.1, .inr (.inl (fun j => Int64.ofInt (g j)))))
  | 2 => .inl (cZ, (sh.2.1, .inl (fun j => Int32.ofInt (g j))))
  | ci + 3 => .inr (ci, (List.range (znf ci)).map (zfv adr g ci sh.2.2))
def zws (adr : Nat → Nat) (cI cL cZ : ClassId) (w : zWd) : va_W := (List.range (w.1.length - 2)).map fun k => (adr (k + 2), zent adr cI cL cZ (w.2 (k + 2)) (w.1.getD (k + 2) (0, 0, [])))
theorem zws_len (adr : Nat → Nat) (cI cL cZ : ClassId) (w : zWd) : (zws adr cI cL cZ w).length = w.1.length - 2 := by simp [zws]
theorem zws_get {adr : Nat → Nat} {cI cL cZ : ClassId} {w : zWd} {k : Nat} {sh : zSh} (h : w.1[k + 2]? = some sh) : (zws adr cI cL cZ w)[k]? = some (adr (k + 2), zent adr cI cL cZ (w.2 (k + 2)) sh) := by
  have hlt := (List.getElem?_eq_some_iff.mp h).1
  unfold zws
  rw [List.getElem?_map, List.getElem?_range (by omega)]
  simp [h]
theorem zws_set {adr : Nat → Nat} {cI cL cZ : ClassId} {w w' : zWd} {k : Nat} {sh : zSh} (hlen : w'.1.length = w.1.length) (ho : ∀ j, j ≠ k + 2 → w'.1[j]? = w.1[j]? ∧ w'.2 j = w.2 j) (hk : w'.1[k + 2]? = some sh) : zws adr cI cL cZ w' = (zws adr cI cL cZ w).set k (adr (k + 2), zent adr cI cL cZ (w'.2 (k + 2)) sh) := by
  have hlt := (List.getElem?_eq_some_iff.mp hk).1
  apply List.ext_getElem?
  intro j
  rw [List.getElem?_set]
  by_cases hj : k = j
  · subst hj
    rw [if_pos rfl, if_pos (by rw [zws_len]; omega), zws_get hk]
  · rw [if_neg hj]
    by_cases hl : j + 2 < w.1.length
    · have h1 : w.1[j + 2]? = some (w.1[j + 2]) := List.getElem?_eq_getElem hl
      have h2 := ho (j + 2) (by omega)
      rw [zws_get h1, zws_get (h2.1.trans h1), h2.2]
    · rw [List.getElem?_eq_none (by rw [zws_len]; omega), List.getElem?_eq_none (by rw [zws_len]; omega)]
def zsr (sh : zSh) (i x : Int) : Prop := if sh.1 = 1 ∨ (3 ≤ sh.1 ∧ zfty (sh.1 - 3) i.toNat = 1) then zin64 x else zin32 x
def zok (w : zWd) : Prop := ∀ (k : Nat) (sh : zSh), w.1[k]? = some sh → sh.1 < 15 ∧ sh.2.1 < 2147483648 ∧ (∀ (j r : Nat), sh.2.2[j]? = some (some r) → r < w.1.length) ∧ (3 ≤ sh.1 → sh.2.1 = znf (sh.1 - 3) ∧ sh.2.2.length = znf (sh.1 - 3)) ∧ ∀ i, zsr sh i (w.2 k i)
def zInv (n0 n1 : Nat) (f0 f1 : Int → Int) (w : zWd) : Prop := w.1[0]? = some (0, n0, []) ∧ w.1[1]? = some (0, n1, []) ∧ w.2 0 = f0 ∧ w.2 1 = f1 ∧ zok w
theorem zfv_agree {n : Nat} {adr adr' : Nat → Nat} (h : ∀ k, k < n → adr' k = adr k) (g : Int → Int) (ci : Nat) {rs : List (Option Nat)} (hr : ∀ (j r : Nat), rs[j]? = some (some r) → r < n) (j : Nat) : zfv adr' g ci rs j = zfv adr g ci rs j := by
  unfold zfv
  split <;> try rfl
  split
  · next r hj => rw [h r (hr j r hj)]
  · rfl
theorem zent_agree {n : Nat} {adr adr' : Nat → Nat} (h : ∀ k, k < n → adr' k = adr k) (cI cL cZ : ClassId) (g : Int → Int) {sh : zSh} (hr : ∀ (j r : Nat), sh.2.2[j]? = some (some r) → r < n) : zent adr' cI cL cZ g sh = zent adr cI cL cZ g sh := by
  unfold zent
  split <;> try rfl
  congr 2
  apply List.map_congr_left
  intro j _
  exact zfv_agree h g _ hr j
theorem zws_push {adr : Nat → Nat} {cI cL cZ : ClassId} {w : zWd} (hok : zok w) (h2 : 2 ≤ w.1.length) (q : Nat) (sh : zSh) (hs : ∀ (j r : Nat), sh.2.2[j]? = some (some r) → r < w.1.length) : zws (fun j => if j = w.1.length then q else adr j) cI cL cZ (w.1 ++ [sh], zzero w.2 w.1.length) = zws adr cI cL cZ w ++ [(q, zent adr cI cL cZ (fun _ => 0) sh)] := by
  have ha : ∀ k, k < w.1.length → (fun j => if j = w.1.length then q else adr j) k = adr k := fun k hk => if_neg (by omega)
  apply List.ext_getElem?
  intro j
  by_cases hj : j + 2 < w.1.length
  · have h1 : w.1[j + 2]? = some (w.1[j + 2]) := List.getElem?_eq_getElem hj
    have h3 : (w.1 ++ [sh])[j + 2]? = some (w.1[j + 2]) := by rw [List.getElem?_append_left hj]; exact h1
    rw [List.getElem?_append_left (by rw [zws_len]; omega), zws_get h1, zws_get (w := (w.1 ++ [sh], zzero w.2 w.1.length)) h3]
    have : zzero w.2 w.1.length (j + 2) = w.2 (j + 2) := by
      funext i
      simp [zzero, show j + 2 ≠ w.1.length by omega]
    rw [zent_agree ha _ _ _ _ (hok _ _ h1).2.2.1]
    show some ((if j + 2 = w.1.length then q else adr (j + 2)), zent adr cI cL cZ (zzero w.2 w.1.length (j + 2)) _) = _
    rw [this, if_neg (by omega)]
  · by_cases hj2 : j + 2 = w.1.length
    · have h3 : (w.1 ++ [sh])[j + 2]? = some sh := by rw [hj2]; simp
      rw [zws_get (w := (w.1 ++ [sh], zzero w.2 w.1.length)) h3, List.getElem?_append_right (by rw [zws_len]; omega), zws_len]
      rw [show j - (w.1.length - 2) = 0 by omega]
      have : zzero w.2 w.1.length (j + 2) = fun _ => 0 := by
        funext i
        simp [zzero, hj2]
      rw [zent_agree ha _ _ _ _ hs]
      show some ((if j + 2 = w.1.length then q else adr (j + 2)), zent adr cI cL cZ (zzero w.2 w.1.length (j + 2)) _) = _
      rw [this, if_pos hj2]
      rfl
    · rw [List.getElem?_eq_none (by rw [zws_len]; simp; omega), List.getElem?_eq_none (by simp [zws_len]; omega)]
