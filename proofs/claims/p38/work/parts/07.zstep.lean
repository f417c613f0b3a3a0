/-! one step -/
def zcs (w : zWd) : Nat := (w.1.map (·.2.1)).sum
def zCtx (p : Program) (s : State) (m : MethodId) (args : Array Value) (meth : Method) (c : Code) (D : va_G) (cI cL cZ : ClassId) (A : Nat → Prop) (t0 t1 n0 n1 : Nat) (f0 f1 : Int → Int) (mi : Nat) : Prop :=
  p.tables.exec = Jvm.exec ∧ c.code = zmC mi ∧ c.maxLocals = zmL mi ∧ s.vm.findClass (zcn (zmO mi)) = some m.cls ∧ (∀ w ∈ zTW, w.before args s = true) ∧ (∀ w ∈ zNW, va_Nw w s) ∧ va_K D vwCl [(cI, .int), (cL, .long)] s ∧ meth.locks = false ∧ (zmI mi = true → meth.name = "<init>") ∧ (∀ q, s.heap.size ≤ q → A q) ∧ va_T .int t0 n0 (fun j => .int (Int32.ofInt (f0 j))) A s s.heap ∧ va_T .int t1 n1 (fun j => .int (Int32.ofInt (f1 j))) A s s.heap ∧ True
def zAt (D : va_G) (cI cL cZ : ClassId) (A : Nat → Prop) (t0 t1 n0 n1 : Nat) (f0 f1 : Int → Int) (mi : Nat) (H0 : Heap) (adr : Nat → Nat) (H : Heap) (locs : List Loc) (ls : Array Slot) (L st : List zMV) (w : zWd) : Prop :=
  va_P D vwCl (zws adr cI cL cZ w) H ∧ va_D A (zws adr cI cL cZ w) ∧ zInv n0 n1 f0 f1 w ∧ adr 0 = t0 ∧ adr 1 = t1 ∧ va_S A H0 H locs ∧ zlv adr ls (zmL mi) L ∧ (∀ v ∈ L, zokv w.1.length v) ∧ (∀ v ∈ st, zokv w.1.length v)
theorem zfall_inv {L L' st' : List zMV} {w w' : zWd} {o : Option (List zMV)} {tgt : Option Nat} (h : zfall L w o = some (tgt, L', st', w')) : none = tgt ∧ L = L' ∧ w = w' ∧ o = some st' := by
  cases o with
  | none => cases h
  | some x => cases h; exact ⟨rfl, rfl, rfl, rfl⟩
theorem zii_inv {st st' : List zMV} {f : Int → Int → Option zMV} (h : zii st f = some st') : ∃ y x r v, st = zI y :: zI x :: r ∧ f x y = some v ∧ st' = v :: r := by
  unfold zii at h
  split at h
  · next y x r =>
    cases hf : f x y with
    | none => rw [hf] at h; cases h
    | some v => rw [hf] at h; cases h; exact ⟨y, x, r, v, rfl, hf, rfl⟩
  · cases h
theorem zll_inv {st st' : List zMV} {f : Int → Int → Option zMV} (h : zll st f = some st') : ∃ y x r v, st = zL y :: zL x :: r ∧ f x y = some v ∧ st' = v :: r := by
  unfold zll at h
  split at h
  · next y x r =>
    cases hf : f x y with
    | none => rw [hf] at h; cases h
    | some v => rw [hf] at h; cases h; exact ⟨y, x, r, v, rfl, hf, rfl⟩
  · cases h
theorem zli_inv {st st' : List zMV} {f : Int → Int → Option zMV} (h : zli st f = some st') : ∃ y x r v, st = zI y :: zL x :: r ∧ f x y = some v ∧ st' = v :: r := by
  unfold zli at h
  split at h
  · next y x r =>
    cases hf : f x y with
    | none => rw [hf] at h; cases h
    | some v => rw [hf] at h; cases h; exact ⟨y, x, r, v, rfl, hf, rfl⟩
  · cases h
theorem zb32_in {x : Int} (h : zb32 x = true) : zin32 x := by
  simp only [zb32, Bool.and_eq_true, decide_eq_true_eq] at h
  exact h
theorem zb64_in {x : Int} (h : zb64 x = true) : zin64 x := by
  simp only [zb64, Bool.and_eq_true, decide_eq_true_eq] at h
  exact h
theorem zany3 {α : Type} {T : List α} {P : α → Bool} (h : T.any P = true) : ∃ q ∈ T, P q = true := by
  obtain ⟨q, h1, h2⟩ := List.any_eq_true.mp h
  exact ⟨q, h1, h2⟩
theorem zjmp_inv {mi pc b : Nat} {off : Int} (h : zjmp mi pc b off = true) : ∃ t : Nat, zstart mi b = some t ∧ (pc : Int) + off = (t : Int) := by
  unfold zjmp at h
  split at h
  · next t ht => exact ⟨t, ht, by simpa using h⟩
  · cases h
theorem zi32_i2l {x : Int} (h : zin32 x) : (Int32.ofInt x).toInt64 = Int64.ofInt x := by
  apply Int64.toInt_inj.mp
  rw [Int32.toInt_toInt64, ztoI h, ztoL ⟨by have := h.1; omega, by have := h.2; omega⟩]
theorem zin32_64 {x : Int} (h : zin32 x) : zin64 x := ⟨by have := h.1; omega, by have := h.2; omega⟩
theorem zlcmp_eq {x y : Int} (hx : zin64 x) (hy : zin64 y) : lg_cmp (Int64.ofInt x) (Int64.ofInt y) = Int32.ofInt (zlcmp x y) := by
  unfold lg_cmp zlcmp
  by_cases h1 : y < x
  · rw [if_pos (show Int64.ofInt x > Int64.ofInt y from (zltL hy hx).mpr h1), if_neg (by omega), if_neg (by omega)]; rfl
  · rw [if_neg (show ¬ Int64.ofInt x > Int64.ofInt y from fun z => h1 ((zltL hy hx).mp z))]
    by_cases h2 : x = y
    · rw [if_pos ((zeqL hx hy).mpr h2), if_neg (by omega), if_pos h2]; rfl
    · rw [if_neg (fun z => h2 ((zeqL hx hy).mp z)), if_pos (by omega)]; rfl
theorem zlcmp_in (x y : Int) : zin32 (zlcmp x y) := by
  unfold zlcmp
  split
  · exact ⟨by decide, by decide⟩
  · split
    · exact ⟨by decide, by decide⟩
    · exact ⟨by decide, by decide⟩
section ZS
variable {p : Program} {l : Launch} {e : Env} {R : Room} {s : State} {m : MethodId} {args : Array Value} {below : List Frame} {meth : Method} {c : Code} {Q : State → Prop} {D : va_G} {cI cL cZ : ClassId} {A : Nat → Prop} {t0 t1 n0 n1 mi kc ks : Nat} {f0 f1 : Int → Int}
def zK (p : Program) (l : Launch) (e : Env) (R : Room) (s : State) (m : MethodId) (args : Array Value) (below : List Frame) (meth : Method) (c : Code) (Q : State → Prop) (D : va_G) (cI cL cZ : ClassId) (A : Nat → Prop) (t0 t1 n0 n1 : Nat) (f0 f1 : Int → Int) (mi kc ks n : Nat) (adr : Nat → Nat) (tgt : Option Nat) (nx : Nat) (L st : List zMV) (w : zWd) : Prop :=
  ∀ (adr' : Nat → Nat) (H' : Heap) (locs' : List Loc) (ls' : Array Slot) (pc' : Nat), (∀ k, k < n → adr' k = adr k) → (match tgt with
    | none => pc' = nx
    | some b => zstart mi b = some pc') → zAt D cI cL cZ A t0 t1 n0 n1 f0 f1 mi s.heap adr' H' locs' ls' L st w → W p l e R s m args below meth c H' locs' (w.1.length - kc) (zcs w - ks) Q (F0 m pc' ls' (st.map (ztr adr')))
variable {adr : Nat → Nat} {H : Heap} {locs : List Loc} {ls : Array Slot} {L st : List zMV} {w : zWd} {pc nx : Nat}
theorem zAt_st {st' : List zMV} (h : zAt D cI cL cZ A t0 t1 n0 n1 f0 f1 mi s.heap adr H locs ls L st w) (hs : ∀ v ∈ st', zokv w.1.length v) : zAt D cI cL cZ A t0 t1 n0 n1 f0 f1 mi s.heap adr H locs ls L st' w := by
  obtain ⟨a1, a2, a3, a4, a5, a6, a7, a8, a9⟩ := h
  exact ⟨a1, a2, a3, a4, a5, a6, a7, a8, hs⟩
theorem zAt_lo {ls' : Array Slot} {L' st' : List zMV} (h : zAt D cI cL cZ A t0 t1 n0 n1 f0 f1 mi s.heap adr H locs ls L st w) (h1 : zlv adr ls' (zmL mi) L') (h2 : ∀ v ∈ L', zokv w.1.length v) (hs : ∀ v ∈ st', zokv w.1.length v) : zAt D cI cL cZ A t0 t1 n0 n1 f0 f1 mi s.heap adr H locs ls' L' st' w := by
  obtain ⟨a1, a2, a3, a4, a5, a6, a7, a8, a9⟩ := h
  exact ⟨a1, a2, a3, a4, a5, a6, h1, h2, hs⟩
/-- on with another stack -/
theorem zKs {st' : List zMV} {V : List Value} (hA : zAt D cI cL cZ A t0 t1 n0 n1 f0 f1 mi s.heap adr H locs ls L st w) (K : zK p l e R s m args below meth c Q D cI cL cZ A t0 t1 n0 n1 f0 f1 mi kc ks w.1.length adr none nx L st' w) (hs : ∀ v ∈ st', zokv w.1.length v) (hV : st'.map (ztr adr) = V) : W p l e R s m args below meth c H locs (w.1.length - kc) (zcs w - ks) Q (F0 m nx ls V) := by
  subst hV
  exact K adr H locs ls nx (fun _ _ => rfl) rfl (zAt_st hA hs)
theorem zKi {z : Int} {Z : Int32} {r : List zMV} (hA : zAt D cI cL cZ A t0 t1 n0 n1 f0 f1 mi s.heap adr H locs ls L st w) (K : zK p l e R s m args below meth c Q D cI cL cZ A t0 t1 n0 n1 f0 f1 mi kc ks w.1.length adr none nx L (zI z :: r) w) (hz : Int32.ofInt z = Z) (hin : zin32 z) (hr : ∀ v ∈ r, v ∈ st) : W p l e R s m args below meth c H locs (w.1.length - kc) (zcs w - ks) Q (F0 m nx ls (.int Z :: r.map (ztr adr))) := by
  subst hz
  refine zKs hA K (fun v hv => ?_) rfl
  rcases List.mem_cons.mp hv with rfl | hv
  · exact hin
  · exact hA.2.2.2.2.2.2.2.2 v (hr v hv)
theorem zKl {z : Int} {Z : Int64} {r : List zMV} (hA : zAt D cI cL cZ A t0 t1 n0 n1 f0 f1 mi s.heap adr H locs ls L st w) (K : zK p l e R s m args below meth c Q D cI cL cZ A t0 t1 n0 n1 f0 f1 mi kc ks w.1.length adr none nx L (zL z :: r) w) (hz : Int64.ofInt z = Z) (hin : zin64 z) (hr : ∀ v ∈ r, v ∈ st) : W p l e R s m args below meth c H locs (w.1.length - kc) (zcs w - ks) Q (F0 m nx ls (.long Z :: r.map (ztr adr))) := by
  subst hz
  refine zKs hA K (fun v hv => ?_) rfl
  rcases List.mem_cons.mp hv with rfl | hv
  · exact hin
  · exact hA.2.2.2.2.2.2.2.2 v (hr v hv)
theorem zmem2 {u v : zMV} {r : List zMV} : ∀ x ∈ r, x ∈ u :: v :: r := fun _ h => List.mem_cons_of_mem _ (List.mem_cons_of_mem _ h)
theorem zmem1 {u : zMV} {r : List zMV} : ∀ x ∈ r, x ∈ u :: r := fun _ h => List.mem_cons_of_mem _ h
end ZS
