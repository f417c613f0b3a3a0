/-! what the small machine computes, the JVM computes -/
theorem zsl_len (adr : Nat → Nat) (vs : List zMV) : (lg_sl (vs.map (ztr adr))).length = (zspread vs).length := by
  induction vs with
  | nil => rfl
  | cons v vs ih =>
    have e1 : lg_sl ((v :: vs).map (ztr adr)) = (if (ztr adr v).category = 2 then [.val (ztr adr v), .second] else [.val (ztr adr v)]) ++ lg_sl (vs.map (ztr adr)) := by simp [lg_sl]
    rw [e1, List.length_append, ih]
    match v with
    | .inl x => simp [ztr, Value.category, zspread]; omega
    | .inr (.inl x) => simp [ztr, Value.category, zspread]; omega
    | .inr (.inr (some k)) => simp [ztr, Value.category, zspread]; omega
    | .inr (.inr none) => simp [ztr, Value.category, zspread]; omega
theorem zargs_mem (adr : Nat → Nat) : ∀ (vs : List zMV) (i j : Nat) (v : zMV), (zspread vs)[j]? = some v → v ≠ zU → (i + j, ztr adr v) ∈ lv_args i (vs.map (ztr adr))
  | [], _, _, _, h, _ => by simp [zspread] at h
  | u :: vs, i, j, v, h, hv => by
    show _ ∈ (i, ztr adr u) :: lv_args (if (ztr adr u).category = 2 then i + 2 else i + 1) (vs.map (ztr adr))
    rw [zcat_tr]
    match u with
    | .inl x =>
      cases j with
      | zero => cases h; exact List.mem_cons_self
      | succ j =>
        have := zargs_mem adr vs (i + 1) j v h hv
        rw [show i + (j + 1) = i + 1 + j by omega]
        exact List.mem_cons_of_mem _ this
    | .inr (.inl x) =>
      match j with
      | 0 => cases h; exact List.mem_cons_self
      | 1 => cases h; exact absurd rfl hv
      | j + 2 =>
        have := zargs_mem adr vs (i + 2) j v h hv
        rw [show i + (j + 2) = i + 2 + j by omega]
        exact List.mem_cons_of_mem _ this
    | .inr (.inr (some k)) =>
      cases j with
      | zero => cases h; exact List.mem_cons_self
      | succ j =>
        have := zargs_mem adr vs (i + 1) j v h hv
        rw [show i + (j + 1) = i + 1 + j by omega]
        exact List.mem_cons_of_mem _ this
    | .inr (.inr none) =>
      cases j with
      | zero => cases h; exact List.mem_cons_self
      | succ j =>
        have := zargs_mem adr vs (i + 1) j v h hv
        rw [show i + (j + 1) = i + 1 + j by omega]
        exact List.mem_cons_of_mem _ this
theorem zlocs_len {vs : List zMV} {n : Nat} (h : (zspread vs).length ≤ n) : (zlocs vs n).length = n := by simp [zlocs]; omega
theorem zlocs_get {vs : List zMV} {n j : Nat} {v : zMV} (h : (zlocs vs n)[j]? = some v) (hv : v ≠ zU) : (zspread vs)[j]? = some v := by
  unfold zlocs at h
  by_cases hj : j < (zspread vs).length
  · rw [List.getElem?_append_left hj] at h; exact h
  · rw [List.getElem?_append_right (by omega), List.getElem?_replicate] at h
    split at h
    · cases h; exact absurd rfl hv
    · cases h
theorem zentry (adr : Nat → Nat) {vs : List zMV} {n : Nat} (h : (zspread vs).length ≤ n) : zlv adr ((lg_sl (vs.map (ztr adr)) ++ List.replicate (n - (lg_sl (vs.map (ztr adr))).length) Slot.unset).toArray) n (zlocs vs n) := by
  have he := lv_entry (vs.map (ztr adr)) (n := n) (by rw [zsl_len]; exact h)
  refine ⟨he.1, he.2.1, zlocs_len h, fun j v hj hv => ?_⟩
  have := zargs_mem adr vs 0 j v (zlocs_get hj hv) hv
  rw [Nat.zero_add] at this
  exact he.2.2 (j, ztr adr v) this
theorem zspread_ok {n : Nat} : ∀ {vs : List zMV}, (∀ v ∈ vs, zokv n v) → ∀ v ∈ zspread vs, zokv n v
  | [], _, _, h => by simp [zspread] at h
  | u :: vs, hu, v, h => by
    have ih := zspread_ok (vs := vs) (fun v hv => hu v (List.mem_cons_of_mem _ hv))
    have h0 := hu u List.mem_cons_self
    match u, h0, h with
    | .inl x, h0, h =>
      rcases List.mem_cons.mp (show v ∈ zI x :: zspread vs from h) with rfl | h
      · exact h0
      · exact ih v h
    | .inr (.inl x), h0, h =>
      rcases List.mem_cons.mp (show v ∈ zL x :: zU :: zspread vs from h) with rfl | h
      · exact h0
      · rcases List.mem_cons.mp h with rfl | h
        · exact trivial
        · exact ih v h
    | .inr (.inr (some k)), h0, h =>
      rcases List.mem_cons.mp (show v ∈ zR k :: zspread vs from h) with rfl | h
      · exact h0
      · exact ih v h
    | .inr (.inr none), h0, h =>
      rcases List.mem_cons.mp (show v ∈ zU :: zspread vs from h) with rfl | h
      · exact trivial
      · exact ih v h
theorem zlocs_ok {n k : Nat} {vs : List zMV} (h : ∀ v ∈ vs, zokv n v) : ∀ v ∈ zlocs vs k, zokv n v := by
  intro v hv
  rcases List.mem_append.mp hv with h1 | h1
  · exact zspread_ok h v h1
  · rw [(List.mem_replicate.mp h1).2]; exact trivial
/-- behind a call -/
theorem zcallW {p : Program} {l : Launch} {e : Env} {R : Room} {s : State} {m : MethodId} {args : Array Value} {below : List Frame} {meth : Method} {c : Code} {H H0 : Heap} {locs : List Loc} {cells slots mc ms : Nat} {Q : State → Prop} {pc : Nat} {ls : Array Slot} {st0 rest : List Value} {Qa : State → Outcome → State → Prop} {free A0 A1 : Nat → Prop}
    (hr : va_Run p l e R s m args below meth c H locs cells slots mc ms (F0 m pc ls st0) rest Qa free) (hS : va_S A0 H0 H locs) (hA : ∀ q, q < H.size → A1 q → A0 q) (hf : ∀ q, free q → A0 q) (hF : ∀ (st t : State) (v : Option Value), Qa st (.returned v) t → va_F A1 st t)
    (kk : ∀ (v : Option Value) (st t : State) (locs1 : List Loc), st.heap = H → Qa st (.returned v) t → va_S A0 H0 t.heap locs1 → W p l e R s m args below meth c t.heap locs1 (cells + mc) (slots + ms) Q (F0 m (pc + 3) ls (v.toList ++ rest))) : W p l e R s m args below meth c H locs cells slots Q (F0 m pc ls st0) := by
  intro T hT X
  obtain ⟨v, st₀, t, T', L, h0, X', hL, e1, e2, hq, st⟩ := hr T hT X
  obtain ⟨hz, hk⟩ := hF st₀ t v hq
  rw [h0] at hz hk
  obtain ⟨t2, a1, b1⟩ := kk v st₀ t (locs ++ L) h0 hq ⟨Nat.le_trans hS.1 hz, fun q h1 h2 => by rw [hk q (Nat.lt_of_lt_of_le h1 hS.1) (fun z => h2 (hA q (Nat.lt_of_lt_of_le h1 hS.1) z))]; exact hS.2.1 q h1 h2, fun q hq => by
      rcases List.mem_append.mp hq with h | h
      · exact hS.2.2 q h
      · exact hf _ (hL q h)⟩ T' e1 X'
  exact ⟨t2, st t2 a1, b1⟩
/-- what a method finds -/
def zPre (D : va_G) (cI cL cZ : ClassId) (t0 t1 n0 n1 : Nat) (f0 f1 : Int → Int) (adr : Nat → Nat) (w : zWd) (vs : List zMV) (sz : Nat) : Array Value → State → Prop := va_Pc (vs.map (ztr adr)) fun U =>
  U.heap.size = sz ∧ va_P D vwCl (zws adr cI cL cZ w) U.heap ∧ va_D (fun _ => True) (zws adr cI cL cZ w) ∧ va_K D vwCl [(cI, .int), (cL, .long)] U ∧ (∀ x ∈ zNW, va_Nw x U) ∧ va_T .int t0 n0 (fun j => .int (Int32.ofInt (f0 j))) (va_A (zws adr cI cL cZ w) sz) U U.heap ∧ va_T .int t1 n1 (fun j => .int (Int32.ofInt (f1 j))) (va_A (zws adr cI cL cZ w) sz) U U.heap ∧ True
/-- what it leaves -/
def zQc (D : va_G) (cI cL cZ : ClassId) (t0 t1 n0 n1 : Nat) (f0 f1 : Int → Int) (adr : Nat → Nat) (w : zWd) (r : Option zMV) (w1 : zWd) (sz : Nat) : Array Value → State → Outcome → State → Prop := fun _ st o t =>
  (∃ adr' : Nat → Nat, (∀ k, k < w.1.length → adr' k = adr k) ∧ o = .returned (r.map (ztr adr')) ∧ va_P D vwCl (zws adr' cI cL cZ w1) t.heap ∧ va_D (va_A (zws adr cI cL cZ w) sz) (zws adr' cI cL cZ w1) ∧ zInv n0 n1 f0 f1 w1 ∧ adr' 0 = t0 ∧ adr' 1 = t1 ∧ ∀ v, r = some v → zokv w1.1.length v) ∧ va_F (va_A (zws adr cI cL cZ w) sz) st t
theorem zPre_blind {D : va_G} {cI cL cZ : ClassId} {t0 t1 n0 n1 : Nat} {f0 f1 : Int → Int} {adr : Nat → Nat} {w : zWd} {vs : List zMV} {sz : Nat} : FrameBlind (zPre D cI cL cZ t0 t1 n0 n1 f0 f1 adr w vs sz) := by
  intro a U g mk h
  obtain ⟨h0, h1, h2, h3, h4, h5, h6, h7, h8⟩ := h
  exact ⟨h0, h1, h2, h3, va_K.moved (u := U) (U := U.calling g mk a) (Vm.Alike.refl U.vm) h4, zNW_same (u := U) (U := U.calling g mk a) rfl h5, va_T.moved (u := U) (U := U.calling g mk a) (Vm.Alike.refl U.vm) h6, va_T.moved (u := U) (U := U.calling g mk a) (Vm.Alike.refl U.vm) h7, h8⟩
theorem zvret {mi : Nat} {i : Instr} {st : List zMV} {r : Option zMV} (h : zrok (zmR mi) i st = some r) : (i = .return_ ∧ zmR mi = none ∧ st = [] ∧ r = none) ∨ (i = .ireturn ∧ zmR mi = some .int ∧ ∃ x, st = [zI x] ∧ r = some (zI x)) ∨ (i = .ireturn ∧ zmR mi = some .boolean ∧ ∃ x, (x = 0 ∨ x = 1) ∧ st = [zI x] ∧ r = some (zI x)) ∨ (i = .lreturn ∧ zmR mi = some .long ∧ ∃ x, st = [zL x] ∧ r = some (zL x)) := by
  unfold zrok at h
  split at h
  · next hr => cases h; exact Or.inl ⟨rfl, hr, rfl, rfl⟩
  · next x hr => cases h; exact Or.inr (Or.inl ⟨rfl, hr, x, rfl, rfl⟩)
  · next x hr =>
    split at h
    · next hx => cases h; exact Or.inr (Or.inr (Or.inl ⟨rfl, hr, x, hx, rfl, rfl⟩))
    · cases h
  · next x hr => cases h; exact Or.inr (Or.inr (Or.inr ⟨rfl, hr, x, rfl, rfl⟩))
  · cases h
theorem zokE_ret {mi pc len : Nat} {i : Instr} {e : zEnt} (h : zokE mi pc i len e = true) (he : e.1 = .return_ ∨ e.1 = .ireturn ∨ e.1 = .lreturn) : e.1 = i ∧ len = 1 := by
  cases i <;> first
    | (simp only [zokE, Bool.and_eq_true, decide_eq_true_eq] at h; obtain ⟨rfl, rfl⟩ := h; exact ⟨rfl, rfl⟩)
    | (exfalso; simp only [zokE, Bool.and_eq_true, decide_eq_true_eq] at h; obtain ⟨rfl, -⟩ := h; rcases he with he | he | he <;> cases he; done)
    | (exfalso; simp only [zokE, Bool.and_eq_true, decide_eq_true_eq] at h; obtain ⟨⟨rfl, -⟩, -⟩ := h; rcases he with he | he | he <;> cases he; done)
    | (exfalso; simp only [zokE, Bool.and_eq_true, Bool.or_eq_true, decide_eq_true_eq] at h; rcases he with he | he | he <;> simp [he] at h; done)
    | (exfalso; simp only [zokE] at h; cases h; done)
    | (exfalso; simp only [zokE] at h; rcases he with he | he | he <;> simp [he] at h; done)
theorem zokE_virt {mi pc len k : Nat} {i : Instr} {e : zEnt} (h : zokE mi pc i len e = true) (he : e.1 = .invokevirtual k) : len = 3 ∧ ∃ ix kd, ((i = .invokevirtual ix ∧ kd = 0) ∨ (i = .invokespecial ix ∧ kd = 2)) ∧ ∃ q ∈ zCT, q.1 = zmO mi ∧ q.2.1 = ix ∧ q.2.2.1 = e.2.1 ∧ q.2.2.2.1 = kd := by
  cases i with
  | invokevirtual ix =>
    simp only [zokE, Bool.and_eq_true, decide_eq_true_eq] at h
    obtain ⟨q, hq, hq2⟩ := zany3 h.2.2
    simp only [Bool.and_eq_true, beq_iff_eq] at hq2
    exact ⟨h.1, ix, 0, Or.inl ⟨rfl, rfl⟩, q, hq, hq2.1, hq2.2.1, hq2.2.2.1, hq2.2.2.2⟩
  | invokespecial ix =>
    simp only [zokE, Bool.and_eq_true, Bool.or_eq_true, decide_eq_true_eq] at h
    obtain ⟨rfl, ⟨h1, -⟩ | ⟨h1, h2⟩⟩ := h
    · rw [he] at h1; cases h1
    · obtain ⟨q, hq, hq2⟩ := zany3 h2
      simp only [Bool.and_eq_true, beq_iff_eq] at hq2
      exact ⟨rfl, ix, 2, Or.inr ⟨rfl, rfl⟩, q, hq, hq2.1, hq2.2.1, hq2.2.2.1, hq2.2.2.2⟩
  | _ =>
    exfalso
    first
      | (simp only [zokE, Bool.and_eq_true, Bool.or_eq_true, decide_eq_true_eq] at h; simp [he] at h; done)
      | (simp only [zokE, Bool.and_eq_true, decide_eq_true_eq] at h; obtain ⟨rfl, -⟩ := h; cases he; done)
      | (simp only [zokE, Bool.and_eq_true, decide_eq_true_eq] at h; obtain ⟨⟨rfl, -⟩, -⟩ := h; cases he; done)
      | (simp only [zokE] at h; cases h; done)
      | (simp only [zokE] at h; simp [he] at h; done)
theorem zokE_stat {mi pc len k : Nat} {i : Instr} {e : zEnt} (h : zokE mi pc i len e = true) (he : e.1 = .invokestatic k) : len = 3 ∧ ∃ ix, i = .invokestatic ix ∧ ∃ q ∈ zCT, q.1 = zmO mi ∧ q.2.1 = ix ∧ q.2.2.1 = e.2.1 ∧ q.2.2.2.1 = 1 := by
  cases i with
  | invokestatic ix =>
    simp only [zokE, Bool.and_eq_true, Bool.or_eq_true, decide_eq_true_eq] at h
    obtain ⟨rfl, ((((⟨h1, -⟩ | ⟨h1, -⟩) | ⟨h1, -⟩) | ⟨h1, -⟩) | ⟨h1, h2⟩)⟩ := h
    · rw [he] at h1; cases h1
    · rw [he] at h1; cases h1
    · rw [he] at h1; cases h1
    · rw [he] at h1; cases h1
    · obtain ⟨q, hq, hq2⟩ := zany3 h2
      simp only [Bool.and_eq_true, beq_iff_eq] at hq2
      exact ⟨rfl, ix, rfl, q, hq, hq2.1, hq2.2.1, hq2.2.2.1, hq2.2.2.2⟩
  | _ =>
    exfalso
    first
      | (simp only [zokE, Bool.and_eq_true, Bool.or_eq_true, decide_eq_true_eq] at h; simp [he] at h; done)
      | (simp only [zokE, Bool.and_eq_true, decide_eq_true_eq] at h; obtain ⟨rfl, -⟩ := h; cases he; done)
      | (simp only [zokE, Bool.and_eq_true, decide_eq_true_eq] at h; obtain ⟨⟨rfl, -⟩, -⟩ := h; cases he; done)
      | (simp only [zokE] at h; cases h; done)
      | (simp only [zokE] at h; simp [he] at h; done)
section ZW
variable {l : Launch}
/-- how a method ends -/
def zFin (p : Program) (l : Launch) (e : Env) (R : Room) (s : State) (m : MethodId) (args : Array Value) (below : List Frame) (meth : Method) (c : Code) (Q : State → Prop) (D : va_G) (cI cL cZ : ClassId) (A : Nat → Prop) (t0 t1 n0 n1 : Nat) (f0 f1 : Int → Int) (mi kc ks : Nat) (adr0 : Nat → Nat) (r : Option zMV) (w1 : zWd) : Prop :=
  ∀ (adr' : Nat → Nat) (H' : Heap) (locs' : List Loc) (ls' : Array Slot) (pc' : Nat) (i : Instr) (L' st' : List zMV), decode (zmC mi) pc' = .ok (i, 1) → zrok (zmR mi) i st' = some r → zAt D cI cL cZ A t0 t1 n0 n1 f0 f1 mi s.heap adr' H' locs' ls' L' st' w1 → (∀ k, k < kc → adr' k = adr0 k) →
    W p l e R s m args below meth c H' locs' (w1.1.length - kc) (zcs w1 - ks) Q (F0 m pc' ls' (st'.map (ztr adr')))
/-- a method at depth d, its result r and its world w1: from any state at es, on to its end -/
def zGood (l : Launch) (n : Nat) : Prop :=
  ∀ (d mi : Nat) (es : List zEnt) (pc : Nat) (L st : List zMV) (w : zWd) (r : Option zMV) (w1 : zWd), zrun n d mi es L st w = some (r, w1) → mi < zNM + 1 → zchk mi pc es = true →
  ∀ (p : Program) (e : Env) (R : Room) (s : State) (m : MethodId) (args : Array Value) (below : List Frame) (meth : Method) (c : Code) (Q : State → Prop) (D : va_G) (cI cL cZ : ClassId) (A : Nat → Prop) (t0 t1 n0 n1 : Nat) (f0 f1 : Int → Int) (kc ks : Nat) (adr0 adr : Nat → Nat) (H : Heap) (locs : List Loc) (ls : Array Slot),
    zCtx p s m args meth c D cI cL cZ A t0 t1 n0 n1 f0 f1 mi → zFin p l e R s m args below meth c Q D cI cL cZ A t0 t1 n0 n1 f0 f1 mi kc ks adr0 r w1 → zAt D cI cL cZ A t0 t1 n0 n1 f0 f1 mi s.heap adr H locs ls L st w → (∀ k, k < kc → adr k = adr0 k) → kc ≤ w.1.length → ks ≤ zcs w → w1.1.length - kc ≤ R.cells → zcs w1 - ks ≤ R.slots → d + 1 ≤ R.frames → 40 * (d + 1) ≤ R.locals →
    W p l e R s m args below meth c H locs (w.1.length - kc) (zcs w - ks) Q (F0 m pc ls (st.map (ztr adr)))
theorem zmet {n : Nat} (hG : zGood l n) (hM : ∀ mi, mi < zNM → zPm mi) (hAll : ∀ mi, mi < zNM + 1 → zall mi = true) (hSt : ∀ mi, mi < zNM + 1 → zstart mi 0 = some 0) {d mi : Nat} (hmi : mi < zNM) {vs : List zMV} {w w1 : zWd} {r : Option zMV} (hrun : zrun n d mi (zblk mi 0) (zlocs vs (zmL mi)) [] w = some (r, w1)) (hsp : (zspread vs).length ≤ zmL mi)
    (D : va_G) (cI cL cZ : ClassId) (t0 t1 n0 n1 : Nat) (f0 f1 : Int → Int) (adr : Nat → Nat) (hI : zInv n0 n1 f0 f1 w) (h0 : adr 0 = t0) (h1 : adr 1 = t1) (hvs : ∀ v ∈ vs, zokv w.1.length v) (sz : Nat) :
    Met l (zmN mi) (.code (zmN mi) (zmC mi) (zmL mi) (zmR mi) :: zTW) { frames := d + 1, cells := w1.1.length - w.1.length, slots := zcs w1 - zcs w, locals := 40 * (d + 1) } (zPre D cI cL cZ t0 t1 n0 n1 f0 f1 adr w vs sz) (zQc D cI cL cZ t0 t1 n0 n1 f0 f1 adr w r w1 sz) (w1.1.length - w.1.length) (zcs w1 - zcs w) (va_A (zws adr cI cL cZ w) sz) := by
  obtain ⟨g1, g2, g3, g4, g5, g6, g7, g8, g9, g10⟩ := hM mi hmi
  obtain ⟨k1, k2, k3, k4⟩ := zcn_ok _ g9 g10
  refine Met.ofW (cc := zmC mi) (maxL := zmL mi) (ret := zmR mi) (by rw [g6]; exact k3) rfl ?_
  intro p e s m args below meth c s₁ B hml hv
  obtain ⟨rfl, hsz, hP, hD0, hK, hnw, hT0, hT1, hZ⟩ := hv
  subst hsz
  have hts := atoms_spec (ws := .code (zmN mi) (zmC mi) (zmL mi) (zmR mi) :: zTW) B.pre
  have hown : s.vm.findClass (zmN mi).cls = some m.cls := findClass_of_methodNamed B.named
  have hnm : meth.name = (zmN mi).name := (name_of_methodNamed B.named B.method).1
  have hD := hD0.self (sz := s.heap.size)
  have hC : zCtx p s m _ meth c D cI cL cZ (va_A (zws adr cI cL cZ w) s.heap.size) t0 t1 n0 n1 f0 f1 mi :=
    ⟨B.exec, B.bytes, hml, by rw [← g6]; exact hown, fun w hw => hts w (List.mem_cons_of_mem _ hw), hnw, hK, B.notSynchronized, fun h => by rw [hnm]; exact g8 h, fun q h => Or.inr h, hT0, hT1, hZ⟩
  rw [lg_entry_eq]
  have hAt : zAt D cI cL cZ (va_A (zws adr cI cL cZ w) s.heap.size) t0 t1 n0 n1 f0 f1 mi s.heap adr s.heap [] ((lg_sl (vs.map (ztr adr)) ++ List.replicate (zmL mi - (lg_sl (vs.map (ztr adr))).length) Slot.unset).toArray) (zlocs vs (zmL mi)) [] w :=
    ⟨hP, hD, hI, h0, h1, va_S.rf, zentry adr hsp, zlocs_ok hvs, fun v hv => by cases hv⟩
  have fin : ∀ (adr' : Nat → Nat) (H' : Heap) (t : State), t.heap = H' → (∀ k, k < w.1.length → adr' k = adr k) → ∀ (locs' : List Loc) (ls' : Array Slot) (L' st' : List zMV), zAt D cI cL cZ (va_A (zws adr cI cL cZ w) s.heap.size) t0 t1 n0 n1 f0 f1 mi s.heap adr' H' locs' ls' L' st' w1 → (∀ v, r = some v → v ∈ st') → zQc D cI cL cZ t0 t1 n0 n1 f0 f1 adr w r w1 s.heap.size ((vs.map (ztr adr)).toArray) s (.returned (r.map (ztr adr'))) t := by
    intro adr' H' t ht hag locs' ls' L' st' hA' hr
    subst ht
    exact ⟨⟨adr', hag, rfl, hA'.1, hA'.2.1, hA'.2.2.1, hA'.2.2.2.1, hA'.2.2.2.2.1, fun v hv => hA'.2.2.2.2.2.2.2.2 v (hr v hv)⟩, hA'.2.2.2.2.2.1.F rfl⟩
  have hW := hG d mi (zblk mi 0) 0 _ _ w r w1 hrun (by omega) (zblk_chk (hAll mi (by omega)) (hSt mi (by omega))) p e { frames := d + 1, cells := w1.1.length - w.1.length, slots := zcs w1 - zcs w, locals := 40 * (d + 1) } s m ((vs.map (ztr adr)).toArray) below meth c (MQ below (zQc D cI cL cZ t0 t1 n0 n1 f0 f1 adr w r w1 s.heap.size) ((vs.map (ztr adr)).toArray) s (w1.1.length - w.1.length) (zcs w1 - zcs w) (va_A (zws adr cI cL cZ w) s.heap.size)) D cI cL cZ (va_A (zws adr cI cL cZ w) s.heap.size) t0 t1 n0 n1 f0 f1 w.1.length (zcs w) adr adr s.heap [] _ hC ?_ hAt (fun _ _ => rfl) (Nat.le_refl _) (Nat.le_refl _) (Nat.le_refl _) (Nat.le_refl _) (Nat.le_refl _) (Nat.le_refl _)
  · rw [Nat.sub_self, Nat.sub_self] at hW
    exact hW
  · intro adr' H' locs' ls' pc' i L' st' hdg hrok hA' hag
    have hlk := B.notSynchronized
    have hr := B.returns
    rcases zvret hrok with ⟨rfl, e1, rfl, rfl⟩ | ⟨rfl, e1, x, rfl, rfl⟩ | ⟨rfl, e1, x, hx, rfl, rfl⟩ | ⟨rfl, e1, x, rfl, rfl⟩
    · exact W.vret B.exec B.bytes (hr.trans e1) (fun t ht _ => fin adr' H' t ht hag _ _ _ _ hA' (fun v hv => by cases hv)) hA'.2.2.2.2.2.1.2.2 hdg hlk
    · exact W.iret B.exec B.bytes (hr.trans e1) (fun t ht _ => fin adr' H' t ht hag _ _ _ _ hA' (fun v hv => by cases hv; exact List.mem_cons_self)) hA'.2.2.2.2.2.1.2.2 hdg hlk
    · exact W.zret B.exec B.bytes (hr.trans e1) (by rcases hx with rfl | rfl <;> rfl) (fun t ht _ => fin adr' H' t ht hag _ _ _ _ hA' (fun v hv => by cases hv; exact List.mem_cons_self)) hA'.2.2.2.2.2.1.2.2 hdg hlk
    · exact W.lret B.exec B.bytes (hr.trans e1) (fun t ht _ => fin adr' H' t ht hag _ _ _ _ hA' (fun v hv => by cases hv; exact List.mem_cons_self)) hA'.2.2.2.2.2.1.2.2 hdg hlk
end ZW
