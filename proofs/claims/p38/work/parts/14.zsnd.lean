/-! what the small machine computes, the JVM computes: tables, calls -/
def zvk (mi : Nat) : Bool := zVK.getD mi false
def zmp (mi : Nat) : Nat × Nat × Nat × Nat := zMP.getD mi (0, 0, 0, 0)
/-- how many methods there are beside the law -/
abbrev zNM : Nat := 118
/-- the tables have a method's own words -/
def zPm (mi : Nat) : Prop := lw_tbl[(zmp mi).1]? = some (.code (zmN mi) (zmC mi) (zmL mi) (zmR mi)) ∧ lw_tbl[(zmp mi).2.1]? = some (.initialized (zmN mi).cls) ∧ (zvk mi = true → lw_tbl[(zmp mi).2.2.2]? = some (.selects (zmN mi).cls (zmN mi) (zmN mi)) ∧ zmO mi < 11) ∧ lw_tbl[(zmp mi).2.2.1]? = some (if zmS mi = true then .static (zmN mi) else .instanceMethod (zmN mi)) ∧
  (parseMethodDescriptor (zmN mi).desc).map (fun d => d.parameters.length) = some (zmA mi) ∧ (zmN mi).cls = zcn (zmO mi) ∧ zmL mi ≤ 12 ∧ (zmI mi = true → (zmN mi).name = "<init>") ∧ zmO mi < 15 ∧ zmO mi ≠ 13
/-- the tables have a call's link -/
def zPc (q : Nat × Nat × Nat × Nat × Nat × Nat) : Prop := q.2.2.1 < zNM ∧ (if q.2.2.2.2.1 = 0 then tables_1[q.2.2.2.2.2]? = some (.methodLink (zcn q.1) q.2.1 (zmN q.2.2.1)) else tables_1[q.2.2.2.2.2]? = some (.methodLinkNest (zcn q.1) q.2.1 (zmN q.2.2.1) "ForceNet")) ∧
  (q.2.2.2.1 = 0 → q.2.2.2.2.1 = 0 ∧ zvk q.2.2.1 = true ∧ zmS q.2.2.1 = false) ∧ (q.2.2.2.1 = 1 → zmS q.2.2.1 = true) ∧ (q.2.2.2.1 = 2 → zmS q.2.2.1 = false ∧ zmR q.2.2.1 = none ∧ zmI q.2.2.1 = true)
theorem zcn_ok : ∀ o, o < 15 → o ≠ 13 → zcn o ≠ "java/lang/invoke/MethodHandle" ∧ zcn o ≠ "java/lang/invoke/VarHandle" ∧ plainName (zcn o) = true ∧ (o < 11 → (zcl o).1 = zcn o) := by decide +kernel
theorem zTW_lw {w : Cond} {k : Nat} (h : lw_tbl[k]? = some w) (hg : goodWord w = true) : w ∈ zTW := List.mem_filter.mpr ⟨List.mem_of_getElem? h, hg⟩
theorem zNW_nest {x : Cond} (h : x ∈ zNW) : ∃ a i y b, x = .methodLinkNest a i y b := by
  have h2 := (List.mem_filter.mp h).2
  cases x <;> simp [zNestW] at h2
  exact ⟨_, _, _, _, rfl⟩
theorem zNW_warm {s U : State} (hW : s.WarmedH U.vm) (h : ∀ x ∈ zNW, va_Nw x s) : ∀ x ∈ zNW, va_Nw x U := by
  intro x hx
  obtain ⟨a, i, y, b, rfl⟩ := zNW_nest hx
  exact va_Nw.warmM hW (h _ hx)
theorem zNW_same {u U : State} (hv : u.vm = U.vm) (h : ∀ x ∈ zNW, va_Nw x u) : ∀ x ∈ zNW, va_Nw x U := by
  intro x hx
  obtain ⟨a, i, y, b, rfl⟩ := zNW_nest hx
  exact va_Nw.same rfl hv (h _ hx)
theorem zblk_chk {mi b t : Nat} (ha : zall mi = true) (h : zstart mi b = some t) : zchk mi t (zblk mi b) = true := by
  unfold zstart at h
  unfold zblk
  cases hb : (zBk mi)[b]? with
  | none => rw [hb] at h; cases h
  | some q =>
    rw [hb] at h
    cases h
    rw [List.getD_eq_getElem?_getD, hb]
    exact List.all_eq_true.mp ha q (List.mem_of_getElem? hb)
theorem znxt_mono {e : zEnt} {L st L' st' : List zMV} {w w' : zWd} {tgt : Option Nat} (h : znxt e L st w = some (tgt, L', st', w')) : w.1.length ≤ w'.1.length ∧ zcs w ≤ zcs w' := by
  have same : ∀ {x : zWd}, x = w → w.1.length ≤ x.1.length ∧ zcs w ≤ zcs x := fun h => by subst h; exact ⟨Nat.le_refl _, Nat.le_refl _⟩
  have put : ∀ {k kd : Nat} {i v : Int} {r : List zMV} {o : Option zWd}, o = zaput w k kd i v → (o.map fun w' => ((none : Option Nat), L, r, w')) = some (tgt, L', st', w') → w.1.length ≤ w'.1.length ∧ zcs w ≤ zcs w' := by
    intro k kd i v r o ho hm
    cases hz : zaput w k kd i v with
    | none => rw [ho, hz] at hm; cases hm
    | some w2 =>
      rw [ho, hz] at hm
      cases hm
      obtain ⟨n, rs, -, -, -, -, rfl⟩ := zaput_inv hz
      exact ⟨Nat.le_refl _, Nat.le_refl _⟩
  have push : ∀ {sh : zSh}, w.1.length ≤ (w.1 ++ [sh], zzero w.2 w.1.length).1.length ∧ zcs w ≤ zcs (w.1 ++ [sh], zzero w.2 w.1.length) := fun {sh} => ⟨by simp, by
    have : zcs (w.1 ++ [sh], zzero w.2 w.1.length) = zcs w + sh.2.1 := zcs_push w.1 sh
    omega⟩
  unfold znxt at h
  split at h
  all_goals first
    | (cases h; done)
    | (obtain ⟨-, -, rfl, -⟩ := zfall_inv h; exact same rfl)
    | (cases h; exact same rfl)
    | (cases h; exact push)
    | (split at h <;> first
      | (obtain ⟨-, -, rfl, -⟩ := zfall_inv h; exact same rfl)
      | (cases h; exact same rfl)
      | (exact put rfl h)
      | (cases h; done)
      | (split at h <;> first
        | (obtain ⟨-, -, rfl, -⟩ := zfall_inv h; exact same rfl)
        | (cases h; exact same rfl)
        | (exact put rfl h)
        | (cases h; done)
        | (split at h <;> first
          | (cases h; exact push)
          | (cases h; exact same rfl)
          | (cases h; exact ⟨Nat.le_refl _, Nat.le_refl _⟩)
          | (cases h; done)))
      | skip)
    | skip
  · rename_i v k r
    cases hz : zputf w k e.2.1 e.2.2 v with
    | none => rw [hz] at h; cases h
    | some w2 =>
      rw [hz] at h
      cases h
      obtain ⟨n, rs, g1, -, -, ⟨x, -, -, rfl⟩ | ⟨x, -, -, rfl⟩ | ⟨x, -, -, rfl⟩⟩ := zputf_inv hz
      · exact ⟨Nat.le_refl _, Nat.le_refl _⟩
      · exact ⟨Nat.le_refl _, Nat.le_refl _⟩
      · exact ⟨by simp, by
          have : zcs (w.1.set k (3 + e.2.1, n, rs.set e.2.2 (some x)), w.2) = zcs w := zcs_set g1 rfl
          omega⟩
def zisC (i : Instr) : Bool := match i with
  | .invokevirtual _ => true
  | .invokestatic _ => true
  | .return_ => true
  | .ireturn => true
  | .lreturn => true
  | _ => false
theorem zrun_nx {rc : zRn} {d mi : Nat} {e : zEnt} {es : List zEnt} {L st : List zMV} {w : zWd} (h : zisC e.1 = false) : zbody rc d mi e es L st w = match znxt e L st w with
    | some (none, L', st', w') => rc d mi es L' st' w'
    | some (some b, L', st', w') => rc d mi (zblk mi b) L' st' w'
    | none => none := by
  unfold zbody
  split
  all_goals first
    | (next he => rw [he] at h; cases h)
    | rfl
/-- the ends and the calls -/
theorem zbody_C {rc : zRn} {d mi : Nat} {e : zEnt} {es : List zEnt} {L st : List zMV} {w : zWd} {x : Option zMV × zWd} (hc : ¬ zisC e.1 = false) (h : zbody rc d mi e es L st w = some x) :
    ((e.1 = .return_ ∨ e.1 = .ireturn ∨ e.1 = .lreturn) ∧ x.2 = w ∧ zrok (zmR mi) e.1 st = some x.1) ∨
    ((∃ k, e.1 = .invokevirtual k) ∧ (st.take (zmA e.2.1 + 1)).length = zmA e.2.1 + 1 ∧ zrecv w e.2.1 (st.take (zmA e.2.1 + 1)).reverse = true ∧ zcall rc d mi e.2.1 es L (st.take (zmA e.2.1 + 1)).reverse (st.drop (zmA e.2.1 + 1)) w = some x) ∨
    ((∃ k, e.1 = .invokestatic k) ∧ (st.take (zmA e.2.1)).length = zmA e.2.1 ∧ zcall rc d mi e.2.1 es L (st.take (zmA e.2.1)).reverse (st.drop (zmA e.2.1)) w = some x) := by
  have ret : ∀ {o : Option (Option zMV)}, o.map (·, w) = some x → x.2 = w ∧ o = some x.1 := by
    intro o ho
    cases o with
    | none => cases ho
    | some v => cases ho; exact ⟨rfl, rfl⟩
  unfold zbody at h
  split at h
  · next k he =>
    split at h
    · next hq => exact Or.inr (Or.inl ⟨⟨k, he⟩, hq.1, hq.2, h⟩)
    · cases h
  · next k he =>
    split at h
    · next hq => exact Or.inr (Or.inr ⟨⟨k, he⟩, hq, h⟩)
    · cases h
  · next he => exact Or.inl ⟨Or.inl he, (ret h).1, by rw [he]; exact (ret h).2⟩
  · next he => exact Or.inl ⟨Or.inr (Or.inl he), (ret h).1, by rw [he]; exact (ret h).2⟩
  · next he => exact Or.inl ⟨Or.inr (Or.inr he), (ret h).1, by rw [he]; exact (ret h).2⟩
  · next h1 h2 h3 h4 h5 =>
    refine absurd ?_ hc
    cases he : e.1 <;> first
      | rfl
      | exact absurd he (h1 _)
      | exact absurd he (h2 _)
      | exact absurd he h3
      | exact absurd he h4
      | exact absurd he h5
theorem zcall_inv {rc : zRn} {d mi m2 : Nat} {es : List zEnt} {L vs r : List zMV} {w : zWd} {x : Option zMV × zWd} (h : zcall rc d mi m2 es L vs r w = some x) : ∃ d' v w', d = d' + 1 ∧ zcats r ≤ 8 ∧ (zspread vs).length ≤ zmL m2 ∧ rc d' m2 (zblk m2 0) (zlocs vs (zmL m2)) [] w = some (v, w') ∧ rc (d' + 1) mi es L (v.toList ++ r) w' = some x := by
  cases d with
  | zero => cases h
  | succ d' =>
    simp only [zcall] at h
    split at h
    · next hc =>
      split at h
      · next v w' hr => exact ⟨d', v, w', rfl, hc.1, hc.2, hr, h⟩
      · cases h
    · cases h
theorem zrun_mono : ∀ (n d mi : Nat) (es : List zEnt) (L st : List zMV) (w : zWd) (r : Option zMV) (w1 : zWd), zrun n d mi es L st w = some (r, w1) → w.1.length ≤ w1.1.length ∧ zcs w ≤ zcs w1
  | 0, _, _, _, _, _, _, _, _, h => by cases h
  | _ + 1, _, _, [], _, _, _, _, _, h => by cases h
  | n + 1, d, mi, e :: es, L, st, w, r, w1, h => by
    rw [zrun_eq] at h
    by_cases hc : zisC e.1 = false
    · rw [zrun_nx hc] at h
      split at h
      · next hn =>
        have h1 := znxt_mono hn
        have h2 := zrun_mono n d mi _ _ _ _ _ _ h
        omega
      · next hn =>
        have h1 := znxt_mono hn
        have h2 := zrun_mono n d mi _ _ _ _ _ _ h
        omega
      · cases h
    · have call : ∀ {m2 : Nat} {vs rest : List zMV}, zcall (zrun n) d mi m2 es L vs rest w = some (r, w1) → w.1.length ≤ w1.1.length ∧ zcs w ≤ zcs w1 := by
        intro m2 vs rest hm
        obtain ⟨d', v, w2, rfl, -, -, h1, h2⟩ := zcall_inv hm
        have h3 := zrun_mono n d' m2 _ _ _ _ _ _ h1
        have h4 := zrun_mono n (d' + 1) mi _ _ _ _ _ _ h2
        omega
      rcases zbody_C hc h with ⟨-, h2, -⟩ | ⟨-, -, -, h2⟩ | ⟨-, -, h2⟩
      · dsimp only at h2
        subst h2
        exact ⟨Nat.le_refl _, Nat.le_refl _⟩
      · exact call h2
      · exact call h2
