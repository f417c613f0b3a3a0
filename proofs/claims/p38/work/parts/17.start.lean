/-! THE CLAIM OUT OF ONE WALK OF THE LAW'S BODY. Your part is whole_start (and what it stands on); all else here is the same for every law, but numbers. -/
def R_law : String := "ForceNetLaw"
def lw_P (b : Addr) (xs : List Int32) (args : Array Value) (s : State) : Prop := args = #[.ref b] ∧ s.IntsAt b xs ∧ xs.length ≤ 260 ∧ (Jvm.Cond.and given_1 narrow_1).before args s = true
def lw_Q (_ : Array Value) (s : State) (o : Outcome) (t : State) : Prop := o = .returned (some (.int 1)) ∧ Framed s o t [] 600000 7302250
def lw_Z (below : List Frame) (a : Array Value) (s : State) : State → Prop := fun t => ∃ o, t.status = .running ∧ Ended t below o ∧ lw_Q a s o t
/-- the law's own end, with 1 on the stack, nothing written that was there before, its room as the claim has it -/
theorem lw_ret {p : Program} {l : Launch} {e : Env} {s : State} {m : MethodId} {below : List Frame} {meth : Method} {c : Code} {b : Nat} (hx : p.tables.exec = Jvm.exec) (hb : c.code = code) (hr : meth.sig.returnType = ret) (hlocks : meth.locks = false) {pc : Nat} {H : Heap} {ls : Array Slot} (hdg : decode code pc = .ok (.ireturn, 1)) : W p l e room_1 s m #[Value.ref b] below meth c H [] 600000 7302250 (lw_Z below #[Value.ref b] s) (F0 m pc ls [.int 1]) := by
  intro T hT X
  obtain ⟨fs, hret, hrun, hended, hW, hframe⟩ := X.leave (v := some (.int 1)) (hlocks := hlocks) (fun h => by rw [hr] at h; cases h)
  have hmeth' : T.vm.method? m = some meth := X.method'
  refine ⟨T.setFrames fs, ?_, .returned (some (.int 1)), hrun, hended, rfl, ⟨_, rfl⟩, hW, hframe⟩
  jvm_step X.here [X.here.top, hx, hb, hdg, hmeth', hr, ret, narrow_b1]
  (try refine ⟨rfl, ?_⟩); (try refine ⟨rfl, ?_⟩)
  first | (intro acts; rw [hret _ acts rfl rfl rfl]) | rw [hret _ _ rfl rfl rfl]
  exact Steps.refl _
/-- what holds at the law's entry: the machine, the code, the tables' words (any of lw_tbl by 'hts w (by decide +kernel)'), the script of L ints xs at the cell b, what the Statement gives of the start (any of its parts by flat_of_before) -/
def lw_At (p : Program) (s : State) (m : MethodId) (meth : Method) (c : Code) (b L : Nat) (xs : Nat → Int32) : Prop :=
  p.tables.exec = Jvm.exec ∧ c.code = code ∧ meth.sig.returnType = ret ∧ c.maxLocals = 16 ∧ s.vm.findClass R_law = some m.cls ∧ (∀ w ∈ lw_tbl, w.before #[Value.ref b] s = true) ∧ va_X b L xs s s.heap ∧ b < s.heap.size ∧ meth.locks = false ∧ (Jvm.Cond.and given_1 narrow_1).before #[Value.ref b] s = true
/-! the law's start in the small machine: cell 0 the script, cell 1 the script too -/
def zf0 (L : Nat) (xs : Nat → Int32) : Int → Int := fun i => (xs i.toNat).toInt
def zM0 (L : Nat) (xs : Nat → Int32) : Nat → Int → Int := fun k => if k = 0 then zf0 L xs else if k = 1 then zf0 L xs else fun _ => 0
def zw0 (L : Nat) (xs : Nat → Int32) : zWd := ([(0, L, []), (0, L, [])], zM0 L xs)
theorem zw0_inv {L : Nat} {xs : Nat → Int32} (hL : L ≤ 260) : zInv L L (zf0 L xs) (zf0 L xs) (zw0 L xs) := by
  refine ⟨rfl, rfl, rfl, rfl, fun k sh hk => ?_⟩
  match k, hk with
  | 0, hk =>
    cases hk
    refine ⟨by show 0 < 15; omega, by show L < _; omega, fun j r h => (by cases h), fun h => (by have : 3 ≤ 0 := h; omega), fun i => ?_⟩
    simp only [zsr]
    rw [if_neg (by omega)]
    exact zin32_toInt _
  | 1, hk =>
    cases hk
    refine ⟨by show 0 < 15; omega, by show L < _; omega, fun j r h => (by cases h), fun h => (by have : 3 ≤ 0 := h; omega), fun i => ?_⟩
    simp only [zsr]
    rw [if_neg (by omega)]
    exact zin32_toInt _
  | k + 2, hk => cases hk
theorem zlaw_tab : zmC 118 = code ∧ zmL 118 = 16 ∧ zmR 118 = some .boolean ∧ zcn (zmO 118) = R_law ∧ zmI 118 = false := ⟨rfl, rfl, rfl, rfl, rfl⟩
theorem zarrT {args : Array Value} {s : State} {ty : FieldType} (h : (Cond.arrayClass ty).before args s = true) : ∃ cA, s.vm.findClass ("[" ++ ty.toString) = some cA ∧ ArrOfT s cA ty := by
  obtain ⟨cA, kA, comp, h1, h2, h3⟩ := Cond.arrayClass_spec h
  exact ⟨cA, h1, fun n z => ⟨fun k h => (by cases h), kA, h2, comp, h3⟩⟩
theorem zlaw_start (hM : ∀ mi, mi < zNM → zPm mi) (hQ : ∀ q ∈ zCT, zPc q) (hAll : ∀ mi, mi < zNM + 1 → zall mi = true) (hSt : ∀ mi, mi < zNM + 1 → zstart mi 0 = some 0)
    {p : Program} {e : Env} {s : State} {m : MethodId} {below : List Frame} {meth : Method} {c : Code} (l : Launch) {b L : Nat} {xs : Nat → Int32} (hL : L ≤ 260) (C0 : lw_At p s m meth c b L xs)
    (hrun : ∃ (n d : Nat) (w1 : zWd), zrun n d 118 (zblk 118 0) [zR 0, zU, zU, zU, zU, zU, zU, zU, zU, zU, zU, zU, zU, zU, zU, zU] [] (zw0 L xs) = some (some (zI 1), w1) ∧ d ≤ 2000 ∧ w1.1.length ≤ 600000 ∧ zcs w1 ≤ 7300000) : W p l e room_1 s m #[Value.ref b] below meth c s.heap [] 0 0 (lw_Z below #[Value.ref b] s) (entryFrame m ([Value.ref b] : List Value).toArray 16) := by
  obtain ⟨n, d, w1, hr, hd, hlen, hcs⟩ := hrun
  obtain ⟨hx, hb, hrt, hml, hown, hts, hX, hbl, hlocks, hgv⟩ := id C0
  obtain ⟨T1, T2, T3, T4, T5⟩ := zlaw_tab
  have hmemT : ∀ {w : Cond}, w ∈ zTW → w ∈ lw_tbl := fun h => (List.mem_filter.mp h).1
  have htsT : ∀ w ∈ zTW, w.before #[Value.ref b] s = true := fun w h => hts w (hmemT h)
  have hnw : ∀ x ∈ zNW, va_Nw x s := by
    intro x hx2
    have h1 := hts x (List.mem_append_right _ (List.mem_filter.mp hx2).1)
    obtain ⟨a, i, y, h, rfl⟩ := zNW_nest hx2
    exact va_Nw.of rfl h1
  -- the classes
  have hkn : ∀ ci, ∃ (cC : ClassId) (iS : Nat → Nat), ci < 11 → u_Kn s (zcl ci).1 (zcl ci).2.1 (znf ci) cC iS := by
    intro ci
    by_cases h : ci < 11
    · have hi : ∃ q ∈ zNT, q.2.2.1 = ci := by
        have : ci = 0 ∨ ci = 1 ∨ ci = 2 ∨ ci = 3 ∨ ci = 4 ∨ ci = 5 ∨ ci = 6 ∨ ci = 7 ∨ ci = 8 ∨ ci = 9 ∨ ci = 10 := by omega
        rcases this with rfl | rfl | rfl | rfl | rfl | rfl | rfl | rfl | rfl | rfl | rfl <;> decide
      obtain ⟨q, hq, hq2⟩ := hi
      obtain ⟨-, -, h3, -⟩ := zNT_ok q hq
      rw [hq2] at h3
      obtain ⟨cC, iS, hK⟩ := u_known htsT (zcl_in h) (htsT _ (zTW_of (List.mem_of_getElem? h3) rfl))
      exact ⟨cC, iS, fun _ => hK⟩
    · exact ⟨0, fun _ => 0, fun z => absurd z h⟩
  obtain ⟨dC, hdC⟩ := Classical.axiomOfChoice hkn
  obtain ⟨dI, hdI⟩ := Classical.axiomOfChoice hdC
  obtain ⟨cI, hI1, hI2⟩ := zarrT (htsT _ zarr_in.1)
  obtain ⟨cL, hL1, hL2⟩ := zarrT (htsT _ zarr_in.2)
  have hK : va_K (dC, dI) vwCl [(cI, .int), (cL, .long)] s := by
    refine ⟨fun ci q hq => ?_, fun k q hk => ?_⟩
    · have hci : ci < 11 := (List.getElem?_eq_some_iff.mp hq).1
      have h1 := zcl_at ci hci
      cases h1.1.symm.trans hq
      have h2 := hdI ci hci
      rw [← h1.2] at h2
      exact h2
    · match k, hk with
      | 0, hk => cases hk; exact ⟨hI2, hI1⟩
      | 1, hk => cases hk; exact ⟨hL2, hL1⟩
      | k + 2, hk => cases hk
  -- the two old rows
  have hAold : ∀ a : Nat, a < s.heap.size → ¬ (fun q : Nat => s.heap.size ≤ q) a := fun a h => Nat.not_le.mpr h
  have hT0 : va_T .int b L (fun j => .int (Int32.ofInt (zf0 L xs j))) (fun q : Nat => s.heap.size ≤ q) s s.heap := by
    obtain ⟨scr, h1, h2, h3, h4, h5⟩ := hX
    refine ⟨scr, h1, h2, h3, by omega, by rw [h4], fun j hj => ?_, hAold b hbl⟩
    rw [h5 j hj]
    show _ = some (Value.int (Int32.ofInt (xs (j : Int).toNat).toInt))
    rw [Int.toNat_natCast, Int32.ofInt_toInt]
  have hC : zCtx p s m #[Value.ref b] meth c (dC, dI) cI cL cI (fun q : Nat => s.heap.size ≤ q) b b L L (zf0 L xs) (zf0 L xs) 118 :=
    ⟨hx, by rw [T1]; exact hb, by rw [T2]; exact hml, by rw [T4]; exact hown, htsT, hnw, hK, hlocks, fun h => (by rw [T5] at h; cases h), fun q h => h, hT0, hT0, trivial⟩
  rw [lg_entry_eq]
  have hAt : zAt (dC, dI) cI cL cI (fun q : Nat => s.heap.size ≤ q) b b L L (zf0 L xs) (zf0 L xs) 118 s.heap (fun k => if k = 0 then b else b) s.heap [] ((lg_sl ([zR 0].map (ztr (fun k => if k = 0 then b else b))) ++ List.replicate (zmL 118 - (lg_sl ([zR 0].map (ztr (fun k => if k = 0 then b else b)))).length) Slot.unset).toArray) (zlocs [zR 0] (zmL 118)) [] (zw0 L xs) := by
    refine ⟨fun k q h => by simp [zws, zw0] at h, ⟨fun i j p q h => by simp [zws, zw0] at h, fun k q h => by simp [zws, zw0] at h⟩, zw0_inv hL, rfl, rfl, va_S.rf, zentry _ (by show 1 ≤ zmL 118; rw [T2]; omega), zlocs_ok (fun v hv => ?_), fun v hv => by cases hv⟩
    rw [List.mem_singleton.mp hv]
    show 0 < 2
    omega
  have hW := zgood hM hQ hAll hSt (l := l) n d 118 (zblk 118 0) 0 (zlocs [zR 0] (zmL 118)) [] (zw0 L xs) (some (zI 1)) w1 (by rw [T2]; exact hr) (by decide) (zblk_chk (hAll 118 (by decide)) (hSt 118 (by decide))) p e room_1 s m #[Value.ref b] below meth c (lw_Z below #[Value.ref b] s) (dC, dI) cI cL cI (fun q : Nat => s.heap.size ≤ q) b b L L (zf0 L xs) (zf0 L xs) 2 (L + L) (fun k => if k = 0 then b else b) (fun k => if k = 0 then b else b) s.heap [] _ hC ?_ hAt (fun _ _ => rfl) (Nat.le_refl 2) (Nat.le_refl (L + L)) (by show w1.1.length - 2 ≤ 600000; omega) (by show zcs w1 - (L + L) ≤ 7302250; omega) (by show d + 1 ≤ 2048; omega) (by show 40 * (d + 1) ≤ 84000; omega)
  · rw [T2] at hW
    rw [show (zw0 L xs).1.length - 2 = 0 from rfl, show zcs (zw0 L xs) - (L + L) = 0 from Nat.sub_self _] at hW
    exact hW
  · intro adr' H' locs' ls' pc' i L' st' hdg hrok hA' hag
    rw [T1] at hdg
    rcases zvret hrok with ⟨-, e1, -⟩ | ⟨-, e1, -⟩ | ⟨rfl, e1, x, hx1, rfl, hx2⟩ | ⟨-, e1, -⟩
    · rw [T3] at e1; cases e1
    · rw [T3] at e1; cases e1
    · cases hx2
      refine va_forget (fun q hq => hA'.2.2.2.2.2.1.2.2 q hq) ?_
      refine W.widen (k := 600000) (n := 7302250) (by omega) (by omega) ?_
      exact lw_ret hx hb hrt hlocks hdg
    · rw [T3] at e1; cases e1
