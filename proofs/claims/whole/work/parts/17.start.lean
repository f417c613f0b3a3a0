/-! THE CLAIM OUT OF ONE WALK OF THE LAW'S BODY. Your part is whole_start (and what it stands on); all else here is the same for every law, but numbers. -/
def R_law : String := "ForceNetLaw"
def lw_P (b : Addr) (xs : List Int32) (args : Array Value) (s : State) : Prop := args = #[.ref b] ∧ s.IntsAt b xs ∧ xs.length ≤ 3072 ∧ (Jvm.Cond.and given_1 narrow_1).before args s = true
def lw_Q (_ : Array Value) (s : State) (o : Outcome) (t : State) : Prop := o = .returned (some (.int 1)) ∧ Framed s o t [] 600000 7302250
def lw_Z (below : List Frame) (a : Array Value) (s : State) : State → Prop := fun t => ∃ o, t.status = .running ∧ Ended t below o ∧ lw_Q a s o t
/-- the law's own end, with 1 on the stack, nothing written that was there before, its room as the claim has it -/
theorem lw_ret {p : Program} {l : Launch} {e : Env} {s : State} {m : MethodId} {below : List Frame} {meth : Method} {c : Code} {b : Nat} (hx : p.tables.exec = Jvm.exec) (hb : c.code = code) (hr : meth.sig.returnType = ret) (hlocks : meth.locks = false) {pc : Nat} {H : Heap} {ls : Array Slot} (hdg : decode code pc = .ok (.ireturn, 1)) : W p l e room_1 s m #[Value.ref b] below meth c H [] 600000 7302250 (lw_Z below #[Value.ref b] s) (F0 m pc ls [.int 1]) := by
  intro T hT X
  obtain ⟨fs, hret, hrun, hended, hW, hframe⟩ := X.leave (v := some (.int 1)) (hlocks := hlocks) (fun h => by rw [hr] at h; cases h)
  have hmeth' : T.vm.method? m = some meth := X.method'
  refine ⟨T.setFrames fs, ?_, .returned (some (.int 1)), hrun, hended, rfl, ⟨_, rfl⟩, hW, hframe⟩
  jvm_step X.here [X.here.top, hx, hb, hdg, hmeth', hr, ret, narrow_b1]
  (try refine ⟨rfl, ?_⟩); (try refine ⟨rfl, ?_⟩)
  first | (intro acts; rw [hret _ acts rfl rfl rfl]) | rw [hret _ _ rfl rfl rfl]
  exact Steps.refl _
/-- what holds at the law's entry: the machine, the code, the tables' words (any of lw_tbl by 'hts w (by decide +kernel)'), the script of L ints xs at the cell b, what the Statement gives of the start (any of its parts by flat_of_before) -/
def lw_At (p : Program) (s : State) (m : MethodId) (meth : Method) (c : Code) (b L : Nat) (xs : Nat → Int32) : Prop :=
  p.tables.exec = Jvm.exec ∧ c.code = code ∧ meth.sig.returnType = ret ∧ c.maxLocals = 4 ∧ s.vm.findClass R_law = some m.cls ∧ (∀ w ∈ lw_tbl, w.before #[Value.ref b] s = true) ∧ va_X b L xs s s.heap ∧ b < s.heap.size ∧ meth.locks = false ∧ (Jvm.Cond.and given_1 narrow_1).before #[Value.ref b] s = true
/-! the law's start in the small machine: cell 0 the script, cell 1 the row HELPERS -/
def zHL : List Int := [0, 1, 2, 4, 8, 3, 5, 9, 6, 10, 12, 7, 11, 13, 14, 15]
def zf0 (L : Nat) (xs : Nat → Int32) : Int → Int := fun i => (xs i.toNat).toInt
def zf1 : Int → Int := fun i => zHL.getD i.toNat 0
def zM0 (L : Nat) (xs : Nat → Int32) : Nat → Int → Int := fun k => if k = 0 then zf0 L xs else if k = 1 then zf1 else fun _ => 0
def zw0 (L : Nat) (xs : Nat → Int32) : zWd := ([(0, L, []), (0, 16, [])], zM0 L xs)
theorem zHL_in : ∀ x ∈ zHL, zin32 x := by
  intro x hx
  simp only [zHL, List.mem_cons, List.not_mem_nil, or_false] at hx
  constructor <;> omega
theorem zf1_in (i : Int) : zin32 (zf1 i) := by
  unfold zf1
  rw [List.getD_eq_getElem?_getD]
  cases h : zHL[i.toNat]? with
  | none => exact zin0
  | some x => exact zHL_in x (List.mem_of_getElem? h)
theorem zw0_inv {L : Nat} {xs : Nat → Int32} (hL : L ≤ 3072) : zInv L 16 (zf0 L xs) zf1 (zw0 L xs) := by
  refine ⟨rfl, rfl, rfl, rfl, fun k sh hk => ?_⟩
  match k, hk with
  | 0, hk =>
    cases hk
    refine ⟨by show 0 < 15; omega, by show L < _; omega, fun j r h => (by cases h), fun h => (by have : 3 ≤ 0 := h; omega), fun i => ?_⟩
    simp only [zsr]
    rw [if_neg (by omega)]
    exact zin32_toInt _
  | 1, hk =>
    cases hk
    refine ⟨by show 0 < 15; omega, by show 16 < _; omega, fun j r h => (by cases h), fun h => (by have : 3 ≤ 0 := h; omega), fun i => ?_⟩
    simp only [zsr]
    rw [if_neg (by omega)]
    exact zf1_in i
  | k + 2, hk => cases hk
theorem zlaw_tab : zmC 264 = code ∧ zmL 264 = 4 ∧ zmR 264 = some .boolean ∧ zcn (zmO 264) = R_law ∧ zmI 264 = false := ⟨rfl, rfl, rfl, rfl, rfl⟩
theorem zarrT {args : Array Value} {s : State} {ty : FieldType} (h : (Cond.arrayClass ty).before args s = true) : ∃ cA, s.vm.findClass ("[" ++ ty.toString) = some cA ∧ ArrOfT s cA ty := by
  obtain ⟨cA, kA, comp, h1, h2, h3⟩ := Cond.arrayClass_spec h
  exact ⟨cA, h1, fun n z => ⟨fun k h => (by cases h), kA, h2, comp, h3⟩⟩
theorem zelem {b : Nat} {s : State} (h : (Jvm.Cond.and given_1 narrow_1).before #[Value.ref b] s = true) : ∀ j : Nat, j < 16 → (Term.elem (Term.static "ForceNet$Laws" "HELPERS" "[I") (.int (Int32.ofNat j))).eval #[Value.ref b] s none [] s = some (.int (Int32.ofInt (zf1 j))) := by
  have hs := flat_of_before _ h
  intro j hj
  have : j = 0 ∨ j = 1 ∨ j = 2 ∨ j = 3 ∨ j = 4 ∨ j = 5 ∨ j = 6 ∨ j = 7 ∨ j = 8 ∨ j = 9 ∨ j = 10 ∨ j = 11 ∨ j = 12 ∨ j = 13 ∨ j = 14 ∨ j = 15 := by omega
  rcases this with rfl | rfl | rfl | rfl | rfl | rfl | rfl | rfl | rfl | rfl | rfl | rfl | rfl | rfl | rfl | rfl <;> exact va_eqt (hs _ (by decide +kernel))
theorem zlaw_start (hM : ∀ mi, mi < zNM → zPm mi) (hQ : ∀ q ∈ zCT, zPc q) (hAll : ∀ mi, mi < zNM + 1 → zall mi = true) (hSt : ∀ mi, mi < zNM + 1 → zstart mi 0 = some 0)
    {p : Program} {e : Env} {s : State} {m : MethodId} {below : List Frame} {meth : Method} {c : Code} (l : Launch) {b L : Nat} {xs : Nat → Int32} (hL : L ≤ 3072) (C0 : lw_At p s m meth c b L xs)
    (hrun : ∃ (n d : Nat) (w1 : zWd), zrun n d 264 (zblk 264 0) [zR 0, zU, zU, zU] [] (zw0 L xs) = some (some (zI 1), w1) ∧ d ≤ 2000 ∧ w1.1.length ≤ 600000 ∧ zcs w1 ≤ 7300000) : W p l e room_1 s m #[Value.ref b] below meth c s.heap [] 0 0 (lw_Z below #[Value.ref b] s) (entryFrame m ([Value.ref b] : List Value).toArray 4) := by
  obtain ⟨n, d, w1, hr, hd, hlen, hcs⟩ := hrun
  obtain ⟨hx, hb, hrt, hml, hown, hts, hX, hbl, hlocks, hgv⟩ := id C0
  obtain ⟨T1, T2, T3, T4, T5⟩ := zlaw_tab
  have hmemT : ∀ {w : Cond}, w ∈ zTW → w ∈ lw_tbl := fun h => (List.mem_filter.mp h).1
  have htsT : ∀ w ∈ zTW, w.before #[Value.ref b] s = true := fun w h => hts w (hmemT h)
  have hnw : ∀ x ∈ zNW, va_Nw x s := by
    intro x hx2
    have h1 := hts x (List.mem_append_right _ (List.mem_filter.mp hx2).1)
    obtain ⟨a, i, y, h, rfl⟩ := zNW_nest hx2
    exact va_Nw.of rfl h1
  -- the classes
  have hkn : ∀ ci, ∃ (cC : ClassId) (iS : Nat → Nat), ci < 12 → u_Kn s (zcl ci).1 (zcl ci).2.1 (znf ci) cC iS := by
    intro ci
    by_cases h : ci < 12
    · have hi : ∃ q ∈ zNT, q.2.2.1 = ci := by
        have : ci = 0 ∨ ci = 1 ∨ ci = 2 ∨ ci = 3 ∨ ci = 4 ∨ ci = 5 ∨ ci = 6 ∨ ci = 7 ∨ ci = 8 ∨ ci = 9 ∨ ci = 10 ∨ ci = 11 := by omega
        rcases this with rfl | rfl | rfl | rfl | rfl | rfl | rfl | rfl | rfl | rfl | rfl | rfl <;> decide
      obtain ⟨q, hq, hq2⟩ := hi
      obtain ⟨-, -, h3, -⟩ := zNT_ok q hq
      rw [hq2] at h3
      obtain ⟨cC, iS, hK⟩ := u_known htsT (zcl_in h) (htsT _ (zTW_of (List.mem_of_getElem? h3) rfl))
      exact ⟨cC, iS, fun _ => hK⟩
    · exact ⟨0, fun _ => 0, fun z => absurd z h⟩
  obtain ⟨dC, hdC⟩ := Classical.axiomOfChoice hkn
  obtain ⟨dI, hdI⟩ := Classical.axiomOfChoice hdC
  obtain ⟨cI, hI1, hI2⟩ := zarrT (htsT _ zarr_in.1)
  obtain ⟨cL, hL1, hL2⟩ := zarrT (htsT _ zarr_in.2.1)
  obtain ⟨cZ, hZ1, hZ2⟩ := zarrT (htsT _ zarr_in.2.2)
  have hK : va_K (dC, dI) vwCl [(cI, .int), (cL, .long), (cZ, .boolean)] s := by
    refine ⟨fun ci q hq => ?_, fun k q hk => ?_⟩
    · have hci : ci < 12 := (List.getElem?_eq_some_iff.mp hq).1
      have h1 := zcl_at ci hci
      cases h1.1.symm.trans hq
      have h2 := hdI ci hci
      rw [← h1.2] at h2
      exact h2
    · match k, hk with
      | 0, hk => cases hk; exact ⟨hI2, hI1⟩
      | 1, hk => cases hk; exact ⟨hL2, hL1⟩
      | 2, hk => cases hk; exact ⟨hZ2, hZ1⟩
      | k + 3, hk => cases hk
  -- the two old rows
  have hAold : ∀ a : Nat, a < s.heap.size → ¬ (fun q : Nat => s.heap.size ≤ q) a := fun a h => Nat.not_le.mpr h
  have hs := flat_of_before _ hgv
  obtain ⟨t1, hev, hT1⟩ := va_Tof (s := s) (args := #[Value.ref b]) (tm := Term.static "ForceNet$Laws" "HELPERS" "[I") (ty := .int) (N := 16) (f := fun j => .int (Int32.ofInt (zf1 j))) (A := fun q : Nat => s.heap.size ≤ q) (by omega) (hs _ (by decide +kernel)) (va_eqt (hs _ (by decide +kernel))) (zelem hgv) hAold
  have hZ := va_Zof (s := s) (args := #[Value.ref b]) (C := RX3) (n := "HELPERS") (d := "[I") (v := .ref t1) (A := fun q : Nat => s.heap.size ≤ q) (hts _ (List.mem_append_right _ (List.mem_of_getElem? (i := 1039) (by decide +kernel)))) (hts _ (List.mem_append_right _ (List.mem_of_getElem? (i := 6) (by decide +kernel)))) hev hAold
  have hT0 : va_T .int b L (fun j => .int (Int32.ofInt (zf0 L xs j))) (fun q : Nat => s.heap.size ≤ q) s s.heap := by
    obtain ⟨scr, h1, h2, h3, h4, h5⟩ := hX
    refine ⟨scr, h1, h2, h3, by omega, by rw [h4], fun j hj => ?_, hAold b hbl⟩
    rw [h5 j hj]
    show _ = some (Value.int (Int32.ofInt (xs (j : Int).toNat).toInt))
    rw [Int.toNat_natCast, Int32.ofInt_toInt]
  have hC : zCtx p s m #[Value.ref b] meth c (dC, dI) cI cL cZ (fun q : Nat => s.heap.size ≤ q) b t1 L 16 (zf0 L xs) zf1 264 :=
    ⟨hx, by rw [T1]; exact hb, by rw [T2]; exact hml, by rw [T4]; exact hown, htsT, hnw, hK, hlocks, fun h => (by rw [T5] at h; cases h), fun q h => h, hT0, hT1, hZ⟩
  rw [lg_entry_eq]
  have hAt : zAt (dC, dI) cI cL cZ (fun q : Nat => s.heap.size ≤ q) b t1 L 16 (zf0 L xs) zf1 264 s.heap (fun k => if k = 0 then b else t1) s.heap [] ((lg_sl ([zR 0].map (ztr (fun k => if k = 0 then b else t1))) ++ List.replicate (zmL 264 - (lg_sl ([zR 0].map (ztr (fun k => if k = 0 then b else t1)))).length) Slot.unset).toArray) (zlocs [zR 0] (zmL 264)) [] (zw0 L xs) := by
    refine ⟨fun k q h => by simp [zws, zw0] at h, ⟨fun i j p q h => by simp [zws, zw0] at h, fun k q h => by simp [zws, zw0] at h⟩, zw0_inv hL, rfl, rfl, va_S.rf, zentry _ (by show 1 ≤ zmL 264; rw [T2]; omega), zlocs_ok (fun v hv => ?_), fun v hv => by cases hv⟩
    rw [List.mem_singleton.mp hv]
    show 0 < 2
    omega
  have hW := zgood hM hQ hAll hSt (l := l) n d 264 (zblk 264 0) 0 (zlocs [zR 0] (zmL 264)) [] (zw0 L xs) (some (zI 1)) w1 (by rw [T2]; exact hr) (by decide) (zblk_chk (hAll 264 (by decide)) (hSt 264 (by decide))) p e room_1 s m #[Value.ref b] below meth c (lw_Z below #[Value.ref b] s) (dC, dI) cI cL cZ (fun q : Nat => s.heap.size ≤ q) b t1 L 16 (zf0 L xs) zf1 2 (L + 16) (fun k => if k = 0 then b else t1) (fun k => if k = 0 then b else t1) s.heap [] _ hC ?_ hAt (fun _ _ => rfl) (Nat.le_refl 2) (Nat.le_refl (L + 16)) (by show w1.1.length - 2 ≤ 600000; omega) (by show zcs w1 - (L + 16) ≤ 7302250; omega) (by show d + 1 ≤ 2048; omega) (by show 40 * (d + 1) ≤ 84000; omega)
  · rw [T2] at hW
    rw [show (zw0 L xs).1.length - 2 = 0 from rfl, show zcs (zw0 L xs) - (L + 16) = 0 from Nat.sub_self _] at hW
    exact hW
  · intro adr' H' locs' ls' pc' i L' st' hdg hrok hA' hag
    rw [T1] at hdg
    rcases zvret hrok with ⟨-, e1, -⟩ | ⟨-, e1, -⟩ | ⟨rfl, e1, x, hx1, rfl, hx2⟩ | ⟨-, e1, -⟩
    · rw [T3] at e1; cases e1
    · rw [T3] at e1; cases e1
    · cases hx2
      refine va_forget (fun q hq => hA'.2.2.2.2.2.1.2.2 q hq) ?_
      refine W.widen (k := 600000) (n := 7302250) (by omega) (by omega) ?_
      exact lw_ret hx hb hrt hlocks hdg
    · rw [T3] at e1; cases e1
