/-! one step: new cells, copies; then any instruction that neither calls nor returns -/
section ZS
variable {p : Program} {l : Launch} {e : Env} {R : Room} {s : State} {m : MethodId} {args : Array Value} {below : List Frame} {meth : Method} {c : Code} {Q : State → Prop} {D : va_G} {cI cL cZ : ClassId} {A : Nat → Prop} {t0 t1 n0 n1 mi kc ks : Nat} {f0 f1 : Int → Int}
variable {adr : Nat → Nat} {H : Heap} {locs : List Loc} {ls : Array Slot} {L st : List zMV} {w : zWd} {pc nx : Nat}

theorem zcs_push (S : List zSh) (sh : zSh) : ((S ++ [sh]).map (·.2.1)).sum = (S.map (·.2.1)).sum + sh.2.1 := by simp
theorem zpush_at {D : va_G} {cI cL cZ : ClassId} {A : Nat → Prop} {t0 t1 n0 n1 mi : Nat} {f0 f1 : Int → Int} {s : State} {adr : Nat → Nat} {H H1 : Heap} {locs : List Loc} {ls : Array Slot} {L st r : List zMV} {w : zWd} (hA : zAt D cI cL cZ A t0 t1 n0 n1 f0 f1 mi s.heap adr H locs ls L st w) {q : Nat} {sh : zSh} (h1 : sh.1 < 15) (h2 : sh.2.1 < 2147483648) (h3 : ∀ (j r : Nat), sh.2.2[j]? = some (some r) → r < w.1.length) (h4 : 3 ≤ sh.1 → sh.2.1 = znf (sh.1 - 3) ∧ sh.2.2.length = znf (sh.1 - 3))
    (hP : va_P D vwCl (zws adr cI cL cZ w ++ [(q, zent adr cI cL cZ (fun _ => 0) sh)]) H1) (hD : va_D A (zws adr cI cL cZ w ++ [(q, zent adr cI cL cZ (fun _ => 0) sh)])) (hS : va_S A s.heap H1 locs) (hr : ∀ v ∈ r, v ∈ st) :
    zAt D cI cL cZ A t0 t1 n0 n1 f0 f1 mi s.heap (fun j => if j = w.1.length then q else adr j) H1 locs ls L (zR w.1.length :: r) (w.1 ++ [sh], zzero w.2 w.1.length) := by
  have hl := zInv_2 hA.2.2.1
  have ha : ∀ k, k < w.1.length → (fun j => if j = w.1.length then q else adr j) k = adr k := fun k hk => if_neg (by omega)
  have e1 := zws_push (adr := adr) (cI := cI) (cL := cL) (cZ := cZ) hA.2.2.1.2.2.2.2 hl q sh h3
  have e2 : (w.1 ++ [sh], zzero w.2 w.1.length).1.length = w.1.length + 1 := by simp
  refine ⟨by rw [e1]; exact hP, by rw [e1]; exact hD, zInv_push hA.2.2.1 h1 h2 h3 h4, ?_, ?_, hS, zlv_agree hA.2.2.2.2.2.2.1 ha hA.2.2.2.2.2.2.2.1, fun u hu => by rw [e2]; exact zokv_mono (by omega) (hA.2.2.2.2.2.2.2.1 u hu), fun u hu => ?_⟩
  · rw [ha 0 (by omega)]; exact hA.2.2.2.1
  · rw [ha 1 (by omega)]; exact hA.2.2.2.2.1
  · rw [e2]
    rcases List.mem_cons.mp hu with rfl | hu
    · show w.1.length < w.1.length + 1
      omega
    · exact zokv_mono (by omega) (hA.2.2.2.2.2.2.2.2 u (hr u hu))
theorem zmap_agree {n : Nat} {adr adr' : Nat → Nat} (h : ∀ k, k < n → adr' k = adr k) {r : List zMV} (hr : ∀ v ∈ r, zokv n v) : r.map (ztr adr') = r.map (ztr adr) := by
  apply List.map_congr_left
  intro v hv
  exact ztr_agree h (hr v hv)
theorem zdef {t : FieldType} (adr : Nat → Nat) (ci j n : Nat) (h : zfty ci j = zfc t) (h3 : zfty ci j ≤ 3) : defaultValue t = zfv adr (fun _ => 0) ci (List.replicate n none) j := by
  unfold zfv
  have hrep : ∀ (x r : Nat), (List.replicate n (none : Option Nat))[x]? = some (some r) → False := by
    intro x r hx
    rw [List.getElem?_replicate] at hx
    split at hx <;> cases hx
  rw [h] at h3 ⊢
  cases t <;> simp [zfc] at h3 ⊢ <;> try rfl
  all_goals
    split
    · next r hr => exact (hrep _ _ hr).elim
    · rfl
theorem zcI {D : va_G} {cI cL cA : ClassId} {s : State} {ty : FieldType} {k : Nat} (hK : va_K D vwCl ([(cI, FieldType.int), (cL, .long)] ++ [(cA, ty)]) s) {cB : ClassId} (hk : ([(cI, FieldType.int), (cL, .long)] ++ [(cA, ty)])[k]? = some (cB, ty)) (hty : ty = .int ∨ ty = .long) : cA = cB := by
  have h1 := (hK.2 2 (cA, ty) rfl).2
  have h2 := (hK.2 k (cB, ty) hk).2
  rcases hty with rfl | rfl
  · exact Option.some.inj ((show _ = some cA from h1).symm.trans (show _ = some cB from h2))
  · exact Option.some.inj ((show _ = some cA from h1).symm.trans (show _ = some cB from h2))
theorem zs_new (hC : zCtx p s m args meth c D cI cL cZ A t0 t1 n0 n1 f0 f1 mi) (i : Instr) (hi : match i with
    | .new _ | .newarray _ | .invokespecial _ | .invokestatic _ => True
    | _ => False) : zSt p l e R s m args below meth c Q D cI cL cZ A t0 t1 n0 n1 f0 f1 mi kc ks i := by
  obtain ⟨hx, hb, hml, hown, hts, hnw, hK, hlk, hin, hA0, hT0, hT1, hZ⟩ := hC
  intro pc len en L st w tgt L' st' w' adr H locs ls hdg hok hn hA hkc hks hRc hRs hRf hRl K
  have hSo := hA.2.2.2.2.2.2.2.2
  have hI := hA.2.2.1
  have hok5 := hA.2.2.1.2.2.2.2
  have hS := hA.2.2.2.2.2.1
  cases i with
  | new ix =>
    simp only [zokE, Bool.and_eq_true, decide_eq_true_eq] at hok
    obtain ⟨⟨h1, rfl⟩, h3⟩ := hok
    obtain ⟨q, hq, hq2⟩ := zany3 h3
    simp only [Bool.and_eq_true, beq_iff_eq] at hq2
    obtain ⟨q1, q2, q3⟩ := hq2
    obtain ⟨hci, hp1, hp2, hp3⟩ := zNT_ok q hq
    have hw1 := zTW_of (List.mem_of_getElem? hp1) rfl
    have hw2 := zTW_of (List.mem_of_getElem? hp2) rfl
    have hw3 := zTW_of (List.mem_of_getElem? hp3) rfl
    rw [q1, q2, q3] at hw1
    rw [q3] at hci hw2 hw3
    simp only [znxt, h1] at hn
    cases hn
    have hcl := zcl_at _ hci
    have hcl2 : vwCl[en.2.1]? = some ((zcl en.2.1).1, (zcl en.2.1).2.1, znf en.2.1) := by rw [hcl.1, ← hcl.2]
    have hn1 : (w.1 ++ [(3 + en.2.1, znf en.2.1, List.replicate (znf en.2.1) none)]).length - kc = w.1.length - kc + 1 := by simp; omega
    have hn2 : zcs (w.1 ++ [(3 + en.2.1, znf en.2.1, List.replicate (znf en.2.1) none)], zzero w.2 w.1.length) - ks = zcs w - ks + znf en.2.1 := by
      have h5 : zcs (w.1 ++ [(3 + en.2.1, znf en.2.1, List.replicate (znf en.2.1) none)], zzero w.2 w.1.length) = zcs w + znf en.2.1 := zcs_push w.1 (3 + en.2.1, znf en.2.1, List.replicate (znf en.2.1) none)
      rw [h5]; omega
    refine va_new (T := (zcl en.2.1).2.1) (N := znf en.2.1) (C := (zcl en.2.1).1) (fs := (List.range (znf en.2.1)).map (zfv adr (fun _ => 0) en.2.1 (List.replicate (znf en.2.1) none))) hx hb hts (zcl_in hci) (zty en.2.1) (zty_ok _ hci) hown (hts _ hw1) (hts _ hw2) (hts _ hw3) hK hA.1 hA.2.1 hS hA0 hcl2 (fun j hj => ?_) (by rw [← hn1]; exact hRc) (by rw [← hn2]; exact hRs) hdg fun q H1 hP hD hS1 => ?_
    · have hfc := zfc_ok _ hci _ hj
      rw [zdef adr en.2.1 j (znf en.2.1) hfc.1 hfc.2]
      simp [vp_V, hj]
    · have ee : zent adr cI cL cZ (fun _ => 0) (3 + en.2.1, znf en.2.1, List.replicate (znf en.2.1) none) = .inr (en.2.1, (List.range (znf en.2.1)).map (zfv adr (fun _ => 0) en.2.1 (List.replicate (znf en.2.1) none))) := zent_obj ..
      rw [← ee] at hP hD
      refine W.cs hn1.symm hn2.symm ?_
      have ha : ∀ k, k < w.1.length → (fun j => if j = w.1.length then q else adr j) k = adr k := fun k hk => if_neg (by omega)
      have hrep : ∀ (x r : Nat), (List.replicate (znf en.2.1) (none : Option Nat))[x]? = some (some r) → r < w.1.length := by
        intro x r hx
        rw [List.getElem?_replicate] at hx
        split at hx <;> cases hx
      have hz := zsize_ok _ hci
      have := K (fun j => if j = w.1.length then q else adr j) H1 locs ls _ ha rfl (zpush_at hA (sh := (3 + en.2.1, znf en.2.1, List.replicate (znf en.2.1) none)) (by show 3 + en.2.1 < 15; omega) (by show znf en.2.1 < _; omega) hrep (fun _ => by rw [show 3 + en.2.1 - 3 = en.2.1 by omega]; exact ⟨rfl, List.length_replicate⟩) hP hD hS1 (fun v h => h))
      have e4 : (zR w.1.length :: st).map (ztr (fun j => if j = w.1.length then q else adr j)) = .ref q :: st.map (ztr adr) := by
        rw [List.map_cons, zmap_agree ha hSo]
        show Value.ref (if w.1.length = w.1.length then q else _) :: _ = _
        rw [if_pos rfl]
      rw [e4] at this
      exact this
  | newarray at1 =>
    simp only [zokE, Bool.and_eq_true, decide_eq_true_eq] at hok
    obtain ⟨h1, rfl⟩ := hok
    simp only [znxt, h1] at hn
    split at hn
    · next n r =>
      split at hn
      · next kd hkd =>
        split at hn
        · next hn0 =>
          cases hn
          have hnr : zin32 n := hSo (zI n) List.mem_cons_self
          have hn1 : (w.1 ++ [(kd, n.toNat, [])]).length - kc = w.1.length - kc + 1 := by simp; omega
          have hn2 : zcs (w.1 ++ [(kd, n.toNat, [])], zzero w.2 w.1.length) - ks = zcs w - ks + n.toNat := by
            have h5 : zcs (w.1 ++ [(kd, n.toNat, [])], zzero w.2 w.1.length) = zcs w + n.toNat := zcs_push w.1 (kd, n.toNat, [])
            rw [h5]; omega
          have ha : ∀ q k, k < w.1.length → (fun j => if j = w.1.length then q else adr j) k = adr k := fun q k hk => if_neg (by omega)
          have hneg : ¬ Int32.ofInt n < 0 := fun z => by have := (zltI hnr zin0).mp z; omega
          have fin : ∀ (q : Nat) (H1 : Heap), va_P D vwCl (zws adr cI cL cZ w ++ [(q, zent adr cI cL cZ (fun _ => 0) (kd, n.toNat, []))]) H1 → va_D A (zws adr cI cL cZ w ++ [(q, zent adr cI cL cZ (fun _ => 0) (kd, n.toNat, []))]) → va_S A s.heap H1 locs → W p l e R s m args below meth c H1 locs (w.1.length - kc + 1) (zcs w - ks + n.toNat) Q (F0 m (pc + 2) ls (.ref q :: r.map (ztr adr))) := by
            intro q H1 hP hD hS1
            refine W.cs hn1.symm hn2.symm ?_
            have hk15 : kd < 3 := by cases at1 <;> simp [zkd] at hkd <;> omega
            have := K (fun j => if j = w.1.length then q else adr j) H1 locs ls _ (ha q) rfl (zpush_at hA (sh := (kd, n.toNat, [])) (by show kd < 15; omega) (by show n.toNat < _; omega) (fun j r hj => by cases hj) (fun h => by have : kd < 3 := hk15; have : 3 ≤ kd := h; omega) hP hD hS1 zmem1)
            have e4 : (zR w.1.length :: r).map (ztr (fun j => if j = w.1.length then q else adr j)) = .ref q :: r.map (ztr adr) := by
              rw [List.map_cons, zmap_agree (ha q) (fun v hv => hSo v (List.mem_cons_of_mem _ hv))]
              show Value.ref (if w.1.length = w.1.length then q else _) :: _ = _
              rw [if_pos rfl]
            rw [e4] at this
            exact this
          cases at1 with
          | int =>
            cases hkd
            refine va_newa (atype := .int) (ty := .int) (a0 := (n.toNat, .inl fun _ => Int32.ofInt 0)) (N' := n.toNat) hx hb (hts _ zarr_in.1) rfl hK hA.1 hA.2.1 hS hA0 (fun cA => rfl) hneg (zclamp hnr) (by show n.toNat * 4 ≤ _; omega) (by rw [← hn1]; exact hRc) (by rw [← hn2]; exact hRs) hdg fun q cA H1 hK2 hP hD hS1 => ?_
            have : cA = cI := zcI (k := 0) hK2 rfl (Or.inl rfl)
            subst this
            exact fin q H1 hP hD hS1
          | long =>
            cases hkd
            refine va_newa (atype := .long) (ty := .long) (a0 := (n.toNat, .inr (.inl fun _ => Int64.ofInt 0))) (N' := n.toNat) hx hb (hts _ zarr_in.2) rfl hK hA.1 hA.2.1 hS hA0 (fun cA => rfl) hneg (zclamp hnr) (by show n.toNat * 8 ≤ _; omega) (by rw [← hn1]; exact hRc) (by rw [← hn2]; exact hRs) hdg fun q cA H1 hK2 hP hD hS1 => ?_
            have : cA = cL := zcI (k := 1) hK2 rfl (Or.inr rfl)
            subst this
            exact fin q H1 hP hD hS1
          | _ => cases hkd
        · cases hn
      · cases hn
    · cases hn
  | invokespecial ix =>
    simp only [zokE, Bool.and_eq_true, decide_eq_true_eq, Bool.or_eq_true] at hok
    obtain ⟨rfl, ⟨h1, h3⟩ | ⟨h1, -⟩⟩ := hok
    · obtain ⟨q, hq, hq2⟩ := zany3 h3
      simp only [Bool.and_eq_true, beq_iff_eq] at hq2
      obtain ⟨q1, q2⟩ := hq2
      have hw := zTW_of (List.mem_of_getElem? (zOT_ok q hq)) rfl
      rw [q1, q2] at hw
      simp only [znxt, h1] at hn
      split at hn
      · next k r =>
        split at hn
        · next hc8 =>
          cases hn
          refine W.objInit (g := F0 m pc ls (Value.ref (adr k) :: st'.map (ztr adr))) hx hb hown (hts _ hw) (hts _ zobj_in.1) (hts _ zobj_in.2) rfl (by rw [hml]; exact hA.2.2.2.2.2.2.1.1) rfl hdg hRf ?_ ?_
          · have := lv_room (m := m) (pc := pc) (ls := ls) (rest := Value.ref (adr k) :: st'.map (ztr adr)) (st := st'.map (ztr adr)) (by rw [zcats_tr]; exact hc8)
            omega
          · exact zKs hA K (fun u hu => hSo u (List.mem_cons_of_mem _ hu)) rfl
        · cases hn
      · cases hn
    · simp only [znxt, h1] at hn
      cases hn
  | invokestatic ix =>
    simp only [zokE, Bool.and_eq_true, decide_eq_true_eq, Bool.or_eq_true] at hok
    obtain ⟨rfl, ((((⟨h1, h3⟩ | ⟨h1, h3⟩) | ⟨h1, h3⟩) | ⟨h1, h3⟩) | ⟨h1, -⟩)⟩ := hok
    · obtain ⟨q, hq, hq2⟩ := zany3 h3
      simp only [Bool.and_eq_true, beq_iff_eq] at hq2
      obtain ⟨q1, q2, q3⟩ := hq2
      have hw := zTW_of (List.mem_of_getElem? (zMT_ok q hq)) rfl
      rw [q1, q2, q3] at hw
      simp only [znxt, h1] at hn
      split at hn
      · next hc =>
        obtain ⟨rfl, rfl, rfl, ho⟩ := zfall_inv hn
        obtain ⟨y, x, r, v, rfl, hv, rfl⟩ := zii_inv ho
        cases hv
        have hyy := hSo (zI y) List.mem_cons_self
        have hxx := hSo (zI x) (List.mem_cons_of_mem _ List.mem_cons_self)
        have hcr : zcats r ≤ 12 := by
          have : zcats (zI y :: zI x :: r) = zcat (zI y) + (zcat (zI x) + zcats r) := by simp [zcats]
          omega
        refine va_mmax hx hb (by rw [hml]; exact hA.2.2.2.2.2.2.1.1.symm) hown (hts _ hw) (hts _ zmath_in.2.1) (hts _ zmath_in.1) (hts _ zmath_in.2.2.2.1) hRf (by rw [zcats_tr]; omega) (by omega) (by omega) hdg ?_
        refine zKi hA K ?_ ?_ zmem2
        · by_cases hxy : x < y
          · rw [if_pos hxy, if_pos ((zltI hxx hyy).mpr hxy)]
          · rw [if_neg hxy, if_neg (fun z => hxy ((zltI hxx hyy).mp z))]
        · split
          · exact hyy
          · exact hxx
      · cases hn
    · obtain ⟨q, hq, hq2⟩ := zany3 h3
      simp only [Bool.and_eq_true, beq_iff_eq] at hq2
      obtain ⟨q1, q2, q3⟩ := hq2
      have hw := zTW_of (List.mem_of_getElem? (zMT_ok q hq)) rfl
      rw [q1, q2, q3] at hw
      simp only [znxt, h1] at hn
      split at hn
      · next hc =>
        obtain ⟨rfl, rfl, rfl, ho⟩ := zfall_inv hn
        obtain ⟨y, x, r, v, rfl, hv, rfl⟩ := zii_inv ho
        cases hv
        have hyy := hSo (zI y) List.mem_cons_self
        have hxx := hSo (zI x) (List.mem_cons_of_mem _ List.mem_cons_self)
        have hcr : zcats r ≤ 12 := by
          have : zcats (zI y :: zI x :: r) = zcat (zI y) + (zcat (zI x) + zcats r) := by simp [zcats]
          omega
        refine va_mmin hx hb (by rw [hml]; exact hA.2.2.2.2.2.2.1.1.symm) hown (hts _ hw) (hts _ zmath_in.2.2.1) (hts _ zmath_in.1) (hts _ zmath_in.2.2.2.2) hRf (by rw [zcats_tr]; omega) (by omega) (by omega) hdg ?_
        refine zKi hA K ?_ ?_ zmem2
        · by_cases hxy : y < x
          · rw [if_pos hxy, if_pos ((zltI hyy hxx).mpr hxy)]
          · rw [if_neg hxy, if_neg (fun z => hxy ((zltI hyy hxx).mp z))]
        · split
          · exact hyy
          · exact hxx
      · cases hn
    · obtain ⟨q, hq, hq2⟩ := zany3 h3
      simp only [Bool.and_eq_true, beq_iff_eq] at hq2
      obtain ⟨q1, q2, q3⟩ := hq2
      exact absurd q3 (zMT_no2 q hq)
    · obtain ⟨q, hq, hq2⟩ := zany3 h3
      simp only [Bool.and_eq_true, beq_iff_eq] at hq2
      obtain ⟨q1, q2⟩ := hq2
      exact (zAT_no q hq).elim
    · simp only [znxt, h1] at hn
      cases hn
  | _ => exact absurd hi (by simp)
/-- any instruction that neither calls nor returns -/
theorem zstep (hC : zCtx p s m args meth c D cI cL cZ A t0 t1 n0 n1 f0 f1 mi) (i : Instr) : zSt p l e R s m args below meth c Q D cI cL cZ A t0 t1 n0 n1 f0 f1 mi kc ks i := by
  cases i with
  | iconst _ | bipush _ | sipush _ | lconst _ | ldc _ | ldc_w _ | ldc2_w _ => exact zs_const hC _ trivial
  | iload_n _ | iload _ | lload_n _ | lload _ | aload_n _ | aload _ | istore_n _ | istore _ | lstore_n _ | lstore _ | astore_n _ | astore _ | iinc _ _ => exact zs_locals hC _ trivial
  | iadd | isub | imul | iand | ior | ixor | ishl | ishr | iushr | idiv | irem => exact zs_ints hC _ trivial
  | ladd | lsub | lmul | land | lor | ldiv | lrem | lshl | lshr | lcmp => exact zs_longs hC _ trivial
  | i2l | i2b | l2i | dup | dup2 | pop => exact zs_stack hC _ trivial
  | ifCond _ _ | if_icmp _ _ | goto _ | tableswitch _ _ _ _ | lookupswitch _ _ => exact zs_jumps hC _ trivial
  | getfield _ | getstatic _ | putfield _ => exact zs_fields hC _ trivial
  | iaload | laload | baload | arraylength => exact zs_rows hC _ trivial
  | iastore | lastore | bastore => exact zs_stores hC _ trivial
  | new _ | newarray _ | invokespecial _ | invokestatic _ => exact zs_new hC _ trivial
  | invokevirtual _ =>
    intro pc len en L st w tgt L' st' w' adr H locs ls hdg hok hn
    simp only [zokE, Bool.and_eq_true, decide_eq_true_eq] at hok
    simp only [znxt, hok.2.1] at hn
    cases hn
  | ireturn =>
    intro pc len en L st w tgt L' st' w' adr H locs ls hdg hok hn
    simp only [zokE, Bool.and_eq_true, decide_eq_true_eq] at hok
    obtain ⟨rfl, rfl⟩ := hok
    cases hn
  | lreturn =>
    intro pc len en L st w tgt L' st' w' adr H locs ls hdg hok hn
    simp only [zokE, Bool.and_eq_true, decide_eq_true_eq] at hok
    obtain ⟨rfl, rfl⟩ := hok
    cases hn
  | return_ =>
    intro pc len en L st w tgt L' st' w' adr H locs ls hdg hok hn
    simp only [zokE, Bool.and_eq_true, decide_eq_true_eq] at hok
    obtain ⟨rfl, rfl⟩ := hok
    cases hn
  | _ =>
    intro pc len en L st w tgt L' st' w' adr H locs ls hdg hok hn
    cases hok
end ZS
