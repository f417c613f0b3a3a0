/-! one step: numbers, stack, jumps -/
section ZS
variable {p : Program} {l : Launch} {e : Env} {R : Room} {s : State} {m : MethodId} {args : Array Value} {below : List Frame} {meth : Method} {c : Code} {Q : State → Prop} {D : va_G} {cI cL cZ : ClassId} {A : Nat → Prop} {t0 t1 n0 n1 mi kc ks : Nat} {f0 f1 : Int → Int}
variable {adr : Nat → Nat} {H : Heap} {locs : List Loc} {ls : Array Slot} {L st : List zMV} {w : zWd} {pc nx : Nat}

theorem zs_ints (hC : zCtx p s m args meth c D cI cL cZ A t0 t1 n0 n1 f0 f1 mi) (i : Instr) (hi : match i with
    | .iadd | .isub | .imul | .iand | .ior | .ixor | .ishl | .ishr | .iushr | .idiv | .irem => True
    | _ => False) : zSt p l e R s m args below meth c Q D cI cL cZ A t0 t1 n0 n1 f0 f1 mi kc ks i := by
  obtain ⟨hx, hb, hml, hown, hts, hnw, hK, hlk, hin, hA0, hT0, hT1, hZ⟩ := hC
  intro pc len en L st w tgt L' st' w' adr H locs ls hdg hok hn hA hkc hks hRc hRs hRf hRl K
  have hSo := hA.2.2.2.2.2.2.2.2
  cases i with
  | iadd =>
    simp only [zokE, Bool.and_eq_true, decide_eq_true_eq] at hok
    obtain ⟨rfl, rfl⟩ := hok
    obtain ⟨rfl, rfl, rfl, ho⟩ := zfall_inv hn
    obtain ⟨y, x, r, v, rfl, hv, rfl⟩ := zii_inv ho
    cases hv
    exact lv_iadd hx hb hdg (zKi hA K (zofI _) (zin32_toInt _) zmem2)
  | isub =>
    simp only [zokE, Bool.and_eq_true, decide_eq_true_eq] at hok
    obtain ⟨rfl, rfl⟩ := hok
    obtain ⟨rfl, rfl, rfl, ho⟩ := zfall_inv hn
    obtain ⟨y, x, r, v, rfl, hv, rfl⟩ := zii_inv ho
    cases hv
    exact lv_isub hx hb hdg (zKi hA K (zofI _) (zin32_toInt _) zmem2)
  | imul =>
    simp only [zokE, Bool.and_eq_true, decide_eq_true_eq] at hok
    obtain ⟨rfl, rfl⟩ := hok
    obtain ⟨rfl, rfl, rfl, ho⟩ := zfall_inv hn
    obtain ⟨y, x, r, v, rfl, hv, rfl⟩ := zii_inv ho
    cases hv
    exact lv_imul hx hb hdg (zKi hA K (zofI _) (zin32_toInt _) zmem2)
  | iand =>
    simp only [zokE, Bool.and_eq_true, decide_eq_true_eq] at hok
    obtain ⟨rfl, rfl⟩ := hok
    obtain ⟨rfl, rfl, rfl, ho⟩ := zfall_inv hn
    obtain ⟨y, x, r, v, rfl, hv, rfl⟩ := zii_inv ho
    cases hv
    exact lv_iand hx hb hdg (zKi hA K (zofI _) (zin32_toInt _) zmem2)
  | ior =>
    simp only [zokE, Bool.and_eq_true, decide_eq_true_eq] at hok
    obtain ⟨rfl, rfl⟩ := hok
    obtain ⟨rfl, rfl, rfl, ho⟩ := zfall_inv hn
    obtain ⟨y, x, r, v, rfl, hv, rfl⟩ := zii_inv ho
    cases hv
    exact lv_ior hx hb hdg (zKi hA K (zofI _) (zin32_toInt _) zmem2)
  | ixor =>
    simp only [zokE, Bool.and_eq_true, decide_eq_true_eq] at hok
    obtain ⟨rfl, rfl⟩ := hok
    obtain ⟨rfl, rfl, rfl, ho⟩ := zfall_inv hn
    obtain ⟨y, x, r, v, rfl, hv, rfl⟩ := zii_inv ho
    cases hv
    exact lv_ixor hx hb hdg (zKi hA K (zofI _) (zin32_toInt _) zmem2)
  | ishl =>
    simp only [zokE, Bool.and_eq_true, decide_eq_true_eq] at hok
    obtain ⟨rfl, rfl⟩ := hok
    obtain ⟨rfl, rfl, rfl, ho⟩ := zfall_inv hn
    obtain ⟨y, x, r, v, rfl, hv, rfl⟩ := zii_inv ho
    cases hv
    exact lv_ishl hx hb hdg (zKi hA K (zofI _) (zin32_toInt _) zmem2)
  | ishr =>
    simp only [zokE, Bool.and_eq_true, decide_eq_true_eq] at hok
    obtain ⟨rfl, rfl⟩ := hok
    obtain ⟨rfl, rfl, rfl, ho⟩ := zfall_inv hn
    obtain ⟨y, x, r, v, rfl, hv, rfl⟩ := zii_inv ho
    cases hv
    exact lv_ishr hx hb hdg (zKi hA K (zofI _) (zin32_toInt _) zmem2)
  | iushr =>
    simp only [zokE, Bool.and_eq_true, decide_eq_true_eq] at hok
    obtain ⟨rfl, rfl⟩ := hok
    obtain ⟨rfl, rfl, rfl, ho⟩ := zfall_inv hn
    obtain ⟨y, x, r, v, rfl, hv, rfl⟩ := zii_inv ho
    cases hv
    exact lv_iushr hx hb hdg rfl (zKi hA K (zofI _) (zin32_toInt _) zmem2)
  | idiv =>
    simp only [zokE, Bool.and_eq_true, decide_eq_true_eq] at hok
    obtain ⟨rfl, rfl⟩ := hok
    obtain ⟨rfl, rfl, rfl, ho⟩ := zfall_inv hn
    obtain ⟨y, x, r, v, rfl, hv, rfl⟩ := zii_inv ho
    split at hv
    · cases hv
    · next h0 =>
      cases hv
      exact lv_idiv hx hb hdg (fun z => h0 ((zeqI (hSo (zI y) List.mem_cons_self) zin0).mp z)) (zKi hA K (zofI _) (zin32_toInt _) zmem2)
  | irem =>
    simp only [zokE, Bool.and_eq_true, decide_eq_true_eq] at hok
    obtain ⟨rfl, rfl⟩ := hok
    obtain ⟨rfl, rfl, rfl, ho⟩ := zfall_inv hn
    obtain ⟨y, x, r, v, rfl, hv, rfl⟩ := zii_inv ho
    split at hv
    · cases hv
    · next h0 =>
      cases hv
      exact lv_irem hx hb hdg (fun z => h0 ((zeqI (hSo (zI y) List.mem_cons_self) zin0).mp z)) (zKi hA K (zofI _) (zin32_toInt _) zmem2)
  | _ => exact absurd hi (by simp)
theorem zs_longs (hC : zCtx p s m args meth c D cI cL cZ A t0 t1 n0 n1 f0 f1 mi) (i : Instr) (hi : match i with
    | .ladd | .lsub | .lmul | .land | .lor | .ldiv | .lrem | .lshl | .lshr | .lcmp => True
    | _ => False) : zSt p l e R s m args below meth c Q D cI cL cZ A t0 t1 n0 n1 f0 f1 mi kc ks i := by
  obtain ⟨hx, hb, hml, hown, hts, hnw, hK, hlk, hin, hA0, hT0, hT1, hZ⟩ := hC
  intro pc len en L st w tgt L' st' w' adr H locs ls hdg hok hn hA hkc hks hRc hRs hRf hRl K
  have hSo := hA.2.2.2.2.2.2.2.2
  cases i with
  | ladd =>
    simp only [zokE, Bool.and_eq_true, decide_eq_true_eq] at hok
    obtain ⟨rfl, rfl⟩ := hok
    obtain ⟨rfl, rfl, rfl, ho⟩ := zfall_inv hn
    obtain ⟨y, x, r, v, rfl, hv, rfl⟩ := zll_inv ho
    cases hv
    exact lv_ladd hx hb hdg (zKl hA K (zofL _) (zin64_toInt _) zmem2)
  | lsub =>
    simp only [zokE, Bool.and_eq_true, decide_eq_true_eq] at hok
    obtain ⟨rfl, rfl⟩ := hok
    obtain ⟨rfl, rfl, rfl, ho⟩ := zfall_inv hn
    obtain ⟨y, x, r, v, rfl, hv, rfl⟩ := zll_inv ho
    cases hv
    exact lv_lsub hx hb hdg (zKl hA K (zofL _) (zin64_toInt _) zmem2)
  | lmul =>
    simp only [zokE, Bool.and_eq_true, decide_eq_true_eq] at hok
    obtain ⟨rfl, rfl⟩ := hok
    obtain ⟨rfl, rfl, rfl, ho⟩ := zfall_inv hn
    obtain ⟨y, x, r, v, rfl, hv, rfl⟩ := zll_inv ho
    cases hv
    exact lv_lmul hx hb hdg (zKl hA K (zofL _) (zin64_toInt _) zmem2)
  | land =>
    simp only [zokE, Bool.and_eq_true, decide_eq_true_eq] at hok
    obtain ⟨rfl, rfl⟩ := hok
    obtain ⟨rfl, rfl, rfl, ho⟩ := zfall_inv hn
    obtain ⟨y, x, r, v, rfl, hv, rfl⟩ := zll_inv ho
    cases hv
    exact lv_land hx hb hdg (zKl hA K (zofL _) (zin64_toInt _) zmem2)
  | lor =>
    simp only [zokE, Bool.and_eq_true, decide_eq_true_eq] at hok
    obtain ⟨rfl, rfl⟩ := hok
    obtain ⟨rfl, rfl, rfl, ho⟩ := zfall_inv hn
    obtain ⟨y, x, r, v, rfl, hv, rfl⟩ := zll_inv ho
    cases hv
    exact lv_lor hx hb hdg (zKl hA K (zofL _) (zin64_toInt _) zmem2)
  | ldiv =>
    simp only [zokE, Bool.and_eq_true, decide_eq_true_eq] at hok
    obtain ⟨rfl, rfl⟩ := hok
    obtain ⟨rfl, rfl, rfl, ho⟩ := zfall_inv hn
    obtain ⟨y, x, r, v, rfl, hv, rfl⟩ := zll_inv ho
    split at hv
    · cases hv
    · next h0 =>
      cases hv
      exact lv_ldiv hx hb hdg (fun z => h0 ((zeqL (hSo (zL y) List.mem_cons_self) ⟨by decide, by decide⟩).mp z)) (zKl hA K (zofL _) (zin64_toInt _) zmem2)
  | lrem =>
    simp only [zokE, Bool.and_eq_true, decide_eq_true_eq] at hok
    obtain ⟨rfl, rfl⟩ := hok
    obtain ⟨rfl, rfl, rfl, ho⟩ := zfall_inv hn
    obtain ⟨y, x, r, v, rfl, hv, rfl⟩ := zll_inv ho
    split at hv
    · cases hv
    · next h0 =>
      cases hv
      exact lv_lrem hx hb hdg (fun z => h0 ((zeqL (hSo (zL y) List.mem_cons_self) ⟨by decide, by decide⟩).mp z)) (zKl hA K (zofL _) (zin64_toInt _) zmem2)
  | lshl =>
    simp only [zokE, Bool.and_eq_true, decide_eq_true_eq] at hok
    obtain ⟨rfl, rfl⟩ := hok
    obtain ⟨rfl, rfl, rfl, ho⟩ := zfall_inv hn
    obtain ⟨y, x, r, v, rfl, hv, rfl⟩ := zli_inv ho
    cases hv
    exact lv_lshl hx hb hdg rfl (zKl hA K (zofL _) (zin64_toInt _) zmem2)
  | lshr =>
    simp only [zokE, Bool.and_eq_true, decide_eq_true_eq] at hok
    obtain ⟨rfl, rfl⟩ := hok
    obtain ⟨rfl, rfl, rfl, ho⟩ := zfall_inv hn
    obtain ⟨y, x, r, v, rfl, hv, rfl⟩ := zli_inv ho
    cases hv
    exact lv_lshr hx hb hdg rfl (zKl hA K (zofL _) (zin64_toInt _) zmem2)
  | lcmp =>
    simp only [zokE, Bool.and_eq_true, decide_eq_true_eq] at hok
    obtain ⟨rfl, rfl⟩ := hok
    obtain ⟨rfl, rfl, rfl, ho⟩ := zfall_inv hn
    obtain ⟨y, x, r, v, rfl, hv, rfl⟩ := zll_inv ho
    cases hv
    exact W.lcmp hx hb hdg (zKi hA K (zlcmp_eq (hSo (zL x) (by simp)) (hSo (zL y) (by simp))).symm (zlcmp_in _ _) zmem2)
  | _ => exact absurd hi (by simp)
theorem zs_stack (hC : zCtx p s m args meth c D cI cL cZ A t0 t1 n0 n1 f0 f1 mi) (i : Instr) (hi : match i with
    | .i2l | .i2b | .l2i | .dup | .dup2 | .pop => True
    | _ => False) : zSt p l e R s m args below meth c Q D cI cL cZ A t0 t1 n0 n1 f0 f1 mi kc ks i := by
  obtain ⟨hx, hb, hml, hown, hts, hnw, hK, hlk, hin, hA0, hT0, hT1, hZ⟩ := hC
  intro pc len en L st w tgt L' st' w' adr H locs ls hdg hok hn hA hkc hks hRc hRs hRf hRl K
  have hSo := hA.2.2.2.2.2.2.2.2
  cases i with
  | i2l =>
    simp only [zokE, Bool.and_eq_true, decide_eq_true_eq] at hok
    obtain ⟨rfl, rfl⟩ := hok
    simp only [znxt] at hn
    split at hn
    · next x r =>
      obtain ⟨rfl, rfl, rfl, ho⟩ := zfall_inv hn
      cases ho
      exact lv_i2l hx hb hdg (zi32_i2l (hSo (zI x) List.mem_cons_self)) (zKl hA K rfl (zin32_64 (hSo (zI x) List.mem_cons_self)) zmem1)
    · cases hn
  | i2b =>
    simp only [zokE, Bool.and_eq_true, decide_eq_true_eq] at hok
    obtain ⟨rfl, rfl⟩ := hok
    simp only [znxt] at hn
    split at hn
    · next x r =>
      obtain ⟨rfl, rfl, rfl, ho⟩ := zfall_inv hn
      cases ho
      exact lv_i2b hx hb hdg rfl (zKi hA K (zofI _) (zin32_toInt _) zmem1)
    · cases hn
  | l2i =>
    simp only [zokE, Bool.and_eq_true, decide_eq_true_eq] at hok
    obtain ⟨rfl, rfl⟩ := hok
    simp only [znxt] at hn
    split at hn
    · next x r =>
      obtain ⟨rfl, rfl, rfl, ho⟩ := zfall_inv hn
      cases ho
      exact lv_l2i hx hb hdg rfl (zKi hA K (zofI _) (zin32_toInt _) zmem1)
    · cases hn
  | dup =>
    simp only [zokE, Bool.and_eq_true, decide_eq_true_eq] at hok
    obtain ⟨rfl, rfl⟩ := hok
    simp only [znxt] at hn
    split at hn
    · next v r =>
      split at hn
      · cases hn
      · next h0 =>
        obtain ⟨rfl, rfl, rfl, ho⟩ := zfall_inv hn
        cases ho
        have h1 : zcat v = 1 := Decidable.byContradiction fun z => h0 (Or.inr z)
        exact lv_dup hx hb hdg (by rw [zcat_tr]; exact h1) (zKs hA K (fun u hu => (List.mem_cons.mp hu).elim (fun q => by rw [q]; exact hSo v List.mem_cons_self) (hSo u)) rfl)
    · cases hn
  | dup2 =>
    simp only [zokE, Bool.and_eq_true, decide_eq_true_eq] at hok
    obtain ⟨rfl, rfl⟩ := hok
    simp only [znxt] at hn
    split at hn
    · next v u r =>
      split at hn
      · cases hn
      · next h0 =>
        obtain ⟨rfl, rfl, rfl, ho⟩ := zfall_inv hn
        cases ho
        have h1 : zcat v = 1 := Decidable.byContradiction fun z => h0 (Or.inr (Or.inl z))
        have h2 : zcat u = 1 := Decidable.byContradiction fun z => h0 (Or.inr (Or.inr (Or.inr z)))
        exact lv_dup2_11 hx hb hdg (by rw [zcat_tr]; exact h1) (by rw [zcat_tr]; exact h2) (zKs hA K (fun x hx1 => by
          rcases List.mem_cons.mp hx1 with rfl | hx1
          · exact hSo _ List.mem_cons_self
          rcases List.mem_cons.mp hx1 with rfl | hx1
          · exact hSo _ (List.mem_cons_of_mem _ List.mem_cons_self)
          · exact hSo _ hx1) rfl)
    · cases hn
  | pop =>
    simp only [zokE, Bool.and_eq_true, decide_eq_true_eq] at hok
    obtain ⟨rfl, rfl⟩ := hok
    simp only [znxt] at hn
    split at hn
    · next v r =>
      split at hn
      · cases hn
      · next h0 =>
        obtain ⟨rfl, rfl, rfl, ho⟩ := zfall_inv hn
        cases ho
        have h1 : zcat v = 1 := Decidable.byContradiction fun z => h0 (Or.inr z)
        exact lv_pop hx hb hdg (by rw [zcat_tr]; exact h1) (zKs hA K (fun u hu => hSo u (List.mem_cons_of_mem _ hu)) rfl)
    · cases hn
  | _ => exact absurd hi (by simp)
theorem ztabs_inv {mi pc : Nat} : ∀ {os bs : List Int}, ztabs mi pc os bs = true → ∀ {k : Nat} (hk : k < os.length), ∃ (b : Int) (tg : Nat), bs[k]?.getD 0 = b ∧ zstart mi b.toNat = some tg ∧ (pc : Int) + os[k] = (tg : Int)
  | [], [], _, k, hk => absurd hk (Nat.not_lt_zero k)
  | o :: os, b :: bs, h, 0, _ => by
    simp only [ztabs, Bool.and_eq_true] at h
    obtain ⟨tg, h1, h2⟩ := zjmp_inv h.1
    exact ⟨b, tg, rfl, h1, h2⟩
  | o :: os, b :: bs, h, k + 1, hk => by
    simp only [ztabs, Bool.and_eq_true] at h
    exact ztabs_inv h.2 (k := k) (Nat.lt_of_succ_lt_succ hk)
  | [], b :: bs, h, _, _ => by simp [ztabs] at h
  | o :: os, [], h, _, _ => by simp [ztabs] at h
theorem zlooks_inv {mi pc d : Nat} {off : Int} : ∀ {os bs : List (Int × Int)}, zlooks mi pc os bs = true → zjmp mi pc d off = true → ∀ x : Int, ∃ tg : Nat, zstart mi (zlsw d bs x) = some tg ∧ (pc : Int) + Op.lookupswitch.offset os off x = (tg : Int)
  | [], [], _, hd, x => zjmp_inv hd
  | o :: os, b :: bs, h, hd, x => by
    simp only [zlooks, Bool.and_eq_true, decide_eq_true_eq] at h
    obtain ⟨⟨⟨h1, -⟩, h2⟩, h3⟩ := h
    obtain ⟨b1, b2⟩ := b
    obtain ⟨o1, o2⟩ := o
    dsimp only at h1 h2
    subst h1
    rw [Op.lookupswitch.offset_cons]
    by_cases hx : x = o1
    · obtain ⟨tg, h4, h5⟩ := zjmp_inv h2
      refine ⟨tg, ?_, ?_⟩
      · rw [zlsw, if_pos hx]; exact h4
      · rw [if_pos (by simp [hx])]; exact h5
    · obtain ⟨tg, h4, h5⟩ := zlooks_inv h3 hd x
      refine ⟨tg, ?_, ?_⟩
      · rw [zlsw, if_neg hx]; exact h4
      · rw [if_neg (fun z => hx (by simpa using z.symm))]; exact h5
  | [], b :: bs, h, _, _ => by simp [zlooks] at h
  | o :: os, [], h, _, _ => by simp [zlooks] at h
theorem zs_jumps (hC : zCtx p s m args meth c D cI cL cZ A t0 t1 n0 n1 f0 f1 mi) (i : Instr) (hi : match i with
    | .ifCond _ _ | .if_icmp _ _ | .goto _ | .tableswitch _ _ _ _ | .lookupswitch _ _ => True
    | _ => False) : zSt p l e R s m args below meth c Q D cI cL cZ A t0 t1 n0 n1 f0 f1 mi kc ks i := by
  obtain ⟨hx, hb, hml, hown, hts, hnw, hK, hlk, hin, hA0, hT0, hT1, hZ⟩ := hC
  intro pc len en L st w tgt L' st' w' adr H locs ls hdg hok hn hA hkc hks hRc hRs hRf hRl K
  have hSo := hA.2.2.2.2.2.2.2.2
  cases i with
  | ifCond c1 off =>
    simp only [zokE, Bool.and_eq_true, decide_eq_true_eq] at hok
    obtain ⟨⟨h1, rfl⟩, h3⟩ := hok
    obtain ⟨tg, h4, h5⟩ := zjmp_inv h3
    simp only [znxt, h1] at hn
    split at hn
    · next x r =>
      cases hn
      have hxr : zin32 x := hSo (zI x) List.mem_cons_self
      have hr : ∀ v ∈ st', zokv w.1.length v := fun v hv => hSo v (List.mem_cons_of_mem _ hv)
      have KT : zcmp c1 x 0 = true → W p l e R s m args below meth c H locs (w.1.length - kc) (zcs w - ks) Q (F0 m tg ls (st'.map (ztr adr))) := fun h => by
        rw [if_pos h] at K
        exact K adr H locs ls tg (fun _ _ => rfl) h4 (zAt_st hA hr)
      have KF : ¬ zcmp c1 x 0 = true → W p l e R s m args below meth c H locs (w.1.length - kc) (zcs w - ks) Q (F0 m (pc + 3) ls (st'.map (ztr adr))) := fun h => by
        rw [if_neg h] at K
        exact K adr H locs ls _ (fun _ _ => rfl) rfl (zAt_st hA hr)
      cases c1 with
      | eq => exact lv_if_eq hx hb hdg h5 (fun h => KT (decide_eq_true ((zeqI hxr zin0).mp h))) (fun h => KF (fun z => h ((zeqI hxr zin0).mpr (of_decide_eq_true z))))
      | ne => exact lv_if_ne hx hb hdg h5 (fun h => KT (decide_eq_true (fun z => h ((zeqI hxr zin0).mpr z)))) (fun h => KF (fun z => (of_decide_eq_true z : x ≠ 0) ((zeqI hxr zin0).mp h)))
      | lt => exact lv_if_lt hx hb hdg h5 (fun h => KT (decide_eq_true ((zltI hxr zin0).mp h))) (fun h => KF (fun z => h ((zltI hxr zin0).mpr (of_decide_eq_true z))))
      | ge => exact lv_if_ge hx hb hdg h5 (fun h => KT (decide_eq_true ((zleI zin0 hxr).mp h))) (fun h => KF (fun z => h ((zleI zin0 hxr).mpr (of_decide_eq_true z))))
      | gt => exact lv_if_gt hx hb hdg h5 (fun h => KT (decide_eq_true ((zltI zin0 hxr).mp h))) (fun h => KF (fun z => h ((zltI zin0 hxr).mpr (of_decide_eq_true z))))
      | le => exact lv_if_le hx hb hdg h5 (fun h => KT (decide_eq_true ((zleI hxr zin0).mp h))) (fun h => KF (fun z => h ((zleI hxr zin0).mpr (of_decide_eq_true z))))
    · cases hn
  | if_icmp c1 off =>
    simp only [zokE, Bool.and_eq_true, decide_eq_true_eq] at hok
    obtain ⟨⟨h1, rfl⟩, h3⟩ := hok
    obtain ⟨tg, h4, h5⟩ := zjmp_inv h3
    simp only [znxt, h1] at hn
    split at hn
    · next y x r =>
      cases hn
      have hyr : zin32 y := hSo (zI y) List.mem_cons_self
      have hxr : zin32 x := hSo (zI x) (List.mem_cons_of_mem _ List.mem_cons_self)
      have hr : ∀ v ∈ st', zokv w.1.length v := fun v hv => hSo v (List.mem_cons_of_mem _ (List.mem_cons_of_mem _ hv))
      have KT : zcmp c1 x y = true → W p l e R s m args below meth c H locs (w.1.length - kc) (zcs w - ks) Q (F0 m tg ls (st'.map (ztr adr))) := fun h => by
        rw [if_pos h] at K
        exact K adr H locs ls tg (fun _ _ => rfl) h4 (zAt_st hA hr)
      have KF : ¬ zcmp c1 x y = true → W p l e R s m args below meth c H locs (w.1.length - kc) (zcs w - ks) Q (F0 m (pc + 3) ls (st'.map (ztr adr))) := fun h => by
        rw [if_neg h] at K
        exact K adr H locs ls _ (fun _ _ => rfl) rfl (zAt_st hA hr)
      cases c1 with
      | eq => exact lv_icmp_eq hx hb hdg h5 (fun h => KT (decide_eq_true ((zeqI hxr hyr).mp h))) (fun h => KF (fun z => h ((zeqI hxr hyr).mpr (of_decide_eq_true z))))
      | ne => exact lv_icmp_ne hx hb hdg h5 (fun h => KT (decide_eq_true (fun z => h ((zeqI hxr hyr).mpr z)))) (fun h => KF (fun z => (of_decide_eq_true z : x ≠ y) ((zeqI hxr hyr).mp h)))
      | lt => exact lv_icmp_lt hx hb hdg h5 (fun h => KT (decide_eq_true ((zltI hxr hyr).mp h))) (fun h => KF (fun z => h ((zltI hxr hyr).mpr (of_decide_eq_true z))))
      | ge => exact lv_icmp_ge hx hb hdg h5 (fun h => KT (decide_eq_true ((zleI hyr hxr).mp h))) (fun h => KF (fun z => h ((zleI hyr hxr).mpr (of_decide_eq_true z))))
      | gt => exact lv_icmp_gt hx hb hdg h5 (fun h => KT (decide_eq_true ((zltI hyr hxr).mp h))) (fun h => KF (fun z => h ((zltI hyr hxr).mpr (of_decide_eq_true z))))
      | le => exact lv_icmp_le hx hb hdg h5 (fun h => KT (decide_eq_true ((zleI hxr hyr).mp h))) (fun h => KF (fun z => h ((zleI hxr hyr).mpr (of_decide_eq_true z))))
    · cases hn
  | goto off =>
    simp only [zokE, Bool.and_eq_true, decide_eq_true_eq] at hok
    obtain ⟨⟨h1, rfl⟩, h3⟩ := hok
    obtain ⟨tg, h4, h5⟩ := zjmp_inv h3
    simp only [znxt, h1] at hn
    cases hn
    exact lv_goto hx hb hdg h5 (K adr H locs ls tg (fun _ _ => rfl) h4 hA)
  | tableswitch d lo hi offs =>
    simp only [zokE] at hok
    split at hok
    · next d' lo' hi' bs h1 =>
      simp only [Bool.and_eq_true, decide_eq_true_eq] at hok
      obtain ⟨⟨⟨⟨rfl, rfl⟩, h3⟩, h4⟩, h5⟩ := hok
      simp only [znxt, h1] at hn
      split at hn
      · next x r =>
        cases hn
        have hxr : zin32 x := hSo (zI x) List.mem_cons_self
        have hr : ∀ v ∈ st', zokv w.1.length v := fun v hv => hSo v (List.mem_cons_of_mem _ hv)
        by_cases hd : x < lo' ∨ hi' < x
        · obtain ⟨tg, h6, h7⟩ := zjmp_inv h3
          refine lv_tableOut hx hb hdg (by rw [ztoI hxr]; exact hd) h7 (K adr H locs ls tg (fun _ _ => rfl) ?_ (zAt_st hA hr))
          show zstart mi (ztsw _ _ _ _ _) = some tg
          rw [ztsw, if_pos hd]; exact h6
        · have hlt : (x - lo').toNat < offs.toList.length := by omega
          obtain ⟨b, tg, h6, h7, h8⟩ := ztabs_inv h4 hlt
          refine lv_tableIn hx hb hdg (off := offs.toList[(x - lo').toNat]) (by rw [ztoI hxr]; omega) (by rw [ztoI hxr]; omega) (by rw [ztoI hxr, ← Array.getElem?_toList]; exact List.getElem?_eq_getElem hlt) h8 (K adr H locs ls tg (fun _ _ => rfl) ?_ (zAt_st hA hr))
          show zstart mi (ztsw _ _ _ _ _) = some tg
          rw [ztsw, if_neg hd, h6]; exact h7
      · cases hn
    · cases hok
  | lookupswitch d ps =>
    simp only [zokE] at hok
    split at hok
    · next d' bs h1 =>
      simp only [Bool.and_eq_true] at hok
      obtain ⟨⟨h3, h4⟩, h5⟩ := hok
      simp only [znxt, h1] at hn
      split at hn
      · next x r =>
        cases hn
        have hxr : zin32 x := hSo (zI x) List.mem_cons_self
        have hr : ∀ v ∈ st', zokv w.1.length v := fun v hv => hSo v (List.mem_cons_of_mem _ hv)
        obtain ⟨tg, h6, h7⟩ := zlooks_inv h4 h3 x
        exact lv_lookup hx hb hdg h5 rfl (by rw [ztoI hxr]; exact h7) (K adr H locs ls tg (fun _ _ => rfl) h6 (zAt_st hA hr))
      · cases hn
    · cases hok
  | _ => exact absurd hi (by simp)
end ZS
