/-! one step: rows, new cells, copies -/
section ZS
variable {p : Program} {l : Launch} {e : Env} {R : Room} {s : State} {m : MethodId} {args : Array Value} {below : List Frame} {meth : Method} {c : Code} {Q : State → Prop} {D : va_G} {cI cL cZ : ClassId} {A : Nat → Prop} {t0 t1 n0 n1 mi kc ks : Nat} {f0 f1 : Int → Int}
variable {adr : Nat → Nat} {H : Heap} {locs : List Loc} {ls : Array Slot} {L st : List zMV} {w : zWd} {pc nx : Nat}

theorem zlen_inv {w : zWd} {k kd n : Nat} (h : zlen w k kd = some n) : ∃ rs, w.1[k]? = some (kd, n, rs) := by
  unfold zlen at h
  split at h
  · next k' n' rs hk =>
    split at h
    · next hc => cases h; subst hc; exact ⟨rs, hk⟩
    · cases h
  · cases h
theorem zaget_inv {w : zWd} {k kd : Nat} {i v : Int} (h : zaget w k kd i = some v) : ∃ (n : Nat) (rs : List (Option Nat)), w.1[k]? = some (kd, n, rs) ∧ 0 ≤ i ∧ i < n ∧ v = w.2 k i := by
  unfold zaget at h
  split at h
  · next n hn =>
    split at h
    · next hc =>
      cases h
      obtain ⟨rs, hk⟩ := zlen_inv hn
      exact ⟨n, rs, hk, hc.1, hc.2, rfl⟩
    · cases h
  · cases h
theorem zaput_inv {w w' : zWd} {k kd : Nat} {i v : Int} (h : zaput w k kd i v = some w') : ∃ (n : Nat) (rs : List (Option Nat)), w.1[k]? = some (kd, n, rs) ∧ 0 ≤ i ∧ i < n ∧ 2 ≤ k ∧ w' = (w.1, zup w.2 k i v) := by
  unfold zaput at h
  split at h
  · next n hn =>
    split at h
    · next hc =>
      cases h
      obtain ⟨rs, hk⟩ := zlen_inv hn
      exact ⟨n, rs, hk, hc.1, hc.2.1, hc.2.2, rfl⟩
    · cases h
  · cases h
theorem zupd_i {M : Nat → Int → Int} {k : Nat} {i v : Int} (h0 : 0 ≤ i) : (fun j : Nat => Int32.ofInt (zup M k i v k j)) = upd (fun j : Nat => Int32.ofInt (M k j)) i.toNat (Int32.ofInt v) := by
  funext j
  unfold upd zup
  by_cases h : j = i.toNat
  · rw [if_pos h, if_pos ⟨rfl, by omega⟩]
  · rw [if_neg h, if_neg (fun z => h (by have := z.2; omega))]
theorem zupd_l {M : Nat → Int → Int} {k : Nat} {i v : Int} (h0 : 0 ≤ i) : (fun j : Nat => Int64.ofInt (zup M k i v k j)) = vp_updL (fun j : Nat => Int64.ofInt (M k j)) i.toNat (Int64.ofInt v) := by
  funext j
  unfold vp_updL zup
  by_cases h : j = i.toNat
  · rw [if_pos h, if_pos ⟨rfl, by omega⟩]
  · rw [if_neg h, if_neg (fun z => h (by have := z.2; omega))]
theorem zat2 {i : Int} (h0 : 0 ≤ i) : ((i.toNat : Nat) : Int) = i := Int.toNat_of_nonneg h0
theorem zs_rows (hC : zCtx p s m args meth c D cI cL cZ A t0 t1 n0 n1 f0 f1 mi) (i : Instr) (hi : match i with
    | .iaload | .laload | .baload | .arraylength => True
    | _ => False) : zSt p l e R s m args below meth c Q D cI cL cZ A t0 t1 n0 n1 f0 f1 mi kc ks i := by
  obtain ⟨hx, hb, hml, hown, hts, hnw, hK, hlk, hin, hA0, hT0, hT1, hZ⟩ := hC
  intro pc len en L st w tgt L' st' w' adr H locs ls hdg hok hn hA hkc hks hRc hRs hRf hRl K
  have hSo := hA.2.2.2.2.2.2.2.2
  have hI := hA.2.2.1
  have hok5 := hA.2.2.1.2.2.2.2
  have hS := hA.2.2.2.2.2.1
  cases i with
  | iaload =>
    simp only [zokE, Bool.and_eq_true, decide_eq_true_eq] at hok
    obtain ⟨rfl, rfl⟩ := hok
    simp only [znxt] at hn
    split at hn
    · next j k r =>
      obtain ⟨rfl, rfl, rfl, ho⟩ := zfall_inv hn
      cases hg : zaget w k 0 j with
      | none => rw [hg] at ho; cases ho
      | some v =>
        rw [hg] at ho
        cases ho
        obtain ⟨n, rs, g1, g2, g3, rfl⟩ := zaget_inv hg
        have hj : zin32 j := hSo (zI j) List.mem_cons_self
        have hv : zin32 (w.2 k j) := (zsr_int (Or.inl rfl)).mp ((hok5 _ _ g1).2.2.2.2 j)
        have hr : ∀ u ∈ r, u ∈ (zI j :: zR k :: r) := zmem2
        have fin : W p l e R s m args below meth c H locs (w.1.length - kc) (zcs w - ks) Q (F0 m (pc + 1) ls (.int (Int32.ofInt (w.2 k j)) :: r.map (ztr adr))) := zKi hA K rfl hv hr
        by_cases h2 : 2 ≤ k
        · have he := zws_at (adr := adr) (cI := cI) (cL := cL) (cZ := cZ) h2 g1
          refine va_iald hx hb hK hA.1 (k - 2) 0 he rfl (zvpin hj g2 g3) hdg ?_
          show W p l e R s m args below meth c H locs _ _ Q (F0 m (pc + 1) ls (.int (Int32.ofInt (w.2 k ((Int32.ofInt j).toNatClampNeg : Nat))) :: r.map (ztr adr)))
          rw [zclamp hj, zat2 g2]
          exact fin
        · by_cases h1 : k = 0
          · subst h1
            have e1 := hI.1.symm.trans g1
            cases e1
            have hT : va_T .int (adr 0) n0 (fun j => .int (Int32.ofInt (f0 j))) A s s.heap := by rw [hA.2.2.2.1]; exact hT0
            refine va_ti hx hb hT hS (zvpin hj g2 g3) (v := .int (Int32.ofInt (w.2 0 j))) ?_ hdg fin
            show Value.int (Int32.ofInt (f0 ((Int32.ofInt j).toNatClampNeg : Nat))) = _
            rw [zclamp hj, zat2 g2, hI.2.2.1]
          · have h1 : k = 1 := by omega
            subst h1
            have e1 := hI.2.1.symm.trans g1
            cases e1
            have hT : va_T .int (adr 1) n1 (fun j => .int (Int32.ofInt (f1 j))) A s s.heap := by rw [hA.2.2.2.2.1]; exact hT1
            refine va_ti hx hb hT hS (zvpin hj g2 g3) (v := .int (Int32.ofInt (w.2 1 j))) ?_ hdg fin
            show Value.int (Int32.ofInt (f1 ((Int32.ofInt j).toNatClampNeg : Nat))) = _
            rw [zclamp hj, zat2 g2, hI.2.2.2.1]
    · cases hn
  | laload =>
    simp only [zokE, Bool.and_eq_true, decide_eq_true_eq] at hok
    obtain ⟨rfl, rfl⟩ := hok
    simp only [znxt] at hn
    split at hn
    · next j k r =>
      obtain ⟨rfl, rfl, rfl, ho⟩ := zfall_inv hn
      by_cases h2 : 2 ≤ k
      · rw [if_pos h2] at ho
        cases hg : zaget w k 1 j with
        | none => rw [hg] at ho; cases ho
        | some v =>
          rw [hg] at ho
          cases ho
          obtain ⟨n, rs, g1, g2, g3, rfl⟩ := zaget_inv hg
          have hj : zin32 j := hSo (zI j) List.mem_cons_self
          have hv := zsr_long.mp ((hok5 _ _ g1).2.2.2.2 j)
          have fin := zKl hA K rfl hv zmem2
          have he := zws_at (adr := adr) (cI := cI) (cL := cL) (cZ := cZ) h2 g1
          refine va_lald hx hb hK hA.1 (k - 2) 1 he rfl (zvpin hj g2 g3) hdg ?_
          show W p l e R s m args below meth c H locs _ _ Q (F0 m (pc + 1) ls (.long (Int64.ofInt (w.2 k ((Int32.ofInt j).toNatClampNeg : Nat))) :: r.map (ztr adr)))
          rw [zclamp hj, zat2 g2]
          exact fin
      · rw [if_neg h2] at ho; cases ho
    · cases hn
  | baload =>
    simp only [zokE, Bool.and_eq_true, decide_eq_true_eq] at hok
    obtain ⟨rfl, rfl⟩ := hok
    simp only [znxt] at hn
    cases hn
  | arraylength =>
    simp only [zokE, Bool.and_eq_true, decide_eq_true_eq] at hok
    obtain ⟨rfl, rfl⟩ := hok
    simp only [znxt] at hn
    split at hn
    · next k r =>
      obtain ⟨rfl, rfl, rfl, ho⟩ := zfall_inv hn
      unfold zlen1 at ho
      cases hg : zlen w k 0 with
      | none =>
        rw [hg] at ho
        dsimp only at ho
        by_cases h2 : 2 ≤ k
        · rw [if_pos h2] at ho
          cases hg1 : zlen w k 1 with
          | none => rw [hg1] at ho; cases ho
          | some n =>
            rw [hg1] at ho
            cases ho
            obtain ⟨rs, g1⟩ := zlen_inv hg1
            have hn2 : n < 2147483648 := (hok5 _ _ g1).2.1
            have fin : W p l e R s m args below meth c H locs (w.1.length - kc) (zcs w - ks) Q (F0 m (pc + 1) ls (.int (Int32.ofInt (n : Int)) :: r.map (ztr adr))) := zKi hA K rfl ⟨by omega, by omega⟩ zmem1
            have en : Int32.ofNat n = Int32.ofInt (n : Int) := (Int32.ofInt_eq_ofNat).symm
            have he := zws_at (adr := adr) (cI := cI) (cL := cL) (cZ := cZ) h2 g1
            exact va_alen hx hb hK hA.1 (k - 2) 1 he (ty := .long) rfl en hdg fin
        · rw [if_neg h2] at ho; cases ho
      | some n =>
        rw [hg] at ho
        cases ho
        obtain ⟨rs, g1⟩ := zlen_inv hg
        have hn2 : n < 2147483648 := (hok5 _ _ g1).2.1
        have fin : W p l e R s m args below meth c H locs (w.1.length - kc) (zcs w - ks) Q (F0 m (pc + 1) ls (.int (Int32.ofInt (n : Int)) :: r.map (ztr adr))) := zKi hA K rfl ⟨by omega, by omega⟩ zmem1
        have en : Int32.ofNat n = Int32.ofInt (n : Int) := (Int32.ofInt_eq_ofNat).symm
        by_cases h2 : 2 ≤ k
        · have he := zws_at (adr := adr) (cI := cI) (cL := cL) (cZ := cZ) h2 g1
          exact va_alen hx hb hK hA.1 (k - 2) 0 he (ty := .int) rfl en hdg fin
        · by_cases h1 : k = 0
          · subst h1
            have e1 := hI.1.symm.trans g1
            cases e1
            have hT : va_T .int (adr 0) n0 (fun j => .int (Int32.ofInt (f0 j))) A s s.heap := by rw [hA.2.2.2.1]; exact hT0
            exact va_tlen hx hb hT hS en hdg fin
          · have h1 : k = 1 := by omega
            subst h1
            have e1 := hI.2.1.symm.trans g1
            cases e1
            have hT : va_T .int (adr 1) n1 (fun j => .int (Int32.ofInt (f1 j))) A s s.heap := by rw [hA.2.2.2.2.1]; exact hT1
            exact va_tlen hx hb hT hS en hdg fin
    · cases hn
  | _ => exact absurd hi (by simp)
theorem zs_stores (hC : zCtx p s m args meth c D cI cL cZ A t0 t1 n0 n1 f0 f1 mi) (i : Instr) (hi : match i with
    | .iastore | .lastore | .bastore => True
    | _ => False) : zSt p l e R s m args below meth c Q D cI cL cZ A t0 t1 n0 n1 f0 f1 mi kc ks i := by
  obtain ⟨hx, hb, hml, hown, hts, hnw, hK, hlk, hin, hA0, hT0, hT1, hZ⟩ := hC
  intro pc len en L st w tgt L' st' w' adr H locs ls hdg hok hn hA hkc hks hRc hRs hRf hRl K
  have hSo := hA.2.2.2.2.2.2.2.2
  have hI := hA.2.2.1
  have hok5 := hA.2.2.1.2.2.2.2
  have hS := hA.2.2.2.2.2.1
  cases i with
  | iastore =>
    simp only [zokE, Bool.and_eq_true, decide_eq_true_eq] at hok
    obtain ⟨rfl, rfl⟩ := hok
    simp only [znxt] at hn
    split at hn
    · next v j k r =>
      cases hp : zaput w k 0 j v with
      | none => rw [hp] at hn; cases hn
      | some w2 =>
        rw [hp] at hn
        cases hn
        obtain ⟨n, rs, g1, g2, g3, h2, rfl⟩ := zaput_inv hp
        have hj : zin32 j := hSo (zI j) (List.mem_cons_of_mem _ List.mem_cons_self)
        have hv := hSo (zI v) List.mem_cons_self
        have he := zws_at (adr := adr) (cI := cI) (cL := cL) (cZ := cZ) h2 g1
        refine va_iast hx hb hK hA.1 hA.2.1 hS (k - 2) 0 he rfl (zvpin hj g2 g3) hdg fun H1 locs1 hP hD hS1 => K adr H1 locs1 ls _ (fun _ _ => rfl) rfl ?_
        rw [zclamp hj, ← zupd_i g2] at hP hD
        have e1 := zws_up (adr := adr) (cI := cI) (cL := cL) (cZ := cZ) h2 g1 (zup w.2 k j v k) (zup w.2 k j v) (fun j' hj' => by funext y; simp [zup, hj']) rfl
        refine ⟨by rw [e1]; exact hP, by rw [e1]; exact hD, zInv_up hI g1 h2 ((zsr_int (Or.inl rfl)).mpr hv), hA.2.2.2.1, hA.2.2.2.2.1, hS1, hA.2.2.2.2.2.2.1, hA.2.2.2.2.2.2.2.1, fun u hu => hSo u (List.mem_cons_of_mem _ (List.mem_cons_of_mem _ (List.mem_cons_of_mem _ hu)))⟩
    · cases hn
  | lastore =>
    simp only [zokE, Bool.and_eq_true, decide_eq_true_eq] at hok
    obtain ⟨rfl, rfl⟩ := hok
    simp only [znxt] at hn
    split at hn
    · next v j k r =>
      cases hp : zaput w k 1 j v with
      | none => rw [hp] at hn; cases hn
      | some w2 =>
        rw [hp] at hn
        cases hn
        obtain ⟨n, rs, g1, g2, g3, h2, rfl⟩ := zaput_inv hp
        have hj : zin32 j := hSo (zI j) (List.mem_cons_of_mem _ List.mem_cons_self)
        have hv := hSo (zL v) List.mem_cons_self
        have he := zws_at (adr := adr) (cI := cI) (cL := cL) (cZ := cZ) h2 g1
        refine va_last hx hb hK hA.1 hA.2.1 hS (k - 2) 1 he rfl (zvpin hj g2 g3) hdg fun H1 locs1 hP hD hS1 => K adr H1 locs1 ls _ (fun _ _ => rfl) rfl ?_
        rw [zclamp hj, ← zupd_l g2] at hP hD
        have e1 := zws_up (adr := adr) (cI := cI) (cL := cL) (cZ := cZ) h2 g1 (zup w.2 k j v k) (zup w.2 k j v) (fun j' hj' => by funext y; simp [zup, hj']) rfl
        refine ⟨by rw [e1]; exact hP, by rw [e1]; exact hD, zInv_up hI g1 h2 (zsr_long.mpr hv), hA.2.2.2.1, hA.2.2.2.2.1, hS1, hA.2.2.2.2.2.2.1, hA.2.2.2.2.2.2.2.1, fun u hu => hSo u (List.mem_cons_of_mem _ (List.mem_cons_of_mem _ (List.mem_cons_of_mem _ hu)))⟩
    · cases hn
  | bastore =>
    simp only [zokE, Bool.and_eq_true, decide_eq_true_eq] at hok
    obtain ⟨rfl, rfl⟩ := hok
    simp only [znxt] at hn
    cases hn
  | _ => exact absurd hi (by simp)
end ZS
