/-! one step: constants, locals, numbers, stack, jumps -/
section ZS
variable {p : Program} {l : Launch} {e : Env} {R : Room} {s : State} {m : MethodId} {args : Array Value} {below : List Frame} {meth : Method} {c : Code} {Q : State → Prop} {D : va_G} {cI cL cZ : ClassId} {A : Nat → Prop} {t0 t1 n0 n1 mi kc ks : Nat} {f0 f1 : Int → Int}
variable {adr : Nat → Nat} {H : Heap} {locs : List Loc} {ls : Array Slot} {L st : List zMV} {w : zWd} {pc nx : Nat}
/-- what zstep says of one instruction -/
def zSt (p : Program) (l : Launch) (e : Env) (R : Room) (s : State) (m : MethodId) (args : Array Value) (below : List Frame) (meth : Method) (c : Code) (Q : State → Prop) (D : va_G) (cI cL cZ : ClassId) (A : Nat → Prop) (t0 t1 n0 n1 : Nat) (f0 f1 : Int → Int) (mi kc ks : Nat) (i : Instr) : Prop :=
  ∀ (pc len : Nat) (en : zEnt) (L st : List zMV) (w : zWd) (tgt : Option Nat) (L' st' : List zMV) (w' : zWd) (adr : Nat → Nat) (H : Heap) (locs : List Loc) (ls : Array Slot),
    decode (zmC mi) pc = .ok (i, len) → zokE mi pc i len en = true → znxt en L st w = some (tgt, L', st', w') →
    zAt D cI cL cZ A t0 t1 n0 n1 f0 f1 mi s.heap adr H locs ls L st w → kc ≤ w.1.length → ks ≤ zcs w → w'.1.length - kc ≤ R.cells → zcs w' - ks ≤ R.slots → 1 ≤ R.frames → 40 ≤ R.locals →
    zK p l e R s m args below meth c Q D cI cL cZ A t0 t1 n0 n1 f0 f1 mi kc ks w.1.length adr tgt (pc + len) L' st' w' →
    W p l e R s m args below meth c H locs (w.1.length - kc) (zcs w - ks) Q (F0 m pc ls (st.map (ztr adr)))
theorem zs_const (hC : zCtx p s m args meth c D cI cL cZ A t0 t1 n0 n1 f0 f1 mi) (i : Instr) (hi : match i with
    | .iconst _ | .bipush _ | .sipush _ | .lconst _ => True
    | .ldc _ | .ldc_w _ | .ldc2_w _ => True
    | _ => False) : zSt p l e R s m args below meth c Q D cI cL cZ A t0 t1 n0 n1 f0 f1 mi kc ks i := by
  obtain ⟨hx, hb, hml, hown, hts, hnw, hK, hlk, hin, hA0, hT0, hT1, hZ⟩ := hC
  intro pc len en L st w tgt L' st' w' adr H locs ls hdg hok hn hA hkc hks hRc hRs hRf hRl K
  cases i with
  | iconst n =>
    simp only [zokE, Bool.and_eq_true, decide_eq_true_eq] at hok
    obtain ⟨⟨rfl, rfl⟩, h3⟩ := hok
    obtain ⟨rfl, rfl, rfl, ho⟩ := zfall_inv hn
    cases ho
    exact lv_iconst hx hb hdg rfl (zKi hA K rfl (zb32_in h3) fun _ h => h)
  | bipush n =>
    simp only [zokE, Bool.and_eq_true, decide_eq_true_eq] at hok
    obtain ⟨h1, rfl⟩ := hok
    split at h1
    · next v hv =>
      simp only [Bool.and_eq_true, decide_eq_true_eq] at h1
      simp only [znxt, hv] at hn
      obtain ⟨rfl, rfl, rfl, ho⟩ := zfall_inv hn
      cases ho
      exact lv_bipush hx hb hdg h1.1 (zKi hA K rfl (zb32_in h1.2) fun _ h => h)
    · cases h1
  | sipush n =>
    simp only [zokE, Bool.and_eq_true, decide_eq_true_eq] at hok
    obtain ⟨h1, rfl⟩ := hok
    split at h1
    · next v hv =>
      simp only [Bool.and_eq_true, decide_eq_true_eq] at h1
      simp only [znxt, hv] at hn
      obtain ⟨rfl, rfl, rfl, ho⟩ := zfall_inv hn
      cases ho
      exact lv_sipush hx hb hdg h1.1 (zKi hA K rfl (zb32_in h1.2) fun _ h => h)
    · cases h1
  | lconst n =>
    simp only [zokE, Bool.and_eq_true, decide_eq_true_eq] at hok
    obtain ⟨rfl, rfl⟩ := hok
    obtain ⟨rfl, rfl, rfl, ho⟩ := zfall_inv hn
    cases ho
    exact lv_lconst hx hb hdg (v := Int64.ofInt (n.val : Int)) (by rfl) (zKl hA K rfl ⟨by omega, by have := n.isLt; omega⟩ fun _ h => h)
  | ldc ix =>
    simp only [zokE, Bool.and_eq_true, decide_eq_true_eq] at hok
    obtain ⟨h1, rfl⟩ := hok
    split at h1
    · next v hv =>
      simp only [Bool.and_eq_true] at h1
      obtain ⟨q, hq, hq2⟩ := zany3 h1.1
      simp only [Bool.and_eq_true, beq_iff_eq] at hq2
      obtain ⟨q1, q2, q3⟩ := hq2
      have hw := zTW_of (List.mem_of_getElem? (zKT_ok q hq)) rfl
      rw [q1, q2, q3] at hw
      simp only [znxt, hv] at hn
      obtain ⟨rfl, rfl, rfl, ho⟩ := zfall_inv hn
      cases ho
      exact lv_ldc hx hb hown (hts _ hw) hdg (zKi hA K rfl (zb32_in h1.2) fun _ h => h)
    · cases h1
  | ldc_w ix =>
    simp only [zokE, Bool.and_eq_true, decide_eq_true_eq] at hok
    obtain ⟨h1, rfl⟩ := hok
    split at h1
    · next v hv =>
      simp only [Bool.and_eq_true] at h1
      obtain ⟨q, hq, hq2⟩ := zany3 h1.1
      simp only [Bool.and_eq_true, beq_iff_eq] at hq2
      obtain ⟨q1, q2, q3⟩ := hq2
      have hw := zTW_of (List.mem_of_getElem? (zKT_ok q hq)) rfl
      rw [q1, q2, q3] at hw
      simp only [znxt, hv] at hn
      obtain ⟨rfl, rfl, rfl, ho⟩ := zfall_inv hn
      cases ho
      exact lv_ldcw hx hb hown (hts _ hw) hdg (zKi hA K rfl (zb32_in h1.2) fun _ h => h)
    · cases h1
  | ldc2_w ix =>
    simp only [zokE, Bool.and_eq_true, decide_eq_true_eq] at hok
    obtain ⟨h1, rfl⟩ := hok
    split at h1
    · next v hv =>
      simp only [Bool.and_eq_true] at h1
      obtain ⟨q, hq, hq2⟩ := zany3 h1.1
      simp only [Bool.and_eq_true, beq_iff_eq] at hq2
      obtain ⟨q1, q2, q3⟩ := hq2
      have hw := zTW_of (List.mem_of_getElem? (zKL_ok q hq)) rfl
      rw [q1, q2, q3] at hw
      simp only [znxt, hv] at hn
      obtain ⟨rfl, rfl, rfl, ho⟩ := zfall_inv hn
      cases ho
      exact lv_ldc2 hx hb hown (hts _ hw) hdg (zKl hA K rfl (zb64_in h1.2) fun _ h => h)
    · cases h1
  | _ => exact absurd hi (by simp)
theorem zs_locals (hC : zCtx p s m args meth c D cI cL cZ A t0 t1 n0 n1 f0 f1 mi) (i : Instr) (hi : match i with
    | .iload_n _ | .iload _ | .lload_n _ | .lload _ | .aload_n _ | .aload _ => True
    | .istore_n _ | .istore _ | .lstore_n _ | .lstore _ | .astore_n _ | .astore _ | .iinc _ _ => True
    | _ => False) : zSt p l e R s m args below meth c Q D cI cL cZ A t0 t1 n0 n1 f0 f1 mi kc ks i := by
  obtain ⟨hx, hb, hml, hown, hts, hnw, hK, hlk, hin, hA0, hT0, hT1, hZ⟩ := hC
  intro pc len en L st w tgt L' st' w' adr H locs ls hdg hok hn hA hkc hks hRc hRs hRf hRl K
  have hlv := hA.2.2.2.2.2.2.1
  have hLo := hA.2.2.2.2.2.2.2.1
  have hSo := hA.2.2.2.2.2.2.2.2
  have loadI : ∀ {j : Nat} {x : Int}, L[j]? = some (zI x) → ls[j]? = some (.val (.int (Int32.ofInt x))) ∧ zin32 x := fun h => ⟨hlv.2.2.2 _ _ h (fun z => by cases z), hLo _ (List.mem_of_getElem? h)⟩
  have loadL : ∀ {j : Nat} {x : Int}, L[j]? = some (zL x) → ls[j]? = some (.val (.long (Int64.ofInt x))) ∧ zin64 x := fun h => ⟨hlv.2.2.2 _ _ h (fun z => by cases z), hLo _ (List.mem_of_getElem? h)⟩
  have loadR : ∀ {j : Nat} {x : Nat}, L[j]? = some (zR x) → ls[j]? = some (.val (.ref (adr x))) ∧ x < w.1.length := fun h => ⟨hlv.2.2.2 _ _ h (fun z => by cases z), hLo _ (List.mem_of_getElem? h)⟩
  have store1 : ∀ {j : Nat} {v : zMV} {r : List zMV} {ls' : Array Slot}, j < L.length → zokv w.1.length v → (∀ u ∈ r, zokv w.1.length u) → lv_has ls' (zmL mi) ((j, ztr adr v) :: (zll2 adr L).filter (fun q => !(q.1 == j) && !(q.1 + 1 == j && q.2.category == 2))) → zAt D cI cL cZ A t0 t1 n0 n1 f0 f1 mi s.heap adr H locs ls' (zset1 L j v) r w := fun hj hv hr h' => zAt_lo hA (zlv_set1 hlv hj h') (zset1_ok hj hLo hv) hr
  cases i with
  | iload_n k =>
    simp only [zokE, Bool.and_eq_true, decide_eq_true_eq] at hok
    obtain ⟨rfl, rfl⟩ := hok
    simp only [znxt] at hn
    split at hn
    · next x hj =>
      obtain ⟨rfl, rfl, rfl, ho⟩ := zfall_inv hn
      cases ho
      exact lv_iload_n hx hb hdg rfl (loadI hj).1 (zKi hA K rfl (loadI hj).2 fun _ h => h)
    · cases hn
  | iload k =>
    simp only [zokE, Bool.and_eq_true, decide_eq_true_eq] at hok
    obtain ⟨rfl, rfl⟩ := hok
    simp only [znxt] at hn
    split at hn
    · next x hj =>
      obtain ⟨rfl, rfl, rfl, ho⟩ := zfall_inv hn
      cases ho
      exact lv_iload hx hb hdg (loadI hj).1 (zKi hA K rfl (loadI hj).2 fun _ h => h)
    · cases hn
  | lload_n k =>
    simp only [zokE, Bool.and_eq_true, decide_eq_true_eq] at hok
    obtain ⟨rfl, rfl⟩ := hok
    simp only [znxt] at hn
    split at hn
    · next x hj =>
      obtain ⟨rfl, rfl, rfl, ho⟩ := zfall_inv hn
      cases ho
      exact lv_lload_n hx hb hdg rfl (loadL hj).1 (zKl hA K rfl (loadL hj).2 fun _ h => h)
    · cases hn
  | lload k =>
    simp only [zokE, Bool.and_eq_true, decide_eq_true_eq] at hok
    obtain ⟨rfl, rfl⟩ := hok
    simp only [znxt] at hn
    split at hn
    · next x hj =>
      obtain ⟨rfl, rfl, rfl, ho⟩ := zfall_inv hn
      cases ho
      exact lv_lload hx hb hdg (loadL hj).1 (zKl hA K rfl (loadL hj).2 fun _ h => h)
    · cases hn
  | aload_n k =>
    simp only [zokE, Bool.and_eq_true, decide_eq_true_eq] at hok
    obtain ⟨rfl, rfl⟩ := hok
    simp only [znxt] at hn
    split at hn
    · next x hj =>
      obtain ⟨rfl, rfl, rfl, ho⟩ := zfall_inv hn
      cases ho
      exact lv_aload_n hx hb hdg rfl (loadR hj).1 (zKs hA K (fun v hv => (List.mem_cons.mp hv).elim (fun q => by rw [q]; exact (loadR hj).2) (hSo v)) rfl)
    · cases hn
  | aload k =>
    simp only [zokE, Bool.and_eq_true, decide_eq_true_eq] at hok
    obtain ⟨rfl, rfl⟩ := hok
    simp only [znxt] at hn
    split at hn
    · next x hj =>
      obtain ⟨rfl, rfl, rfl, ho⟩ := zfall_inv hn
      cases ho
      exact lv_aload hx hb hdg (loadR hj).1 (zKs hA K (fun v hv => (List.mem_cons.mp hv).elim (fun q => by rw [q]; exact (loadR hj).2) (hSo v)) rfl)
    · cases hn
  | istore_n k =>
    simp only [zokE, Bool.and_eq_true, decide_eq_true_eq] at hok
    obtain ⟨rfl, rfl⟩ := hok
    simp only [znxt] at hn
    split at hn
    · next x r =>
      split at hn
      · next hj =>
        obtain ⟨rfl, rfl, rfl, ho⟩ := zfall_inv hn
        cases ho
        exact lv_istore_n hx hb hdg rfl (zlv_has hlv) (by rw [← hlv.2.2.1]; exact hj) rfl fun ls' h' => K adr H locs ls' _ (fun _ _ => rfl) rfl (store1 (v := zI x) hj (hSo _ List.mem_cons_self) (fun u hu => hSo u (List.mem_cons_of_mem _ hu)) h')
      · cases hn
    · cases hn
  | istore k =>
    simp only [zokE, Bool.and_eq_true, decide_eq_true_eq] at hok
    obtain ⟨rfl, rfl⟩ := hok
    simp only [znxt] at hn
    split at hn
    · next x r =>
      split at hn
      · next hj =>
        obtain ⟨rfl, rfl, rfl, ho⟩ := zfall_inv hn
        cases ho
        exact lv_istore hx hb hdg (zlv_has hlv) (by rw [← hlv.2.2.1]; exact hj) rfl fun ls' h' => K adr H locs ls' _ (fun _ _ => rfl) rfl (store1 (v := zI x) hj (hSo _ List.mem_cons_self) (fun u hu => hSo u (List.mem_cons_of_mem _ hu)) h')
      · cases hn
    · cases hn
  | astore_n k =>
    simp only [zokE, Bool.and_eq_true, decide_eq_true_eq] at hok
    obtain ⟨rfl, rfl⟩ := hok
    simp only [znxt] at hn
    split at hn
    · next x r =>
      split at hn
      · next hj =>
        obtain ⟨rfl, rfl, rfl, ho⟩ := zfall_inv hn
        cases ho
        exact lv_astore_n hx hb hdg rfl (zlv_has hlv) (by rw [← hlv.2.2.1]; exact hj) rfl fun ls' h' => K adr H locs ls' _ (fun _ _ => rfl) rfl (store1 (v := zR x) hj (hSo _ List.mem_cons_self) (fun u hu => hSo u (List.mem_cons_of_mem _ hu)) h')
      · cases hn
    · cases hn
  | astore k =>
    simp only [zokE, Bool.and_eq_true, decide_eq_true_eq] at hok
    obtain ⟨rfl, rfl⟩ := hok
    simp only [znxt] at hn
    split at hn
    · next x r =>
      split at hn
      · next hj =>
        obtain ⟨rfl, rfl, rfl, ho⟩ := zfall_inv hn
        cases ho
        exact lv_astore hx hb hdg (zlv_has hlv) (by rw [← hlv.2.2.1]; exact hj) rfl fun ls' h' => K adr H locs ls' _ (fun _ _ => rfl) rfl (store1 (v := zR x) hj (hSo _ List.mem_cons_self) (fun u hu => hSo u (List.mem_cons_of_mem _ hu)) h')
      · cases hn
    · cases hn
  | lstore_n k =>
    simp only [zokE, Bool.and_eq_true, decide_eq_true_eq] at hok
    obtain ⟨rfl, rfl⟩ := hok
    simp only [znxt] at hn
    split at hn
    · next x r =>
      split at hn
      · next hj =>
        obtain ⟨rfl, rfl, rfl, ho⟩ := zfall_inv hn
        cases ho
        exact lv_lstore_n hx hb hdg rfl (zlv_has hlv) (by rw [← hlv.2.2.1]; exact hj) rfl fun ls' h' => K adr H locs ls' _ (fun _ _ => rfl) rfl (zAt_lo hA (zlv_set2 (v := zL x) hlv hj h') (zset2_ok (by omega) hLo (hSo _ List.mem_cons_self)) (fun u hu => hSo u (List.mem_cons_of_mem _ hu)))
      · cases hn
    · cases hn
  | lstore k =>
    simp only [zokE, Bool.and_eq_true, decide_eq_true_eq] at hok
    obtain ⟨rfl, rfl⟩ := hok
    simp only [znxt] at hn
    split at hn
    · next x r =>
      split at hn
      · next hj =>
        obtain ⟨rfl, rfl, rfl, ho⟩ := zfall_inv hn
        cases ho
        exact lv_lstore hx hb hdg (zlv_has hlv) (by rw [← hlv.2.2.1]; exact hj) rfl fun ls' h' => K adr H locs ls' _ (fun _ _ => rfl) rfl (zAt_lo hA (zlv_set2 (v := zL x) hlv hj h') (zset2_ok (by omega) hLo (hSo _ List.mem_cons_self)) (fun u hu => hSo u (List.mem_cons_of_mem _ hu)))
      · cases hn
    · cases hn
  | iinc k n =>
    simp only [zokE, Bool.and_eq_true, decide_eq_true_eq] at hok
    obtain ⟨rfl, rfl⟩ := hok
    simp only [znxt] at hn
    split at hn
    · next x hx1 =>
      split at hn
      · next hj =>
        obtain ⟨rfl, rfl, rfl, ho⟩ := zfall_inv hn
        cases ho
        have hmem : (k, Value.int (Int32.ofInt x)) ∈ zll2 adr L := zll2_mem.mpr ⟨zI x, hx1, fun z => (by cases z), rfl⟩
        obtain ⟨kk, hkk⟩ := List.getElem?_of_mem hmem
        exact lv_iinc hx hb hdg (zlv_has hlv) hkk (v := Int32.ofInt (zadd x n)) (zofI _).symm (by rw [← hlv.2.2.1]; exact hj) rfl fun ls' h' => K adr H locs ls' _ (fun _ _ => rfl) rfl (store1 (v := zI (zadd x n)) hj (zin32_toInt _) hSo h')
      · cases hn
    · cases hn
  | _ => exact absurd hi (by simp)
end ZS
