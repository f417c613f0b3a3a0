/-! one step: fields, rows -/
section ZS
variable {p : Program} {l : Launch} {e : Env} {R : Room} {s : State} {m : MethodId} {args : Array Value} {below : List Frame} {meth : Method} {c : Code} {Q : State → Prop} {D : va_G} {cI cL cZ : ClassId} {A : Nat → Prop} {t0 t1 n0 n1 mi kc ks : Nat} {f0 f1 : Int → Int}
variable {adr : Nat → Nat} {H : Heap} {locs : List Loc} {ls : Array Slot} {L st : List zMV} {w : zWd} {pc nx : Nat}

theorem zgetf_inv {adr : Nat → Nat} {w : zWd} {k ci j : Nat} {v : zMV} (hw : zok w) (h : zgetf w k ci j = some v) : ∃ n rs, w.1[k]? = some (3 + ci, n, rs) ∧ j < znf ci ∧ zfv adr (w.2 k) ci rs j = ztr adr v ∧ zokv w.1.length v := by
  unfold zgetf at h
  split at h
  · next kd n rs hk =>
    split at h
    · next hc =>
      obtain ⟨rfl, hj⟩ := hc
      refine ⟨n, rs, hk, hj, ?_⟩
      have h5 := zsr_obj.mp ((hw k _ hk).2.2.2.2 (j : Int))
      have h3 := (hw k _ hk).2.2.1
      unfold zfv
      generalize hty : zfty ci j = ty at h h5 ⊢
      match ty, h, h5 with
      | 0, h, h5 => cases h; exact ⟨rfl, by show zin32 _; simpa using h5⟩
      | 1, h, h5 => cases h; exact ⟨rfl, by show zin64 _; simpa using h5⟩
      | 2, h, h5 => cases h; exact ⟨rfl, by show zin32 _; simpa using h5⟩
      | t + 3, h, _ =>
        simp only at h ⊢
        split at h
        · next r hr => cases h; rw [hr]; exact ⟨rfl, h3 _ _ hr⟩
        · cases h
    · cases h
  · cases h
theorem zputf_inv {w w' : zWd} {k ci j : Nat} {v : zMV} (h : zputf w k ci j v = some w') : ∃ n rs, w.1[k]? = some (3 + ci, n, rs) ∧ j < znf ci ∧ 2 ≤ k ∧ ((∃ x, (zfty ci j = 0 ∨ (zfty ci j = 2 ∧ (x = 0 ∨ x = 1))) ∧ v = zI x ∧ w' = (w.1, zup w.2 k j x)) ∨ (∃ x, zfty ci j = 1 ∧ v = zL x ∧ w' = (w.1, zup w.2 k j x)) ∨ ∃ r, zfty ci j = 3 ∧ v = zR r ∧ w' = (w.1.set k (3 + ci, n, rs.set j (some r)), w.2)) := by
  unfold zputf at h
  split at h
  · next kd n rs hk =>
    split at h
    · next hc =>
      obtain ⟨rfl, hj, h2⟩ := hc
      refine ⟨n, rs, hk, hj, h2, ?_⟩
      split at h
      · next x hty => cases h; exact Or.inl ⟨x, Or.inl hty, rfl, rfl⟩
      · next x hty => cases h; exact Or.inr (Or.inl ⟨x, hty, rfl, rfl⟩)
      · next x hty =>
        split at h
        · next hx => cases h; exact Or.inl ⟨x, Or.inr ⟨hty, hx⟩, rfl, rfl⟩
        · cases h
      · next r hty => cases h; exact Or.inr (Or.inr ⟨r, hty, rfl, rfl⟩)
      · cases h
    · cases h
  · cases h
theorem znar {t : FieldType} {x : Int} (h : zfc t = 0 ∨ (zfc t = 2 ∧ (x = 0 ∨ x = 1))) : narrow t (.int (Int32.ofInt x)) = .int (Int32.ofInt x) ∧ fits t (.int (Int32.ofInt x)) = true := by
  rcases h with h | ⟨h, rfl | rfl⟩
  · cases t <;> simp [zfc] at h
    exact ⟨rfl, rfl⟩
  · cases t <;> simp [zfc] at h
    exact ⟨rfl, rfl⟩
  · cases t <;> simp [zfc] at h
    exact ⟨rfl, rfl⟩
theorem znarL {t : FieldType} {x : Int} (h : zfc t = 1) : narrow t (.long (Int64.ofInt x)) = .long (Int64.ofInt x) ∧ fits t (.long (Int64.ofInt x)) = true := by
  cases t <;> simp [zfc] at h
  exact ⟨rfl, rfl⟩
theorem znarR {t : FieldType} {a : Nat} (h : zfc t = 3) : narrow t (.ref a) = .ref a ∧ fits t (.ref a) = true := by
  cases t <;> simp [zfc] at h
  · exact ⟨rfl, rfl⟩
  · exact ⟨rfl, rfl⟩
theorem zs_fields (hC : zCtx p s m args meth c D cI cL cZ A t0 t1 n0 n1 f0 f1 mi) (i : Instr) (hi : match i with
    | .getfield _ | .getstatic _ | .putfield _ => True
    | _ => False) : zSt p l e R s m args below meth c Q D cI cL cZ A t0 t1 n0 n1 f0 f1 mi kc ks i := by
  obtain ⟨hx, hb, hml, hown, hts, hnw, hK, hlk, hin, hA0, hT0, hT1, hZ⟩ := hC
  intro pc len en L st w tgt L' st' w' adr H locs ls hdg hok hn hA hkc hks hRc hRs hRf hRl K
  have hSo := hA.2.2.2.2.2.2.2.2
  have hI := hA.2.2.1
  have hok5 := hA.2.2.1.2.2.2.2
  cases i with
  | getfield ix =>
    simp only [zokE, Bool.and_eq_true, decide_eq_true_eq] at hok
    obtain ⟨⟨h1, rfl⟩, h3⟩ := hok
    obtain ⟨q, hq, hq2⟩ := zany3 h3
    simp only [Bool.and_eq_true, beq_iff_eq] at hq2
    obtain ⟨q1, q2, q3, q4⟩ := hq2
    obtain ⟨hci, hsl, hpl⟩ := zFT_ok q hq
    have hw := zTW_of (List.mem_of_getElem? hpl) rfl
    rw [q1, q2, q3, q4] at hw
    rw [q3] at hci hsl
    rw [q4] at hsl
    simp only [znxt, h1] at hn
    split at hn
    · next k r =>
      obtain ⟨rfl, rfl, rfl, ho⟩ := zfall_inv hn
      cases hg : zgetf w k en.2.1 en.2.2 with
      | none => rw [hg] at ho; cases ho
      | some v =>
        rw [hg] at ho
        cases ho
        obtain ⟨n, rs, g1, g2, g3, g4⟩ := zgetf_inv (adr := adr) hok5 hg
        have h2 := zInv_k hI g1 (by omega)
        have he := zws_at (adr := adr) (cI := cI) (cL := cL) (cZ := cZ) h2 g1
        rw [zent_obj] at he
        refine va_get (T := (zcl en.2.1).2.1) (N := znf en.2.1) (C := (zcl en.2.1).1) hx hb hts (zcl_in hci) hown hK hA.1 (k - 2) he (by rw [(zcl_at _ hci).1, ← (zcl_at _ hci).2]) en.2.2 hsl (hts _ hw) (fun _ h => h) (v := ztr adr v) (by rw [zfs_get _ _ _ _ hsl, g3]) hdg ?_
        exact zKs hA K (fun u hu => (List.mem_cons.mp hu).elim (fun z => by rw [z]; exact g4) (fun z => hSo u (List.mem_cons_of_mem _ z))) rfl
    · cases hn
  | getstatic ix =>
    simp only [zokE, Bool.and_eq_true, decide_eq_true_eq] at hok
    obtain ⟨⟨h1, rfl⟩, h3⟩ := hok
    obtain ⟨q, hq, hq2⟩ := zany3 h3
    simp only [Bool.and_eq_true, beq_iff_eq] at hq2
    obtain ⟨q1, q2⟩ := hq2
    exact (zST_no q hq).elim
  | putfield ix =>
    simp only [zokE, Bool.and_eq_true, decide_eq_true_eq] at hok
    obtain ⟨⟨⟨h1, rfl⟩, h3⟩, hfin⟩ := hok
    obtain ⟨q, hq, hq2⟩ := zany3 h3
    simp only [Bool.and_eq_true, beq_iff_eq] at hq2
    obtain ⟨q1, q2, q3, q4⟩ := hq2
    obtain ⟨hci, hsl, hpl⟩ := zFT_ok q hq
    have hw := zTW_of (List.mem_of_getElem? hpl) rfl
    rw [q1, q2, q3, q4] at hw
    rw [q3] at hci hsl
    rw [q4] at hsl
    simp only [znxt, h1] at hn
    split at hn
    · next v k r =>
      cases hp : zputf w k en.2.1 en.2.2 v with
      | none => rw [hp] at hn; cases hn
      | some w2 =>
        rw [hp] at hn
        cases hn
        obtain ⟨n, rs, g1, -, h2, g3⟩ := zputf_inv hp
        have he := zws_at (adr := adr) (cI := cI) (cL := cL) (cZ := cZ) h2 g1
        rw [zent_obj] at he
        have hcl := zcl_at _ hci
        have hcl2 : vwCl[en.2.1]? = some ((zcl en.2.1).1, (zcl en.2.1).2.1, znf en.2.1) := by rw [hcl.1, ← hcl.2]
        have hfc := zfc_ok _ hci _ hsl
        have hr : ∀ u ∈ st', zokv w.1.length u := fun u hu => hSo u (List.mem_cons_of_mem _ (List.mem_cons_of_mem _ hu))
        have hvo : zokv w.1.length v := hSo v List.mem_cons_self
        -- the two rows, one continuation
        have row : ∀ (nv : narrow (zty en.2.1 en.2.2) (ztr adr v) = ztr adr v) (fv : fits (zty en.2.1 en.2.2) (ztr adr v) = true) (kk : ∀ (H1 : Heap) (locs1 : List Loc), va_P D vwCl ((zws adr cI cL cZ w).set (k - 2) (adr k, .inr (en.2.1, ((List.range (znf en.2.1)).map (zfv adr (w.2 k) en.2.1 rs)).set en.2.2 (ztr adr v)))) H1 → va_D A ((zws adr cI cL cZ w).set (k - 2) (adr k, .inr (en.2.1, ((List.range (znf en.2.1)).map (zfv adr (w.2 k) en.2.1 rs)).set en.2.2 (ztr adr v)))) → va_S A s.heap H1 locs1 → W p l e R s m args below meth c H1 locs1 (w.1.length - kc) (zcs w - ks) Q (F0 m (pc + 3) ls (st'.map (ztr adr)))),
            W p l e R s m args below meth c H locs (w.1.length - kc) (zcs w - ks) Q (F0 m pc ls (ztr adr v :: Value.ref (adr k) :: st'.map (ztr adr))) := by
          intro nv fv kk
          by_cases hf : ((zcl en.2.1).2.1 en.2.2).2.2.2 = true
          · rw [hf] at hfin
            simp only [Bool.not_true, Bool.false_or, Bool.and_eq_true, beq_iff_eq] at hfin
            exact va_putF (T := (zcl en.2.1).2.1) (N := znf en.2.1) (C := (zcl en.2.1).1) hx hb hts (zcl_in hci) (zty en.2.1) (zty_ok _ hci) (znm_ok _ hci) hown hK hA.1 hA.2.1 hA.2.2.2.2.2.1 (k - 2) he hcl2 en.2.2 hsl (hts _ hw) (fun _ h => h) hf (hin hfin.1) (by rw [zdecl_ok _ hci _ hsl, hfin.2]) (zty_ok _ hci _ hsl) nv fv (by simpa using hsl) hdg kk
          · exact va_put (T := (zcl en.2.1).2.1) (N := znf en.2.1) (C := (zcl en.2.1).1) hx hb hts (zcl_in hci) (zty en.2.1) (zty_ok _ hci) (znm_ok _ hci) hown hK hA.1 hA.2.1 hA.2.2.2.2.2.1 (k - 2) he hcl2 en.2.2 hsl (hts _ hw) (fun _ h => h) (by simpa using hf) (zty_ok _ hci _ hsl) nv fv (by simpa using hsl) hdg kk
        rcases g3 with ⟨x, hx1, rfl, rfl⟩ | ⟨x, hx1, rfl, rfl⟩ | ⟨x, hx1, rfl, rfl⟩
        · have hx2 : zfc (zty en.2.1 en.2.2) = 0 ∨ (zfc (zty en.2.1 en.2.2) = 2 ∧ (x = 0 ∨ x = 1)) := by rw [← hfc.1]; exact hx1
          refine row (znar hx2).1 (znar hx2).2 fun H1 locs1 hP hD hS => K adr H1 locs1 ls _ (fun _ _ => rfl) rfl ?_
          have e1 : zws adr cI cL cZ (w.1, zup w.2 k en.2.2 x) = (zws adr cI cL cZ w).set (k - 2) (adr k, .inr (en.2.1, ((List.range (znf en.2.1)).map (zfv adr (w.2 k) en.2.1 rs)).set en.2.2 (ztr adr (zI x)))) := by
            rw [zws_up h2 g1 (zup w.2 k en.2.2 x k) (zup w.2 k en.2.2 x) (fun j hj => by funext y; simp [zup, hj]) rfl, zent_obj]
            rw [zfs_set adr (w.2 k) (zup w.2 k en.2.2 x k) en.2.1 rs rs (j := en.2.2) (fun y hy => by
              unfold zfv
              have : zup w.2 k en.2.2 x k (y : Int) = w.2 k y := by simp [zup, show ¬ (y : Int) = (en.2.2 : Int) by omega]
              rw [this])]
            have : zfv adr (zup w.2 k en.2.2 x k) en.2.1 rs en.2.2 = ztr adr (zI x) := by
              unfold zfv
              have e2 : zup w.2 k en.2.2 x k (en.2.2 : Int) = x := by simp [zup]
              rcases hx1 with h | ⟨h, -⟩ <;> rw [h, e2] <;> rfl
            rw [this]
          refine ⟨by rw [e1]; exact hP, by rw [e1]; exact hD, zInv_up hI g1 h2 (zsr_obj.mpr ?_), hA.2.2.2.1, hA.2.2.2.2.1, hS, hA.2.2.2.2.2.2.1, hA.2.2.2.2.2.2.2.1, hr⟩
          rw [if_neg (by rcases hx1 with h | ⟨h, -⟩ <;> omega)]
          exact hvo
        · have hx2 : zfc (zty en.2.1 en.2.2) = 1 := by rw [← hfc.1]; exact hx1
          refine row (znarL hx2).1 (znarL hx2).2 fun H1 locs1 hP hD hS => K adr H1 locs1 ls _ (fun _ _ => rfl) rfl ?_
          have e1 : zws adr cI cL cZ (w.1, zup w.2 k en.2.2 x) = (zws adr cI cL cZ w).set (k - 2) (adr k, .inr (en.2.1, ((List.range (znf en.2.1)).map (zfv adr (w.2 k) en.2.1 rs)).set en.2.2 (ztr adr (zL x)))) := by
            rw [zws_up h2 g1 (zup w.2 k en.2.2 x k) (zup w.2 k en.2.2 x) (fun j hj => by funext y; simp [zup, hj]) rfl, zent_obj]
            rw [zfs_set adr (w.2 k) (zup w.2 k en.2.2 x k) en.2.1 rs rs (j := en.2.2) (fun y hy => by
              unfold zfv
              have : zup w.2 k en.2.2 x k (y : Int) = w.2 k y := by simp [zup, show ¬ (y : Int) = (en.2.2 : Int) by omega]
              rw [this])]
            have : zfv adr (zup w.2 k en.2.2 x k) en.2.1 rs en.2.2 = ztr adr (zL x) := by
              unfold zfv
              have e2 : zup w.2 k en.2.2 x k (en.2.2 : Int) = x := by simp [zup]
              rw [hx1, e2]; rfl
            rw [this]
          refine ⟨by rw [e1]; exact hP, by rw [e1]; exact hD, zInv_up hI g1 h2 (zsr_obj.mpr ?_), hA.2.2.2.1, hA.2.2.2.2.1, hS, hA.2.2.2.2.2.2.1, hA.2.2.2.2.2.2.2.1, hr⟩
          rw [if_pos hx1]
          exact hvo
        · have hx2 : zfc (zty en.2.1 en.2.2) = 3 := by rw [← hfc.1]; exact hx1
          refine row (znarR hx2).1 (znarR hx2).2 fun H1 locs1 hP hD hS => ?_
          have hxl : x < w.1.length := hvo
          have hrl : rs.length = znf en.2.1 := by
            have := ((hok5 _ _ g1).2.2.2.1 (by omega)).2
            rw [this]
            show znf (3 + en.2.1 - 3) = _
            rw [Nat.add_sub_cancel_left]
          have e1 : zws adr cI cL cZ (w.1.set k (3 + en.2.1, n, rs.set en.2.2 (some x)), w.2) = (zws adr cI cL cZ w).set (k - 2) (adr k, .inr (en.2.1, ((List.range (znf en.2.1)).map (zfv adr (w.2 k) en.2.1 rs)).set en.2.2 (ztr adr (zR x)))) := by
            have hkl := (List.getElem?_eq_some_iff.mp g1).1
            obtain ⟨k, rfl⟩ : ∃ j, k = j + 2 := ⟨k - 2, by omega⟩
            have := zws_set (adr := adr) (cI := cI) (cL := cL) (cZ := cZ) (w := w) (w' := (w.1.set (k + 2) (3 + en.2.1, n, rs.set en.2.2 (some x)), w.2)) (k := k) (sh := (3 + en.2.1, n, rs.set en.2.2 (some x))) (by simp) (fun j hj => ⟨by simp [List.getElem?_set_ne (Ne.symm hj)], rfl⟩) (by simp [List.getElem?_set_self hkl])
            rw [this, zent_obj, show k + 2 - 2 = k by omega]
            rw [zfs_set adr (w.2 (k + 2)) (w.2 (k + 2)) en.2.1 rs (rs.set en.2.2 (some x)) (j := en.2.2) (fun y hy => by
              unfold zfv
              rw [List.getElem?_set_ne (Ne.symm hy)])]
            have : zfv adr (w.2 (k + 2)) en.2.1 (rs.set en.2.2 (some x)) en.2.2 = ztr adr (zR x) := by
              unfold zfv
              rw [hx1, List.getElem?_set_self (by omega)]
              rfl
            rw [this]
          have e2 : (w.1.set k (3 + en.2.1, n, rs.set en.2.2 (some x))).length = w.1.length := List.length_set ..
          have e3 : zcs (w.1.set k (3 + en.2.1, n, rs.set en.2.2 (some x)), w.2) = zcs w := zcs_set g1 rfl
          refine W.cs (cells' := (w.1.set k (3 + en.2.1, n, rs.set en.2.2 (some x))).length - kc) (slots' := zcs (w.1.set k (3 + en.2.1, n, rs.set en.2.2 (some x)), w.2) - ks) (by rw [e2]) (by rw [e3]) (K adr H1 locs1 ls _ (fun _ _ => rfl) rfl ?_)
          refine ⟨by rw [e1]; exact hP, by rw [e1]; exact hD, zInv_ref hI g1 h2 hxl, hA.2.2.2.1, hA.2.2.2.2.1, hS, hA.2.2.2.2.2.2.1, fun u hu => ?_, fun u hu => ?_⟩
          · show zokv (w.1.set k (3 + en.2.1, n, rs.set en.2.2 (some x))).length u
            rw [e2]; exact hA.2.2.2.2.2.2.2.1 u hu
          · show zokv (w.1.set k (3 + en.2.1, n, rs.set en.2.2 (some x))).length u
            rw [e2]; exact hr u hu
    · cases hn
  | _ => exact absurd hi (by simp)
end ZS
