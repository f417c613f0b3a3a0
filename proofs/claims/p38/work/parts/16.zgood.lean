/-! the induction -/
theorem zgoodIn {ws : List Cond} {w : Cond} (h : w ∈ zTW) (hw : ws = w :: zTW) : GoodIn zTW ws := by
  intro x hx
  rw [hw] at hx
  have hz : x ∈ zTW := (List.mem_cons.mp hx).elim (fun e => by rw [e]; exact h) id
  exact ⟨hz, good_of_word (List.mem_filter.mp hz).2⟩
theorem zTW_code {y : MethodName} {b : ByteArray} {n k : Nat} {r : Option FieldType} (h : lw_tbl[k]? = some (.code y b n r)) : Cond.code y b n r ∈ zTW := zTW_lw h rfl
section ZW
variable {l : Launch}
theorem zgood (hM : ∀ mi, mi < zNM → zPm mi) (hQ : ∀ q ∈ zCT, zPc q) (hAll : ∀ mi, mi < zNM + 1 → zall mi = true) (hSt : ∀ mi, mi < zNM + 1 → zstart mi 0 = some 0) : ∀ n, zGood l n := by
  intro n
  induction n with
  | zero =>
    intro d mi es pc L st w r w1 hrun
    cases hrun
  | succ n ih =>
    intro d mi es pc L st w r w1 hrun hmi hchk p e R s m args below meth c Q D cI cL cZ A t0 t1 n0 n1 f0 f1 kc ks adr0 adr H locs ls hC hFin hA hag hkc hks hRc hRs hRf hRl
    match es, hrun, hchk with
    | [], hrun, _ => cases hrun
    | en :: es, hrun, hchk =>
      rw [zrun_eq] at hrun
      have hall := hAll mi hmi
      by_cases hgw : en.1 = .goto_w 0
      · rw [zrun_nx (by rw [hgw]; rfl)] at hrun
        have hn : znxt en L st w = some (some en.2.1, L, st, w) := by simp only [znxt, hgw]
        rw [hn] at hrun
        simp only [zchk, if_pos hgw, Bool.and_eq_true, beq_iff_eq] at hchk
        exact ih d mi _ pc L st w r w1 hrun hmi (zblk_chk hall hchk.1) p e R s m args below meth c Q D cI cL cZ A t0 t1 n0 n1 f0 f1 kc ks adr0 adr H locs ls hC hFin hA hag hkc hks hRc hRs hRf hRl
      · simp only [zchk, if_neg hgw] at hchk
        split at hchk
        · next i len hdg =>
          simp only [Bool.and_eq_true] at hchk
          obtain ⟨hok, hchk⟩ := hchk
          by_cases hc : zisC en.1 = false
          · rw [zrun_nx hc] at hrun
            have go : ∀ (tgt : Option Nat) (L' st' : List zMV) (w' : zWd) (es' : List zEnt), znxt en L st w = some (tgt, L', st', w') → zrun n d mi es' L' st' w' = some (r, w1) → (∀ pc', (match tgt with
                | none => pc' = pc + len
                | some b => zstart mi b = some pc') → zchk mi pc' es' = true) → W p l e R s m args below meth c H locs (w.1.length - kc) (zcs w - ks) Q (F0 m pc ls (st.map (ztr adr))) := by
              intro tgt L' st' w' es' hn hr hch
              have m1 := zrun_mono n d mi es' L' st' w' r w1 hr
              have m0 := znxt_mono hn
              refine zstep hC i pc len en L st w tgt L' st' w' adr H locs ls hdg hok hn hA hkc hks (by omega) (by omega) (by omega) (by omega) ?_
              intro adr' H' locs' ls' pc' hag' hpc hA'
              exact ih d mi es' pc' L' st' w' r w1 hr hmi (hch pc' (by cases tgt <;> exact hpc)) p e R s m args below meth c Q D cI cL cZ A t0 t1 n0 n1 f0 f1 kc ks adr0 adr' H' locs' ls' hC hFin hA' (fun k hk => (hag' k (by omega)).trans (hag k hk)) (by omega) (by omega) hRc hRs hRf hRl
            split at hrun
            · next L' st' w' hn => exact go none L' st' w' es hn hrun (fun pc' h => by rw [h]; exact hchk)
            · next b L' st' w' hn => exact go (some b) L' st' w' _ hn hrun (fun pc' h => zblk_chk hall h)
            · cases hrun
          · -- behind a call
            have hS := hA.2.2.2.2.2.1
            have hI := hA.2.2.1
            obtain ⟨hx, hb, hml, hown, hts, hnw, hK, hlk, hin, hA0, hT0, hT1, hZ⟩ := id hC
            have hfree : ∀ q, va_A (zws adr cI cL cZ w) H.size q → A q := by
              intro q hq
              rcases hq with ⟨k, e1, hk⟩ | hq
              · exact hA.2.1.2 k _ hk
              · exact hA0 q (Nat.le_trans hS.1 hq)
            have cont : ∀ (d' m2 : Nat) (vs rest : List zMV) (v : Option zMV) (w2 : zWd) (aa : Array Value), d = d' + 1 → zrun n d' m2 (zblk m2 0) (zlocs vs (zmL m2)) [] w = some (v, w2) → zrun n (d' + 1) mi es L (v.toList ++ rest) w2 = some (r, w1) → len = 3 → (∀ u ∈ rest, u ∈ st) →
                va_Run p l e R s m args below meth c H locs (w.1.length - kc) (zcs w - ks) (w2.1.length - w.1.length) (zcs w2 - zcs w) (F0 m pc ls (st.map (ztr adr))) (rest.map (ztr adr)) (zQc D cI cL cZ t0 t1 n0 n1 f0 f1 adr w v w2 H.size aa) (va_A (zws adr cI cL cZ w) H.size) →
                W p l e R s m args below meth c H locs (w.1.length - kc) (zcs w - ks) Q (F0 m pc ls (st.map (ztr adr))) := by
              intro d' m2 vs rest v w2 aa hd h1 h2 hlen hrest hr
              subst hd
              subst hlen
              have m1 := zrun_mono _ _ _ _ _ _ _ _ _ h1
              have m2' := zrun_mono _ _ _ _ _ _ _ _ _ h2
              refine zcallW (A0 := A) (H0 := s.heap) (A1 := va_A (zws adr cI cL cZ w) H.size) hr hS (fun q _ h => hfree q h) hfree (fun st t v h => h.2) fun v' st9 t locs1 hst hq hS1 => ?_
              obtain ⟨⟨adr', hag', ho, hP1, hD1, hI1, a0, a1, hvok⟩, -⟩ := hq
              have hv' : v' = v.map (ztr adr') := Outcome.returned.inj ho
              subst hv'
              refine W.cs (cells' := w2.1.length - kc) (slots' := zcs w2 - ks) (by omega) (by omega) ?_
              have hrestok : ∀ u ∈ rest, zokv w.1.length u := fun u hu => hA.2.2.2.2.2.2.2.2 u (hrest u hu)
              have est : (v.map (ztr adr')).toList ++ rest.map (ztr adr) = (v.toList ++ rest).map (ztr adr') := by
                rw [List.map_append, zmap_agree hag' hrestok]
                congr 1
                cases v <;> rfl
              rw [est]
              refine ih (d' + 1) mi es (pc + 3) L _ w2 r w1 h2 hmi hchk p e R s m args below meth c Q D cI cL cZ A t0 t1 n0 n1 f0 f1 kc ks adr0 adr' t.heap locs1 ls hC hFin ⟨hP1, hD1.weaken (fun k q _ h => hfree q.1 h), hI1, a0, a1, hS1, zlv_agree hA.2.2.2.2.2.2.1 hag' hA.2.2.2.2.2.2.2.1, fun u hu => zokv_mono m1.1 (hA.2.2.2.2.2.2.2.1 u hu), fun u hu => ?_⟩ (fun k hk => (hag' k (by omega)).trans (hag k hk)) (by omega) (by omega) hRc hRs hRf hRl
              rcases List.mem_append.mp hu with hu | hu
              · cases v with
                | none => cases hu
                | some v0 =>
                  have : u = v0 := by simpa using hu
                  rw [this]; exact hvok v0 rfl
              · exact zokv_mono m1.1 (hrestok u hu)
            have pre : ∀ (vs : List zMV) (U : State), U.heap = H → s.WarmedH U.vm → zPre D cI cL cZ t0 t1 n0 n1 f0 f1 adr w vs H.size ((vs.map (ztr adr)).toArray) U := by
              intro vs U hU hW
              have tk : ∀ {t N : Nat} {f : Nat → Value}, va_T .int t N f A s s.heap → va_T .int t N f (va_A (zws adr cI cL cZ w) H.size) U U.heap := fun h => by
                rw [hU]
                exact va_T.moved hW.alike ((h.kept hS.2.1).narrow hfree)
              refine ⟨rfl, by rw [hU], by rw [hU]; exact hA.1, hA.2.1.weaken (fun _ _ _ _ => trivial), va_K.moved hW.alike hK, zNW_warm hW hnw, tk hT0, tk hT1, ?_⟩
              exact trivial
            have stok := hA.2.2.2.2.2.2.2.2
            rcases zbody_C hc hrun with ⟨he, h2, h3⟩ | ⟨⟨k0, he⟩, hl, hrv, h2⟩ | ⟨⟨k0, he⟩, hl, h2⟩
            · dsimp only at h2 h3
              subst h2
              obtain ⟨e1, rfl⟩ := zokE_ret hok he
              rw [e1] at h3
              exact hFin adr H locs ls pc i L st hdg h3 hA hag
            · obtain ⟨rfl, ix, kd, hik, q, hq, q1, q2, q3, q4⟩ := zokE_virt hok he
              obtain ⟨d', v, w2, hd, hc8, hsp, h4, h5⟩ := zcall_inv h2
              obtain ⟨hm2, hlink, hk0, -, hk2⟩ := hQ q hq
              rw [q3] at hm2 hlink hk0 hk2
              rw [q1, q2] at hlink
              obtain ⟨g1, g2, g3, g4, g5, g6, g7, g8, g9, g10⟩ := hM en.2.1 hm2
              obtain ⟨z1, z2, z3, z4⟩ := zcn_ok _ g9 g10
              have m1 := zrun_mono _ _ _ _ _ _ _ _ _ h4
              have m2' := zrun_mono _ _ _ _ _ _ _ _ _ h5
              generalize hvs : (st.take (zmA en.2.1 + 1)).reverse = vs at hrv hsp h4 h2
              generalize hrs : st.drop (zmA en.2.1 + 1) = rest at hc8 h5 h2
              have hst : st = vs.reverse ++ rest := by rw [← hvs, ← hrs, List.reverse_reverse, List.take_append_drop]
              have hvl : vs.length = zmA en.2.1 + 1 := by rw [← hvs, List.length_reverse]; exact hl
              obtain ⟨k, ps, rfl⟩ : ∃ k ps, vs = zR k :: ps := by
                unfold zrecv at hrv
                split at hrv
                · next k ps => exact ⟨k, ps, rfl⟩
                · cases hrv
              have hpl : ps.length = zmA en.2.1 := by simpa using hvl
              have hvok : ∀ u ∈ (zR k :: ps), zokv w.1.length u := fun u hu => stok u (by rw [hst]; exact List.mem_append_left _ (List.mem_reverse.mpr hu))
              have hrok : ∀ u ∈ rest, u ∈ st := fun u hu => by rw [hst]; exact List.mem_append_right _ hu
              have hmet := zmet ih hM hAll hSt hm2 h4 hsp D cI cL cZ t0 t1 n0 n1 f0 f1 adr hI hA.2.2.2.1 hA.2.2.2.2.1 hvok H.size
              have hcode := zTW_code g1
              have hini : (Cond.initialized (zmN en.2.1).cls).before args s = true := hts _ (zTW_lw g2 rfl)
              have hd3 : (zmN en.2.1).cls ≠ "java/lang/invoke/MethodHandle" ∧ (zmN en.2.1).cls ≠ "java/lang/invoke/VarHandle" ∧ (parseMethodDescriptor (zmN en.2.1).desc).map (fun d => d.parameters.length) = some (zmA en.2.1) := by
                rw [g6]; exact ⟨z1, z2, g5⟩
              have hroom : d' + 1 + 1 ≤ R.frames ∧ 8 + (zmL en.2.1 + 11) + 40 * (d' + 1) ≤ R.locals := by omega
              have hstk : st.map (ztr adr) = (ps.map (ztr adr)).reverse ++ Value.ref (adr k) :: rest.map (ztr adr) := by
                rw [hst]
                simp [ztr]
              have hcat : 2 * (F0 m pc ls (st.map (ztr adr))).monitorRoom + ((rest.map (ztr adr)).map fun v => v.category).sum ≤ 8 := lv_room (by rw [zcats_tr]; exact hc8)
              refine cont d' en.2.1 (zR k :: ps) rest v w2 (Value.ref (adr k) :: ps.map (ztr adr)).toArray hd h4 h5 rfl hrok ?_
              rcases hik with ⟨rfl, rfl⟩ | ⟨rfl, rfl⟩
              · obtain ⟨hnest, hvk, hns⟩ := hk0 q4
                rw [if_pos hnest] at hlink
                rw [hns] at g4
                obtain ⟨hsel, ho12⟩ := g3 hvk
                have hcb := callB_of (R := R) (s := s) (args := args) (rm := { frames := d' + 1, cells := w2.1.length - w.1.length, slots := zcs w2 - zcs w, locals := 40 * (d' + 1) }) (zmA en.2.1) hts (zgoodIn hcode rfl) rfl rfl rfl hini (hts _ (zTW_of (List.mem_of_getElem? hlink) rfl)) hd3 hroom
                have hrcv : ∃ cell : Cell, H[adr k]? = some cell ∧ cell.vm.isStatics = false ∧ s.vm.findClass (zmN en.2.1).cls = some cell.cls := by
                  unfold zrecv at hrv
                  dsimp only at hrv
                  split at hrv
                  · next kd n9 hk =>
                    simp only [Bool.and_eq_true, decide_eq_true_eq] at hrv
                    obtain ⟨rfl, h2k⟩ := hrv
                    have he9 := zws_at (adr := adr) (cI := cI) (cL := cL) (cZ := cZ) h2k hk
                    rw [show zent adr cI cL cZ (w.2 k) (3 + zmO en.2.1, n9) = .inr (zmO en.2.1, (List.range (znf (zmO en.2.1))).map (zfv adr (w.2 k) (zmO en.2.1) n9.2)) from zent_obj ..] at he9
                    have := va_recv hK hA.1 (zcl_at _ ho12).1 he9
                    rw [z4 ho12, ← g6] at this
                    exact this
                  · cases hrv
                exact va_runV (C := (zmN en.2.1).cls) (As := ps.map (ztr adr)) (nL := zmL mi) ⟨hx, hb, hml, hown, hts⟩ hmet ⟨hcb, hts _ (zTW_lw g4 rfl), hts _ (zTW_lw hsel rfl)⟩ ⟨zPre_blind, hrcv, fun U hU hW => pre (zR k :: ps) U hU hW⟩ rfl (by rw [List.length_map]; exact hpl) hA.2.2.2.2.2.2.1.1 hstk hcat hdg (by omega)
              · obtain ⟨hns, hret, hini2⟩ := hk2 q4
                rw [hns] at g4
                rw [hret] at hmet hcode
                have hins : (Cond.instanceMethod (zmN en.2.1)).before args s = true := hts _ (zTW_lw g4 rfl)
                by_cases hnest : q.2.2.2.2.1 = 0
                · rw [if_pos hnest] at hlink
                  have hcb := callB_of (R := R) (s := s) (args := args) (rm := { frames := d' + 1, cells := w2.1.length - w.1.length, slots := zcs w2 - zcs w, locals := 40 * (d' + 1) }) (zmA en.2.1) hts (zgoodIn hcode rfl) rfl rfl rfl hini (hts _ (zTW_of (List.mem_of_getElem? hlink) rfl)) hd3 hroom
                  exact va_runI (As := ps.map (ztr adr)) (nL := zmL mi) ⟨hx, hb, hml, hown, hts⟩ hmet ⟨hcb, g8 hini2, hins⟩ ⟨zPre_blind, fun U hU hW => pre (zR k :: ps) U hU hW⟩ rfl (by rw [List.length_map]; exact hpl) hA.2.2.2.2.2.2.1.1 hstk hcat hdg (by omega)
                · rw [if_neg hnest] at hlink
                  have hcn := va_cnB (R := R) (s := s) (args := args) (rm := { frames := d' + 1, cells := w2.1.length - w.1.length, slots := zcs w2 - zcs w, locals := 40 * (d' + 1) }) (zmA en.2.1) hts (zgoodIn hcode rfl) rfl rfl rfl (hnw _ (List.mem_filter.mpr ⟨List.mem_of_getElem? hlink, rfl⟩)) hini hd3 hroom
                  exact va_runIN (As := ps.map (ztr adr)) (nL := zmL mi) ⟨hx, hb, hml, hown, hts⟩ hmet ⟨hcn, g8 hini2, hins⟩ ⟨zPre_blind, fun U hU hW => pre (zR k :: ps) U hU hW⟩ rfl (by rw [List.length_map]; exact hpl) hA.2.2.2.2.2.2.1.1 hstk hcat hdg (by omega)
            · obtain ⟨rfl, ix, rfl, q, hq, q1, q2, q3, q4⟩ := zokE_stat hok he
              obtain ⟨d', v, w2, hd, hc8, hsp, h4, h5⟩ := zcall_inv h2
              obtain ⟨hm2, hlink, -, hk1, -⟩ := hQ q hq
              rw [q3] at hm2 hlink hk1
              rw [q1, q2] at hlink
              obtain ⟨g1, g2, g3, g4, g5, g6, g7, g8, g9, g10⟩ := hM en.2.1 hm2
              obtain ⟨z1, z2, z3, z4⟩ := zcn_ok _ g9 g10
              have m1 := zrun_mono _ _ _ _ _ _ _ _ _ h4
              have m2' := zrun_mono _ _ _ _ _ _ _ _ _ h5
              generalize hvs : (st.take (zmA en.2.1)).reverse = vs at hsp h4 h2
              generalize hrs : st.drop (zmA en.2.1) = rest at hc8 h5 h2
              have hst : st = vs.reverse ++ rest := by rw [← hvs, ← hrs, List.reverse_reverse, List.take_append_drop]
              have hvl : vs.length = zmA en.2.1 := by rw [← hvs, List.length_reverse]; exact hl
              have hvok : ∀ u ∈ vs, zokv w.1.length u := fun u hu => stok u (by rw [hst]; exact List.mem_append_left _ (List.mem_reverse.mpr hu))
              have hrok : ∀ u ∈ rest, u ∈ st := fun u hu => by rw [hst]; exact List.mem_append_right _ hu
              have hmet := zmet ih hM hAll hSt hm2 h4 hsp D cI cL cZ t0 t1 n0 n1 f0 f1 adr hI hA.2.2.2.1 hA.2.2.2.2.1 hvok H.size
              have hcode := zTW_code g1
              have hini : (Cond.initialized (zmN en.2.1).cls).before args s = true := hts _ (zTW_lw g2 rfl)
              have hd3 : (zmN en.2.1).cls ≠ "java/lang/invoke/MethodHandle" ∧ (zmN en.2.1).cls ≠ "java/lang/invoke/VarHandle" ∧ (parseMethodDescriptor (zmN en.2.1).desc).map (fun d => d.parameters.length) = some (zmA en.2.1) := by
                rw [g6]; exact ⟨z1, z2, g5⟩
              have hroom : d' + 1 + 1 ≤ R.frames ∧ 8 + (zmL en.2.1 + 11) + 40 * (d' + 1) ≤ R.locals := by omega
              have hstk : st.map (ztr adr) = (vs.map (ztr adr)).reverse ++ rest.map (ztr adr) := by
                rw [hst]
                simp
              have hcat : 2 * (F0 m pc ls (st.map (ztr adr))).monitorRoom + ((rest.map (ztr adr)).map fun v => v.category).sum ≤ 8 := lv_room (by rw [zcats_tr]; exact hc8)
              rw [hk1 q4] at g4
              have hstt : (Cond.static (zmN en.2.1)).before args s = true := hts _ (zTW_lw g4 rfl)
              refine cont d' en.2.1 vs rest v w2 (vs.map (ztr adr)).toArray hd h4 h5 rfl hrok ?_
              by_cases hnest : q.2.2.2.2.1 = 0
              · rw [if_pos hnest] at hlink
                have hcb := callB_of (R := R) (s := s) (args := args) (rm := { frames := d' + 1, cells := w2.1.length - w.1.length, slots := zcs w2 - zcs w, locals := 40 * (d' + 1) }) (zmA en.2.1) hts (zgoodIn hcode rfl) rfl rfl rfl hini (hts _ (zTW_of (List.mem_of_getElem? hlink) rfl)) hd3 hroom
                exact va_runS (As := vs.map (ztr adr)) (nL := zmL mi) ⟨hx, hb, hml, hown, hts⟩ hmet ⟨hcb, hstt⟩ ⟨zPre_blind, fun U hU hW => pre vs U hU hW⟩ rfl (by rw [List.length_map]; exact hvl) hA.2.2.2.2.2.2.1.1 hstk hcat hdg (by omega)
              · rw [if_neg hnest] at hlink
                have hcn := va_cnB (R := R) (s := s) (args := args) (rm := { frames := d' + 1, cells := w2.1.length - w.1.length, slots := zcs w2 - zcs w, locals := 40 * (d' + 1) }) (zmA en.2.1) hts (zgoodIn hcode rfl) rfl rfl rfl (hnw _ (List.mem_filter.mpr ⟨List.mem_of_getElem? hlink, rfl⟩)) hini hd3 hroom
                exact va_runSN (As := vs.map (ztr adr)) (nL := zmL mi) ⟨hx, hb, hml, hown, hts⟩ hmet ⟨hcn, hstt, trivial⟩ ⟨zPre_blind, fun U hU hW => pre vs U hU hW⟩ rfl (by rw [List.length_map]; exact hvl) hA.2.2.2.2.2.2.1.1 hstk hcat hdg (by omega)
        · cases hchk
end ZW
