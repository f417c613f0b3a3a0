/-! both sides' calls that only ask -/
section QU
variable {Ln : Nat} {a : zAbs} {v : Nat} {M : Nat → Int → Int}
theorem zC_joint {x y : Int} (hP : zJP a) (h : zJC a v M) : zF (zSH Ln) 100 i_FN_joint [zR 2, zI x, zI y] M fun r M' => r = some (zI (zJoA a.S a.P a.mv x y)) ∧ zJC a (v + 100) M' ∧ zCl M M' := by
  refine zW_mono (F_FN_joint hP.N h.N (by omega)) ?_
  rintro _ _ ⟨rfl, rfl⟩
  exact ⟨rfl, zJC_v h (by omega), fun _ _ => rfl⟩
theorem zC_holds (hP : zJP a) (h : zJC a v M) : zF (zSH Ln) 100 i_FN_holds [zR 2] M fun r M' => r = some (zI (zset a.S (zHp a.mv a.tg a.P a.lt a.kd a.lf a.rt a.gp 0))) ∧ zJC a (v + 100) M' ∧ zCl M M' := by
  refine zW_mono (F_FN_holds hP.N h.N h.L hP.lt hP.F h.F h.tab h.law (by omega)) ?_
  rintro _ M2 ⟨rfl, ho⟩
  obtain ⟨h2, hc⟩ := zJC_out h ho
  exact ⟨rfl, zJC_v h2 (by omega), hc⟩
theorem zC_part {x : Int} (hP : zJP a) (h : zJC a v M) : zF (zSH Ln) 100 i_FN_part [zR 2, zI x] M fun r M' => r = some (zI (zPaA a.S a.n a.mv a.tg a.P a.lt a.kd a.lf a.rt a.gp x)) ∧ zJC a (v + 100) M' ∧ zCl M M' := by
  refine zW_mono (F_FN_part hP.N h.N h.L hP.lt hP.F h.F h.tab h.law (by omega)) ?_
  rintro _ M2 ⟨rfl, ho⟩
  obtain ⟨h2, hc⟩ := zJC_out h ho
  exact ⟨rfl, zJC_v h2 (by omega), hc⟩
theorem zC_round {x : Int} (hP : zJP a) (h : zJC a v M) : zF (zSH Ln) 100 i_FN_round [zR 2, zI x] M fun r M' => r = some (zI (zRoA a.S a.P a.mv a.tg a.lt a.kd a.lf a.rt a.gp x)) ∧ zJC a (v + 100) M' ∧ zCl M M' := by
  refine zW_mono (F_FN_round hP.N h.N h.L hP.lt hP.F h.F h.tab h.law (by omega)) ?_
  rintro _ M2 ⟨rfl, ho⟩
  obtain ⟨h2, hc⟩ := zJC_out h ho
  exact ⟨rfl, zJC_v h2 (by omega), hc⟩
theorem zC_plan {x : Int} (hP : zJP a) (h : zJC a v M) : zF (zSH Ln) 100 i_FN_plan [zR 2, zI x] M fun r M' => r = some (zI (zPlA a.S a.P a.mv a.tg a.lt a.kd a.lf a.rt a.gp x)) ∧ zJC a (v + 100) M' ∧ zCl M M' := by
  refine zW_mono (F_FN_plan hP.N h.N h.L hP.lt hP.F h.F h.tab h.law (by omega)) ?_
  rintro _ M2 ⟨rfl, ho⟩
  obtain ⟨h2, hc⟩ := zJC_out h ho
  exact ⟨rfl, zJC_v h2 (by omega), hc⟩
theorem zC_answer {x y : Int} (hP : zJP a) (h : zJC a v M) : zF (zSH Ln) 100 i_FN_answer [zR 2, zI x, zI y] M fun r M' => r = some (zI (zAnA a.S a.P a.mv a.tg a.lt a.kd a.lf a.rt a.gp x y)) ∧ zJC a (v + 100) M' ∧ zCl M M' := by
  refine zW_mono (F_FN_answer hP.N h.N h.L hP.lt hP.F h.F h.tab h.law (by omega)) ?_
  rintro _ M2 ⟨rfl, ho⟩
  obtain ⟨h2, hc⟩ := zJC_out h ho
  exact ⟨rfl, zJC_v h2 (by omega), hc⟩
theorem zC_toll {x : Int} (hP : zJP a) (h : zJC a v M) : zF (zSH Ln) 100 i_FN_toll [zR 2, zI x] M fun r M' => r = some (zI (zTlA a.S a.P a.mv a.tg a.pr a.lt a.kd a.lf a.rt a.gp x)) ∧ zJC a (v + 100) M' ∧ zCl M M' := by
  refine zW_mono (F_FN_toll hP.N h.N h.L hP.lt hP.F h.F h.tab h.law h.Q hP.pr (by omega)) ?_
  rintro _ M2 ⟨rfl, ho⟩
  obtain ⟨h2, hc⟩ := zJC_out h ho
  exact ⟨rfl, zJC_v h2 (by omega), hc⟩
theorem zC_walked {x : Int} (hP : zJP a) (h : zJC a v M) : zF (zSH Ln) 100 i_FN_walked [zR 2, zI x] M fun r M' => r = some (zI (if 0 ≤ x ∧ x < a.tn then (a.tr x.toNat : Int) else -1)) ∧ zJC a (v + 100) M' ∧ zCl M M' := by
  refine zW_mono (F_FN_walked hP.tn h.W (by omega)) ?_
  rintro _ _ ⟨rfl, rfl⟩
  exact ⟨rfl, zJC_v h (by omega), fun _ _ => rfl⟩
end QU
