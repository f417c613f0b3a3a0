/-! both sides' calls that only ask -/
section QU
variable {Ln : Nat} {a : zAbs} {v : Nat} {M : Nat → Int → Int}
theorem zC_joint {x y : Int} (hP : zJP a) (h : zJC a v M) : zF (zSH Ln) 100 i_FN_joint [zR 2, zI x, zI y] M fun r M' => r = some (zI (zJoA a.S a.P a.mv x y)) ∧ zJC a (v + 100) M' ∧ zCl M M' := by
  refine zW_mono (F_FN_joint hP.N h.N (by omega)) ?_
  rintro _ _ ⟨rfl, rfl⟩
  exact ⟨rfl, zJC_v h (by omega), fun _ _ => rfl⟩
theorem zR_joint {x y : Int} (hP : zJP a) (h : zJR a M) : zF (zSH Ln) 100 i_Md_joint [zR 48, zI x, zI y] M fun r M' => r = some (zI (zJoA a.S a.P a.mv x y)) ∧ zJR a M' ∧ zRl M M' := by
  refine zW_mono (F_Md_joint hP.N h.N (by omega)) ?_
  rintro _ _ ⟨rfl, rfl⟩
  exact ⟨rfl, h, fun _ _ => rfl⟩
theorem zC_leads {x y : Int} (hP : zJP a) (h : zJC a v M) : zF (zSH Ln) 100 i_FN_leads [zR 2, zI x, zI y] M fun r M' => r = some (zI (zLeA a.S a.P a.mv a.tg x y)) ∧ zJC a (v + 100) M' ∧ zCl M M' := by
  refine zW_mono (F_FN_leads hP.N h.N (by omega)) ?_
  rintro _ _ ⟨rfl, rfl⟩
  exact ⟨rfl, zJC_v h (by omega), fun _ _ => rfl⟩
theorem zR_leads {x y : Int} (hP : zJP a) (h : zJR a M) : zF (zSH Ln) 100 i_Md_leads [zR 48, zI x, zI y] M fun r M' => r = some (zI (zLeA a.S a.P a.mv a.tg x y)) ∧ zJR a M' ∧ zRl M M' := by
  refine zW_mono (F_Md_leads hP.N h.N (by omega)) ?_
  rintro _ _ ⟨rfl, rfl⟩
  exact ⟨rfl, h, fun _ _ => rfl⟩
theorem zC_holds (hP : zJP a) (h : zJC a v M) : zF (zSH Ln) 100 i_FN_holds [zR 2] M fun r M' => r = some (zI (zset a.S (zHp a.mv a.tg a.P a.lt a.kd a.lf a.rt a.gp 0))) ∧ zJC a (v + 100) M' ∧ zCl M M' := by
  refine zW_mono (F_FN_holds hP.N h.N h.L hP.lt hP.F h.F h.tab h.law (by omega)) ?_
  rintro _ M2 ⟨rfl, ho⟩
  obtain ⟨h2, hc⟩ := zJC_out h ho
  exact ⟨rfl, zJC_v h2 (by omega), hc⟩
theorem zR_holds (hP : zJP a) (h : zJR a M) : zF (zSH Ln) 100 i_Md_holds [zR 48] M fun r M' => r = some (zI (zset a.S (zHp a.mv a.tg a.P a.lt a.kd a.lf a.rt a.gp 0))) ∧ zJR a M' ∧ zRl M M' := by
  refine zW_mono (F_Md_holds hP.N h.N h.L hP.lt hP.F h.F (by omega)) ?_
  rintro _ M2 ⟨rfl, ho⟩
  exact ⟨rfl, zJR_out h ho⟩
theorem zC_part {x : Int} (hP : zJP a) (h : zJC a v M) : zF (zSH Ln) 100 i_FN_part [zR 2, zI x] M fun r M' => r = some (zI (zPaA a.S a.n a.mv a.tg a.P a.lt a.kd a.lf a.rt a.gp x)) ∧ zJC a (v + 100) M' ∧ zCl M M' := by
  refine zW_mono (F_FN_part hP.N h.N h.L hP.lt hP.F h.F h.tab h.law (by omega)) ?_
  rintro _ M2 ⟨rfl, ho⟩
  obtain ⟨h2, hc⟩ := zJC_out h ho
  exact ⟨rfl, zJC_v h2 (by omega), hc⟩
theorem zR_part {x : Int} (hP : zJP a) (h : zJR a M) : zF (zSH Ln) 100 i_Md_part [zR 48, zI x] M fun r M' => r = some (zI (zPaA a.S a.n a.mv a.tg a.P a.lt a.kd a.lf a.rt a.gp x)) ∧ zJR a M' ∧ zRl M M' := by
  refine zW_mono (F_Md_part hP.N h.N h.L hP.lt hP.F h.F (by omega)) ?_
  rintro _ M2 ⟨rfl, ho⟩
  exact ⟨rfl, zJR_out h ho⟩
theorem zC_force {x y z : Int} (hP : zJP a) (h : zJC a v M) : zF (zSH Ln) 100 i_FN_force [zR 2, zI x, zI y, zI z] M fun r M' => r = some (zI (zFcA a.S a.P a.mv a.tg x y z)) ∧ zJC a (v + 100) M' ∧ zCl M M' := by
  refine zW_mono (F_FN_force hP.N h.N (by omega)) ?_
  rintro _ _ ⟨rfl, rfl⟩
  exact ⟨rfl, zJC_v h (by omega), fun _ _ => rfl⟩
theorem zR_force {x y z : Int} (hP : zJP a) (h : zJR a M) : zF (zSH Ln) 100 i_Md_force [zR 48, zI x, zI y, zI z] M fun r M' => r = some (zI (zFcA a.S a.P a.mv a.tg x y z)) ∧ zJR a M' ∧ zRl M M' := by
  refine zW_mono (F_Md_force hP.N h.N (by omega)) ?_
  rintro _ _ ⟨rfl, rfl⟩
  exact ⟨rfl, h, fun _ _ => rfl⟩
theorem zC_round {x : Int} (hP : zJP a) (h : zJC a v M) : zF (zSH Ln) 100 i_FN_round [zR 2, zI x] M fun r M' => r = some (zI (zRoA a.S a.P a.mv a.tg a.lt a.kd a.lf a.rt a.gp x)) ∧ zJC a (v + 100) M' ∧ zCl M M' := by
  refine zW_mono (F_FN_round hP.N h.N h.L hP.lt hP.F h.F h.tab h.law (by omega)) ?_
  rintro _ M2 ⟨rfl, ho⟩
  obtain ⟨h2, hc⟩ := zJC_out h ho
  exact ⟨rfl, zJC_v h2 (by omega), hc⟩
theorem zR_round {x : Int} (hP : zJP a) (h : zJR a M) : zF (zSH Ln) 100 i_Md_round [zR 48, zI x] M fun r M' => r = some (zI (zRoA a.S a.P a.mv a.tg a.lt a.kd a.lf a.rt a.gp x)) ∧ zJR a M' ∧ zRl M M' := by
  refine zW_mono (F_Md_round hP.N h.N h.L hP.lt hP.F h.F (by omega)) ?_
  rintro _ M2 ⟨rfl, ho⟩
  exact ⟨rfl, zJR_out h ho⟩
theorem zC_plan {x : Int} (hP : zJP a) (h : zJC a v M) : zF (zSH Ln) 100 i_FN_plan [zR 2, zI x] M fun r M' => r = some (zI (zPlA a.S a.P a.mv a.tg a.lt a.kd a.lf a.rt a.gp x)) ∧ zJC a (v + 100) M' ∧ zCl M M' := by
  refine zW_mono (F_FN_plan hP.N h.N h.L hP.lt hP.F h.F h.tab h.law (by omega)) ?_
  rintro _ M2 ⟨rfl, ho⟩
  obtain ⟨h2, hc⟩ := zJC_out h ho
  exact ⟨rfl, zJC_v h2 (by omega), hc⟩
theorem zR_plan {x : Int} (hP : zJP a) (h : zJR a M) : zF (zSH Ln) 100 i_Md_plan [zR 48, zI x] M fun r M' => r = some (zI (zPlA a.S a.P a.mv a.tg a.lt a.kd a.lf a.rt a.gp x)) ∧ zJR a M' ∧ zRl M M' := by
  refine zW_mono (F_Md_plan hP.N h.N h.L hP.lt hP.F h.F (by omega)) ?_
  rintro _ M2 ⟨rfl, ho⟩
  exact ⟨rfl, zJR_out h ho⟩
theorem zC_answer {x y : Int} (hP : zJP a) (h : zJC a v M) : zF (zSH Ln) 100 i_FN_answer [zR 2, zI x, zI y] M fun r M' => r = some (zI (zAnA a.S a.P a.mv a.tg a.lt a.kd a.lf a.rt a.gp x y)) ∧ zJC a (v + 100) M' ∧ zCl M M' := by
  refine zW_mono (F_FN_answer hP.N h.N h.L hP.lt hP.F h.F h.tab h.law (by omega)) ?_
  rintro _ M2 ⟨rfl, ho⟩
  obtain ⟨h2, hc⟩ := zJC_out h ho
  exact ⟨rfl, zJC_v h2 (by omega), hc⟩
theorem zR_answer {x y : Int} (hP : zJP a) (h : zJR a M) : zF (zSH Ln) 100 i_Md_answer [zR 48, zI x, zI y] M fun r M' => r = some (zI (zAnA a.S a.P a.mv a.tg a.lt a.kd a.lf a.rt a.gp x y)) ∧ zJR a M' ∧ zRl M M' := by
  refine zW_mono (F_Md_answer hP.N h.N h.L hP.lt hP.F h.F (by omega)) ?_
  rintro _ M2 ⟨rfl, ho⟩
  exact ⟨rfl, zJR_out h ho⟩
theorem zC_toll {x : Int} (hP : zJP a) (h : zJC a v M) : zF (zSH Ln) 100 i_FN_toll [zR 2, zI x] M fun r M' => r = some (zI (zTlA a.S a.P a.mv a.tg a.pr a.lt a.kd a.lf a.rt a.gp x)) ∧ zJC a (v + 100) M' ∧ zCl M M' := by
  refine zW_mono (F_FN_toll hP.N h.N h.L hP.lt hP.F h.F h.tab h.law h.Q hP.pr (by omega)) ?_
  rintro _ M2 ⟨rfl, ho⟩
  obtain ⟨h2, hc⟩ := zJC_out h ho
  exact ⟨rfl, zJC_v h2 (by omega), hc⟩
theorem zR_toll {x : Int} (hP : zJP a) (h : zJR a M) : zF (zSH Ln) 100 i_Md_toll [zR 48, zI x] M fun r M' => r = some (zI (zTlA a.S a.P a.mv a.tg a.pr a.lt a.kd a.lf a.rt a.gp x)) ∧ zJR a M' ∧ zRl M M' := by
  refine zW_mono (F_Md_toll hP.N h.N h.L hP.lt hP.F h.F h.Q hP.pr (by omega)) ?_
  rintro _ M2 ⟨rfl, ho⟩
  exact ⟨rfl, zJR_out h (zScrR_of ho (by decide))⟩
theorem zC_walked {x : Int} (hP : zJP a) (h : zJC a v M) : zF (zSH Ln) 100 i_FN_walked [zR 2, zI x] M fun r M' => r = some (zI (if 0 ≤ x ∧ x < a.tn then (a.tr x.toNat : Int) else -1)) ∧ zJC a (v + 100) M' ∧ zCl M M' := by
  refine zW_mono (F_FN_walked hP.tn h.W (by omega)) ?_
  rintro _ _ ⟨rfl, rfl⟩
  exact ⟨rfl, zJC_v h (by omega), fun _ _ => rfl⟩
theorem zR_walked {x : Int} (hP : zJP a) (h : zJR a M) : zF (zSH Ln) 100 i_Md_walked [zR 48, zI x] M fun r M' => r = some (zI (if 0 ≤ x ∧ x < a.tn then (a.tr x.toNat : Int) else -1)) ∧ zJR a M' ∧ zRl M M' := by
  refine zW_mono (F_Md_walked hP.tn h.W (by omega)) ?_
  rintro _ _ ⟨rfl, rfl⟩
  exact ⟨rfl, h, fun _ _ => rfl⟩
theorem zC_blind {x : Int} (hP : zJP a) (h : zJC a v M) : zF (zSH Ln) 100 i_FN_blind [zR 2, zI x] M fun r M' => r = some (zI (zBlA a.S a.P a.mv a.tg a.hp a.lt a.kd a.lf a.rt a.gp x)) ∧ zJC a (v + 100) M' ∧ zCl M M' := by
  refine zW_mono (F_FN_blind hP.N h.N h.L hP.lt hP.F h.F h.tab h.law h.H hP.hp (by omega)) ?_
  rintro _ M2 ⟨rfl, ho⟩
  obtain ⟨h2, hc⟩ := zJC_out h ho
  exact ⟨rfl, zJC_v h2 (by omega), hc⟩
theorem zR_blind {x : Int} (hP : zJP a) (h : zJR a M) : zF (zSH Ln) 100 i_Md_blind [zR 48, zI x] M fun r M' => r = some (zI (zBlA a.S a.P a.mv a.tg a.hp a.lt a.kd a.lf a.rt a.gp x)) ∧ zJR a M' ∧ zRl M M' := by
  refine zW_mono (F_Md_blind hP.N h.N h.L hP.lt hP.F h.F h.H hP.hp (by omega)) ?_
  rintro _ M2 ⟨rfl, ho⟩
  exact ⟨rfl, zJR_out h ho⟩
theorem zC_blindMove {x y z : Int} (hP : zJP a) (h : zJC a v M) : zF (zSH Ln) 100 i_FN_blindMove [zR 2, zI x, zI y, zI z] M fun r M' => r = some (zI (zBmA a.S a.P a.mv a.tg a.hp a.lt a.kd a.lf a.rt a.gp x y z)) ∧ zJC a (v + 100) M' ∧ zCl M M' := by
  refine zW_mono (F_FN_blindMove hP.N h.N h.L hP.lt hP.F h.F h.tab h.law h.H hP.hp (by omega)) ?_
  rintro _ M2 ⟨rfl, ho⟩
  obtain ⟨h2, hc⟩ := zJC_out h ho
  exact ⟨rfl, zJC_v h2 (by omega), hc⟩
theorem zR_blindMove {x y z : Int} (hP : zJP a) (h : zJR a M) : zF (zSH Ln) 100 i_Md_blindMove [zR 48, zI x, zI y, zI z] M fun r M' => r = some (zI (zBmA a.S a.P a.mv a.tg a.hp a.lt a.kd a.lf a.rt a.gp x y z)) ∧ zJR a M' ∧ zRl M M' := by
  refine zW_mono (F_Md_blindMove hP.N h.N h.L hP.lt hP.F h.F h.H hP.hp (by omega)) ?_
  rintro _ M2 ⟨rfl, ho⟩
  exact ⟨rfl, zJR_out h ho⟩
theorem zC_chance {x y : Int} (hP : zJP a) (h : zJC a v M) : zF (zSH Ln) 100 i_FN_chance [zR 2, zI x, zI y] M fun r M' => r = some (zL (zChA a.S (zMx a.S a.mv a.tg a.P a.ch a.lo (zHp a.mv a.tg a.P a.lt a.kd a.lf a.rt a.gp 0)) x y)) ∧ zJC a (v + 100) M' ∧ zCl M M' := by
  refine zW_mono (F_FN_chance hP.N h.N h.L hP.lt hP.F h.F h.tab h.law h.K hP.ch h.lo hP.lo (by omega)) ?_
  rintro _ M2 ⟨rfl, ho⟩
  obtain ⟨h2, hc⟩ := zJC_out h ho
  exact ⟨rfl, zJC_v h2 (by omega), hc⟩
theorem zR_chance {x y : Int} (hP : zJP a) (h : zJR a M) : zF (zSH Ln) 100 i_Md_chance [zR 48, zI x, zI y] M fun r M' => r = some (zL (zChA a.S (zMx a.S a.mv a.tg a.P a.ch a.lo (zHp a.mv a.tg a.P a.lt a.kd a.lf a.rt a.gp 0)) x y)) ∧ zJR a M' ∧ zRl M M' := by
  refine zW_mono (F_Md_chance hP.N h.N h.L hP.lt hP.F h.F h.K hP.ch h.lo hP.lo (by omega)) ?_
  rintro _ M2 ⟨rfl, ho⟩
  exact ⟨rfl, zJR_out h ho⟩
theorem zC_content {x : Int} (hP : zJP a) (h : zJC a v M) : zF (zSH Ln) 100 i_FN_content [zR 2, zI x] M fun r M' => r = some (zI (zCtA a.S a.P a.mv a.tg a.ch a.gl x)) ∧ zJC a (v + 100) M' ∧ zCl M M' := by
  refine zW_mono (F_FN_content hP.N h.N h.G h.K hP.ch (by omega)) ?_
  rintro _ _ ⟨rfl, rfl⟩
  exact ⟨rfl, zJC_v h (by omega), fun _ _ => rfl⟩
theorem zR_content {x : Int} (hP : zJP a) (h : zJR a M) : zF (zSH Ln) 100 i_Md_content [zR 48, zI x] M fun r M' => r = some (zI (zCtA a.S a.P a.mv a.tg a.ch a.gl x)) ∧ zJR a M' ∧ zRl M M' := by
  refine zW_mono (F_Md_content hP.N h.N h.G h.K hP.ch (by omega)) ?_
  rintro _ _ ⟨rfl, rfl⟩
  exact ⟨rfl, h, fun _ _ => rfl⟩
theorem zC_stable {x : Int} (hP : zJP a) (h : zJC a v M) : zF (zSH Ln) 100 i_FN_stable [zR 2, zI x] M fun r M' => r = some (zI (zSbA a.S a.P a.mv a.tg a.ch a.gl x)) ∧ zJC a (v + 100) M' ∧ zCl M M' := by
  refine zW_mono (F_FN_stable hP.N h.N h.G h.K hP.ch (by omega)) ?_
  rintro _ _ ⟨rfl, rfl⟩
  exact ⟨rfl, zJC_v h (by omega), fun _ _ => rfl⟩
theorem zR_stable {x : Int} (hP : zJP a) (h : zJR a M) : zF (zSH Ln) 100 i_Md_stable [zR 48, zI x] M fun r M' => r = some (zI (zSbA a.S a.P a.mv a.tg a.ch a.gl x)) ∧ zJR a M' ∧ zRl M M' := by
  refine zW_mono (F_Md_stable hP.N h.N h.G h.K hP.ch (by omega)) ?_
  rintro _ _ ⟨rfl, rfl⟩
  exact ⟨rfl, h, fun _ _ => rfl⟩
theorem zC_helpers {x : Int} (hP : zJP a) (h : zJC a v M) : zF (zSH Ln) 100 i_FN_helpers [zR 2, zI x] M fun r M' => r = some (zI (zHeA a.S a.P a.mv a.tg a.lt a.kd a.lf a.rt a.gp x)) ∧ zJC a (v + 100) M' ∧ zCl M M' := by
  refine zW_mono (F_FN_helpers hP.N h.N h.L hP.lt hP.F h.F h.tab h.law h.hl h.v1.1 (by omega)) ?_
  rintro _ M2 ⟨rfl, ho⟩
  obtain ⟨h2, hc⟩ := zJC_out h ho
  exact ⟨rfl, zJC_v h2 (by omega), hc⟩
theorem zR_helpers {x : Int} (hP : zJP a) (h : zJR a M) : zF (zSH Ln) 100 i_Md_helpers [zR 48, zI x] M fun r M' => r = some (zI (zHeA a.S a.P a.mv a.tg a.lt a.kd a.lf a.rt a.gp x)) ∧ zJR a M' ∧ zRl M M' := by
  refine zW_mono (F_Md_helpers hP.N h.N h.L hP.lt hP.F h.F (by omega)) ?_
  rintro _ M2 ⟨rfl, ho⟩
  exact ⟨rfl, zJR_out h (zScrR_of ho (by decide))⟩
theorem zC_count {x : Int} (hP : zJP a) (h : zJC a v M) : zF (zSH Ln) 100 i_FN_count [zR 2, zI x] M fun r M' => r = some (zI (zCoA a.S a.P a.n a.mv x)) ∧ zJC a (v + 100) M' ∧ zCl M M' := by
  refine zW_mono (F_FN_count hP.N h.N h.F.1 (by omega)) ?_
  rintro _ _ ⟨rfl, rfl⟩
  exact ⟨rfl, zJC_v h (by omega), fun _ _ => rfl⟩
theorem zR_count {x : Int} (hP : zJP a) (h : zJR a M) : zF (zSH Ln) 100 i_Md_count [zR 48, zI x] M fun r M' => r = some (zI (zCoA a.S a.P a.n a.mv x)) ∧ zJR a M' ∧ zRl M M' := by
  refine zW_mono (F_Md_count hP.N h.N h.F.1 (by omega)) ?_
  rintro _ _ ⟨rfl, rfl⟩
  exact ⟨rfl, h, fun _ _ => rfl⟩
end QU
