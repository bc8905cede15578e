/-! all the calls, and the start -/
theorem rt_start : ∃ (S1 : zSt) (T1 : zMd), fX5_beginAnew zStz = some S1 ∧ fX8_beginsAnew zMdz = some T1 ∧ RT ((S1, S1, S1, zLtz, zRwz, zCh1, zOrz, zGmz, (fun _ => 0), 0) : zMn) T1 := by
  obtain ⟨S1, T1, a1, a2, a3, a4, -⟩ := anew_eq zStz zMdz ⟨rfl, Or.inl rfl⟩ ⟨rfl, Or.inl rfl⟩
  obtain ⟨f1, f2, f3, f4, f5, f6, f7, f8, f9, f10, f11, f12⟩ := a4
  have i0 : md_hasImage T1 = 0 := f10.trans rfl
  have t0 : md_taped T1 = 0 := f6.trans rfl
  have r0 : md_rowMany T1 = 0 := f12.trans rfl
  have u0 : ∀ i, md_refused T1 i = 0 := fun i => by rw [f1]; rfl
  refine ⟨S1, T1, a1, a2, ⟨1, 1, a3⟩, ⟨i0.symm, Or.inl i0⟩, ⟨0, by omega, rfl, t0, fun i hi => by omega⟩, ⟨0, by omega, rfl, r0, fun i hi => by omega⟩, fun i hi => (u0 i).symm, ?_⟩
  show zCh1 0 = 1
  unfold zCh1
  exact if_pos rfl
theorem zSimAll : ∃ (R : zMn → zMd → Prop) (S1 : zSt) (T1 : zMd), fX5_beginAnew zStz = some S1 ∧ fX8_beginsAnew zMdz = some T1 ∧ R ((S1, S1, S1, zLtz, zRwz, zCh1, zOrz, zGmz, (fun _ => 0), 0) : zMn) T1 ∧ zSim_feed R ∧ zSim_street R ∧ zSim_house R ∧ zSim_law R ∧ zSim_may R ∧ zSim_cost R ∧ zSim_add R ∧ zSim_burn R ∧ zSim_hangs R ∧ zSim_save R ∧ zSim_fewest R ∧ zSim_chain R ∧ zSim_way R ∧ zSim_both R ∧ zSim_far R ∧ zSim_can R ∧ zSim_more R ∧ zSim_orders R ∧ zSim_game R ∧ zSim_row R ∧ zSim_judge R ∧ zSim_seeds R ∧ zSim_image R ∧ zSim_restore R ∧ zSim_count R := by
  obtain ⟨S1, T1, a1, a2, a3⟩ := rt_start
  exact ⟨RT, S1, T1, a1, a2, a3, sim_feed, sim_street, sim_house, sim_law, sim_may, sim_cost, sim_add, sim_burn, sim_hangs, sim_save, sim_fewest, sim_chain, sim_way, sim_both, sim_far, sim_can, sim_more, sim_orders, sim_game, sim_row, sim_judge, sim_seeds, sim_image, sim_restore, sim_count⟩
