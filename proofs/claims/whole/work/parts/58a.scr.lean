/-! the reference's own scratch cells -/
theorem RT.scr {M : zMn} {T T' : zMd} (h : RT M T) (e : md_number T' = md_number T ∧ md_kind T' = md_kind T ∧ md_figure T' = md_figure T ∧ md_one T' = md_one T ∧ md_other T' = md_other T ∧ md_stands T' = md_stands T ∧ md_uses T' = md_uses T ∧ md_earned T' = md_earned T ∧ md_houses T' = md_houses T ∧ md_sums T' = md_sums T ∧ md_falls T' = md_falls T) (ek : md_kept T' = md_kept T) (ei : md_hasImage T' = md_hasImage T)
    (e2 : md_taped T' = md_taped T ∧ md_tape T' = md_tape T ∧ md_rowMany T' = md_rowMany T ∧ md_row T' = md_row T ∧ md_refused T' = md_refused T) : RT M T' := by
  have hr := h
  obtain ⟨-, -, ⟨k, x1, x2, x3, x4⟩, ⟨k2, y1, y2, y3, y4⟩, h5, -⟩ := h
  obtain ⟨f1, f2, f3, f4, f5⟩ := e2
  refine RT.of hr rfl rfl rfl rfl e ek ei ⟨k, x1, x2, f1.trans x3, fun i hi => (x4 i hi).trans (by rw [f2])⟩ ⟨k2, y1, y2, f3.trans y3, fun i hi => (y4 i hi).trans (by rw [f4])⟩ (fun i hi => (h5 i hi).trans (by rw [f5]))
theorem RT.byF {M : zMn} {T : zMd} (h : RT M T) (F : Nat → Int32) : RT M (md_set_byFactors T F) :=
  h.scr ⟨rfl, rfl, rfl, rfl, rfl, rfl, rfl, rfl, rfl, rfl, rfl⟩ rfl rfl ⟨rfl, rfl, rfl, rfl, rfl⟩
theorem RT.ways {M : zMn} {T : zMd} (h : RT M T) (F : Nat → Int32) : RT M (md_set_ways T F) :=
  h.scr ⟨rfl, rfl, rfl, rfl, rfl, rfl, rfl, rfl, rfl, rfl, rfl⟩ rfl rfl ⟨rfl, rfl, rfl, rfl, rfl⟩
theorem RT.wins {M : zMn} {T : zMd} (h : RT M T) (F : Nat → Int32) : RT M (md_set_wins T F) :=
  h.scr ⟨rfl, rfl, rfl, rfl, rfl, rfl, rfl, rfl, rfl, rfl, rfl⟩ rfl rfl ⟨rfl, rfl, rfl, rfl, rfl⟩
theorem RT.wanted {M : zMn} {T : zMd} (h : RT M T) (F : Int32) : RT M (md_set_wanted T F) :=
  h.scr ⟨rfl, rfl, rfl, rfl, rfl, rfl, rfl, rfl, rfl, rfl, rfl⟩ rfl rfl ⟨rfl, rfl, rfl, rfl, rfl⟩
theorem RT.goal {M : zMn} {T : zMd} (h : RT M T) (F : Int32) : RT M (md_set_goal T F) :=
  h.scr ⟨rfl, rfl, rfl, rfl, rfl, rfl, rfl, rfl, rfl, rfl, rfl⟩ rfl rfl ⟨rfl, rfl, rfl, rfl, rfl⟩
theorem RT.tried {M : zMn} {T : zMd} (h : RT M T) (F : Nat → Int32) : RT M (md_set_tried T F) :=
  h.scr ⟨rfl, rfl, rfl, rfl, rfl, rfl, rfl, rfl, rfl, rfl, rfl⟩ rfl rfl ⟨rfl, rfl, rfl, rfl, rfl⟩
theorem RT.comings {M : zMn} {T : zMd} (h : RT M T) (F : Nat → Int32) : RT (mn_set_comings M F) T := by
  have hr := h
  obtain ⟨-, -, h3, h4, h5, -⟩ := h
  exact RT.of hr rfl rfl rfl rfl ⟨rfl, rfl, rfl, rfl, rfl, rfl, rfl, rfl, rfl, rfl, rfl⟩ rfl rfl h3 h4 h5
theorem RT.builders {M : zMn} {T : zMd} (h : RT M T) (F : Nat → Int32) : RT (mn_set_builders M F) T := by
  have hr := h
  obtain ⟨-, -, h3, h4, h5, -⟩ := h
  exact RT.of hr rfl rfl rfl rfl ⟨rfl, rfl, rfl, rfl, rfl, rfl, rfl, rfl, rfl, rfl, rfl⟩ rfl rfl h3 h4 h5
