/-! the keeping: passesAll -/
/-- twelve places of K from cu on hold X -/
def zpt (K X : Nat → Int32) (cu i : Nat) : Nat → Int32 := fun j => if cu ≤ j ∧ j < cu + i then X (j - cu) else K j
theorem zpt_0 (K X : Nat → Int32) (cu : Nat) : zpt K X cu 0 = K := by
  funext j
  unfold zpt
  rw [if_neg (by omega)]
theorem zpt_s (K X : Nat → Int32) (cu i : Nat) : upd (zpt K X cu i) (cu + i) (X i) = zpt K X cu (i + 1) := by
  funext j
  unfold zpt
  rw [upd_at]
  by_cases e : j = cu + i
  · subst e
    rw [if_pos rfl, if_pos (by omega), Nat.add_sub_cancel_left]
  · rw [if_neg e]
    by_cases q : cu ≤ j ∧ j < cu + i
    · rw [if_pos q, if_pos (by omega)]
    · rw [if_neg q, if_neg (by omega)]
theorem zpt_in {K X : Nat → Int32} {cu i j : Nat} (h : j < i) : zpt K X cu i (cu + j) = X j := by
  unfold zpt
  rw [if_pos (by omega), Nat.add_sub_cancel_left]
theorem zpt_out {K X : Nat → Int32} {cu i j : Nat} (h : j < cu ∨ cu + i ≤ j) : zpt K X cu i j = K j := by
  unfold zpt
  rw [if_neg (by omega)]
/-- the first i of X are K's from cu on -/
def zget12 (K X : Nat → Int32) (cu i : Nat) : Nat → Int32 := fun j => if j < i then K (cu + j) else X j
theorem zget12_0 (K X : Nat → Int32) (cu : Nat) : zget12 K X cu 0 = X := by
  funext j
  unfold zget12
  rw [if_neg (by omega)]
theorem zget12_s (K X : Nat → Int32) (cu i : Nat) : upd (zget12 K X cu i) i (K (cu + i)) = zget12 K X cu (i + 1) := by
  funext j
  unfold zget12
  rw [upd_at]
  by_cases e : j = i
  · subst e
    rw [if_pos rfl, if_pos (by omega)]
  · rw [if_neg e]
    by_cases q : j < i
    · rw [if_pos q, if_pos (by omega)]
    · rw [if_neg q, if_neg (by omega)]
theorem zget12_in {K X : Nat → Int32} {cu i j : Nat} (h : j < i) : zget12 K X cu i j = K (cu + j) := by
  unfold zget12
  rw [if_pos h]
/-- the kept row behind a keeping from place cu on -/
def zkeep (T : zMd) (cu : Nat) : Nat → Int32 :=
  upd (upd (upd (zpt (zpt (zpt (zpt (zpt (zpt (zpt (zpt (md_kept T) (md_number T) cu 12) (md_kind T) (cu + 12) 12) (md_figure T) (cu + 24) 12) (md_one T) (cu + 36) 12) (md_other T) (cu + 48) 12) (md_stands T) (cu + 60) 12) (md_uses T) (cu + 72) 12) (md_earned T) (cu + 84) 12) (cu + 96) (md_houses T)) (cu + 97) (md_sums T)) (cu + 98) (md_falls T)
/-- the street that lies kept from place cu on -/
def zload (T : zMd) (cu : Nat) : zMd :=
  md_set_falls (md_set_sums (md_set_houses (md_set_earned (md_set_uses (md_set_stands (md_set_other (md_set_one (md_set_figure (md_set_kind (md_set_number T (zget12 (md_kept T) (md_number T) cu 12)) (zget12 (md_kept T) (md_kind T) (cu + 12) 12)) (zget12 (md_kept T) (md_figure T) (cu + 24) 12)) (zget12 (md_kept T) (md_one T) (cu + 36) 12)) (zget12 (md_kept T) (md_other T) (cu + 48) 12)) (zget12 (md_kept T) (md_stands T) (cu + 60) 12)) (zget12 (md_kept T) (md_uses T) (cu + 72) 12)) (zget12 (md_kept T) (md_earned T) (cu + 84) 12)) (md_kept T (cu + 96))) (md_kept T (cu + 97))) (md_kept T (cu + 98))
/-- two streets of the reference's kind are the same where they are looked at -/
def SE (T T' : zMd) : Prop := (∀ h, h < 12 → md_number T' h = md_number T h ∧ md_kind T' h = md_kind T h ∧ md_figure T' h = md_figure T h ∧ md_one T' h = md_one T h ∧ md_other T' h = md_other T h ∧ md_stands T' h = md_stands T h ∧ md_uses T' h = md_uses T h ∧ md_earned T' h = md_earned T h) ∧ md_houses T' = md_houses T ∧ md_sums T' = md_sums T ∧ md_falls T' = md_falls T
theorem SE.rf {T : zMd} : SE T T := ⟨fun _ _ => ⟨rfl, rfl, rfl, rfl, rfl, rfl, rfl, rfl⟩, rfl, rfl, rfl⟩
theorem SE.sy {T T' : zMd} (h : SE T T') : SE T' T := ⟨fun j hj => by
  obtain ⟨a1, a2, a3, a4, a5, a6, a7, a8⟩ := h.1 j hj
  exact ⟨a1.symm, a2.symm, a3.symm, a4.symm, a5.symm, a6.symm, a7.symm, a8.symm⟩, h.2.1.symm, h.2.2.1.symm, h.2.2.2.symm⟩
theorem SE.tr {A B C : zMd} (h : SE A B) (g : SE B C) : SE A C := ⟨fun j hj => by
  obtain ⟨a1, a2, a3, a4, a5, a6, a7, a8⟩ := h.1 j hj
  obtain ⟨b1, b2, b3, b4, b5, b6, b7, b8⟩ := g.1 j hj
  exact ⟨b1.trans a1, b2.trans a2, b3.trans a3, b4.trans a4, b5.trans a5, b6.trans a6, b7.trans a7, b8.trans a8⟩, g.2.1.trans h.2.1, g.2.2.1.trans h.2.2.1, g.2.2.2.trans h.2.2.2⟩
theorem SR.se {c w : Nat} {S : zSt} {T T' : zMd} (h : SR c w S T) (e : SE T T') : SR c w S T' := by
  obtain ⟨e1, e2, e3, e4⟩ := e
  obtain ⟨h1, h2, h3, h4, h5, h6, h7, h8, h9⟩ := h
  refine ⟨h1, h2, h3, e2.trans h4, h5, fun j hj => ?_, ?_, ?_, fun j hj => ?_⟩
  · obtain ⟨a1, a2, a3, a4, a5, a6, a7, a8⟩ := e1 j (by omega)
    obtain ⟨b1, b2, b3, b4, b5, b6, b7, b8⟩ := h6 j hj
    exact ⟨b1.trans a2.symm, b2.trans a3.symm, b3.trans a1.symm, b4.trans a4.symm, b5.trans a5.symm, b6.trans a7.symm, b7.trans a8.symm, a6.trans b8⟩
  · rw [e3]; exact h7
  · rw [e4]; exact h8
  · obtain ⟨a1, a2, a3, a4, a5, a6, a7, a8⟩ := e1 j (by omega)
    rw [a1, a4, a5]
    exact h9 j hj
/-- the keeping keeps -/
theorem zkeep_at (T : zMd) (cu : Nat) : ∀ j, j < 12 → zkeep T cu (cu + j) = md_number T j ∧ zkeep T cu (cu + 12 + j) = md_kind T j ∧ zkeep T cu (cu + 24 + j) = md_figure T j ∧ zkeep T cu (cu + 36 + j) = md_one T j ∧ zkeep T cu (cu + 48 + j) = md_other T j ∧ zkeep T cu (cu + 60 + j) = md_stands T j ∧ zkeep T cu (cu + 72 + j) = md_uses T j ∧ zkeep T cu (cu + 84 + j) = md_earned T j := by
  intro j hj
  unfold zkeep
  refine ⟨?_, ?_, ?_, ?_, ?_, ?_, ?_, ?_⟩
  all_goals rw [upd_at, if_neg (by omega), upd_at, if_neg (by omega), upd_at, if_neg (by omega)]
  · rw [zpt_out (by omega), zpt_out (by omega), zpt_out (by omega), zpt_out (by omega), zpt_out (by omega), zpt_out (by omega), zpt_out (by omega), zpt_in (by omega)]
  · rw [zpt_out (by omega), zpt_out (by omega), zpt_out (by omega), zpt_out (by omega), zpt_out (by omega), zpt_out (by omega), zpt_in (by omega)]
  · rw [zpt_out (by omega), zpt_out (by omega), zpt_out (by omega), zpt_out (by omega), zpt_out (by omega), zpt_in (by omega)]
  · rw [zpt_out (by omega), zpt_out (by omega), zpt_out (by omega), zpt_out (by omega), zpt_in (by omega)]
  · rw [zpt_out (by omega), zpt_out (by omega), zpt_out (by omega), zpt_in (by omega)]
  · rw [zpt_out (by omega), zpt_out (by omega), zpt_in (by omega)]
  · rw [zpt_out (by omega), zpt_in (by omega)]
  · rw [zpt_in (by omega)]
theorem zkeep_3 (T : zMd) (cu : Nat) : zkeep T cu (cu + 96) = md_houses T ∧ zkeep T cu (cu + 97) = md_sums T ∧ zkeep T cu (cu + 98) = md_falls T := by
  unfold zkeep
  refine ⟨?_, ?_, ?_⟩
  · rw [upd_at, if_neg (by omega), upd_at, if_neg (by omega), upd_at, if_pos rfl]
  · rw [upd_at, if_neg (by omega), upd_at, if_pos rfl]
  · rw [upd_at, if_pos rfl]
theorem zkeep_out (T : zMd) (cu j : Nat) (h : j < cu ∨ cu + 99 ≤ j) : zkeep T cu j = md_kept T j := by
  unfold zkeep
  rw [upd_at, if_neg (by omega), upd_at, if_neg (by omega), upd_at, if_neg (by omega), zpt_out (by omega), zpt_out (by omega), zpt_out (by omega), zpt_out (by omega), zpt_out (by omega), zpt_out (by omega), zpt_out (by omega), zpt_out (by omega)]
/-- the kept street at cu depends on the kept row alone -/
theorem zload_se {T T' : zMd} {cu : Nat} (h : ∀ j, cu ≤ j → j < cu + 99 → md_kept T' j = md_kept T j) : SE (zload T cu) (zload T' cu) := by
  refine ⟨fun j hj => ⟨?_, ?_, ?_, ?_, ?_, ?_, ?_, ?_⟩, h _ (by omega) (by omega), h _ (by omega) (by omega), h _ (by omega) (by omega)⟩
  · show zget12 _ _ _ 12 j = zget12 _ _ _ 12 j
    rw [zget12_in hj, zget12_in hj]; exact h _ (by omega) (by omega)
  · show zget12 _ _ _ 12 j = zget12 _ _ _ 12 j
    rw [zget12_in hj, zget12_in hj]; exact h _ (by omega) (by omega)
  · show zget12 _ _ _ 12 j = zget12 _ _ _ 12 j
    rw [zget12_in hj, zget12_in hj]; exact h _ (by omega) (by omega)
  · show zget12 _ _ _ 12 j = zget12 _ _ _ 12 j
    rw [zget12_in hj, zget12_in hj]; exact h _ (by omega) (by omega)
  · show zget12 _ _ _ 12 j = zget12 _ _ _ 12 j
    rw [zget12_in hj, zget12_in hj]; exact h _ (by omega) (by omega)
  · show zget12 _ _ _ 12 j = zget12 _ _ _ 12 j
    rw [zget12_in hj, zget12_in hj]; exact h _ (by omega) (by omega)
  · show zget12 _ _ _ 12 j = zget12 _ _ _ 12 j
    rw [zget12_in hj, zget12_in hj]; exact h _ (by omega) (by omega)
  · show zget12 _ _ _ 12 j = zget12 _ _ _ 12 j
    rw [zget12_in hj, zget12_in hj]; exact h _ (by omega) (by omega)
theorem zload_keep {T T' : zMd} {cu : Nat} (h : md_kept T' = zkeep T cu) : SE T (zload T' cu) := by
  obtain ⟨b1, b2, b3⟩ := zkeep_3 T cu
  refine ⟨fun j hj => ?_, by show md_kept T' (cu + 96) = _; rw [h, b1], by show md_kept T' (cu + 97) = _; rw [h, b2], by show md_kept T' (cu + 98) = _; rw [h, b3]⟩
  obtain ⟨a1, a2, a3, a4, a5, a6, a7, a8⟩ := zkeep_at T cu j hj
  refine ⟨?_, ?_, ?_, ?_, ?_, ?_, ?_, ?_⟩
  · show zget12 (md_kept T') _ cu 12 j = _
    rw [zget12_in hj, h, a1]
  · show zget12 (md_kept T') _ (cu + 12) 12 j = _
    rw [zget12_in hj, h, a2]
  · show zget12 (md_kept T') _ (cu + 24) 12 j = _
    rw [zget12_in hj, h, a3]
  · show zget12 (md_kept T') _ (cu + 36) 12 j = _
    rw [zget12_in hj, h, a4]
  · show zget12 (md_kept T') _ (cu + 48) 12 j = _
    rw [zget12_in hj, h, a5]
  · show zget12 (md_kept T') _ (cu + 60) 12 j = _
    rw [zget12_in hj, h, a6]
  · show zget12 (md_kept T') _ (cu + 72) 12 j = _
    rw [zget12_in hj, h, a7]
  · show zget12 (md_kept T') _ (cu + 84) 12 j = _
    rw [zget12_in hj, h, a8]
def zSame (T T' : zMd) : Prop := md_number T' = md_number T ∧ md_kind T' = md_kind T ∧ md_figure T' = md_figure T ∧ md_one T' = md_one T ∧ md_other T' = md_other T ∧ md_stands T' = md_stands T ∧ md_uses T' = md_uses T ∧ md_earned T' = md_earned T ∧ md_houses T' = md_houses T ∧ md_sums T' = md_sums T ∧ md_falls T' = md_falls T ∧ FR T T'
theorem zSame.tr {A B C : zMd} (h : zSame A B) (g : zSame B C) : zSame A C := by
  obtain ⟨a1, a2, a3, a4, a5, a6, a7, a8, a9, a10, a11, a12⟩ := h
  obtain ⟨b1, b2, b3, b4, b5, b6, b7, b8, b9, b10, b11, b12⟩ := g
  exact ⟨b1.trans a1, b2.trans a2, b3.trans a3, b4.trans a4, b5.trans a5, b6.trans a6, b7.trans a7, b8.trans a8, b9.trans a9, b10.trans a10, b11.trans a11, a12.tr b12⟩
theorem zSame.se {A B : zMd} (h : zSame A B) : SE A B := by
  obtain ⟨a1, a2, a3, a4, a5, a6, a7, a8, a9, a10, a11, a12⟩ := h
  exact ⟨fun j _ => ⟨by rw [a1], by rw [a2], by rw [a3], by rw [a4], by rw [a5], by rw [a6], by rw [a7], by rw [a8]⟩, a9, a10, a11⟩
theorem zs_kept (T : zMd) (v : Nat → Int32) : zSame T (md_set_kept T v) := ⟨ac_number_kept T v, ac_kind_kept T v, ac_figure_kept T v, ac_one_kept T v, ac_other_kept T v, ac_stands_kept T v, ac_uses_kept T v, ac_earned_kept T v, ac_houses_kept T v, ac_sums_kept T v, ac_falls_kept T v, af_kept T v⟩
theorem zs_cursor (T : zMd) (v : Int32) : zSame T (md_set_cursor T v) := ⟨ac_number_cursor T v, ac_kind_cursor T v, ac_figure_cursor T v, ac_one_cursor T v, ac_other_cursor T v, ac_stands_cursor T v, ac_uses_cursor T v, ac_earned_cursor T v, ac_houses_cursor T v, ac_sums_cursor T v, ac_falls_cursor T v, af_cursor T v⟩
theorem zs_isKeeping (T : zMd) (v : Int32) : zSame T (md_set_isKeeping T v) := ⟨ac_number_isKeeping T v, ac_kind_isKeeping T v, ac_figure_isKeeping T v, ac_one_isKeeping T v, ac_other_isKeeping T v, ac_stands_isKeeping T v, ac_uses_isKeeping T v, ac_earned_isKeeping T v, ac_houses_isKeeping T v, ac_sums_isKeeping T v, ac_falls_isKeeping T v, af_isKeeping T v⟩
theorem pkl_number (cu : Nat) (hcu : cu + 12 ≤ 400) : ∀ d i k (T : zMd), i + d = 12 → d < k → md_isKeeping T = 1 → md_cursor T = nI (cu + i) → ∃ T', fX8_passes_number_l2 k (nI i) T = some T' ∧ zSame T T' ∧ md_isKeeping T' = 1 ∧ md_cursor T' = nI (cu + 12) ∧ ∀ j, md_kept T' j = if cu + i ≤ j ∧ j < cu + 12 then md_number T (j - cu) else md_kept T j := by
  intro d
  induction d with
  | zero =>
    intro i k T hi hk hq hc
    obtain ⟨k, rfl⟩ : ∃ k', k = k' + 1 := ⟨k - 1, by omega⟩
    have e : i = 12 := by omega
    subst e
    refine ⟨T, ?_, ⟨rfl, rfl, rfl, rfl, rfl, rfl, rfl, rfl, rfl, rfl, rfl, FR.rf⟩, hq, hc, fun j => ?_⟩
    · rw [fX8_passes_number_l2, if_pos (by decide)]
    · rw [if_neg (by omega)]
  | succ d ih =>
    intro i k T hi hk hq hc
    obtain ⟨k, rfl⟩ : ∃ k', k = k' + 1 := ⟨k - 1, by omega⟩
    rw [fX8_passes_number_l2, if_neg (show ¬ (12 : Int32) ≤ nI i from nI_ge (b := 12) (by omega) (by omega)), hq, if_neg (by decide), ix_nI (by omega) (by omega), hc, ix_nI (by omega) (by omega), nI_clamp (by omega), nI_clamp (by omega)]
    unfold fX8_passes_number_j42
    rw [ac_cursor_kept, hc, nI_1, nI_1]
    obtain ⟨T', e1, e2, e3, e4, e5⟩ := ih (i + 1) k (md_set_cursor (md_set_kept T (upd (md_kept T) (cu + i) (md_number T i))) (nI (cu + i + 1))) (by omega) (by omega) (by rw [ac_isKeeping_cursor, ac_isKeeping_kept, hq]) (ac_cursor_cursor _ _)
    refine ⟨T', e1, (zs_kept T _).tr ((zs_cursor _ _).tr e2), e3, e4, fun j => ?_⟩
    rw [e5 j, ac_number_cursor, ac_number_kept, ac_kept_cursor, ac_kept_kept, upd_at]
    by_cases q : j = cu + i
    · rw [if_neg (by omega), if_pos q, if_pos (by omega), show j - cu = i from by omega]
    · rw [if_neg q]
      by_cases g : cu + (i + 1) ≤ j ∧ j < cu + 12
      · rw [if_pos g, if_pos (by omega)]
      · rw [if_neg g, if_neg (by omega)]
theorem pke_number (T : zMd) (hk : md_isKeeping T = 1) (cu : Nat) (hcu : cu + 12 ≤ 400) (hc : md_cursor T = nI cu) : ∃ T', fX8_passes_number T = some T' ∧ zSame T T' ∧ md_isKeeping T' = 1 ∧ md_kept T' = zpt (md_kept T) (md_number T) cu 12 ∧ md_cursor T' = nI (cu + 12) := by
  obtain ⟨T', e1, e2, e3, e4, e5⟩ := pkl_number cu hcu 12 0 FU T (by omega) (FU_big _ (by omega)) hk hc
  exact ⟨T', e1, e2, e3, funext e5, e4⟩
theorem pll_number (cu : Nat) (hcu : cu + 12 ≤ 400) : ∀ d i k (T : zMd), i + d = 12 → d < k → md_isKeeping T = 0 → md_cursor T = nI (cu + i) → ∃ T', fX8_passes_number_l2 k (nI i) T = some T' ∧ (md_kind T' = md_kind T ∧ md_figure T' = md_figure T ∧ md_one T' = md_one T ∧ md_other T' = md_other T ∧ md_stands T' = md_stands T ∧ md_uses T' = md_uses T ∧ md_earned T' = md_earned T ∧ md_houses T' = md_houses T ∧ md_sums T' = md_sums T ∧ md_falls T' = md_falls T) ∧ FR T T' ∧ md_isKeeping T' = 0 ∧ md_kept T' = md_kept T ∧ md_cursor T' = nI (cu + 12) ∧ ∀ j, md_number T' j = if i ≤ j ∧ j < 12 then md_kept T (cu + j) else md_number T j := by
  intro d
  induction d with
  | zero =>
    intro i k T hi hk hq hc
    obtain ⟨k, rfl⟩ : ∃ k', k = k' + 1 := ⟨k - 1, by omega⟩
    have e : i = 12 := by omega
    subst e
    refine ⟨T, ?_, ⟨rfl, rfl, rfl, rfl, rfl, rfl, rfl, rfl, rfl, rfl⟩, FR.rf, hq, rfl, hc, fun j => ?_⟩
    · rw [fX8_passes_number_l2, if_pos (by decide)]
    · rw [if_neg (by omega)]
  | succ d ih =>
    intro i k T hi hk hq hc
    obtain ⟨k, rfl⟩ : ∃ k', k = k' + 1 := ⟨k - 1, by omega⟩
    rw [fX8_passes_number_l2, if_neg (show ¬ (12 : Int32) ≤ nI i from nI_ge (b := 12) (by omega) (by omega)), hq, if_pos rfl, hc, ix_nI (by omega) (by omega), ix_nI (by omega) (by omega), nI_clamp (by omega), nI_clamp (by omega)]
    unfold fX8_passes_number_j42
    rw [ac_cursor_number, hc, nI_1, nI_1]
    obtain ⟨T', e1, ⟨x0, x1, x2, x3, x4, x5, x6, x7, x8, x9⟩, e3, e4, e5, e6, e7⟩ := ih (i + 1) k (md_set_cursor (md_set_number T (upd (md_number T) i (md_kept T (cu + i)))) (nI (cu + i + 1))) (by omega) (by omega) (by rw [ac_isKeeping_cursor, ac_isKeeping_number, hq]) (ac_cursor_cursor _ _)
    refine ⟨T', e1, ⟨x0.trans ((ac_kind_cursor _ _).trans (ac_kind_number _ _)), x1.trans ((ac_figure_cursor _ _).trans (ac_figure_number _ _)), x2.trans ((ac_one_cursor _ _).trans (ac_one_number _ _)), x3.trans ((ac_other_cursor _ _).trans (ac_other_number _ _)), x4.trans ((ac_stands_cursor _ _).trans (ac_stands_number _ _)), x5.trans ((ac_uses_cursor _ _).trans (ac_uses_number _ _)), x6.trans ((ac_earned_cursor _ _).trans (ac_earned_number _ _)), x7.trans ((ac_houses_cursor _ _).trans (ac_houses_number _ _)), x8.trans ((ac_sums_cursor _ _).trans (ac_sums_number _ _)), x9.trans ((ac_falls_cursor _ _).trans (ac_falls_number _ _))⟩, (af_number T _).tr ((af_cursor _ _).tr e3), e4, e5.trans ((ac_kept_cursor _ _).trans (ac_kept_number _ _)), e6, fun j => ?_⟩
    rw [e7 j, ac_kept_cursor, ac_kept_number, ac_number_cursor, ac_number_number, upd_at]
    by_cases q : j = i
    · rw [if_neg (by omega), if_pos q, if_pos (by omega), q]
    · rw [if_neg q]
      by_cases g : i + 1 ≤ j ∧ j < 12
      · rw [if_pos g, if_pos (by omega)]
      · rw [if_neg g, if_neg (by omega)]
theorem ple_number (T : zMd) (hk : md_isKeeping T = 0) (cu : Nat) (hcu : cu + 12 ≤ 400) (hc : md_cursor T = nI cu) : ∃ T', fX8_passes_number T = some T' ∧ (md_number T' = zget12 (md_kept T) (md_number T) cu 12 ∧ md_kind T' = md_kind T ∧ md_figure T' = md_figure T ∧ md_one T' = md_one T ∧ md_other T' = md_other T ∧ md_stands T' = md_stands T ∧ md_uses T' = md_uses T ∧ md_earned T' = md_earned T ∧ md_houses T' = md_houses T ∧ md_sums T' = md_sums T ∧ md_falls T' = md_falls T ∧ FR T T') ∧ md_isKeeping T' = 0 ∧ md_kept T' = md_kept T ∧ md_cursor T' = nI (cu + 12) := by
  obtain ⟨T', e1, ⟨x0, x1, x2, x3, x4, x5, x6, x7, x8, x9⟩, e3, e4, e5, e6, e7⟩ := pll_number cu hcu 12 0 FU T (by omega) (FU_big _ (by omega)) hk hc
  have ex : md_number T' = zget12 (md_kept T) (md_number T) cu 12 := by
    funext j
    rw [e7 j]
    unfold zget12
    by_cases g : j < 12
    · rw [if_pos ⟨Nat.zero_le _, g⟩, if_pos g]
    · rw [if_neg (by omega), if_neg g]
  exact ⟨T', e1, ⟨ex, x0, x1, x2, x3, x4, x5, x6, x7, x8, x9, e3⟩, e4, e5, e6⟩
theorem pkl_kind (cu : Nat) (hcu : cu + 12 ≤ 400) : ∀ d i k (T : zMd), i + d = 12 → d < k → md_isKeeping T = 1 → md_cursor T = nI (cu + i) → ∃ T', fX8_passes_kind_l2 k (nI i) T = some T' ∧ zSame T T' ∧ md_isKeeping T' = 1 ∧ md_cursor T' = nI (cu + 12) ∧ ∀ j, md_kept T' j = if cu + i ≤ j ∧ j < cu + 12 then md_kind T (j - cu) else md_kept T j := by
  intro d
  induction d with
  | zero =>
    intro i k T hi hk hq hc
    obtain ⟨k, rfl⟩ : ∃ k', k = k' + 1 := ⟨k - 1, by omega⟩
    have e : i = 12 := by omega
    subst e
    refine ⟨T, ?_, ⟨rfl, rfl, rfl, rfl, rfl, rfl, rfl, rfl, rfl, rfl, rfl, FR.rf⟩, hq, hc, fun j => ?_⟩
    · rw [fX8_passes_kind_l2, if_pos (by decide)]
    · rw [if_neg (by omega)]
  | succ d ih =>
    intro i k T hi hk hq hc
    obtain ⟨k, rfl⟩ : ∃ k', k = k' + 1 := ⟨k - 1, by omega⟩
    rw [fX8_passes_kind_l2, if_neg (show ¬ (12 : Int32) ≤ nI i from nI_ge (b := 12) (by omega) (by omega)), hq, if_neg (by decide), ix_nI (by omega) (by omega), hc, ix_nI (by omega) (by omega), nI_clamp (by omega), nI_clamp (by omega)]
    unfold fX8_passes_kind_j42
    rw [ac_cursor_kept, hc, nI_1, nI_1]
    obtain ⟨T', e1, e2, e3, e4, e5⟩ := ih (i + 1) k (md_set_cursor (md_set_kept T (upd (md_kept T) (cu + i) (md_kind T i))) (nI (cu + i + 1))) (by omega) (by omega) (by rw [ac_isKeeping_cursor, ac_isKeeping_kept, hq]) (ac_cursor_cursor _ _)
    refine ⟨T', e1, (zs_kept T _).tr ((zs_cursor _ _).tr e2), e3, e4, fun j => ?_⟩
    rw [e5 j, ac_kind_cursor, ac_kind_kept, ac_kept_cursor, ac_kept_kept, upd_at]
    by_cases q : j = cu + i
    · rw [if_neg (by omega), if_pos q, if_pos (by omega), show j - cu = i from by omega]
    · rw [if_neg q]
      by_cases g : cu + (i + 1) ≤ j ∧ j < cu + 12
      · rw [if_pos g, if_pos (by omega)]
      · rw [if_neg g, if_neg (by omega)]
theorem pke_kind (T : zMd) (hk : md_isKeeping T = 1) (cu : Nat) (hcu : cu + 12 ≤ 400) (hc : md_cursor T = nI cu) : ∃ T', fX8_passes_kind T = some T' ∧ zSame T T' ∧ md_isKeeping T' = 1 ∧ md_kept T' = zpt (md_kept T) (md_kind T) cu 12 ∧ md_cursor T' = nI (cu + 12) := by
  obtain ⟨T', e1, e2, e3, e4, e5⟩ := pkl_kind cu hcu 12 0 FU T (by omega) (FU_big _ (by omega)) hk hc
  exact ⟨T', e1, e2, e3, funext e5, e4⟩
theorem pll_kind (cu : Nat) (hcu : cu + 12 ≤ 400) : ∀ d i k (T : zMd), i + d = 12 → d < k → md_isKeeping T = 0 → md_cursor T = nI (cu + i) → ∃ T', fX8_passes_kind_l2 k (nI i) T = some T' ∧ (md_number T' = md_number T ∧ md_figure T' = md_figure T ∧ md_one T' = md_one T ∧ md_other T' = md_other T ∧ md_stands T' = md_stands T ∧ md_uses T' = md_uses T ∧ md_earned T' = md_earned T ∧ md_houses T' = md_houses T ∧ md_sums T' = md_sums T ∧ md_falls T' = md_falls T) ∧ FR T T' ∧ md_isKeeping T' = 0 ∧ md_kept T' = md_kept T ∧ md_cursor T' = nI (cu + 12) ∧ ∀ j, md_kind T' j = if i ≤ j ∧ j < 12 then md_kept T (cu + j) else md_kind T j := by
  intro d
  induction d with
  | zero =>
    intro i k T hi hk hq hc
    obtain ⟨k, rfl⟩ : ∃ k', k = k' + 1 := ⟨k - 1, by omega⟩
    have e : i = 12 := by omega
    subst e
    refine ⟨T, ?_, ⟨rfl, rfl, rfl, rfl, rfl, rfl, rfl, rfl, rfl, rfl⟩, FR.rf, hq, rfl, hc, fun j => ?_⟩
    · rw [fX8_passes_kind_l2, if_pos (by decide)]
    · rw [if_neg (by omega)]
  | succ d ih =>
    intro i k T hi hk hq hc
    obtain ⟨k, rfl⟩ : ∃ k', k = k' + 1 := ⟨k - 1, by omega⟩
    rw [fX8_passes_kind_l2, if_neg (show ¬ (12 : Int32) ≤ nI i from nI_ge (b := 12) (by omega) (by omega)), hq, if_pos rfl, hc, ix_nI (by omega) (by omega), ix_nI (by omega) (by omega), nI_clamp (by omega), nI_clamp (by omega)]
    unfold fX8_passes_kind_j42
    rw [ac_cursor_kind, hc, nI_1, nI_1]
    obtain ⟨T', e1, ⟨x0, x1, x2, x3, x4, x5, x6, x7, x8, x9⟩, e3, e4, e5, e6, e7⟩ := ih (i + 1) k (md_set_cursor (md_set_kind T (upd (md_kind T) i (md_kept T (cu + i)))) (nI (cu + i + 1))) (by omega) (by omega) (by rw [ac_isKeeping_cursor, ac_isKeeping_kind, hq]) (ac_cursor_cursor _ _)
    refine ⟨T', e1, ⟨x0.trans ((ac_number_cursor _ _).trans (ac_number_kind _ _)), x1.trans ((ac_figure_cursor _ _).trans (ac_figure_kind _ _)), x2.trans ((ac_one_cursor _ _).trans (ac_one_kind _ _)), x3.trans ((ac_other_cursor _ _).trans (ac_other_kind _ _)), x4.trans ((ac_stands_cursor _ _).trans (ac_stands_kind _ _)), x5.trans ((ac_uses_cursor _ _).trans (ac_uses_kind _ _)), x6.trans ((ac_earned_cursor _ _).trans (ac_earned_kind _ _)), x7.trans ((ac_houses_cursor _ _).trans (ac_houses_kind _ _)), x8.trans ((ac_sums_cursor _ _).trans (ac_sums_kind _ _)), x9.trans ((ac_falls_cursor _ _).trans (ac_falls_kind _ _))⟩, (af_kind T _).tr ((af_cursor _ _).tr e3), e4, e5.trans ((ac_kept_cursor _ _).trans (ac_kept_kind _ _)), e6, fun j => ?_⟩
    rw [e7 j, ac_kept_cursor, ac_kept_kind, ac_kind_cursor, ac_kind_kind, upd_at]
    by_cases q : j = i
    · rw [if_neg (by omega), if_pos q, if_pos (by omega), q]
    · rw [if_neg q]
      by_cases g : i + 1 ≤ j ∧ j < 12
      · rw [if_pos g, if_pos (by omega)]
      · rw [if_neg g, if_neg (by omega)]
theorem ple_kind (T : zMd) (hk : md_isKeeping T = 0) (cu : Nat) (hcu : cu + 12 ≤ 400) (hc : md_cursor T = nI cu) : ∃ T', fX8_passes_kind T = some T' ∧ (md_number T' = md_number T ∧ md_kind T' = zget12 (md_kept T) (md_kind T) cu 12 ∧ md_figure T' = md_figure T ∧ md_one T' = md_one T ∧ md_other T' = md_other T ∧ md_stands T' = md_stands T ∧ md_uses T' = md_uses T ∧ md_earned T' = md_earned T ∧ md_houses T' = md_houses T ∧ md_sums T' = md_sums T ∧ md_falls T' = md_falls T ∧ FR T T') ∧ md_isKeeping T' = 0 ∧ md_kept T' = md_kept T ∧ md_cursor T' = nI (cu + 12) := by
  obtain ⟨T', e1, ⟨x0, x1, x2, x3, x4, x5, x6, x7, x8, x9⟩, e3, e4, e5, e6, e7⟩ := pll_kind cu hcu 12 0 FU T (by omega) (FU_big _ (by omega)) hk hc
  have ex : md_kind T' = zget12 (md_kept T) (md_kind T) cu 12 := by
    funext j
    rw [e7 j]
    unfold zget12
    by_cases g : j < 12
    · rw [if_pos ⟨Nat.zero_le _, g⟩, if_pos g]
    · rw [if_neg (by omega), if_neg g]
  exact ⟨T', e1, ⟨x0, ex, x1, x2, x3, x4, x5, x6, x7, x8, x9, e3⟩, e4, e5, e6⟩
theorem pkl_figure (cu : Nat) (hcu : cu + 12 ≤ 400) : ∀ d i k (T : zMd), i + d = 12 → d < k → md_isKeeping T = 1 → md_cursor T = nI (cu + i) → ∃ T', fX8_passes_figure_l2 k (nI i) T = some T' ∧ zSame T T' ∧ md_isKeeping T' = 1 ∧ md_cursor T' = nI (cu + 12) ∧ ∀ j, md_kept T' j = if cu + i ≤ j ∧ j < cu + 12 then md_figure T (j - cu) else md_kept T j := by
  intro d
  induction d with
  | zero =>
    intro i k T hi hk hq hc
    obtain ⟨k, rfl⟩ : ∃ k', k = k' + 1 := ⟨k - 1, by omega⟩
    have e : i = 12 := by omega
    subst e
    refine ⟨T, ?_, ⟨rfl, rfl, rfl, rfl, rfl, rfl, rfl, rfl, rfl, rfl, rfl, FR.rf⟩, hq, hc, fun j => ?_⟩
    · rw [fX8_passes_figure_l2, if_pos (by decide)]
    · rw [if_neg (by omega)]
  | succ d ih =>
    intro i k T hi hk hq hc
    obtain ⟨k, rfl⟩ : ∃ k', k = k' + 1 := ⟨k - 1, by omega⟩
    rw [fX8_passes_figure_l2, if_neg (show ¬ (12 : Int32) ≤ nI i from nI_ge (b := 12) (by omega) (by omega)), hq, if_neg (by decide), ix_nI (by omega) (by omega), hc, ix_nI (by omega) (by omega), nI_clamp (by omega), nI_clamp (by omega)]
    unfold fX8_passes_figure_j42
    rw [ac_cursor_kept, hc, nI_1, nI_1]
    obtain ⟨T', e1, e2, e3, e4, e5⟩ := ih (i + 1) k (md_set_cursor (md_set_kept T (upd (md_kept T) (cu + i) (md_figure T i))) (nI (cu + i + 1))) (by omega) (by omega) (by rw [ac_isKeeping_cursor, ac_isKeeping_kept, hq]) (ac_cursor_cursor _ _)
    refine ⟨T', e1, (zs_kept T _).tr ((zs_cursor _ _).tr e2), e3, e4, fun j => ?_⟩
    rw [e5 j, ac_figure_cursor, ac_figure_kept, ac_kept_cursor, ac_kept_kept, upd_at]
    by_cases q : j = cu + i
    · rw [if_neg (by omega), if_pos q, if_pos (by omega), show j - cu = i from by omega]
    · rw [if_neg q]
      by_cases g : cu + (i + 1) ≤ j ∧ j < cu + 12
      · rw [if_pos g, if_pos (by omega)]
      · rw [if_neg g, if_neg (by omega)]
theorem pke_figure (T : zMd) (hk : md_isKeeping T = 1) (cu : Nat) (hcu : cu + 12 ≤ 400) (hc : md_cursor T = nI cu) : ∃ T', fX8_passes_figure T = some T' ∧ zSame T T' ∧ md_isKeeping T' = 1 ∧ md_kept T' = zpt (md_kept T) (md_figure T) cu 12 ∧ md_cursor T' = nI (cu + 12) := by
  obtain ⟨T', e1, e2, e3, e4, e5⟩ := pkl_figure cu hcu 12 0 FU T (by omega) (FU_big _ (by omega)) hk hc
  exact ⟨T', e1, e2, e3, funext e5, e4⟩
theorem pll_figure (cu : Nat) (hcu : cu + 12 ≤ 400) : ∀ d i k (T : zMd), i + d = 12 → d < k → md_isKeeping T = 0 → md_cursor T = nI (cu + i) → ∃ T', fX8_passes_figure_l2 k (nI i) T = some T' ∧ (md_number T' = md_number T ∧ md_kind T' = md_kind T ∧ md_one T' = md_one T ∧ md_other T' = md_other T ∧ md_stands T' = md_stands T ∧ md_uses T' = md_uses T ∧ md_earned T' = md_earned T ∧ md_houses T' = md_houses T ∧ md_sums T' = md_sums T ∧ md_falls T' = md_falls T) ∧ FR T T' ∧ md_isKeeping T' = 0 ∧ md_kept T' = md_kept T ∧ md_cursor T' = nI (cu + 12) ∧ ∀ j, md_figure T' j = if i ≤ j ∧ j < 12 then md_kept T (cu + j) else md_figure T j := by
  intro d
  induction d with
  | zero =>
    intro i k T hi hk hq hc
    obtain ⟨k, rfl⟩ : ∃ k', k = k' + 1 := ⟨k - 1, by omega⟩
    have e : i = 12 := by omega
    subst e
    refine ⟨T, ?_, ⟨rfl, rfl, rfl, rfl, rfl, rfl, rfl, rfl, rfl, rfl⟩, FR.rf, hq, rfl, hc, fun j => ?_⟩
    · rw [fX8_passes_figure_l2, if_pos (by decide)]
    · rw [if_neg (by omega)]
  | succ d ih =>
    intro i k T hi hk hq hc
    obtain ⟨k, rfl⟩ : ∃ k', k = k' + 1 := ⟨k - 1, by omega⟩
    rw [fX8_passes_figure_l2, if_neg (show ¬ (12 : Int32) ≤ nI i from nI_ge (b := 12) (by omega) (by omega)), hq, if_pos rfl, hc, ix_nI (by omega) (by omega), ix_nI (by omega) (by omega), nI_clamp (by omega), nI_clamp (by omega)]
    unfold fX8_passes_figure_j42
    rw [ac_cursor_figure, hc, nI_1, nI_1]
    obtain ⟨T', e1, ⟨x0, x1, x2, x3, x4, x5, x6, x7, x8, x9⟩, e3, e4, e5, e6, e7⟩ := ih (i + 1) k (md_set_cursor (md_set_figure T (upd (md_figure T) i (md_kept T (cu + i)))) (nI (cu + i + 1))) (by omega) (by omega) (by rw [ac_isKeeping_cursor, ac_isKeeping_figure, hq]) (ac_cursor_cursor _ _)
    refine ⟨T', e1, ⟨x0.trans ((ac_number_cursor _ _).trans (ac_number_figure _ _)), x1.trans ((ac_kind_cursor _ _).trans (ac_kind_figure _ _)), x2.trans ((ac_one_cursor _ _).trans (ac_one_figure _ _)), x3.trans ((ac_other_cursor _ _).trans (ac_other_figure _ _)), x4.trans ((ac_stands_cursor _ _).trans (ac_stands_figure _ _)), x5.trans ((ac_uses_cursor _ _).trans (ac_uses_figure _ _)), x6.trans ((ac_earned_cursor _ _).trans (ac_earned_figure _ _)), x7.trans ((ac_houses_cursor _ _).trans (ac_houses_figure _ _)), x8.trans ((ac_sums_cursor _ _).trans (ac_sums_figure _ _)), x9.trans ((ac_falls_cursor _ _).trans (ac_falls_figure _ _))⟩, (af_figure T _).tr ((af_cursor _ _).tr e3), e4, e5.trans ((ac_kept_cursor _ _).trans (ac_kept_figure _ _)), e6, fun j => ?_⟩
    rw [e7 j, ac_kept_cursor, ac_kept_figure, ac_figure_cursor, ac_figure_figure, upd_at]
    by_cases q : j = i
    · rw [if_neg (by omega), if_pos q, if_pos (by omega), q]
    · rw [if_neg q]
      by_cases g : i + 1 ≤ j ∧ j < 12
      · rw [if_pos g, if_pos (by omega)]
      · rw [if_neg g, if_neg (by omega)]
theorem ple_figure (T : zMd) (hk : md_isKeeping T = 0) (cu : Nat) (hcu : cu + 12 ≤ 400) (hc : md_cursor T = nI cu) : ∃ T', fX8_passes_figure T = some T' ∧ (md_number T' = md_number T ∧ md_kind T' = md_kind T ∧ md_figure T' = zget12 (md_kept T) (md_figure T) cu 12 ∧ md_one T' = md_one T ∧ md_other T' = md_other T ∧ md_stands T' = md_stands T ∧ md_uses T' = md_uses T ∧ md_earned T' = md_earned T ∧ md_houses T' = md_houses T ∧ md_sums T' = md_sums T ∧ md_falls T' = md_falls T ∧ FR T T') ∧ md_isKeeping T' = 0 ∧ md_kept T' = md_kept T ∧ md_cursor T' = nI (cu + 12) := by
  obtain ⟨T', e1, ⟨x0, x1, x2, x3, x4, x5, x6, x7, x8, x9⟩, e3, e4, e5, e6, e7⟩ := pll_figure cu hcu 12 0 FU T (by omega) (FU_big _ (by omega)) hk hc
  have ex : md_figure T' = zget12 (md_kept T) (md_figure T) cu 12 := by
    funext j
    rw [e7 j]
    unfold zget12
    by_cases g : j < 12
    · rw [if_pos ⟨Nat.zero_le _, g⟩, if_pos g]
    · rw [if_neg (by omega), if_neg g]
  exact ⟨T', e1, ⟨x0, x1, ex, x2, x3, x4, x5, x6, x7, x8, x9, e3⟩, e4, e5, e6⟩
theorem pkl_one (cu : Nat) (hcu : cu + 12 ≤ 400) : ∀ d i k (T : zMd), i + d = 12 → d < k → md_isKeeping T = 1 → md_cursor T = nI (cu + i) → ∃ T', fX8_passes_one_l2 k (nI i) T = some T' ∧ zSame T T' ∧ md_isKeeping T' = 1 ∧ md_cursor T' = nI (cu + 12) ∧ ∀ j, md_kept T' j = if cu + i ≤ j ∧ j < cu + 12 then md_one T (j - cu) else md_kept T j := by
  intro d
  induction d with
  | zero =>
    intro i k T hi hk hq hc
    obtain ⟨k, rfl⟩ : ∃ k', k = k' + 1 := ⟨k - 1, by omega⟩
    have e : i = 12 := by omega
    subst e
    refine ⟨T, ?_, ⟨rfl, rfl, rfl, rfl, rfl, rfl, rfl, rfl, rfl, rfl, rfl, FR.rf⟩, hq, hc, fun j => ?_⟩
    · rw [fX8_passes_one_l2, if_pos (by decide)]
    · rw [if_neg (by omega)]
  | succ d ih =>
    intro i k T hi hk hq hc
    obtain ⟨k, rfl⟩ : ∃ k', k = k' + 1 := ⟨k - 1, by omega⟩
    rw [fX8_passes_one_l2, if_neg (show ¬ (12 : Int32) ≤ nI i from nI_ge (b := 12) (by omega) (by omega)), hq, if_neg (by decide), ix_nI (by omega) (by omega), hc, ix_nI (by omega) (by omega), nI_clamp (by omega), nI_clamp (by omega)]
    unfold fX8_passes_one_j42
    rw [ac_cursor_kept, hc, nI_1, nI_1]
    obtain ⟨T', e1, e2, e3, e4, e5⟩ := ih (i + 1) k (md_set_cursor (md_set_kept T (upd (md_kept T) (cu + i) (md_one T i))) (nI (cu + i + 1))) (by omega) (by omega) (by rw [ac_isKeeping_cursor, ac_isKeeping_kept, hq]) (ac_cursor_cursor _ _)
    refine ⟨T', e1, (zs_kept T _).tr ((zs_cursor _ _).tr e2), e3, e4, fun j => ?_⟩
    rw [e5 j, ac_one_cursor, ac_one_kept, ac_kept_cursor, ac_kept_kept, upd_at]
    by_cases q : j = cu + i
    · rw [if_neg (by omega), if_pos q, if_pos (by omega), show j - cu = i from by omega]
    · rw [if_neg q]
      by_cases g : cu + (i + 1) ≤ j ∧ j < cu + 12
      · rw [if_pos g, if_pos (by omega)]
      · rw [if_neg g, if_neg (by omega)]
theorem pke_one (T : zMd) (hk : md_isKeeping T = 1) (cu : Nat) (hcu : cu + 12 ≤ 400) (hc : md_cursor T = nI cu) : ∃ T', fX8_passes_one T = some T' ∧ zSame T T' ∧ md_isKeeping T' = 1 ∧ md_kept T' = zpt (md_kept T) (md_one T) cu 12 ∧ md_cursor T' = nI (cu + 12) := by
  obtain ⟨T', e1, e2, e3, e4, e5⟩ := pkl_one cu hcu 12 0 FU T (by omega) (FU_big _ (by omega)) hk hc
  exact ⟨T', e1, e2, e3, funext e5, e4⟩
theorem pll_one (cu : Nat) (hcu : cu + 12 ≤ 400) : ∀ d i k (T : zMd), i + d = 12 → d < k → md_isKeeping T = 0 → md_cursor T = nI (cu + i) → ∃ T', fX8_passes_one_l2 k (nI i) T = some T' ∧ (md_number T' = md_number T ∧ md_kind T' = md_kind T ∧ md_figure T' = md_figure T ∧ md_other T' = md_other T ∧ md_stands T' = md_stands T ∧ md_uses T' = md_uses T ∧ md_earned T' = md_earned T ∧ md_houses T' = md_houses T ∧ md_sums T' = md_sums T ∧ md_falls T' = md_falls T) ∧ FR T T' ∧ md_isKeeping T' = 0 ∧ md_kept T' = md_kept T ∧ md_cursor T' = nI (cu + 12) ∧ ∀ j, md_one T' j = if i ≤ j ∧ j < 12 then md_kept T (cu + j) else md_one T j := by
  intro d
  induction d with
  | zero =>
    intro i k T hi hk hq hc
    obtain ⟨k, rfl⟩ : ∃ k', k = k' + 1 := ⟨k - 1, by omega⟩
    have e : i = 12 := by omega
    subst e
    refine ⟨T, ?_, ⟨rfl, rfl, rfl, rfl, rfl, rfl, rfl, rfl, rfl, rfl⟩, FR.rf, hq, rfl, hc, fun j => ?_⟩
    · rw [fX8_passes_one_l2, if_pos (by decide)]
    · rw [if_neg (by omega)]
  | succ d ih =>
    intro i k T hi hk hq hc
    obtain ⟨k, rfl⟩ : ∃ k', k = k' + 1 := ⟨k - 1, by omega⟩
    rw [fX8_passes_one_l2, if_neg (show ¬ (12 : Int32) ≤ nI i from nI_ge (b := 12) (by omega) (by omega)), hq, if_pos rfl, hc, ix_nI (by omega) (by omega), ix_nI (by omega) (by omega), nI_clamp (by omega), nI_clamp (by omega)]
    unfold fX8_passes_one_j42
    rw [ac_cursor_one, hc, nI_1, nI_1]
    obtain ⟨T', e1, ⟨x0, x1, x2, x3, x4, x5, x6, x7, x8, x9⟩, e3, e4, e5, e6, e7⟩ := ih (i + 1) k (md_set_cursor (md_set_one T (upd (md_one T) i (md_kept T (cu + i)))) (nI (cu + i + 1))) (by omega) (by omega) (by rw [ac_isKeeping_cursor, ac_isKeeping_one, hq]) (ac_cursor_cursor _ _)
    refine ⟨T', e1, ⟨x0.trans ((ac_number_cursor _ _).trans (ac_number_one _ _)), x1.trans ((ac_kind_cursor _ _).trans (ac_kind_one _ _)), x2.trans ((ac_figure_cursor _ _).trans (ac_figure_one _ _)), x3.trans ((ac_other_cursor _ _).trans (ac_other_one _ _)), x4.trans ((ac_stands_cursor _ _).trans (ac_stands_one _ _)), x5.trans ((ac_uses_cursor _ _).trans (ac_uses_one _ _)), x6.trans ((ac_earned_cursor _ _).trans (ac_earned_one _ _)), x7.trans ((ac_houses_cursor _ _).trans (ac_houses_one _ _)), x8.trans ((ac_sums_cursor _ _).trans (ac_sums_one _ _)), x9.trans ((ac_falls_cursor _ _).trans (ac_falls_one _ _))⟩, (af_one T _).tr ((af_cursor _ _).tr e3), e4, e5.trans ((ac_kept_cursor _ _).trans (ac_kept_one _ _)), e6, fun j => ?_⟩
    rw [e7 j, ac_kept_cursor, ac_kept_one, ac_one_cursor, ac_one_one, upd_at]
    by_cases q : j = i
    · rw [if_neg (by omega), if_pos q, if_pos (by omega), q]
    · rw [if_neg q]
      by_cases g : i + 1 ≤ j ∧ j < 12
      · rw [if_pos g, if_pos (by omega)]
      · rw [if_neg g, if_neg (by omega)]
theorem ple_one (T : zMd) (hk : md_isKeeping T = 0) (cu : Nat) (hcu : cu + 12 ≤ 400) (hc : md_cursor T = nI cu) : ∃ T', fX8_passes_one T = some T' ∧ (md_number T' = md_number T ∧ md_kind T' = md_kind T ∧ md_figure T' = md_figure T ∧ md_one T' = zget12 (md_kept T) (md_one T) cu 12 ∧ md_other T' = md_other T ∧ md_stands T' = md_stands T ∧ md_uses T' = md_uses T ∧ md_earned T' = md_earned T ∧ md_houses T' = md_houses T ∧ md_sums T' = md_sums T ∧ md_falls T' = md_falls T ∧ FR T T') ∧ md_isKeeping T' = 0 ∧ md_kept T' = md_kept T ∧ md_cursor T' = nI (cu + 12) := by
  obtain ⟨T', e1, ⟨x0, x1, x2, x3, x4, x5, x6, x7, x8, x9⟩, e3, e4, e5, e6, e7⟩ := pll_one cu hcu 12 0 FU T (by omega) (FU_big _ (by omega)) hk hc
  have ex : md_one T' = zget12 (md_kept T) (md_one T) cu 12 := by
    funext j
    rw [e7 j]
    unfold zget12
    by_cases g : j < 12
    · rw [if_pos ⟨Nat.zero_le _, g⟩, if_pos g]
    · rw [if_neg (by omega), if_neg g]
  exact ⟨T', e1, ⟨x0, x1, x2, ex, x3, x4, x5, x6, x7, x8, x9, e3⟩, e4, e5, e6⟩
theorem pkl_other (cu : Nat) (hcu : cu + 12 ≤ 400) : ∀ d i k (T : zMd), i + d = 12 → d < k → md_isKeeping T = 1 → md_cursor T = nI (cu + i) → ∃ T', fX8_passes_other_l2 k (nI i) T = some T' ∧ zSame T T' ∧ md_isKeeping T' = 1 ∧ md_cursor T' = nI (cu + 12) ∧ ∀ j, md_kept T' j = if cu + i ≤ j ∧ j < cu + 12 then md_other T (j - cu) else md_kept T j := by
  intro d
  induction d with
  | zero =>
    intro i k T hi hk hq hc
    obtain ⟨k, rfl⟩ : ∃ k', k = k' + 1 := ⟨k - 1, by omega⟩
    have e : i = 12 := by omega
    subst e
    refine ⟨T, ?_, ⟨rfl, rfl, rfl, rfl, rfl, rfl, rfl, rfl, rfl, rfl, rfl, FR.rf⟩, hq, hc, fun j => ?_⟩
    · rw [fX8_passes_other_l2, if_pos (by decide)]
    · rw [if_neg (by omega)]
  | succ d ih =>
    intro i k T hi hk hq hc
    obtain ⟨k, rfl⟩ : ∃ k', k = k' + 1 := ⟨k - 1, by omega⟩
    rw [fX8_passes_other_l2, if_neg (show ¬ (12 : Int32) ≤ nI i from nI_ge (b := 12) (by omega) (by omega)), hq, if_neg (by decide), ix_nI (by omega) (by omega), hc, ix_nI (by omega) (by omega), nI_clamp (by omega), nI_clamp (by omega)]
    unfold fX8_passes_other_j42
    rw [ac_cursor_kept, hc, nI_1, nI_1]
    obtain ⟨T', e1, e2, e3, e4, e5⟩ := ih (i + 1) k (md_set_cursor (md_set_kept T (upd (md_kept T) (cu + i) (md_other T i))) (nI (cu + i + 1))) (by omega) (by omega) (by rw [ac_isKeeping_cursor, ac_isKeeping_kept, hq]) (ac_cursor_cursor _ _)
    refine ⟨T', e1, (zs_kept T _).tr ((zs_cursor _ _).tr e2), e3, e4, fun j => ?_⟩
    rw [e5 j, ac_other_cursor, ac_other_kept, ac_kept_cursor, ac_kept_kept, upd_at]
    by_cases q : j = cu + i
    · rw [if_neg (by omega), if_pos q, if_pos (by omega), show j - cu = i from by omega]
    · rw [if_neg q]
      by_cases g : cu + (i + 1) ≤ j ∧ j < cu + 12
      · rw [if_pos g, if_pos (by omega)]
      · rw [if_neg g, if_neg (by omega)]
theorem pke_other (T : zMd) (hk : md_isKeeping T = 1) (cu : Nat) (hcu : cu + 12 ≤ 400) (hc : md_cursor T = nI cu) : ∃ T', fX8_passes_other T = some T' ∧ zSame T T' ∧ md_isKeeping T' = 1 ∧ md_kept T' = zpt (md_kept T) (md_other T) cu 12 ∧ md_cursor T' = nI (cu + 12) := by
  obtain ⟨T', e1, e2, e3, e4, e5⟩ := pkl_other cu hcu 12 0 FU T (by omega) (FU_big _ (by omega)) hk hc
  exact ⟨T', e1, e2, e3, funext e5, e4⟩
theorem pll_other (cu : Nat) (hcu : cu + 12 ≤ 400) : ∀ d i k (T : zMd), i + d = 12 → d < k → md_isKeeping T = 0 → md_cursor T = nI (cu + i) → ∃ T', fX8_passes_other_l2 k (nI i) T = some T' ∧ (md_number T' = md_number T ∧ md_kind T' = md_kind T ∧ md_figure T' = md_figure T ∧ md_one T' = md_one T ∧ md_stands T' = md_stands T ∧ md_uses T' = md_uses T ∧ md_earned T' = md_earned T ∧ md_houses T' = md_houses T ∧ md_sums T' = md_sums T ∧ md_falls T' = md_falls T) ∧ FR T T' ∧ md_isKeeping T' = 0 ∧ md_kept T' = md_kept T ∧ md_cursor T' = nI (cu + 12) ∧ ∀ j, md_other T' j = if i ≤ j ∧ j < 12 then md_kept T (cu + j) else md_other T j := by
  intro d
  induction d with
  | zero =>
    intro i k T hi hk hq hc
    obtain ⟨k, rfl⟩ : ∃ k', k = k' + 1 := ⟨k - 1, by omega⟩
    have e : i = 12 := by omega
    subst e
    refine ⟨T, ?_, ⟨rfl, rfl, rfl, rfl, rfl, rfl, rfl, rfl, rfl, rfl⟩, FR.rf, hq, rfl, hc, fun j => ?_⟩
    · rw [fX8_passes_other_l2, if_pos (by decide)]
    · rw [if_neg (by omega)]
  | succ d ih =>
    intro i k T hi hk hq hc
    obtain ⟨k, rfl⟩ : ∃ k', k = k' + 1 := ⟨k - 1, by omega⟩
    rw [fX8_passes_other_l2, if_neg (show ¬ (12 : Int32) ≤ nI i from nI_ge (b := 12) (by omega) (by omega)), hq, if_pos rfl, hc, ix_nI (by omega) (by omega), ix_nI (by omega) (by omega), nI_clamp (by omega), nI_clamp (by omega)]
    unfold fX8_passes_other_j42
    rw [ac_cursor_other, hc, nI_1, nI_1]
    obtain ⟨T', e1, ⟨x0, x1, x2, x3, x4, x5, x6, x7, x8, x9⟩, e3, e4, e5, e6, e7⟩ := ih (i + 1) k (md_set_cursor (md_set_other T (upd (md_other T) i (md_kept T (cu + i)))) (nI (cu + i + 1))) (by omega) (by omega) (by rw [ac_isKeeping_cursor, ac_isKeeping_other, hq]) (ac_cursor_cursor _ _)
    refine ⟨T', e1, ⟨x0.trans ((ac_number_cursor _ _).trans (ac_number_other _ _)), x1.trans ((ac_kind_cursor _ _).trans (ac_kind_other _ _)), x2.trans ((ac_figure_cursor _ _).trans (ac_figure_other _ _)), x3.trans ((ac_one_cursor _ _).trans (ac_one_other _ _)), x4.trans ((ac_stands_cursor _ _).trans (ac_stands_other _ _)), x5.trans ((ac_uses_cursor _ _).trans (ac_uses_other _ _)), x6.trans ((ac_earned_cursor _ _).trans (ac_earned_other _ _)), x7.trans ((ac_houses_cursor _ _).trans (ac_houses_other _ _)), x8.trans ((ac_sums_cursor _ _).trans (ac_sums_other _ _)), x9.trans ((ac_falls_cursor _ _).trans (ac_falls_other _ _))⟩, (af_other T _).tr ((af_cursor _ _).tr e3), e4, e5.trans ((ac_kept_cursor _ _).trans (ac_kept_other _ _)), e6, fun j => ?_⟩
    rw [e7 j, ac_kept_cursor, ac_kept_other, ac_other_cursor, ac_other_other, upd_at]
    by_cases q : j = i
    · rw [if_neg (by omega), if_pos q, if_pos (by omega), q]
    · rw [if_neg q]
      by_cases g : i + 1 ≤ j ∧ j < 12
      · rw [if_pos g, if_pos (by omega)]
      · rw [if_neg g, if_neg (by omega)]
theorem ple_other (T : zMd) (hk : md_isKeeping T = 0) (cu : Nat) (hcu : cu + 12 ≤ 400) (hc : md_cursor T = nI cu) : ∃ T', fX8_passes_other T = some T' ∧ (md_number T' = md_number T ∧ md_kind T' = md_kind T ∧ md_figure T' = md_figure T ∧ md_one T' = md_one T ∧ md_other T' = zget12 (md_kept T) (md_other T) cu 12 ∧ md_stands T' = md_stands T ∧ md_uses T' = md_uses T ∧ md_earned T' = md_earned T ∧ md_houses T' = md_houses T ∧ md_sums T' = md_sums T ∧ md_falls T' = md_falls T ∧ FR T T') ∧ md_isKeeping T' = 0 ∧ md_kept T' = md_kept T ∧ md_cursor T' = nI (cu + 12) := by
  obtain ⟨T', e1, ⟨x0, x1, x2, x3, x4, x5, x6, x7, x8, x9⟩, e3, e4, e5, e6, e7⟩ := pll_other cu hcu 12 0 FU T (by omega) (FU_big _ (by omega)) hk hc
  have ex : md_other T' = zget12 (md_kept T) (md_other T) cu 12 := by
    funext j
    rw [e7 j]
    unfold zget12
    by_cases g : j < 12
    · rw [if_pos ⟨Nat.zero_le _, g⟩, if_pos g]
    · rw [if_neg (by omega), if_neg g]
  exact ⟨T', e1, ⟨x0, x1, x2, x3, ex, x4, x5, x6, x7, x8, x9, e3⟩, e4, e5, e6⟩
theorem pkl_stands (cu : Nat) (hcu : cu + 12 ≤ 400) : ∀ d i k (T : zMd), i + d = 12 → d < k → md_isKeeping T = 1 → md_cursor T = nI (cu + i) → ∃ T', fX8_passes_stands_l2 k (nI i) T = some T' ∧ zSame T T' ∧ md_isKeeping T' = 1 ∧ md_cursor T' = nI (cu + 12) ∧ ∀ j, md_kept T' j = if cu + i ≤ j ∧ j < cu + 12 then md_stands T (j - cu) else md_kept T j := by
  intro d
  induction d with
  | zero =>
    intro i k T hi hk hq hc
    obtain ⟨k, rfl⟩ : ∃ k', k = k' + 1 := ⟨k - 1, by omega⟩
    have e : i = 12 := by omega
    subst e
    refine ⟨T, ?_, ⟨rfl, rfl, rfl, rfl, rfl, rfl, rfl, rfl, rfl, rfl, rfl, FR.rf⟩, hq, hc, fun j => ?_⟩
    · rw [fX8_passes_stands_l2, if_pos (by decide)]
    · rw [if_neg (by omega)]
  | succ d ih =>
    intro i k T hi hk hq hc
    obtain ⟨k, rfl⟩ : ∃ k', k = k' + 1 := ⟨k - 1, by omega⟩
    rw [fX8_passes_stands_l2, if_neg (show ¬ (12 : Int32) ≤ nI i from nI_ge (b := 12) (by omega) (by omega)), hq, if_neg (by decide), ix_nI (by omega) (by omega), hc, ix_nI (by omega) (by omega), nI_clamp (by omega), nI_clamp (by omega)]
    unfold fX8_passes_stands_j42
    rw [ac_cursor_kept, hc, nI_1, nI_1]
    obtain ⟨T', e1, e2, e3, e4, e5⟩ := ih (i + 1) k (md_set_cursor (md_set_kept T (upd (md_kept T) (cu + i) (md_stands T i))) (nI (cu + i + 1))) (by omega) (by omega) (by rw [ac_isKeeping_cursor, ac_isKeeping_kept, hq]) (ac_cursor_cursor _ _)
    refine ⟨T', e1, (zs_kept T _).tr ((zs_cursor _ _).tr e2), e3, e4, fun j => ?_⟩
    rw [e5 j, ac_stands_cursor, ac_stands_kept, ac_kept_cursor, ac_kept_kept, upd_at]
    by_cases q : j = cu + i
    · rw [if_neg (by omega), if_pos q, if_pos (by omega), show j - cu = i from by omega]
    · rw [if_neg q]
      by_cases g : cu + (i + 1) ≤ j ∧ j < cu + 12
      · rw [if_pos g, if_pos (by omega)]
      · rw [if_neg g, if_neg (by omega)]
theorem pke_stands (T : zMd) (hk : md_isKeeping T = 1) (cu : Nat) (hcu : cu + 12 ≤ 400) (hc : md_cursor T = nI cu) : ∃ T', fX8_passes_stands T = some T' ∧ zSame T T' ∧ md_isKeeping T' = 1 ∧ md_kept T' = zpt (md_kept T) (md_stands T) cu 12 ∧ md_cursor T' = nI (cu + 12) := by
  obtain ⟨T', e1, e2, e3, e4, e5⟩ := pkl_stands cu hcu 12 0 FU T (by omega) (FU_big _ (by omega)) hk hc
  exact ⟨T', e1, e2, e3, funext e5, e4⟩
theorem pll_stands (cu : Nat) (hcu : cu + 12 ≤ 400) : ∀ d i k (T : zMd), i + d = 12 → d < k → md_isKeeping T = 0 → md_cursor T = nI (cu + i) → ∃ T', fX8_passes_stands_l2 k (nI i) T = some T' ∧ (md_number T' = md_number T ∧ md_kind T' = md_kind T ∧ md_figure T' = md_figure T ∧ md_one T' = md_one T ∧ md_other T' = md_other T ∧ md_uses T' = md_uses T ∧ md_earned T' = md_earned T ∧ md_houses T' = md_houses T ∧ md_sums T' = md_sums T ∧ md_falls T' = md_falls T) ∧ FR T T' ∧ md_isKeeping T' = 0 ∧ md_kept T' = md_kept T ∧ md_cursor T' = nI (cu + 12) ∧ ∀ j, md_stands T' j = if i ≤ j ∧ j < 12 then md_kept T (cu + j) else md_stands T j := by
  intro d
  induction d with
  | zero =>
    intro i k T hi hk hq hc
    obtain ⟨k, rfl⟩ : ∃ k', k = k' + 1 := ⟨k - 1, by omega⟩
    have e : i = 12 := by omega
    subst e
    refine ⟨T, ?_, ⟨rfl, rfl, rfl, rfl, rfl, rfl, rfl, rfl, rfl, rfl⟩, FR.rf, hq, rfl, hc, fun j => ?_⟩
    · rw [fX8_passes_stands_l2, if_pos (by decide)]
    · rw [if_neg (by omega)]
  | succ d ih =>
    intro i k T hi hk hq hc
    obtain ⟨k, rfl⟩ : ∃ k', k = k' + 1 := ⟨k - 1, by omega⟩
    rw [fX8_passes_stands_l2, if_neg (show ¬ (12 : Int32) ≤ nI i from nI_ge (b := 12) (by omega) (by omega)), hq, if_pos rfl, hc, ix_nI (by omega) (by omega), ix_nI (by omega) (by omega), nI_clamp (by omega), nI_clamp (by omega)]
    unfold fX8_passes_stands_j42
    rw [ac_cursor_stands, hc, nI_1, nI_1]
    obtain ⟨T', e1, ⟨x0, x1, x2, x3, x4, x5, x6, x7, x8, x9⟩, e3, e4, e5, e6, e7⟩ := ih (i + 1) k (md_set_cursor (md_set_stands T (upd (md_stands T) i (md_kept T (cu + i)))) (nI (cu + i + 1))) (by omega) (by omega) (by rw [ac_isKeeping_cursor, ac_isKeeping_stands, hq]) (ac_cursor_cursor _ _)
    refine ⟨T', e1, ⟨x0.trans ((ac_number_cursor _ _).trans (ac_number_stands _ _)), x1.trans ((ac_kind_cursor _ _).trans (ac_kind_stands _ _)), x2.trans ((ac_figure_cursor _ _).trans (ac_figure_stands _ _)), x3.trans ((ac_one_cursor _ _).trans (ac_one_stands _ _)), x4.trans ((ac_other_cursor _ _).trans (ac_other_stands _ _)), x5.trans ((ac_uses_cursor _ _).trans (ac_uses_stands _ _)), x6.trans ((ac_earned_cursor _ _).trans (ac_earned_stands _ _)), x7.trans ((ac_houses_cursor _ _).trans (ac_houses_stands _ _)), x8.trans ((ac_sums_cursor _ _).trans (ac_sums_stands _ _)), x9.trans ((ac_falls_cursor _ _).trans (ac_falls_stands _ _))⟩, (af_stands T _).tr ((af_cursor _ _).tr e3), e4, e5.trans ((ac_kept_cursor _ _).trans (ac_kept_stands _ _)), e6, fun j => ?_⟩
    rw [e7 j, ac_kept_cursor, ac_kept_stands, ac_stands_cursor, ac_stands_stands, upd_at]
    by_cases q : j = i
    · rw [if_neg (by omega), if_pos q, if_pos (by omega), q]
    · rw [if_neg q]
      by_cases g : i + 1 ≤ j ∧ j < 12
      · rw [if_pos g, if_pos (by omega)]
      · rw [if_neg g, if_neg (by omega)]
theorem ple_stands (T : zMd) (hk : md_isKeeping T = 0) (cu : Nat) (hcu : cu + 12 ≤ 400) (hc : md_cursor T = nI cu) : ∃ T', fX8_passes_stands T = some T' ∧ (md_number T' = md_number T ∧ md_kind T' = md_kind T ∧ md_figure T' = md_figure T ∧ md_one T' = md_one T ∧ md_other T' = md_other T ∧ md_stands T' = zget12 (md_kept T) (md_stands T) cu 12 ∧ md_uses T' = md_uses T ∧ md_earned T' = md_earned T ∧ md_houses T' = md_houses T ∧ md_sums T' = md_sums T ∧ md_falls T' = md_falls T ∧ FR T T') ∧ md_isKeeping T' = 0 ∧ md_kept T' = md_kept T ∧ md_cursor T' = nI (cu + 12) := by
  obtain ⟨T', e1, ⟨x0, x1, x2, x3, x4, x5, x6, x7, x8, x9⟩, e3, e4, e5, e6, e7⟩ := pll_stands cu hcu 12 0 FU T (by omega) (FU_big _ (by omega)) hk hc
  have ex : md_stands T' = zget12 (md_kept T) (md_stands T) cu 12 := by
    funext j
    rw [e7 j]
    unfold zget12
    by_cases g : j < 12
    · rw [if_pos ⟨Nat.zero_le _, g⟩, if_pos g]
    · rw [if_neg (by omega), if_neg g]
  exact ⟨T', e1, ⟨x0, x1, x2, x3, x4, ex, x5, x6, x7, x8, x9, e3⟩, e4, e5, e6⟩
theorem pkl_uses (cu : Nat) (hcu : cu + 12 ≤ 400) : ∀ d i k (T : zMd), i + d = 12 → d < k → md_isKeeping T = 1 → md_cursor T = nI (cu + i) → ∃ T', fX8_passes_uses_l2 k (nI i) T = some T' ∧ zSame T T' ∧ md_isKeeping T' = 1 ∧ md_cursor T' = nI (cu + 12) ∧ ∀ j, md_kept T' j = if cu + i ≤ j ∧ j < cu + 12 then md_uses T (j - cu) else md_kept T j := by
  intro d
  induction d with
  | zero =>
    intro i k T hi hk hq hc
    obtain ⟨k, rfl⟩ : ∃ k', k = k' + 1 := ⟨k - 1, by omega⟩
    have e : i = 12 := by omega
    subst e
    refine ⟨T, ?_, ⟨rfl, rfl, rfl, rfl, rfl, rfl, rfl, rfl, rfl, rfl, rfl, FR.rf⟩, hq, hc, fun j => ?_⟩
    · rw [fX8_passes_uses_l2, if_pos (by decide)]
    · rw [if_neg (by omega)]
  | succ d ih =>
    intro i k T hi hk hq hc
    obtain ⟨k, rfl⟩ : ∃ k', k = k' + 1 := ⟨k - 1, by omega⟩
    rw [fX8_passes_uses_l2, if_neg (show ¬ (12 : Int32) ≤ nI i from nI_ge (b := 12) (by omega) (by omega)), hq, if_neg (by decide), ix_nI (by omega) (by omega), hc, ix_nI (by omega) (by omega), nI_clamp (by omega), nI_clamp (by omega)]
    unfold fX8_passes_uses_j42
    rw [ac_cursor_kept, hc, nI_1, nI_1]
    obtain ⟨T', e1, e2, e3, e4, e5⟩ := ih (i + 1) k (md_set_cursor (md_set_kept T (upd (md_kept T) (cu + i) (md_uses T i))) (nI (cu + i + 1))) (by omega) (by omega) (by rw [ac_isKeeping_cursor, ac_isKeeping_kept, hq]) (ac_cursor_cursor _ _)
    refine ⟨T', e1, (zs_kept T _).tr ((zs_cursor _ _).tr e2), e3, e4, fun j => ?_⟩
    rw [e5 j, ac_uses_cursor, ac_uses_kept, ac_kept_cursor, ac_kept_kept, upd_at]
    by_cases q : j = cu + i
    · rw [if_neg (by omega), if_pos q, if_pos (by omega), show j - cu = i from by omega]
    · rw [if_neg q]
      by_cases g : cu + (i + 1) ≤ j ∧ j < cu + 12
      · rw [if_pos g, if_pos (by omega)]
      · rw [if_neg g, if_neg (by omega)]
theorem pke_uses (T : zMd) (hk : md_isKeeping T = 1) (cu : Nat) (hcu : cu + 12 ≤ 400) (hc : md_cursor T = nI cu) : ∃ T', fX8_passes_uses T = some T' ∧ zSame T T' ∧ md_isKeeping T' = 1 ∧ md_kept T' = zpt (md_kept T) (md_uses T) cu 12 ∧ md_cursor T' = nI (cu + 12) := by
  obtain ⟨T', e1, e2, e3, e4, e5⟩ := pkl_uses cu hcu 12 0 FU T (by omega) (FU_big _ (by omega)) hk hc
  exact ⟨T', e1, e2, e3, funext e5, e4⟩
theorem pll_uses (cu : Nat) (hcu : cu + 12 ≤ 400) : ∀ d i k (T : zMd), i + d = 12 → d < k → md_isKeeping T = 0 → md_cursor T = nI (cu + i) → ∃ T', fX8_passes_uses_l2 k (nI i) T = some T' ∧ (md_number T' = md_number T ∧ md_kind T' = md_kind T ∧ md_figure T' = md_figure T ∧ md_one T' = md_one T ∧ md_other T' = md_other T ∧ md_stands T' = md_stands T ∧ md_earned T' = md_earned T ∧ md_houses T' = md_houses T ∧ md_sums T' = md_sums T ∧ md_falls T' = md_falls T) ∧ FR T T' ∧ md_isKeeping T' = 0 ∧ md_kept T' = md_kept T ∧ md_cursor T' = nI (cu + 12) ∧ ∀ j, md_uses T' j = if i ≤ j ∧ j < 12 then md_kept T (cu + j) else md_uses T j := by
  intro d
  induction d with
  | zero =>
    intro i k T hi hk hq hc
    obtain ⟨k, rfl⟩ : ∃ k', k = k' + 1 := ⟨k - 1, by omega⟩
    have e : i = 12 := by omega
    subst e
    refine ⟨T, ?_, ⟨rfl, rfl, rfl, rfl, rfl, rfl, rfl, rfl, rfl, rfl⟩, FR.rf, hq, rfl, hc, fun j => ?_⟩
    · rw [fX8_passes_uses_l2, if_pos (by decide)]
    · rw [if_neg (by omega)]
  | succ d ih =>
    intro i k T hi hk hq hc
    obtain ⟨k, rfl⟩ : ∃ k', k = k' + 1 := ⟨k - 1, by omega⟩
    rw [fX8_passes_uses_l2, if_neg (show ¬ (12 : Int32) ≤ nI i from nI_ge (b := 12) (by omega) (by omega)), hq, if_pos rfl, hc, ix_nI (by omega) (by omega), ix_nI (by omega) (by omega), nI_clamp (by omega), nI_clamp (by omega)]
    unfold fX8_passes_uses_j42
    rw [ac_cursor_uses, hc, nI_1, nI_1]
    obtain ⟨T', e1, ⟨x0, x1, x2, x3, x4, x5, x6, x7, x8, x9⟩, e3, e4, e5, e6, e7⟩ := ih (i + 1) k (md_set_cursor (md_set_uses T (upd (md_uses T) i (md_kept T (cu + i)))) (nI (cu + i + 1))) (by omega) (by omega) (by rw [ac_isKeeping_cursor, ac_isKeeping_uses, hq]) (ac_cursor_cursor _ _)
    refine ⟨T', e1, ⟨x0.trans ((ac_number_cursor _ _).trans (ac_number_uses _ _)), x1.trans ((ac_kind_cursor _ _).trans (ac_kind_uses _ _)), x2.trans ((ac_figure_cursor _ _).trans (ac_figure_uses _ _)), x3.trans ((ac_one_cursor _ _).trans (ac_one_uses _ _)), x4.trans ((ac_other_cursor _ _).trans (ac_other_uses _ _)), x5.trans ((ac_stands_cursor _ _).trans (ac_stands_uses _ _)), x6.trans ((ac_earned_cursor _ _).trans (ac_earned_uses _ _)), x7.trans ((ac_houses_cursor _ _).trans (ac_houses_uses _ _)), x8.trans ((ac_sums_cursor _ _).trans (ac_sums_uses _ _)), x9.trans ((ac_falls_cursor _ _).trans (ac_falls_uses _ _))⟩, (af_uses T _).tr ((af_cursor _ _).tr e3), e4, e5.trans ((ac_kept_cursor _ _).trans (ac_kept_uses _ _)), e6, fun j => ?_⟩
    rw [e7 j, ac_kept_cursor, ac_kept_uses, ac_uses_cursor, ac_uses_uses, upd_at]
    by_cases q : j = i
    · rw [if_neg (by omega), if_pos q, if_pos (by omega), q]
    · rw [if_neg q]
      by_cases g : i + 1 ≤ j ∧ j < 12
      · rw [if_pos g, if_pos (by omega)]
      · rw [if_neg g, if_neg (by omega)]
theorem ple_uses (T : zMd) (hk : md_isKeeping T = 0) (cu : Nat) (hcu : cu + 12 ≤ 400) (hc : md_cursor T = nI cu) : ∃ T', fX8_passes_uses T = some T' ∧ (md_number T' = md_number T ∧ md_kind T' = md_kind T ∧ md_figure T' = md_figure T ∧ md_one T' = md_one T ∧ md_other T' = md_other T ∧ md_stands T' = md_stands T ∧ md_uses T' = zget12 (md_kept T) (md_uses T) cu 12 ∧ md_earned T' = md_earned T ∧ md_houses T' = md_houses T ∧ md_sums T' = md_sums T ∧ md_falls T' = md_falls T ∧ FR T T') ∧ md_isKeeping T' = 0 ∧ md_kept T' = md_kept T ∧ md_cursor T' = nI (cu + 12) := by
  obtain ⟨T', e1, ⟨x0, x1, x2, x3, x4, x5, x6, x7, x8, x9⟩, e3, e4, e5, e6, e7⟩ := pll_uses cu hcu 12 0 FU T (by omega) (FU_big _ (by omega)) hk hc
  have ex : md_uses T' = zget12 (md_kept T) (md_uses T) cu 12 := by
    funext j
    rw [e7 j]
    unfold zget12
    by_cases g : j < 12
    · rw [if_pos ⟨Nat.zero_le _, g⟩, if_pos g]
    · rw [if_neg (by omega), if_neg g]
  exact ⟨T', e1, ⟨x0, x1, x2, x3, x4, x5, ex, x6, x7, x8, x9, e3⟩, e4, e5, e6⟩
theorem pkl_earned (cu : Nat) (hcu : cu + 12 ≤ 400) : ∀ d i k (T : zMd), i + d = 12 → d < k → md_isKeeping T = 1 → md_cursor T = nI (cu + i) → ∃ T', fX8_passes_earned_l2 k (nI i) T = some T' ∧ zSame T T' ∧ md_isKeeping T' = 1 ∧ md_cursor T' = nI (cu + 12) ∧ ∀ j, md_kept T' j = if cu + i ≤ j ∧ j < cu + 12 then md_earned T (j - cu) else md_kept T j := by
  intro d
  induction d with
  | zero =>
    intro i k T hi hk hq hc
    obtain ⟨k, rfl⟩ : ∃ k', k = k' + 1 := ⟨k - 1, by omega⟩
    have e : i = 12 := by omega
    subst e
    refine ⟨T, ?_, ⟨rfl, rfl, rfl, rfl, rfl, rfl, rfl, rfl, rfl, rfl, rfl, FR.rf⟩, hq, hc, fun j => ?_⟩
    · rw [fX8_passes_earned_l2, if_pos (by decide)]
    · rw [if_neg (by omega)]
  | succ d ih =>
    intro i k T hi hk hq hc
    obtain ⟨k, rfl⟩ : ∃ k', k = k' + 1 := ⟨k - 1, by omega⟩
    rw [fX8_passes_earned_l2, if_neg (show ¬ (12 : Int32) ≤ nI i from nI_ge (b := 12) (by omega) (by omega)), hq, if_neg (by decide), ix_nI (by omega) (by omega), hc, ix_nI (by omega) (by omega), nI_clamp (by omega), nI_clamp (by omega)]
    unfold fX8_passes_earned_j42
    rw [ac_cursor_kept, hc, nI_1, nI_1]
    obtain ⟨T', e1, e2, e3, e4, e5⟩ := ih (i + 1) k (md_set_cursor (md_set_kept T (upd (md_kept T) (cu + i) (md_earned T i))) (nI (cu + i + 1))) (by omega) (by omega) (by rw [ac_isKeeping_cursor, ac_isKeeping_kept, hq]) (ac_cursor_cursor _ _)
    refine ⟨T', e1, (zs_kept T _).tr ((zs_cursor _ _).tr e2), e3, e4, fun j => ?_⟩
    rw [e5 j, ac_earned_cursor, ac_earned_kept, ac_kept_cursor, ac_kept_kept, upd_at]
    by_cases q : j = cu + i
    · rw [if_neg (by omega), if_pos q, if_pos (by omega), show j - cu = i from by omega]
    · rw [if_neg q]
      by_cases g : cu + (i + 1) ≤ j ∧ j < cu + 12
      · rw [if_pos g, if_pos (by omega)]
      · rw [if_neg g, if_neg (by omega)]
theorem pke_earned (T : zMd) (hk : md_isKeeping T = 1) (cu : Nat) (hcu : cu + 12 ≤ 400) (hc : md_cursor T = nI cu) : ∃ T', fX8_passes_earned T = some T' ∧ zSame T T' ∧ md_isKeeping T' = 1 ∧ md_kept T' = zpt (md_kept T) (md_earned T) cu 12 ∧ md_cursor T' = nI (cu + 12) := by
  obtain ⟨T', e1, e2, e3, e4, e5⟩ := pkl_earned cu hcu 12 0 FU T (by omega) (FU_big _ (by omega)) hk hc
  exact ⟨T', e1, e2, e3, funext e5, e4⟩
theorem pll_earned (cu : Nat) (hcu : cu + 12 ≤ 400) : ∀ d i k (T : zMd), i + d = 12 → d < k → md_isKeeping T = 0 → md_cursor T = nI (cu + i) → ∃ T', fX8_passes_earned_l2 k (nI i) T = some T' ∧ (md_number T' = md_number T ∧ md_kind T' = md_kind T ∧ md_figure T' = md_figure T ∧ md_one T' = md_one T ∧ md_other T' = md_other T ∧ md_stands T' = md_stands T ∧ md_uses T' = md_uses T ∧ md_houses T' = md_houses T ∧ md_sums T' = md_sums T ∧ md_falls T' = md_falls T) ∧ FR T T' ∧ md_isKeeping T' = 0 ∧ md_kept T' = md_kept T ∧ md_cursor T' = nI (cu + 12) ∧ ∀ j, md_earned T' j = if i ≤ j ∧ j < 12 then md_kept T (cu + j) else md_earned T j := by
  intro d
  induction d with
  | zero =>
    intro i k T hi hk hq hc
    obtain ⟨k, rfl⟩ : ∃ k', k = k' + 1 := ⟨k - 1, by omega⟩
    have e : i = 12 := by omega
    subst e
    refine ⟨T, ?_, ⟨rfl, rfl, rfl, rfl, rfl, rfl, rfl, rfl, rfl, rfl⟩, FR.rf, hq, rfl, hc, fun j => ?_⟩
    · rw [fX8_passes_earned_l2, if_pos (by decide)]
    · rw [if_neg (by omega)]
  | succ d ih =>
    intro i k T hi hk hq hc
    obtain ⟨k, rfl⟩ : ∃ k', k = k' + 1 := ⟨k - 1, by omega⟩
    rw [fX8_passes_earned_l2, if_neg (show ¬ (12 : Int32) ≤ nI i from nI_ge (b := 12) (by omega) (by omega)), hq, if_pos rfl, hc, ix_nI (by omega) (by omega), ix_nI (by omega) (by omega), nI_clamp (by omega), nI_clamp (by omega)]
    unfold fX8_passes_earned_j42
    rw [ac_cursor_earned, hc, nI_1, nI_1]
    obtain ⟨T', e1, ⟨x0, x1, x2, x3, x4, x5, x6, x7, x8, x9⟩, e3, e4, e5, e6, e7⟩ := ih (i + 1) k (md_set_cursor (md_set_earned T (upd (md_earned T) i (md_kept T (cu + i)))) (nI (cu + i + 1))) (by omega) (by omega) (by rw [ac_isKeeping_cursor, ac_isKeeping_earned, hq]) (ac_cursor_cursor _ _)
    refine ⟨T', e1, ⟨x0.trans ((ac_number_cursor _ _).trans (ac_number_earned _ _)), x1.trans ((ac_kind_cursor _ _).trans (ac_kind_earned _ _)), x2.trans ((ac_figure_cursor _ _).trans (ac_figure_earned _ _)), x3.trans ((ac_one_cursor _ _).trans (ac_one_earned _ _)), x4.trans ((ac_other_cursor _ _).trans (ac_other_earned _ _)), x5.trans ((ac_stands_cursor _ _).trans (ac_stands_earned _ _)), x6.trans ((ac_uses_cursor _ _).trans (ac_uses_earned _ _)), x7.trans ((ac_houses_cursor _ _).trans (ac_houses_earned _ _)), x8.trans ((ac_sums_cursor _ _).trans (ac_sums_earned _ _)), x9.trans ((ac_falls_cursor _ _).trans (ac_falls_earned _ _))⟩, (af_earned T _).tr ((af_cursor _ _).tr e3), e4, e5.trans ((ac_kept_cursor _ _).trans (ac_kept_earned _ _)), e6, fun j => ?_⟩
    rw [e7 j, ac_kept_cursor, ac_kept_earned, ac_earned_cursor, ac_earned_earned, upd_at]
    by_cases q : j = i
    · rw [if_neg (by omega), if_pos q, if_pos (by omega), q]
    · rw [if_neg q]
      by_cases g : i + 1 ≤ j ∧ j < 12
      · rw [if_pos g, if_pos (by omega)]
      · rw [if_neg g, if_neg (by omega)]
theorem ple_earned (T : zMd) (hk : md_isKeeping T = 0) (cu : Nat) (hcu : cu + 12 ≤ 400) (hc : md_cursor T = nI cu) : ∃ T', fX8_passes_earned T = some T' ∧ (md_number T' = md_number T ∧ md_kind T' = md_kind T ∧ md_figure T' = md_figure T ∧ md_one T' = md_one T ∧ md_other T' = md_other T ∧ md_stands T' = md_stands T ∧ md_uses T' = md_uses T ∧ md_earned T' = zget12 (md_kept T) (md_earned T) cu 12 ∧ md_houses T' = md_houses T ∧ md_sums T' = md_sums T ∧ md_falls T' = md_falls T ∧ FR T T') ∧ md_isKeeping T' = 0 ∧ md_kept T' = md_kept T ∧ md_cursor T' = nI (cu + 12) := by
  obtain ⟨T', e1, ⟨x0, x1, x2, x3, x4, x5, x6, x7, x8, x9⟩, e3, e4, e5, e6, e7⟩ := pll_earned cu hcu 12 0 FU T (by omega) (FU_big _ (by omega)) hk hc
  have ex : md_earned T' = zget12 (md_kept T) (md_earned T) cu 12 := by
    funext j
    rw [e7 j]
    unfold zget12
    by_cases g : j < 12
    · rw [if_pos ⟨Nat.zero_le _, g⟩, if_pos g]
    · rw [if_neg (by omega), if_neg g]
  exact ⟨T', e1, ⟨x0, x1, x2, x3, x4, x5, x6, ex, x7, x8, x9, e3⟩, e4, e5, e6⟩
theorem pke_One (T : zMd) (hk : md_isKeeping T = 1) (cu : Nat) (hcu : cu < 400) (hc : md_cursor T = nI cu) (v : Int32) : ∃ T', fX8_passOne T v = some (v, T') ∧ zSame T T' ∧ md_isKeeping T' = 1 ∧ md_kept T' = upd (md_kept T) cu v ∧ md_cursor T' = nI (cu + 1) := by
  refine ⟨md_set_cursor (md_set_kept T (upd (md_kept T) cu v)) (nI (cu + 1)), ?_, (zs_kept T _).tr (zs_cursor _ _), by rw [ac_isKeeping_cursor, ac_isKeeping_kept, hk], by rw [ac_kept_cursor, ac_kept_kept], ac_cursor_cursor _ _⟩
  unfold fX8_passOne fX8_passOne_j20
  rw [hk, if_neg (by decide), if_neg (by decide), hc, ix_nI (by omega) (by omega), nI_clamp (by omega)]
  unfold fX8_passOne_j38
  rw [ac_cursor_kept, hc, nI_1]
theorem ple_One (T : zMd) (hk : md_isKeeping T = 0) (cu : Nat) (hcu : cu < 400) (hc : md_cursor T = nI cu) (v : Int32) : ∃ T', fX8_passOne T v = some (md_kept T cu, T') ∧ zSame T T' ∧ md_isKeeping T' = 0 ∧ md_kept T' = md_kept T ∧ md_cursor T' = nI (cu + 1) := by
  refine ⟨md_set_cursor T (nI (cu + 1)), ?_, zs_cursor _ _, by rw [ac_isKeeping_cursor, hk], ac_kept_cursor _ _, ac_cursor_cursor _ _⟩
  unfold fX8_passOne fX8_passOne_j20
  rw [hk, if_pos rfl, if_pos rfl, hc, ix_nI (by omega) (by omega), nI_clamp (by omega)]
  unfold fX8_passOne_j38
  rw [hc, nI_1]
theorem pAll_keep (T : zMd) (z : Nat) (hz : z < 3) : ∃ T', fX8_passesAll T (nI z) 1 = some T' ∧ md_kept T' = zkeep T (100 * z) ∧ zSame T T' := by
  have e0 : (100 : Int32) * nI z = nI (100 * z) := pk_mul 100 z
  obtain ⟨T0, e⟩ : ∃ T0, T0 = md_set_isKeeping (md_set_cursor T (nI (100 * z))) 1 := ⟨_, rfl⟩
  have k0 : md_isKeeping T0 = 1 := by rw [e]; rfl
  have c0 : md_cursor T0 = nI (100 * z) := by rw [e]; rfl
  have t0 : zSame T T0 := by rw [e]; exact ⟨rfl, rfl, rfl, rfl, rfl, rfl, rfl, rfl, rfl, rfl, rfl, ⟨rfl, rfl, rfl, rfl, rfl, rfl, rfl, rfl, rfl, rfl, rfl, rfl⟩⟩
  have q0 : md_kept T0 = md_kept T := by rw [e]; rfl
  obtain ⟨T1, a1, s1, k1, q1, c1⟩ := pke_number T0 k0 (100 * z) (by omega) c0
  rw [t0.1, q0] at q1
  have t1 := t0.tr s1
  obtain ⟨T2, a2, s2, k2, q2, c2⟩ := pke_kind T1 k1 (100 * z + 12) (by omega) c1
  rw [t1.2.1, q1] at q2
  have t2 := t1.tr s2
  obtain ⟨T3, a3, s3, k3, q3, c3⟩ := pke_figure T2 k2 (100 * z + 24) (by omega) c2
  rw [t2.2.2.1, q2] at q3
  have t3 := t2.tr s3
  obtain ⟨T4, a4, s4, k4, q4, c4⟩ := pke_one T3 k3 (100 * z + 36) (by omega) c3
  rw [t3.2.2.2.1, q3] at q4
  have t4 := t3.tr s4
  obtain ⟨T5, a5, s5, k5, q5, c5⟩ := pke_other T4 k4 (100 * z + 48) (by omega) c4
  rw [t4.2.2.2.2.1, q4] at q5
  have t5 := t4.tr s5
  obtain ⟨T6, a6, s6, k6, q6, c6⟩ := pke_stands T5 k5 (100 * z + 60) (by omega) c5
  rw [t5.2.2.2.2.2.1, q5] at q6
  have t6 := t5.tr s6
  obtain ⟨T7, a7, s7, k7, q7, c7⟩ := pke_uses T6 k6 (100 * z + 72) (by omega) c6
  rw [t6.2.2.2.2.2.2.1, q6] at q7
  have t7 := t6.tr s7
  obtain ⟨T8, a8, s8, k8, q8, c8⟩ := pke_earned T7 k7 (100 * z + 84) (by omega) c7
  rw [t7.2.2.2.2.2.2.2.1, q7] at q8
  have t8 := t7.tr s8
  obtain ⟨T9, a9, s9, k9, q9, c9⟩ := pke_One T8 k8 (100 * z + 96) (by omega) c8 (md_houses T8)
  rw [t8.2.2.2.2.2.2.2.2.1, q8] at q9
  have t9 := t8.tr s9
  obtain ⟨U9, e9⟩ : ∃ U9, U9 = md_set_houses T9 (md_houses T) := ⟨_, rfl⟩
  have t9' : zSame T U9 := by
    obtain ⟨n1, n2, n3, n4, n5, n6, n7, n8, n9, n10, n11, n12⟩ := t9
    rw [e9]; exact ⟨n1, n2, n3, n4, n5, n6, n7, n8, rfl, n10, n11, n12⟩
  have q9' : md_kept U9 = _ := Eq.trans (by rw [e9]; rfl) q9
  obtain ⟨T10, a10, s10, k10, q10, c10⟩ := pke_One U9 (by rw [e9]; exact k9) (100 * z + 97) (by omega) (by rw [e9]; exact c9) (md_sums T9)
  rw [t9.2.2.2.2.2.2.2.2.2.1, q9'] at q10
  have t10 := t9'.tr s10
  obtain ⟨U10, e10⟩ : ∃ U10, U10 = md_set_sums T10 (md_sums T) := ⟨_, rfl⟩
  have t10' : zSame T U10 := by
    obtain ⟨n1, n2, n3, n4, n5, n6, n7, n8, n9, n10, n11, n12⟩ := t10
    rw [e10]; exact ⟨n1, n2, n3, n4, n5, n6, n7, n8, n9, rfl, n11, n12⟩
  have q10' : md_kept U10 = _ := Eq.trans (by rw [e10]; rfl) q10
  obtain ⟨T11, a11, s11, k11, q11, c11⟩ := pke_One U10 (by rw [e10]; exact k10) (100 * z + 98) (by omega) (by rw [e10]; exact c10) (md_falls T10)
  rw [t10.2.2.2.2.2.2.2.2.2.2.1, q10'] at q11
  have t11 := t10'.tr s11
  refine ⟨md_set_falls T11 (md_falls T), ?_, q11, ?_⟩
  · unfold fX8_passesAll
    rw [if_pos (by decide), e0, ← e, a1]
    show (fX8_passes_kind T1).bind _ = _
    rw [a2]
    show (fX8_passes_figure T2).bind _ = _
    rw [a3]
    show (fX8_passes_one T3).bind _ = _
    rw [a4]
    show (fX8_passes_other T4).bind _ = _
    rw [a5]
    show (fX8_passes_stands T5).bind _ = _
    rw [a6]
    show (fX8_passes_uses T6).bind _ = _
    rw [a7]
    show (fX8_passes_earned T7).bind _ = _
    rw [a8]
    show (fX8_passOne T8 (md_houses T8)).bind _ = _
    rw [a9]
    show (fX8_passOne (md_set_houses T9 (md_houses T8)) (md_sums T9)).bind _ = _
    rw [t8.2.2.2.2.2.2.2.2.1, ← e9, a10]
    show (fX8_passOne (md_set_sums T10 (md_sums T9)) (md_falls T10)).bind _ = _
    rw [t9.2.2.2.2.2.2.2.2.2.1, ← e10, a11]
    show some (md_set_falls T11 (md_falls T10)) = _
    rw [t10.2.2.2.2.2.2.2.2.2.2.1]
  · obtain ⟨n1, n2, n3, n4, n5, n6, n7, n8, n9, n10, n11, n12⟩ := t11
    exact ⟨n1, n2, n3, n4, n5, n6, n7, n8, n9, n10, rfl, n12⟩
theorem pAll_load (T : zMd) (z : Nat) (hz : z < 3) : ∃ T', fX8_passesAll T (nI z) 0 = some T' ∧ md_kept T' = md_kept T ∧ SE (zload T (100 * z)) T' ∧ FR T T' := by
  have e0 : (100 : Int32) * nI z = nI (100 * z) := pk_mul 100 z
  obtain ⟨T0, e⟩ : ∃ T0, T0 = md_set_isKeeping (md_set_cursor T (nI (100 * z))) 0 := ⟨_, rfl⟩
  have k0 : md_isKeeping T0 = 0 := by rw [e]; rfl
  have c0 : md_cursor T0 = nI (100 * z) := by rw [e]; rfl
  have q0 : md_kept T0 = md_kept T := by rw [e]; rfl
  have f0 : FR T T0 := by rw [e]; exact ⟨rfl, rfl, rfl, rfl, rfl, rfl, rfl, rfl, rfl, rfl, rfl, rfl⟩
  have n0_1 : md_number T0 = md_number T := by rw [e]; rfl
  have n0_2 : md_kind T0 = md_kind T := by rw [e]; rfl
  have n0_3 : md_figure T0 = md_figure T := by rw [e]; rfl
  have n0_4 : md_one T0 = md_one T := by rw [e]; rfl
  have n0_5 : md_other T0 = md_other T := by rw [e]; rfl
  have n0_6 : md_stands T0 = md_stands T := by rw [e]; rfl
  have n0_7 : md_uses T0 = md_uses T := by rw [e]; rfl
  have n0_8 : md_earned T0 = md_earned T := by rw [e]; rfl
  have n0_9 : md_houses T0 = md_houses T := by rw [e]; rfl
  have n0_10 : md_sums T0 = md_sums T := by rw [e]; rfl
  have n0_11 : md_falls T0 = md_falls T := by rw [e]; rfl
  obtain ⟨T1, a1, ⟨n1_1, n1_2, n1_3, n1_4, n1_5, n1_6, n1_7, n1_8, n1_9, n1_10, n1_11, f1⟩, k1, q1, c1⟩ := ple_number T0 k0 (100 * z) (by omega) c0
  rw [q0] at q1
  have f1 := f0.tr f1
  rw [q0, n0_1] at n1_1
  rw [n0_2] at n1_2
  rw [n0_3] at n1_3
  rw [n0_4] at n1_4
  rw [n0_5] at n1_5
  rw [n0_6] at n1_6
  rw [n0_7] at n1_7
  rw [n0_8] at n1_8
  rw [n0_9] at n1_9
  rw [n0_10] at n1_10
  rw [n0_11] at n1_11
  obtain ⟨T2, a2, ⟨n2_1, n2_2, n2_3, n2_4, n2_5, n2_6, n2_7, n2_8, n2_9, n2_10, n2_11, f2⟩, k2, q2, c2⟩ := ple_kind T1 k1 (100 * z + 12) (by omega) c1
  rw [q1] at q2
  have f2 := f1.tr f2
  rw [n1_1] at n2_1
  rw [q1, n1_2] at n2_2
  rw [n1_3] at n2_3
  rw [n1_4] at n2_4
  rw [n1_5] at n2_5
  rw [n1_6] at n2_6
  rw [n1_7] at n2_7
  rw [n1_8] at n2_8
  rw [n1_9] at n2_9
  rw [n1_10] at n2_10
  rw [n1_11] at n2_11
  obtain ⟨T3, a3, ⟨n3_1, n3_2, n3_3, n3_4, n3_5, n3_6, n3_7, n3_8, n3_9, n3_10, n3_11, f3⟩, k3, q3, c3⟩ := ple_figure T2 k2 (100 * z + 24) (by omega) c2
  rw [q2] at q3
  have f3 := f2.tr f3
  rw [n2_1] at n3_1
  rw [n2_2] at n3_2
  rw [q2, n2_3] at n3_3
  rw [n2_4] at n3_4
  rw [n2_5] at n3_5
  rw [n2_6] at n3_6
  rw [n2_7] at n3_7
  rw [n2_8] at n3_8
  rw [n2_9] at n3_9
  rw [n2_10] at n3_10
  rw [n2_11] at n3_11
  obtain ⟨T4, a4, ⟨n4_1, n4_2, n4_3, n4_4, n4_5, n4_6, n4_7, n4_8, n4_9, n4_10, n4_11, f4⟩, k4, q4, c4⟩ := ple_one T3 k3 (100 * z + 36) (by omega) c3
  rw [q3] at q4
  have f4 := f3.tr f4
  rw [n3_1] at n4_1
  rw [n3_2] at n4_2
  rw [n3_3] at n4_3
  rw [q3, n3_4] at n4_4
  rw [n3_5] at n4_5
  rw [n3_6] at n4_6
  rw [n3_7] at n4_7
  rw [n3_8] at n4_8
  rw [n3_9] at n4_9
  rw [n3_10] at n4_10
  rw [n3_11] at n4_11
  obtain ⟨T5, a5, ⟨n5_1, n5_2, n5_3, n5_4, n5_5, n5_6, n5_7, n5_8, n5_9, n5_10, n5_11, f5⟩, k5, q5, c5⟩ := ple_other T4 k4 (100 * z + 48) (by omega) c4
  rw [q4] at q5
  have f5 := f4.tr f5
  rw [n4_1] at n5_1
  rw [n4_2] at n5_2
  rw [n4_3] at n5_3
  rw [n4_4] at n5_4
  rw [q4, n4_5] at n5_5
  rw [n4_6] at n5_6
  rw [n4_7] at n5_7
  rw [n4_8] at n5_8
  rw [n4_9] at n5_9
  rw [n4_10] at n5_10
  rw [n4_11] at n5_11
  obtain ⟨T6, a6, ⟨n6_1, n6_2, n6_3, n6_4, n6_5, n6_6, n6_7, n6_8, n6_9, n6_10, n6_11, f6⟩, k6, q6, c6⟩ := ple_stands T5 k5 (100 * z + 60) (by omega) c5
  rw [q5] at q6
  have f6 := f5.tr f6
  rw [n5_1] at n6_1
  rw [n5_2] at n6_2
  rw [n5_3] at n6_3
  rw [n5_4] at n6_4
  rw [n5_5] at n6_5
  rw [q5, n5_6] at n6_6
  rw [n5_7] at n6_7
  rw [n5_8] at n6_8
  rw [n5_9] at n6_9
  rw [n5_10] at n6_10
  rw [n5_11] at n6_11
  obtain ⟨T7, a7, ⟨n7_1, n7_2, n7_3, n7_4, n7_5, n7_6, n7_7, n7_8, n7_9, n7_10, n7_11, f7⟩, k7, q7, c7⟩ := ple_uses T6 k6 (100 * z + 72) (by omega) c6
  rw [q6] at q7
  have f7 := f6.tr f7
  rw [n6_1] at n7_1
  rw [n6_2] at n7_2
  rw [n6_3] at n7_3
  rw [n6_4] at n7_4
  rw [n6_5] at n7_5
  rw [n6_6] at n7_6
  rw [q6, n6_7] at n7_7
  rw [n6_8] at n7_8
  rw [n6_9] at n7_9
  rw [n6_10] at n7_10
  rw [n6_11] at n7_11
  obtain ⟨T8, a8, ⟨n8_1, n8_2, n8_3, n8_4, n8_5, n8_6, n8_7, n8_8, n8_9, n8_10, n8_11, f8⟩, k8, q8, c8⟩ := ple_earned T7 k7 (100 * z + 84) (by omega) c7
  rw [q7] at q8
  have f8 := f7.tr f8
  rw [n7_1] at n8_1
  rw [n7_2] at n8_2
  rw [n7_3] at n8_3
  rw [n7_4] at n8_4
  rw [n7_5] at n8_5
  rw [n7_6] at n8_6
  rw [n7_7] at n8_7
  rw [q7, n7_8] at n8_8
  rw [n7_9] at n8_9
  rw [n7_10] at n8_10
  rw [n7_11] at n8_11
  obtain ⟨T9, a9, ⟨n9_1, n9_2, n9_3, n9_4, n9_5, n9_6, n9_7, n9_8, n9_9, n9_10, n9_11, f9⟩, k9, q9, c9⟩ := ple_One T8 k8 (100 * z + 96) (by omega) c8 (md_houses T8)
  rw [q8] at q9 a9
  have f9 := f8.tr f9
  rw [n8_1] at n9_1
  rw [n8_2] at n9_2
  rw [n8_3] at n9_3
  rw [n8_4] at n9_4
  rw [n8_5] at n9_5
  rw [n8_6] at n9_6
  rw [n8_7] at n9_7
  rw [n8_8] at n9_8
  rw [n8_9] at n9_9
  rw [n8_10] at n9_10
  rw [n8_11] at n9_11
  obtain ⟨U9, e9⟩ : ∃ U9, U9 = md_set_houses T9 (md_kept T (100 * z + 96)) := ⟨_, rfl⟩
  obtain ⟨T10, a10, ⟨n10_1, n10_2, n10_3, n10_4, n10_5, n10_6, n10_7, n10_8, n10_9, n10_10, n10_11, f10⟩, k10, q10, c10⟩ := ple_One U9 (by rw [e9]; exact k9) (100 * z + 97) (by omega) (by rw [e9]; exact c9) (md_sums T9)
  have u9 : md_kept U9 = md_kept T := Eq.trans (by rw [e9]; rfl) q9
  rw [u9] at q10 a10
  have f10 := f9.tr (FR.tr (show FR T9 U9 from by rw [e9]; exact ⟨rfl, rfl, rfl, rfl, rfl, rfl, rfl, rfl, rfl, rfl, rfl, rfl⟩) f10)
  have n10_1 := n10_1.trans ((show md_number U9 = md_number T9 from by rw [e9]; rfl).trans n9_1)
  have n10_2 := n10_2.trans ((show md_kind U9 = md_kind T9 from by rw [e9]; rfl).trans n9_2)
  have n10_3 := n10_3.trans ((show md_figure U9 = md_figure T9 from by rw [e9]; rfl).trans n9_3)
  have n10_4 := n10_4.trans ((show md_one U9 = md_one T9 from by rw [e9]; rfl).trans n9_4)
  have n10_5 := n10_5.trans ((show md_other U9 = md_other T9 from by rw [e9]; rfl).trans n9_5)
  have n10_6 := n10_6.trans ((show md_stands U9 = md_stands T9 from by rw [e9]; rfl).trans n9_6)
  have n10_7 := n10_7.trans ((show md_uses U9 = md_uses T9 from by rw [e9]; rfl).trans n9_7)
  have n10_8 := n10_8.trans ((show md_earned U9 = md_earned T9 from by rw [e9]; rfl).trans n9_8)
  have n10_9 := n10_9.trans (show md_houses U9 = md_kept T (100 * z + 96) from by rw [e9]; rfl)
  have n10_10 := n10_10.trans ((show md_sums U9 = md_sums T9 from by rw [e9]; rfl).trans n9_10)
  have n10_11 := n10_11.trans ((show md_falls U9 = md_falls T9 from by rw [e9]; rfl).trans n9_11)
  obtain ⟨U10, e10⟩ : ∃ U10, U10 = md_set_sums T10 (md_kept T (100 * z + 97)) := ⟨_, rfl⟩
  obtain ⟨T11, a11, ⟨n11_1, n11_2, n11_3, n11_4, n11_5, n11_6, n11_7, n11_8, n11_9, n11_10, n11_11, f11⟩, k11, q11, c11⟩ := ple_One U10 (by rw [e10]; exact k10) (100 * z + 98) (by omega) (by rw [e10]; exact c10) (md_falls T10)
  have u10 : md_kept U10 = md_kept T := Eq.trans (by rw [e10]; rfl) q10
  rw [u10] at q11 a11
  have f11 := f10.tr (FR.tr (show FR T10 U10 from by rw [e10]; exact ⟨rfl, rfl, rfl, rfl, rfl, rfl, rfl, rfl, rfl, rfl, rfl, rfl⟩) f11)
  have n11_1 := n11_1.trans ((show md_number U10 = md_number T10 from by rw [e10]; rfl).trans n10_1)
  have n11_2 := n11_2.trans ((show md_kind U10 = md_kind T10 from by rw [e10]; rfl).trans n10_2)
  have n11_3 := n11_3.trans ((show md_figure U10 = md_figure T10 from by rw [e10]; rfl).trans n10_3)
  have n11_4 := n11_4.trans ((show md_one U10 = md_one T10 from by rw [e10]; rfl).trans n10_4)
  have n11_5 := n11_5.trans ((show md_other U10 = md_other T10 from by rw [e10]; rfl).trans n10_5)
  have n11_6 := n11_6.trans ((show md_stands U10 = md_stands T10 from by rw [e10]; rfl).trans n10_6)
  have n11_7 := n11_7.trans ((show md_uses U10 = md_uses T10 from by rw [e10]; rfl).trans n10_7)
  have n11_8 := n11_8.trans ((show md_earned U10 = md_earned T10 from by rw [e10]; rfl).trans n10_8)
  have n11_9 := n11_9.trans ((show md_houses U10 = md_houses T10 from by rw [e10]; rfl).trans n10_9)
  have n11_10 := n11_10.trans (show md_sums U10 = md_kept T (100 * z + 97) from by rw [e10]; rfl)
  have n11_11 := n11_11.trans ((show md_falls U10 = md_falls T10 from by rw [e10]; rfl).trans n10_11)
  refine ⟨md_set_falls T11 (md_kept T (100 * z + 98)), ?_, q11, ⟨fun j _ => ⟨congrFun n11_1 j, congrFun n11_2 j, congrFun n11_3 j, congrFun n11_4 j, congrFun n11_5 j, congrFun n11_6 j, congrFun n11_7 j, congrFun n11_8 j⟩, n11_9, n11_10, rfl⟩, f11⟩
  unfold fX8_passesAll
  rw [if_pos (by decide), e0, ← e, a1]
  show (fX8_passes_kind T1).bind _ = _
  rw [a2]
  show (fX8_passes_figure T2).bind _ = _
  rw [a3]
  show (fX8_passes_one T3).bind _ = _
  rw [a4]
  show (fX8_passes_other T4).bind _ = _
  rw [a5]
  show (fX8_passes_stands T5).bind _ = _
  rw [a6]
  show (fX8_passes_uses T6).bind _ = _
  rw [a7]
  show (fX8_passes_earned T7).bind _ = _
  rw [a8]
  show (fX8_passOne T8 (md_houses T8)).bind _ = _
  rw [a9]
  show (fX8_passOne (md_set_houses T9 (md_kept T (100 * z + 96))) (md_sums T9)).bind _ = _
  rw [← e9, a10]
  show (fX8_passOne (md_set_sums T10 (md_kept T (100 * z + 97))) (md_falls T10)).bind _ = _
  rw [← e10, a11]
  rfl
/-- keeping: what is said of it from here on -/
theorem keep_ok (T : zMd) (z : Nat) (hz : z < 3) : ∃ T', fX8_passesAll T (nI z) 1 = some T' ∧ SE T T' ∧ FR T T' ∧ SE T (zload T' (100 * z)) ∧ ∀ z2, z2 < 3 → z2 ≠ z → SE (zload T (100 * z2)) (zload T' (100 * z2)) := by
  obtain ⟨T', e1, e2, e3⟩ := pAll_keep T z hz
  refine ⟨T', e1, e3.se, e3.2.2.2.2.2.2.2.2.2.2.2, zload_keep e2, fun z2 h2 hne => zload_se (fun j h3 h4 => ?_)⟩
  rw [e2]
  exact zkeep_out T (100 * z) j (by omega)
theorem load_ok (T : zMd) (z : Nat) (hz : z < 3) : ∃ T', fX8_passesAll T (nI z) 0 = some T' ∧ SE (zload T (100 * z)) T' ∧ FR T T' ∧ ∀ cu, SE (zload T cu) (zload T' cu) := by
  obtain ⟨T', e1, e2, e3, e4⟩ := pAll_load T z hz
  exact ⟨T', e1, e3, e4, fun cu => zload_se (fun j _ _ => by rw [e2])⟩
