/-! the keeping: passesAll -/
theorem z_400 {cu i : Nat} (h : cu + 12 ≤ 400) (hi : i < 12) : cu + i < 400 := by omega
/-- twelve places of K from cu on hold X -/
def zpt (K X : Nat → Int32) (cu i : Nat) : Nat → Int32 := fun j => if cu ≤ j ∧ j < cu + i then X (j - cu) else K j
theorem zpt_0 (K X : Nat → Int32) (cu : Nat) : zpt K X cu 0 = K := by
  funext j
  unfold zpt
  rw [if_neg (by omega)]
theorem zpt_s (K X : Nat → Int32) (cu i : Nat) : upd (zpt K X cu i) (cu + i) (X i) = zpt K X cu (i + 1) := by
  funext j
  unfold zpt
  rw [upd_at]
  by_cases e : j = cu + i
  · subst e
    rw [if_pos rfl, if_pos (by omega), Nat.add_sub_cancel_left]
  · rw [if_neg e]
    by_cases q : cu ≤ j ∧ j < cu + i
    · rw [if_pos q, if_pos (by omega)]
    · rw [if_neg q, if_neg (by omega)]
theorem zpt_in {K X : Nat → Int32} {cu i j : Nat} (h : j < i) : zpt K X cu i (cu + j) = X j := by
  unfold zpt
  rw [if_pos (by omega), Nat.add_sub_cancel_left]
theorem zpt_out {K X : Nat → Int32} {cu i j : Nat} (h : j < cu ∨ cu + i ≤ j) : zpt K X cu i j = K j := by
  unfold zpt
  rw [if_neg (by omega)]
/-- the first i of X are K's from cu on -/
def zget12 (K X : Nat → Int32) (cu i : Nat) : Nat → Int32 := fun j => if j < i then K (cu + j) else X j
theorem zget12_0 (K X : Nat → Int32) (cu : Nat) : zget12 K X cu 0 = X := by
  funext j
  unfold zget12
  rw [if_neg (by omega)]
theorem zget12_s (K X : Nat → Int32) (cu i : Nat) : upd (zget12 K X cu i) i (K (cu + i)) = zget12 K X cu (i + 1) := by
  funext j
  unfold zget12
  rw [upd_at]
  by_cases e : j = i
  · subst e
    rw [if_pos rfl, if_pos (by omega)]
  · rw [if_neg e]
    by_cases q : j < i
    · rw [if_pos q, if_pos (by omega)]
    · rw [if_neg q, if_neg (by omega)]
theorem zget12_in {K X : Nat → Int32} {cu i j : Nat} (h : j < i) : zget12 K X cu i j = K (cu + j) := by
  unfold zget12
  rw [if_pos h]
theorem pk_number_l (T : zMd) (hk : md_isKeeping T = 1) (cu : Nat) (hcu : cu + 12 ≤ 400) (K0 : Nat → Int32) : ∀ d i k, i + d = 12 → d < k → fX8_passes_number_l2 k (nI i) (md_set_cursor (md_set_kept T (zpt K0 (md_number T) cu i)) (nI (cu + i))) = some (md_set_cursor (md_set_kept T (zpt K0 (md_number T) cu 12)) (nI (cu + 12))) := by
  intro d
  induction d with
  | zero =>
    intro i k hi hk2
    obtain ⟨k, rfl⟩ : ∃ k', k = k' + 1 := ⟨k - 1, by omega⟩
    have e : i = 12 := by omega
    subst e
    rw [fX8_passes_number_l2, if_pos (by decide)]
  | succ d ih =>
    intro i k hi hk2
    obtain ⟨k, rfl⟩ : ∃ k', k = k' + 1 := ⟨k - 1, by omega⟩
    have hk3 : md_isKeeping (md_set_cursor (md_set_kept T (zpt K0 (md_number T) cu i)) (nI (cu + i))) = 1 := hk
    rw [fX8_passes_number_l2, if_neg (show ¬ (12 : Int32) ≤ nI i from nI_ge (b := 12) (by omega) (by omega)), hk3, if_neg (by decide), ix_nI (by omega) (by omega)]
    show ix 400 (nI (cu + i)) _ = _
    rw [ix_nI (by omega) (by omega), nI_clamp (by omega)]
    show fX8_passes_number_j42 (nI i) (md_set_kept (md_set_cursor (md_set_kept T (zpt K0 (md_number T) cu i)) (nI (cu + i))) (upd (zpt K0 (md_number T) cu i) (nI (cu + i)).toNatClampNeg (md_number T i))) (fX8_passes_number_l2 k) = _
    rw [nI_clamp (by omega), zpt_s]
    unfold fX8_passes_number_j42
    show fX8_passes_number_l2 k (nI i + 1) (md_set_cursor (md_set_kept T (zpt K0 (md_number T) cu (i + 1))) (nI (cu + i) + 1)) = _
    rw [nI_1, nI_1]
    exact ih (i + 1) k (by omega) (by omega)
theorem pk_number (T : zMd) (hk : md_isKeeping T = 1) (cu : Nat) (hcu : cu + 12 ≤ 400) (hc : md_cursor T = nI cu) : fX8_passes_number T = some (md_set_cursor (md_set_kept T (zpt (md_kept T) (md_number T) cu 12)) (nI (cu + 12))) := by
  have := pk_number_l T hk cu hcu (md_kept T) 12 0 FU (by omega) (FU_big _ (by omega))
  rw [zpt_0, Nat.add_zero, ← hc] at this
  exact this
theorem pl_number_l (T : zMd) (hk : md_isKeeping T = 0) (cu : Nat) (hcu : cu + 12 ≤ 400) (X0 : Nat → Int32) : ∀ d i k, i + d = 12 → d < k → fX8_passes_number_l2 k (nI i) (md_set_cursor (md_set_number T (zget12 (md_kept T) X0 cu i)) (nI (cu + i))) = some (md_set_cursor (md_set_number T (zget12 (md_kept T) X0 cu 12)) (nI (cu + 12))) := by
  intro d
  induction d with
  | zero =>
    intro i k hi hk2
    obtain ⟨k, rfl⟩ : ∃ k', k = k' + 1 := ⟨k - 1, by omega⟩
    have e : i = 12 := by omega
    subst e
    rw [fX8_passes_number_l2, if_pos (by decide)]
  | succ d ih =>
    intro i k hi hk2
    obtain ⟨k, rfl⟩ : ∃ k', k = k' + 1 := ⟨k - 1, by omega⟩
    have hk3 : md_isKeeping (md_set_cursor (md_set_number T (zget12 (md_kept T) X0 cu i)) (nI (cu + i))) = 0 := hk
    rw [fX8_passes_number_l2, if_neg (show ¬ (12 : Int32) ≤ nI i from nI_ge (b := 12) (by omega) (by omega)), hk3, if_pos rfl]
    show ix 400 (nI (cu + i)) _ = _
    rw [ix_nI (by omega) (by omega), ix_nI (by omega) (by omega), nI_clamp (by omega)]
    show fX8_passes_number_j42 (nI i) (md_set_number (md_set_cursor (md_set_number T (zget12 (md_kept T) X0 cu i)) (nI (cu + i))) (upd (zget12 (md_kept T) X0 cu i) i (md_kept T (nI (cu + i)).toNatClampNeg))) (fX8_passes_number_l2 k) = _
    rw [nI_clamp (by omega), zget12_s]
    unfold fX8_passes_number_j42
    show fX8_passes_number_l2 k (nI i + 1) (md_set_cursor (md_set_number T (zget12 (md_kept T) X0 cu (i + 1))) (nI (cu + i) + 1)) = _
    rw [nI_1, nI_1]
    exact ih (i + 1) k (by omega) (by omega)
theorem pl_number (T : zMd) (hk : md_isKeeping T = 0) (cu : Nat) (hcu : cu + 12 ≤ 400) (hc : md_cursor T = nI cu) : fX8_passes_number T = some (md_set_cursor (md_set_number T (zget12 (md_kept T) (md_number T) cu 12)) (nI (cu + 12))) := by
  have := pl_number_l T hk cu hcu (md_number T) 12 0 FU (by omega) (FU_big _ (by omega))
  rw [zget12_0, Nat.add_zero, ← hc] at this
  exact this
theorem pk_kind_l (T : zMd) (hk : md_isKeeping T = 1) (cu : Nat) (hcu : cu + 12 ≤ 400) (K0 : Nat → Int32) : ∀ d i k, i + d = 12 → d < k → fX8_passes_kind_l2 k (nI i) (md_set_cursor (md_set_kept T (zpt K0 (md_kind T) cu i)) (nI (cu + i))) = some (md_set_cursor (md_set_kept T (zpt K0 (md_kind T) cu 12)) (nI (cu + 12))) := by
  intro d
  induction d with
  | zero =>
    intro i k hi hk2
    obtain ⟨k, rfl⟩ : ∃ k', k = k' + 1 := ⟨k - 1, by omega⟩
    have e : i = 12 := by omega
    subst e
    rw [fX8_passes_kind_l2, if_pos (by decide)]
  | succ d ih =>
    intro i k hi hk2
    obtain ⟨k, rfl⟩ : ∃ k', k = k' + 1 := ⟨k - 1, by omega⟩
    have hk3 : md_isKeeping (md_set_cursor (md_set_kept T (zpt K0 (md_kind T) cu i)) (nI (cu + i))) = 1 := hk
    rw [fX8_passes_kind_l2, if_neg (show ¬ (12 : Int32) ≤ nI i from nI_ge (b := 12) (by omega) (by omega)), hk3, if_neg (by decide), ix_nI (by omega) (by omega)]
    show ix 400 (nI (cu + i)) _ = _
    rw [ix_nI (by omega) (by omega), nI_clamp (by omega)]
    show fX8_passes_kind_j42 (nI i) (md_set_kept (md_set_cursor (md_set_kept T (zpt K0 (md_kind T) cu i)) (nI (cu + i))) (upd (zpt K0 (md_kind T) cu i) (nI (cu + i)).toNatClampNeg (md_kind T i))) (fX8_passes_kind_l2 k) = _
    rw [nI_clamp (by omega), zpt_s]
    unfold fX8_passes_kind_j42
    show fX8_passes_kind_l2 k (nI i + 1) (md_set_cursor (md_set_kept T (zpt K0 (md_kind T) cu (i + 1))) (nI (cu + i) + 1)) = _
    rw [nI_1, nI_1]
    exact ih (i + 1) k (by omega) (by omega)
theorem pk_kind (T : zMd) (hk : md_isKeeping T = 1) (cu : Nat) (hcu : cu + 12 ≤ 400) (hc : md_cursor T = nI cu) : fX8_passes_kind T = some (md_set_cursor (md_set_kept T (zpt (md_kept T) (md_kind T) cu 12)) (nI (cu + 12))) := by
  have := pk_kind_l T hk cu hcu (md_kept T) 12 0 FU (by omega) (FU_big _ (by omega))
  rw [zpt_0, Nat.add_zero, ← hc] at this
  exact this
theorem pl_kind_l (T : zMd) (hk : md_isKeeping T = 0) (cu : Nat) (hcu : cu + 12 ≤ 400) (X0 : Nat → Int32) : ∀ d i k, i + d = 12 → d < k → fX8_passes_kind_l2 k (nI i) (md_set_cursor (md_set_kind T (zget12 (md_kept T) X0 cu i)) (nI (cu + i))) = some (md_set_cursor (md_set_kind T (zget12 (md_kept T) X0 cu 12)) (nI (cu + 12))) := by
  intro d
  induction d with
  | zero =>
    intro i k hi hk2
    obtain ⟨k, rfl⟩ : ∃ k', k = k' + 1 := ⟨k - 1, by omega⟩
    have e : i = 12 := by omega
    subst e
    rw [fX8_passes_kind_l2, if_pos (by decide)]
  | succ d ih =>
    intro i k hi hk2
    obtain ⟨k, rfl⟩ : ∃ k', k = k' + 1 := ⟨k - 1, by omega⟩
    have hk3 : md_isKeeping (md_set_cursor (md_set_kind T (zget12 (md_kept T) X0 cu i)) (nI (cu + i))) = 0 := hk
    rw [fX8_passes_kind_l2, if_neg (show ¬ (12 : Int32) ≤ nI i from nI_ge (b := 12) (by omega) (by omega)), hk3, if_pos rfl]
    show ix 400 (nI (cu + i)) _ = _
    rw [ix_nI (by omega) (by omega), ix_nI (by omega) (by omega), nI_clamp (by omega)]
    show fX8_passes_kind_j42 (nI i) (md_set_kind (md_set_cursor (md_set_kind T (zget12 (md_kept T) X0 cu i)) (nI (cu + i))) (upd (zget12 (md_kept T) X0 cu i) i (md_kept T (nI (cu + i)).toNatClampNeg))) (fX8_passes_kind_l2 k) = _
    rw [nI_clamp (by omega), zget12_s]
    unfold fX8_passes_kind_j42
    show fX8_passes_kind_l2 k (nI i + 1) (md_set_cursor (md_set_kind T (zget12 (md_kept T) X0 cu (i + 1))) (nI (cu + i) + 1)) = _
    rw [nI_1, nI_1]
    exact ih (i + 1) k (by omega) (by omega)
theorem pl_kind (T : zMd) (hk : md_isKeeping T = 0) (cu : Nat) (hcu : cu + 12 ≤ 400) (hc : md_cursor T = nI cu) : fX8_passes_kind T = some (md_set_cursor (md_set_kind T (zget12 (md_kept T) (md_kind T) cu 12)) (nI (cu + 12))) := by
  have := pl_kind_l T hk cu hcu (md_kind T) 12 0 FU (by omega) (FU_big _ (by omega))
  rw [zget12_0, Nat.add_zero, ← hc] at this
  exact this
theorem pk_figure_l (T : zMd) (hk : md_isKeeping T = 1) (cu : Nat) (hcu : cu + 12 ≤ 400) (K0 : Nat → Int32) : ∀ d i k, i + d = 12 → d < k → fX8_passes_figure_l2 k (nI i) (md_set_cursor (md_set_kept T (zpt K0 (md_figure T) cu i)) (nI (cu + i))) = some (md_set_cursor (md_set_kept T (zpt K0 (md_figure T) cu 12)) (nI (cu + 12))) := by
  intro d
  induction d with
  | zero =>
    intro i k hi hk2
    obtain ⟨k, rfl⟩ : ∃ k', k = k' + 1 := ⟨k - 1, by omega⟩
    have e : i = 12 := by omega
    subst e
    rw [fX8_passes_figure_l2, if_pos (by decide)]
  | succ d ih =>
    intro i k hi hk2
    obtain ⟨k, rfl⟩ : ∃ k', k = k' + 1 := ⟨k - 1, by omega⟩
    have hk3 : md_isKeeping (md_set_cursor (md_set_kept T (zpt K0 (md_figure T) cu i)) (nI (cu + i))) = 1 := hk
    rw [fX8_passes_figure_l2, if_neg (show ¬ (12 : Int32) ≤ nI i from nI_ge (b := 12) (by omega) (by omega)), hk3, if_neg (by decide), ix_nI (by omega) (by omega)]
    show ix 400 (nI (cu + i)) _ = _
    rw [ix_nI (by omega) (by omega), nI_clamp (by omega)]
    show fX8_passes_figure_j42 (nI i) (md_set_kept (md_set_cursor (md_set_kept T (zpt K0 (md_figure T) cu i)) (nI (cu + i))) (upd (zpt K0 (md_figure T) cu i) (nI (cu + i)).toNatClampNeg (md_figure T i))) (fX8_passes_figure_l2 k) = _
    rw [nI_clamp (by omega), zpt_s]
    unfold fX8_passes_figure_j42
    show fX8_passes_figure_l2 k (nI i + 1) (md_set_cursor (md_set_kept T (zpt K0 (md_figure T) cu (i + 1))) (nI (cu + i) + 1)) = _
    rw [nI_1, nI_1]
    exact ih (i + 1) k (by omega) (by omega)
theorem pk_figure (T : zMd) (hk : md_isKeeping T = 1) (cu : Nat) (hcu : cu + 12 ≤ 400) (hc : md_cursor T = nI cu) : fX8_passes_figure T = some (md_set_cursor (md_set_kept T (zpt (md_kept T) (md_figure T) cu 12)) (nI (cu + 12))) := by
  have := pk_figure_l T hk cu hcu (md_kept T) 12 0 FU (by omega) (FU_big _ (by omega))
  rw [zpt_0, Nat.add_zero, ← hc] at this
  exact this
theorem pl_figure_l (T : zMd) (hk : md_isKeeping T = 0) (cu : Nat) (hcu : cu + 12 ≤ 400) (X0 : Nat → Int32) : ∀ d i k, i + d = 12 → d < k → fX8_passes_figure_l2 k (nI i) (md_set_cursor (md_set_figure T (zget12 (md_kept T) X0 cu i)) (nI (cu + i))) = some (md_set_cursor (md_set_figure T (zget12 (md_kept T) X0 cu 12)) (nI (cu + 12))) := by
  intro d
  induction d with
  | zero =>
    intro i k hi hk2
    obtain ⟨k, rfl⟩ : ∃ k', k = k' + 1 := ⟨k - 1, by omega⟩
    have e : i = 12 := by omega
    subst e
    rw [fX8_passes_figure_l2, if_pos (by decide)]
  | succ d ih =>
    intro i k hi hk2
    obtain ⟨k, rfl⟩ : ∃ k', k = k' + 1 := ⟨k - 1, by omega⟩
    have hk3 : md_isKeeping (md_set_cursor (md_set_figure T (zget12 (md_kept T) X0 cu i)) (nI (cu + i))) = 0 := hk
    rw [fX8_passes_figure_l2, if_neg (show ¬ (12 : Int32) ≤ nI i from nI_ge (b := 12) (by omega) (by omega)), hk3, if_pos rfl]
    show ix 400 (nI (cu + i)) _ = _
    rw [ix_nI (by omega) (by omega), ix_nI (by omega) (by omega), nI_clamp (by omega)]
    show fX8_passes_figure_j42 (nI i) (md_set_figure (md_set_cursor (md_set_figure T (zget12 (md_kept T) X0 cu i)) (nI (cu + i))) (upd (zget12 (md_kept T) X0 cu i) i (md_kept T (nI (cu + i)).toNatClampNeg))) (fX8_passes_figure_l2 k) = _
    rw [nI_clamp (by omega), zget12_s]
    unfold fX8_passes_figure_j42
    show fX8_passes_figure_l2 k (nI i + 1) (md_set_cursor (md_set_figure T (zget12 (md_kept T) X0 cu (i + 1))) (nI (cu + i) + 1)) = _
    rw [nI_1, nI_1]
    exact ih (i + 1) k (by omega) (by omega)
theorem pl_figure (T : zMd) (hk : md_isKeeping T = 0) (cu : Nat) (hcu : cu + 12 ≤ 400) (hc : md_cursor T = nI cu) : fX8_passes_figure T = some (md_set_cursor (md_set_figure T (zget12 (md_kept T) (md_figure T) cu 12)) (nI (cu + 12))) := by
  have := pl_figure_l T hk cu hcu (md_figure T) 12 0 FU (by omega) (FU_big _ (by omega))
  rw [zget12_0, Nat.add_zero, ← hc] at this
  exact this
theorem pk_one_l (T : zMd) (hk : md_isKeeping T = 1) (cu : Nat) (hcu : cu + 12 ≤ 400) (K0 : Nat → Int32) : ∀ d i k, i + d = 12 → d < k → fX8_passes_one_l2 k (nI i) (md_set_cursor (md_set_kept T (zpt K0 (md_one T) cu i)) (nI (cu + i))) = some (md_set_cursor (md_set_kept T (zpt K0 (md_one T) cu 12)) (nI (cu + 12))) := by
  intro d
  induction d with
  | zero =>
    intro i k hi hk2
    obtain ⟨k, rfl⟩ : ∃ k', k = k' + 1 := ⟨k - 1, by omega⟩
    have e : i = 12 := by omega
    subst e
    rw [fX8_passes_one_l2, if_pos (by decide)]
  | succ d ih =>
    intro i k hi hk2
    obtain ⟨k, rfl⟩ : ∃ k', k = k' + 1 := ⟨k - 1, by omega⟩
    have hk3 : md_isKeeping (md_set_cursor (md_set_kept T (zpt K0 (md_one T) cu i)) (nI (cu + i))) = 1 := hk
    rw [fX8_passes_one_l2, if_neg (show ¬ (12 : Int32) ≤ nI i from nI_ge (b := 12) (by omega) (by omega)), hk3, if_neg (by decide), ix_nI (by omega) (by omega)]
    show ix 400 (nI (cu + i)) _ = _
    rw [ix_nI (by omega) (by omega), nI_clamp (by omega)]
    show fX8_passes_one_j42 (nI i) (md_set_kept (md_set_cursor (md_set_kept T (zpt K0 (md_one T) cu i)) (nI (cu + i))) (upd (zpt K0 (md_one T) cu i) (nI (cu + i)).toNatClampNeg (md_one T i))) (fX8_passes_one_l2 k) = _
    rw [nI_clamp (by omega), zpt_s]
    unfold fX8_passes_one_j42
    show fX8_passes_one_l2 k (nI i + 1) (md_set_cursor (md_set_kept T (zpt K0 (md_one T) cu (i + 1))) (nI (cu + i) + 1)) = _
    rw [nI_1, nI_1]
    exact ih (i + 1) k (by omega) (by omega)
theorem pk_one (T : zMd) (hk : md_isKeeping T = 1) (cu : Nat) (hcu : cu + 12 ≤ 400) (hc : md_cursor T = nI cu) : fX8_passes_one T = some (md_set_cursor (md_set_kept T (zpt (md_kept T) (md_one T) cu 12)) (nI (cu + 12))) := by
  have := pk_one_l T hk cu hcu (md_kept T) 12 0 FU (by omega) (FU_big _ (by omega))
  rw [zpt_0, Nat.add_zero, ← hc] at this
  exact this
theorem pl_one_l (T : zMd) (hk : md_isKeeping T = 0) (cu : Nat) (hcu : cu + 12 ≤ 400) (X0 : Nat → Int32) : ∀ d i k, i + d = 12 → d < k → fX8_passes_one_l2 k (nI i) (md_set_cursor (md_set_one T (zget12 (md_kept T) X0 cu i)) (nI (cu + i))) = some (md_set_cursor (md_set_one T (zget12 (md_kept T) X0 cu 12)) (nI (cu + 12))) := by
  intro d
  induction d with
  | zero =>
    intro i k hi hk2
    obtain ⟨k, rfl⟩ : ∃ k', k = k' + 1 := ⟨k - 1, by omega⟩
    have e : i = 12 := by omega
    subst e
    rw [fX8_passes_one_l2, if_pos (by decide)]
  | succ d ih =>
    intro i k hi hk2
    obtain ⟨k, rfl⟩ : ∃ k', k = k' + 1 := ⟨k - 1, by omega⟩
    have hk3 : md_isKeeping (md_set_cursor (md_set_one T (zget12 (md_kept T) X0 cu i)) (nI (cu + i))) = 0 := hk
    rw [fX8_passes_one_l2, if_neg (show ¬ (12 : Int32) ≤ nI i from nI_ge (b := 12) (by omega) (by omega)), hk3, if_pos rfl]
    show ix 400 (nI (cu + i)) _ = _
    rw [ix_nI (by omega) (by omega), ix_nI (by omega) (by omega), nI_clamp (by omega)]
    show fX8_passes_one_j42 (nI i) (md_set_one (md_set_cursor (md_set_one T (zget12 (md_kept T) X0 cu i)) (nI (cu + i))) (upd (zget12 (md_kept T) X0 cu i) i (md_kept T (nI (cu + i)).toNatClampNeg))) (fX8_passes_one_l2 k) = _
    rw [nI_clamp (by omega), zget12_s]
    unfold fX8_passes_one_j42
    show fX8_passes_one_l2 k (nI i + 1) (md_set_cursor (md_set_one T (zget12 (md_kept T) X0 cu (i + 1))) (nI (cu + i) + 1)) = _
    rw [nI_1, nI_1]
    exact ih (i + 1) k (by omega) (by omega)
theorem pl_one (T : zMd) (hk : md_isKeeping T = 0) (cu : Nat) (hcu : cu + 12 ≤ 400) (hc : md_cursor T = nI cu) : fX8_passes_one T = some (md_set_cursor (md_set_one T (zget12 (md_kept T) (md_one T) cu 12)) (nI (cu + 12))) := by
  have := pl_one_l T hk cu hcu (md_one T) 12 0 FU (by omega) (FU_big _ (by omega))
  rw [zget12_0, Nat.add_zero, ← hc] at this
  exact this
theorem pk_other_l (T : zMd) (hk : md_isKeeping T = 1) (cu : Nat) (hcu : cu + 12 ≤ 400) (K0 : Nat → Int32) : ∀ d i k, i + d = 12 → d < k → fX8_passes_other_l2 k (nI i) (md_set_cursor (md_set_kept T (zpt K0 (md_other T) cu i)) (nI (cu + i))) = some (md_set_cursor (md_set_kept T (zpt K0 (md_other T) cu 12)) (nI (cu + 12))) := by
  intro d
  induction d with
  | zero =>
    intro i k hi hk2
    obtain ⟨k, rfl⟩ : ∃ k', k = k' + 1 := ⟨k - 1, by omega⟩
    have e : i = 12 := by omega
    subst e
    rw [fX8_passes_other_l2, if_pos (by decide)]
  | succ d ih =>
    intro i k hi hk2
    obtain ⟨k, rfl⟩ : ∃ k', k = k' + 1 := ⟨k - 1, by omega⟩
    have hk3 : md_isKeeping (md_set_cursor (md_set_kept T (zpt K0 (md_other T) cu i)) (nI (cu + i))) = 1 := hk
    rw [fX8_passes_other_l2, if_neg (show ¬ (12 : Int32) ≤ nI i from nI_ge (b := 12) (by omega) (by omega)), hk3, if_neg (by decide), ix_nI (by omega) (by omega)]
    show ix 400 (nI (cu + i)) _ = _
    rw [ix_nI (by omega) (by omega), nI_clamp (by omega)]
    show fX8_passes_other_j42 (nI i) (md_set_kept (md_set_cursor (md_set_kept T (zpt K0 (md_other T) cu i)) (nI (cu + i))) (upd (zpt K0 (md_other T) cu i) (nI (cu + i)).toNatClampNeg (md_other T i))) (fX8_passes_other_l2 k) = _
    rw [nI_clamp (by omega), zpt_s]
    unfold fX8_passes_other_j42
    show fX8_passes_other_l2 k (nI i + 1) (md_set_cursor (md_set_kept T (zpt K0 (md_other T) cu (i + 1))) (nI (cu + i) + 1)) = _
    rw [nI_1, nI_1]
    exact ih (i + 1) k (by omega) (by omega)
theorem pk_other (T : zMd) (hk : md_isKeeping T = 1) (cu : Nat) (hcu : cu + 12 ≤ 400) (hc : md_cursor T = nI cu) : fX8_passes_other T = some (md_set_cursor (md_set_kept T (zpt (md_kept T) (md_other T) cu 12)) (nI (cu + 12))) := by
  have := pk_other_l T hk cu hcu (md_kept T) 12 0 FU (by omega) (FU_big _ (by omega))
  rw [zpt_0, Nat.add_zero, ← hc] at this
  exact this
theorem pl_other_l (T : zMd) (hk : md_isKeeping T = 0) (cu : Nat) (hcu : cu + 12 ≤ 400) (X0 : Nat → Int32) : ∀ d i k, i + d = 12 → d < k → fX8_passes_other_l2 k (nI i) (md_set_cursor (md_set_other T (zget12 (md_kept T) X0 cu i)) (nI (cu + i))) = some (md_set_cursor (md_set_other T (zget12 (md_kept T) X0 cu 12)) (nI (cu + 12))) := by
  intro d
  induction d with
  | zero =>
    intro i k hi hk2
    obtain ⟨k, rfl⟩ : ∃ k', k = k' + 1 := ⟨k - 1, by omega⟩
    have e : i = 12 := by omega
    subst e
    rw [fX8_passes_other_l2, if_pos (by decide)]
  | succ d ih =>
    intro i k hi hk2
    obtain ⟨k, rfl⟩ : ∃ k', k = k' + 1 := ⟨k - 1, by omega⟩
    have hk3 : md_isKeeping (md_set_cursor (md_set_other T (zget12 (md_kept T) X0 cu i)) (nI (cu + i))) = 0 := hk
    rw [fX8_passes_other_l2, if_neg (show ¬ (12 : Int32) ≤ nI i from nI_ge (b := 12) (by omega) (by omega)), hk3, if_pos rfl]
    show ix 400 (nI (cu + i)) _ = _
    rw [ix_nI (by omega) (by omega), ix_nI (by omega) (by omega), nI_clamp (by omega)]
    show fX8_passes_other_j42 (nI i) (md_set_other (md_set_cursor (md_set_other T (zget12 (md_kept T) X0 cu i)) (nI (cu + i))) (upd (zget12 (md_kept T) X0 cu i) i (md_kept T (nI (cu + i)).toNatClampNeg))) (fX8_passes_other_l2 k) = _
    rw [nI_clamp (by omega), zget12_s]
    unfold fX8_passes_other_j42
    show fX8_passes_other_l2 k (nI i + 1) (md_set_cursor (md_set_other T (zget12 (md_kept T) X0 cu (i + 1))) (nI (cu + i) + 1)) = _
    rw [nI_1, nI_1]
    exact ih (i + 1) k (by omega) (by omega)
theorem pl_other (T : zMd) (hk : md_isKeeping T = 0) (cu : Nat) (hcu : cu + 12 ≤ 400) (hc : md_cursor T = nI cu) : fX8_passes_other T = some (md_set_cursor (md_set_other T (zget12 (md_kept T) (md_other T) cu 12)) (nI (cu + 12))) := by
  have := pl_other_l T hk cu hcu (md_other T) 12 0 FU (by omega) (FU_big _ (by omega))
  rw [zget12_0, Nat.add_zero, ← hc] at this
  exact this
theorem pk_stands_l (T : zMd) (hk : md_isKeeping T = 1) (cu : Nat) (hcu : cu + 12 ≤ 400) (K0 : Nat → Int32) : ∀ d i k, i + d = 12 → d < k → fX8_passes_stands_l2 k (nI i) (md_set_cursor (md_set_kept T (zpt K0 (md_stands T) cu i)) (nI (cu + i))) = some (md_set_cursor (md_set_kept T (zpt K0 (md_stands T) cu 12)) (nI (cu + 12))) := by
  intro d
  induction d with
  | zero =>
    intro i k hi hk2
    obtain ⟨k, rfl⟩ : ∃ k', k = k' + 1 := ⟨k - 1, by omega⟩
    have e : i = 12 := by omega
    subst e
    rw [fX8_passes_stands_l2, if_pos (by decide)]
  | succ d ih =>
    intro i k hi hk2
    obtain ⟨k, rfl⟩ : ∃ k', k = k' + 1 := ⟨k - 1, by omega⟩
    have hk3 : md_isKeeping (md_set_cursor (md_set_kept T (zpt K0 (md_stands T) cu i)) (nI (cu + i))) = 1 := hk
    rw [fX8_passes_stands_l2, if_neg (show ¬ (12 : Int32) ≤ nI i from nI_ge (b := 12) (by omega) (by omega)), hk3, if_neg (by decide), ix_nI (by omega) (by omega)]
    show ix 400 (nI (cu + i)) _ = _
    rw [ix_nI (by omega) (by omega), nI_clamp (by omega)]
    show fX8_passes_stands_j42 (nI i) (md_set_kept (md_set_cursor (md_set_kept T (zpt K0 (md_stands T) cu i)) (nI (cu + i))) (upd (zpt K0 (md_stands T) cu i) (nI (cu + i)).toNatClampNeg (md_stands T i))) (fX8_passes_stands_l2 k) = _
    rw [nI_clamp (by omega), zpt_s]
    unfold fX8_passes_stands_j42
    show fX8_passes_stands_l2 k (nI i + 1) (md_set_cursor (md_set_kept T (zpt K0 (md_stands T) cu (i + 1))) (nI (cu + i) + 1)) = _
    rw [nI_1, nI_1]
    exact ih (i + 1) k (by omega) (by omega)
theorem pk_stands (T : zMd) (hk : md_isKeeping T = 1) (cu : Nat) (hcu : cu + 12 ≤ 400) (hc : md_cursor T = nI cu) : fX8_passes_stands T = some (md_set_cursor (md_set_kept T (zpt (md_kept T) (md_stands T) cu 12)) (nI (cu + 12))) := by
  have := pk_stands_l T hk cu hcu (md_kept T) 12 0 FU (by omega) (FU_big _ (by omega))
  rw [zpt_0, Nat.add_zero, ← hc] at this
  exact this
theorem pl_stands_l (T : zMd) (hk : md_isKeeping T = 0) (cu : Nat) (hcu : cu + 12 ≤ 400) (X0 : Nat → Int32) : ∀ d i k, i + d = 12 → d < k → fX8_passes_stands_l2 k (nI i) (md_set_cursor (md_set_stands T (zget12 (md_kept T) X0 cu i)) (nI (cu + i))) = some (md_set_cursor (md_set_stands T (zget12 (md_kept T) X0 cu 12)) (nI (cu + 12))) := by
  intro d
  induction d with
  | zero =>
    intro i k hi hk2
    obtain ⟨k, rfl⟩ : ∃ k', k = k' + 1 := ⟨k - 1, by omega⟩
    have e : i = 12 := by omega
    subst e
    rw [fX8_passes_stands_l2, if_pos (by decide)]
  | succ d ih =>
    intro i k hi hk2
    obtain ⟨k, rfl⟩ : ∃ k', k = k' + 1 := ⟨k - 1, by omega⟩
    have hk3 : md_isKeeping (md_set_cursor (md_set_stands T (zget12 (md_kept T) X0 cu i)) (nI (cu + i))) = 0 := hk
    rw [fX8_passes_stands_l2, if_neg (show ¬ (12 : Int32) ≤ nI i from nI_ge (b := 12) (by omega) (by omega)), hk3, if_pos rfl]
    show ix 400 (nI (cu + i)) _ = _
    rw [ix_nI (by omega) (by omega), ix_nI (by omega) (by omega), nI_clamp (by omega)]
    show fX8_passes_stands_j42 (nI i) (md_set_stands (md_set_cursor (md_set_stands T (zget12 (md_kept T) X0 cu i)) (nI (cu + i))) (upd (zget12 (md_kept T) X0 cu i) i (md_kept T (nI (cu + i)).toNatClampNeg))) (fX8_passes_stands_l2 k) = _
    rw [nI_clamp (by omega), zget12_s]
    unfold fX8_passes_stands_j42
    show fX8_passes_stands_l2 k (nI i + 1) (md_set_cursor (md_set_stands T (zget12 (md_kept T) X0 cu (i + 1))) (nI (cu + i) + 1)) = _
    rw [nI_1, nI_1]
    exact ih (i + 1) k (by omega) (by omega)
theorem pl_stands (T : zMd) (hk : md_isKeeping T = 0) (cu : Nat) (hcu : cu + 12 ≤ 400) (hc : md_cursor T = nI cu) : fX8_passes_stands T = some (md_set_cursor (md_set_stands T (zget12 (md_kept T) (md_stands T) cu 12)) (nI (cu + 12))) := by
  have := pl_stands_l T hk cu hcu (md_stands T) 12 0 FU (by omega) (FU_big _ (by omega))
  rw [zget12_0, Nat.add_zero, ← hc] at this
  exact this
theorem pk_uses_l (T : zMd) (hk : md_isKeeping T = 1) (cu : Nat) (hcu : cu + 12 ≤ 400) (K0 : Nat → Int32) : ∀ d i k, i + d = 12 → d < k → fX8_passes_uses_l2 k (nI i) (md_set_cursor (md_set_kept T (zpt K0 (md_uses T) cu i)) (nI (cu + i))) = some (md_set_cursor (md_set_kept T (zpt K0 (md_uses T) cu 12)) (nI (cu + 12))) := by
  intro d
  induction d with
  | zero =>
    intro i k hi hk2
    obtain ⟨k, rfl⟩ : ∃ k', k = k' + 1 := ⟨k - 1, by omega⟩
    have e : i = 12 := by omega
    subst e
    rw [fX8_passes_uses_l2, if_pos (by decide)]
  | succ d ih =>
    intro i k hi hk2
    obtain ⟨k, rfl⟩ : ∃ k', k = k' + 1 := ⟨k - 1, by omega⟩
    have hk3 : md_isKeeping (md_set_cursor (md_set_kept T (zpt K0 (md_uses T) cu i)) (nI (cu + i))) = 1 := hk
    rw [fX8_passes_uses_l2, if_neg (show ¬ (12 : Int32) ≤ nI i from nI_ge (b := 12) (by omega) (by omega)), hk3, if_neg (by decide), ix_nI (by omega) (by omega)]
    show ix 400 (nI (cu + i)) _ = _
    rw [ix_nI (by omega) (by omega), nI_clamp (by omega)]
    show fX8_passes_uses_j42 (nI i) (md_set_kept (md_set_cursor (md_set_kept T (zpt K0 (md_uses T) cu i)) (nI (cu + i))) (upd (zpt K0 (md_uses T) cu i) (nI (cu + i)).toNatClampNeg (md_uses T i))) (fX8_passes_uses_l2 k) = _
    rw [nI_clamp (by omega), zpt_s]
    unfold fX8_passes_uses_j42
    show fX8_passes_uses_l2 k (nI i + 1) (md_set_cursor (md_set_kept T (zpt K0 (md_uses T) cu (i + 1))) (nI (cu + i) + 1)) = _
    rw [nI_1, nI_1]
    exact ih (i + 1) k (by omega) (by omega)
theorem pk_uses (T : zMd) (hk : md_isKeeping T = 1) (cu : Nat) (hcu : cu + 12 ≤ 400) (hc : md_cursor T = nI cu) : fX8_passes_uses T = some (md_set_cursor (md_set_kept T (zpt (md_kept T) (md_uses T) cu 12)) (nI (cu + 12))) := by
  have := pk_uses_l T hk cu hcu (md_kept T) 12 0 FU (by omega) (FU_big _ (by omega))
  rw [zpt_0, Nat.add_zero, ← hc] at this
  exact this
theorem pl_uses_l (T : zMd) (hk : md_isKeeping T = 0) (cu : Nat) (hcu : cu + 12 ≤ 400) (X0 : Nat → Int32) : ∀ d i k, i + d = 12 → d < k → fX8_passes_uses_l2 k (nI i) (md_set_cursor (md_set_uses T (zget12 (md_kept T) X0 cu i)) (nI (cu + i))) = some (md_set_cursor (md_set_uses T (zget12 (md_kept T) X0 cu 12)) (nI (cu + 12))) := by
  intro d
  induction d with
  | zero =>
    intro i k hi hk2
    obtain ⟨k, rfl⟩ : ∃ k', k = k' + 1 := ⟨k - 1, by omega⟩
    have e : i = 12 := by omega
    subst e
    rw [fX8_passes_uses_l2, if_pos (by decide)]
  | succ d ih =>
    intro i k hi hk2
    obtain ⟨k, rfl⟩ : ∃ k', k = k' + 1 := ⟨k - 1, by omega⟩
    have hk3 : md_isKeeping (md_set_cursor (md_set_uses T (zget12 (md_kept T) X0 cu i)) (nI (cu + i))) = 0 := hk
    rw [fX8_passes_uses_l2, if_neg (show ¬ (12 : Int32) ≤ nI i from nI_ge (b := 12) (by omega) (by omega)), hk3, if_pos rfl]
    show ix 400 (nI (cu + i)) _ = _
    rw [ix_nI (by omega) (by omega), ix_nI (by omega) (by omega), nI_clamp (by omega)]
    show fX8_passes_uses_j42 (nI i) (md_set_uses (md_set_cursor (md_set_uses T (zget12 (md_kept T) X0 cu i)) (nI (cu + i))) (upd (zget12 (md_kept T) X0 cu i) i (md_kept T (nI (cu + i)).toNatClampNeg))) (fX8_passes_uses_l2 k) = _
    rw [nI_clamp (by omega), zget12_s]
    unfold fX8_passes_uses_j42
    show fX8_passes_uses_l2 k (nI i + 1) (md_set_cursor (md_set_uses T (zget12 (md_kept T) X0 cu (i + 1))) (nI (cu + i) + 1)) = _
    rw [nI_1, nI_1]
    exact ih (i + 1) k (by omega) (by omega)
theorem pl_uses (T : zMd) (hk : md_isKeeping T = 0) (cu : Nat) (hcu : cu + 12 ≤ 400) (hc : md_cursor T = nI cu) : fX8_passes_uses T = some (md_set_cursor (md_set_uses T (zget12 (md_kept T) (md_uses T) cu 12)) (nI (cu + 12))) := by
  have := pl_uses_l T hk cu hcu (md_uses T) 12 0 FU (by omega) (FU_big _ (by omega))
  rw [zget12_0, Nat.add_zero, ← hc] at this
  exact this
theorem pk_earned_l (T : zMd) (hk : md_isKeeping T = 1) (cu : Nat) (hcu : cu + 12 ≤ 400) (K0 : Nat → Int32) : ∀ d i k, i + d = 12 → d < k → fX8_passes_earned_l2 k (nI i) (md_set_cursor (md_set_kept T (zpt K0 (md_earned T) cu i)) (nI (cu + i))) = some (md_set_cursor (md_set_kept T (zpt K0 (md_earned T) cu 12)) (nI (cu + 12))) := by
  intro d
  induction d with
  | zero =>
    intro i k hi hk2
    obtain ⟨k, rfl⟩ : ∃ k', k = k' + 1 := ⟨k - 1, by omega⟩
    have e : i = 12 := by omega
    subst e
    rw [fX8_passes_earned_l2, if_pos (by decide)]
  | succ d ih =>
    intro i k hi hk2
    obtain ⟨k, rfl⟩ : ∃ k', k = k' + 1 := ⟨k - 1, by omega⟩
    have hk3 : md_isKeeping (md_set_cursor (md_set_kept T (zpt K0 (md_earned T) cu i)) (nI (cu + i))) = 1 := hk
    rw [fX8_passes_earned_l2, if_neg (show ¬ (12 : Int32) ≤ nI i from nI_ge (b := 12) (by omega) (by omega)), hk3, if_neg (by decide), ix_nI (by omega) (by omega)]
    show ix 400 (nI (cu + i)) _ = _
    rw [ix_nI (by omega) (by omega), nI_clamp (by omega)]
    show fX8_passes_earned_j42 (nI i) (md_set_kept (md_set_cursor (md_set_kept T (zpt K0 (md_earned T) cu i)) (nI (cu + i))) (upd (zpt K0 (md_earned T) cu i) (nI (cu + i)).toNatClampNeg (md_earned T i))) (fX8_passes_earned_l2 k) = _
    rw [nI_clamp (by omega), zpt_s]
    unfold fX8_passes_earned_j42
    show fX8_passes_earned_l2 k (nI i + 1) (md_set_cursor (md_set_kept T (zpt K0 (md_earned T) cu (i + 1))) (nI (cu + i) + 1)) = _
    rw [nI_1, nI_1]
    exact ih (i + 1) k (by omega) (by omega)
theorem pk_earned (T : zMd) (hk : md_isKeeping T = 1) (cu : Nat) (hcu : cu + 12 ≤ 400) (hc : md_cursor T = nI cu) : fX8_passes_earned T = some (md_set_cursor (md_set_kept T (zpt (md_kept T) (md_earned T) cu 12)) (nI (cu + 12))) := by
  have := pk_earned_l T hk cu hcu (md_kept T) 12 0 FU (by omega) (FU_big _ (by omega))
  rw [zpt_0, Nat.add_zero, ← hc] at this
  exact this
theorem pl_earned_l (T : zMd) (hk : md_isKeeping T = 0) (cu : Nat) (hcu : cu + 12 ≤ 400) (X0 : Nat → Int32) : ∀ d i k, i + d = 12 → d < k → fX8_passes_earned_l2 k (nI i) (md_set_cursor (md_set_earned T (zget12 (md_kept T) X0 cu i)) (nI (cu + i))) = some (md_set_cursor (md_set_earned T (zget12 (md_kept T) X0 cu 12)) (nI (cu + 12))) := by
  intro d
  induction d with
  | zero =>
    intro i k hi hk2
    obtain ⟨k, rfl⟩ : ∃ k', k = k' + 1 := ⟨k - 1, by omega⟩
    have e : i = 12 := by omega
    subst e
    rw [fX8_passes_earned_l2, if_pos (by decide)]
  | succ d ih =>
    intro i k hi hk2
    obtain ⟨k, rfl⟩ : ∃ k', k = k' + 1 := ⟨k - 1, by omega⟩
    have hk3 : md_isKeeping (md_set_cursor (md_set_earned T (zget12 (md_kept T) X0 cu i)) (nI (cu + i))) = 0 := hk
    rw [fX8_passes_earned_l2, if_neg (show ¬ (12 : Int32) ≤ nI i from nI_ge (b := 12) (by omega) (by omega)), hk3, if_pos rfl]
    show ix 400 (nI (cu + i)) _ = _
    rw [ix_nI (by omega) (by omega), ix_nI (by omega) (by omega), nI_clamp (by omega)]
    show fX8_passes_earned_j42 (nI i) (md_set_earned (md_set_cursor (md_set_earned T (zget12 (md_kept T) X0 cu i)) (nI (cu + i))) (upd (zget12 (md_kept T) X0 cu i) i (md_kept T (nI (cu + i)).toNatClampNeg))) (fX8_passes_earned_l2 k) = _
    rw [nI_clamp (by omega), zget12_s]
    unfold fX8_passes_earned_j42
    show fX8_passes_earned_l2 k (nI i + 1) (md_set_cursor (md_set_earned T (zget12 (md_kept T) X0 cu (i + 1))) (nI (cu + i) + 1)) = _
    rw [nI_1, nI_1]
    exact ih (i + 1) k (by omega) (by omega)
theorem pl_earned (T : zMd) (hk : md_isKeeping T = 0) (cu : Nat) (hcu : cu + 12 ≤ 400) (hc : md_cursor T = nI cu) : fX8_passes_earned T = some (md_set_cursor (md_set_earned T (zget12 (md_kept T) (md_earned T) cu 12)) (nI (cu + 12))) := by
  have := pl_earned_l T hk cu hcu (md_earned T) 12 0 FU (by omega) (FU_big _ (by omega))
  rw [zget12_0, Nat.add_zero, ← hc] at this
  exact this
theorem pk_One (T : zMd) (hk : md_isKeeping T = 1) (cu : Nat) (hcu : cu < 400) (hc : md_cursor T = nI cu) (v : Int32) : fX8_passOne T v = some (v, md_set_cursor (md_set_kept T (upd (md_kept T) cu v)) (nI (cu + 1))) := by
  unfold fX8_passOne fX8_passOne_j20
  rw [hk, if_neg (by decide), if_neg (by decide), hc, ix_nI (by omega) (by omega), nI_clamp (by omega)]
  unfold fX8_passOne_j38
  show some (v, md_set_cursor (md_set_kept T (upd (md_kept T) cu v)) (md_cursor T + 1)) = _
  rw [hc, nI_1]
theorem pl_One (T : zMd) (hk : md_isKeeping T = 0) (cu : Nat) (hcu : cu < 400) (hc : md_cursor T = nI cu) (v : Int32) : fX8_passOne T v = some (md_kept T cu, md_set_cursor T (nI (cu + 1))) := by
  unfold fX8_passOne fX8_passOne_j20
  rw [hk, if_pos rfl, if_pos rfl, hc, ix_nI (by omega) (by omega), nI_clamp (by omega)]
  unfold fX8_passOne_j38
  rw [hc, nI_1]
/-- the kept row behind a keeping from place cu on -/
def zkeep (T : zMd) (cu : Nat) : Nat → Int32 :=
  upd (upd (upd (zpt (zpt (zpt (zpt (zpt (zpt (zpt (zpt (md_kept T) (md_number T) cu 12) (md_kind T) (cu + 12) 12) (md_figure T) (cu + 24) 12) (md_one T) (cu + 36) 12) (md_other T) (cu + 48) 12) (md_stands T) (cu + 60) 12) (md_uses T) (cu + 72) 12) (md_earned T) (cu + 84) 12) (cu + 96) (md_houses T)) (cu + 97) (md_sums T)) (cu + 98) (md_falls T)
set_option maxRecDepth 20000 in
theorem pAll_keep (T : zMd) (z : Nat) (hz : z < 3) : fX8_passesAll T (nI z) 1 = some (md_set_cursor (md_set_isKeeping (md_set_kept T (zkeep T (100 * z))) 1) (nI (100 * z + 99))) := by
  unfold fX8_passesAll
  have e0 : (100 : Int32) * nI z = nI (100 * z) := pk_mul 100 z
  rw [if_pos (by decide), e0]
  obtain ⟨T0, e⟩ : ∃ T0, T0 = md_set_isKeeping (md_set_cursor T (nI (100 * z))) 1 := ⟨_, rfl⟩
  rw [← e]
  have k0 : md_isKeeping T0 = 1 := by rw [e]; rfl
  have c0 : md_cursor T0 = nI (100 * z) := by rw [e]; rfl
  rw [pk_number T0 k0 (100 * z) (by omega) c0]
  show (fX8_passes_kind _).bind _ = _
  rw [pk_kind _ k0 (100 * z + 12) (by omega) rfl]
  show (fX8_passes_figure _).bind _ = _
  rw [pk_figure _ k0 (100 * z + 24) (by omega) rfl]
  show (fX8_passes_one _).bind _ = _
  rw [pk_one _ k0 (100 * z + 36) (by omega) rfl]
  show (fX8_passes_other _).bind _ = _
  rw [pk_other _ k0 (100 * z + 48) (by omega) rfl]
  show (fX8_passes_stands _).bind _ = _
  rw [pk_stands _ k0 (100 * z + 60) (by omega) rfl]
  show (fX8_passes_uses _).bind _ = _
  rw [pk_uses _ k0 (100 * z + 72) (by omega) rfl]
  show (fX8_passes_earned _).bind _ = _
  rw [pk_earned _ k0 (100 * z + 84) (by omega) rfl]
  show (fX8_passOne _ _).bind _ = _
  rw [pk_One _ k0 (100 * z + 96) (by omega) rfl]
  show (fX8_passOne _ _).bind _ = _
  rw [pk_One _ k0 (100 * z + 97) (by omega) rfl]
  show (fX8_passOne _ _).bind _ = _
  rw [pk_One _ k0 (100 * z + 98) (by omega) rfl]
  subst e
  rfl
/-- the street that lies kept from place cu on -/
def zload (T : zMd) (cu : Nat) : zMd :=
  md_set_falls (md_set_sums (md_set_houses (md_set_earned (md_set_uses (md_set_stands (md_set_other (md_set_one (md_set_figure (md_set_kind (md_set_number T (zget12 (md_kept T) (md_number T) cu 12)) (zget12 (md_kept T) (md_kind T) (cu + 12) 12)) (zget12 (md_kept T) (md_figure T) (cu + 24) 12)) (zget12 (md_kept T) (md_one T) (cu + 36) 12)) (zget12 (md_kept T) (md_other T) (cu + 48) 12)) (zget12 (md_kept T) (md_stands T) (cu + 60) 12)) (zget12 (md_kept T) (md_uses T) (cu + 72) 12)) (zget12 (md_kept T) (md_earned T) (cu + 84) 12)) (md_kept T (cu + 96))) (md_kept T (cu + 97))) (md_kept T (cu + 98))
set_option maxRecDepth 20000 in
theorem pAll_load (T : zMd) (z : Nat) (hz : z < 3) : fX8_passesAll T (nI z) 0 = some (md_set_cursor (md_set_isKeeping (zload T (100 * z)) 0) (nI (100 * z + 99))) := by
  unfold fX8_passesAll
  have e0 : (100 : Int32) * nI z = nI (100 * z) := pk_mul 100 z
  rw [if_pos (by decide), e0]
  obtain ⟨T0, e⟩ : ∃ T0, T0 = md_set_isKeeping (md_set_cursor T (nI (100 * z))) 0 := ⟨_, rfl⟩
  rw [← e]
  have k0 : md_isKeeping T0 = 0 := by rw [e]; rfl
  have c0 : md_cursor T0 = nI (100 * z) := by rw [e]; rfl
  rw [pl_number T0 k0 (100 * z) (by omega) c0]
  show (fX8_passes_kind _).bind _ = _
  rw [pl_kind _ k0 (100 * z + 12) (by omega) rfl]
  show (fX8_passes_figure _).bind _ = _
  rw [pl_figure _ k0 (100 * z + 24) (by omega) rfl]
  show (fX8_passes_one _).bind _ = _
  rw [pl_one _ k0 (100 * z + 36) (by omega) rfl]
  show (fX8_passes_other _).bind _ = _
  rw [pl_other _ k0 (100 * z + 48) (by omega) rfl]
  show (fX8_passes_stands _).bind _ = _
  rw [pl_stands _ k0 (100 * z + 60) (by omega) rfl]
  show (fX8_passes_uses _).bind _ = _
  rw [pl_uses _ k0 (100 * z + 72) (by omega) rfl]
  show (fX8_passes_earned _).bind _ = _
  rw [pl_earned _ k0 (100 * z + 84) (by omega) rfl]
  show (fX8_passOne _ _).bind _ = _
  rw [pl_One _ k0 (100 * z + 96) (by omega) rfl]
  show (fX8_passOne _ _).bind _ = _
  rw [pl_One _ k0 (100 * z + 97) (by omega) rfl]
  show (fX8_passOne _ _).bind _ = _
  rw [pl_One _ k0 (100 * z + 98) (by omega) rfl]
  subst e
  rfl
/-- two streets of the reference's kind are the same where they are looked at -/
def SE (T T' : zMd) : Prop := (∀ h, h < 12 → md_number T' h = md_number T h ∧ md_kind T' h = md_kind T h ∧ md_figure T' h = md_figure T h ∧ md_one T' h = md_one T h ∧ md_other T' h = md_other T h ∧ md_stands T' h = md_stands T h ∧ md_uses T' h = md_uses T h ∧ md_earned T' h = md_earned T h) ∧ md_houses T' = md_houses T ∧ md_sums T' = md_sums T ∧ md_falls T' = md_falls T
theorem SE.rf {T : zMd} : SE T T := ⟨fun _ _ => ⟨rfl, rfl, rfl, rfl, rfl, rfl, rfl, rfl⟩, rfl, rfl, rfl⟩
theorem SE.sy {T T' : zMd} (h : SE T T') : SE T' T := ⟨fun j hj => by
  obtain ⟨a1, a2, a3, a4, a5, a6, a7, a8⟩ := h.1 j hj
  exact ⟨a1.symm, a2.symm, a3.symm, a4.symm, a5.symm, a6.symm, a7.symm, a8.symm⟩, h.2.1.symm, h.2.2.1.symm, h.2.2.2.symm⟩
theorem SE.tr {A B C : zMd} (h : SE A B) (g : SE B C) : SE A C := ⟨fun j hj => by
  obtain ⟨a1, a2, a3, a4, a5, a6, a7, a8⟩ := h.1 j hj
  obtain ⟨b1, b2, b3, b4, b5, b6, b7, b8⟩ := g.1 j hj
  exact ⟨b1.trans a1, b2.trans a2, b3.trans a3, b4.trans a4, b5.trans a5, b6.trans a6, b7.trans a7, b8.trans a8⟩, g.2.1.trans h.2.1, g.2.2.1.trans h.2.2.1, g.2.2.2.trans h.2.2.2⟩
theorem SR.se {c w : Nat} {S : zSt} {T T' : zMd} (h : SR c w S T) (e : SE T T') : SR c w S T' := by
  obtain ⟨e1, e2, e3, e4⟩ := e
  obtain ⟨h1, h2, h3, h4, h5, h6, h7, h8, h9⟩ := h
  refine ⟨h1, h2, h3, e2.trans h4, h5, fun j hj => ?_, ?_, ?_, fun j hj => ?_⟩
  · obtain ⟨a1, a2, a3, a4, a5, a6, a7, a8⟩ := e1 j (by omega)
    obtain ⟨b1, b2, b3, b4, b5, b6, b7, b8⟩ := h6 j hj
    exact ⟨b1.trans a2.symm, b2.trans a3.symm, b3.trans a1.symm, b4.trans a4.symm, b5.trans a5.symm, b6.trans a7.symm, b7.trans a8.symm, a6.trans b8⟩
  · rw [e3]; exact h7
  · rw [e4]; exact h8
  · obtain ⟨a1, a2, a3, a4, a5, a6, a7, a8⟩ := e1 j (by omega)
    rw [a1, a4, a5]
    exact h9 j hj
/-- the keeping keeps -/
theorem zkeep_at (T : zMd) (cu : Nat) : ∀ j, j < 12 → zkeep T cu (cu + j) = md_number T j ∧ zkeep T cu (cu + 12 + j) = md_kind T j ∧ zkeep T cu (cu + 24 + j) = md_figure T j ∧ zkeep T cu (cu + 36 + j) = md_one T j ∧ zkeep T cu (cu + 48 + j) = md_other T j ∧ zkeep T cu (cu + 60 + j) = md_stands T j ∧ zkeep T cu (cu + 72 + j) = md_uses T j ∧ zkeep T cu (cu + 84 + j) = md_earned T j := by
  intro j hj
  unfold zkeep
  refine ⟨?_, ?_, ?_, ?_, ?_, ?_, ?_, ?_⟩
  all_goals rw [upd_at, if_neg (by omega), upd_at, if_neg (by omega), upd_at, if_neg (by omega)]
  · rw [zpt_out (by omega), zpt_out (by omega), zpt_out (by omega), zpt_out (by omega), zpt_out (by omega), zpt_out (by omega), zpt_out (by omega), zpt_in (by omega)]
  · rw [zpt_out (by omega), zpt_out (by omega), zpt_out (by omega), zpt_out (by omega), zpt_out (by omega), zpt_out (by omega), zpt_in (by omega)]
  · rw [zpt_out (by omega), zpt_out (by omega), zpt_out (by omega), zpt_out (by omega), zpt_out (by omega), zpt_in (by omega)]
  · rw [zpt_out (by omega), zpt_out (by omega), zpt_out (by omega), zpt_out (by omega), zpt_in (by omega)]
  · rw [zpt_out (by omega), zpt_out (by omega), zpt_out (by omega), zpt_in (by omega)]
  · rw [zpt_out (by omega), zpt_out (by omega), zpt_in (by omega)]
  · rw [zpt_out (by omega), zpt_in (by omega)]
  · rw [zpt_in (by omega)]
theorem zkeep_3 (T : zMd) (cu : Nat) : zkeep T cu (cu + 96) = md_houses T ∧ zkeep T cu (cu + 97) = md_sums T ∧ zkeep T cu (cu + 98) = md_falls T := by
  unfold zkeep
  refine ⟨?_, ?_, ?_⟩
  · rw [upd_at, if_neg (by omega), upd_at, if_neg (by omega), upd_at, if_pos rfl]
  · rw [upd_at, if_neg (by omega), upd_at, if_pos rfl]
  · rw [upd_at, if_pos rfl]
theorem zkeep_out (T : zMd) (cu j : Nat) (h : j < cu ∨ cu + 99 ≤ j) : zkeep T cu j = md_kept T j := by
  unfold zkeep
  rw [upd_at, if_neg (by omega), upd_at, if_neg (by omega), upd_at, if_neg (by omega), zpt_out (by omega), zpt_out (by omega), zpt_out (by omega), zpt_out (by omega), zpt_out (by omega), zpt_out (by omega), zpt_out (by omega), zpt_out (by omega)]
/-- the kept street at cu depends on the kept row alone -/
theorem zload_se {T T' : zMd} {cu : Nat} (h : ∀ j, cu ≤ j → j < cu + 99 → md_kept T' j = md_kept T j) : SE (zload T cu) (zload T' cu) := by
  refine ⟨fun j hj => ⟨?_, ?_, ?_, ?_, ?_, ?_, ?_, ?_⟩, h _ (by omega) (by omega), h _ (by omega) (by omega), h _ (by omega) (by omega)⟩
  · show zget12 _ _ _ 12 j = zget12 _ _ _ 12 j
    rw [zget12_in hj, zget12_in hj]; exact h _ (by omega) (by omega)
  · show zget12 _ _ _ 12 j = zget12 _ _ _ 12 j
    rw [zget12_in hj, zget12_in hj]; exact h _ (by omega) (by omega)
  · show zget12 _ _ _ 12 j = zget12 _ _ _ 12 j
    rw [zget12_in hj, zget12_in hj]; exact h _ (by omega) (by omega)
  · show zget12 _ _ _ 12 j = zget12 _ _ _ 12 j
    rw [zget12_in hj, zget12_in hj]; exact h _ (by omega) (by omega)
  · show zget12 _ _ _ 12 j = zget12 _ _ _ 12 j
    rw [zget12_in hj, zget12_in hj]; exact h _ (by omega) (by omega)
  · show zget12 _ _ _ 12 j = zget12 _ _ _ 12 j
    rw [zget12_in hj, zget12_in hj]; exact h _ (by omega) (by omega)
  · show zget12 _ _ _ 12 j = zget12 _ _ _ 12 j
    rw [zget12_in hj, zget12_in hj]; exact h _ (by omega) (by omega)
  · show zget12 _ _ _ 12 j = zget12 _ _ _ 12 j
    rw [zget12_in hj, zget12_in hj]; exact h _ (by omega) (by omega)
theorem zload_keep {T T' : zMd} {cu : Nat} (h : md_kept T' = zkeep T cu) : SE T (zload T' cu) := by
  obtain ⟨b1, b2, b3⟩ := zkeep_3 T cu
  refine ⟨fun j hj => ?_, by show md_kept T' (cu + 96) = _; rw [h, b1], by show md_kept T' (cu + 97) = _; rw [h, b2], by show md_kept T' (cu + 98) = _; rw [h, b3]⟩
  obtain ⟨a1, a2, a3, a4, a5, a6, a7, a8⟩ := zkeep_at T cu j hj
  refine ⟨?_, ?_, ?_, ?_, ?_, ?_, ?_, ?_⟩
  · show zget12 (md_kept T') _ cu 12 j = _
    rw [zget12_in hj, h, a1]
  · show zget12 (md_kept T') _ (cu + 12) 12 j = _
    rw [zget12_in hj, h, a2]
  · show zget12 (md_kept T') _ (cu + 24) 12 j = _
    rw [zget12_in hj, h, a3]
  · show zget12 (md_kept T') _ (cu + 36) 12 j = _
    rw [zget12_in hj, h, a4]
  · show zget12 (md_kept T') _ (cu + 48) 12 j = _
    rw [zget12_in hj, h, a5]
  · show zget12 (md_kept T') _ (cu + 60) 12 j = _
    rw [zget12_in hj, h, a6]
  · show zget12 (md_kept T') _ (cu + 72) 12 j = _
    rw [zget12_in hj, h, a7]
  · show zget12 (md_kept T') _ (cu + 84) 12 j = _
    rw [zget12_in hj, h, a8]
/-- keeping: what is said of it from here on -/
theorem keep_ok (T : zMd) (z : Nat) (hz : z < 3) : ∃ T', fX8_passesAll T (nI z) 1 = some T' ∧ SE T T' ∧ FR T T' ∧ SE T (zload T' (100 * z)) ∧ ∀ z2, z2 < 3 → z2 ≠ z → SE (zload T (100 * z2)) (zload T' (100 * z2)) := by
  refine ⟨_, pAll_keep T z hz, SE.rf, ⟨rfl, rfl, rfl, rfl, rfl, rfl, rfl, rfl, rfl, rfl, rfl, rfl⟩, zload_keep rfl, fun z2 h2 hne => zload_se (fun j h3 h4 => ?_)⟩
  exact zkeep_out T (100 * z) j (by omega)
theorem load_ok (T : zMd) (z : Nat) (hz : z < 3) : ∃ T', fX8_passesAll T (nI z) 0 = some T' ∧ SE (zload T (100 * z)) T' ∧ FR T T' ∧ ∀ cu, SE (zload T cu) (zload T' cu) :=
  ⟨_, pAll_load T z hz, SE.rf, ⟨rfl, rfl, rfl, rfl, rfl, rfl, rfl, rfl, rfl, rfl, rfl, rfl⟩, fun cu => zload_se (fun j _ _ => rfl)⟩
