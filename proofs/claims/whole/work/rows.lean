section
/-! the mirrored functions: pure, by program -/
def zLen : List Nat := [7, 2, 3, 1, 0]
def zByt : List (List Int32) := [[104, 44, 104, 44, 100, 100, 59], [104, 59], [100, 100, 59], [59], []]
theorem ob_bind {α β : Type} {o : Option α} {f : α → Option β} {r : β} (h : o.bind f = some r) : ∃ u, o = some u ∧ f u = some r := by
  cases o with
  | none => cases h
  | some u => exact ⟨u, rfl, h⟩
theorem ob_gd {α : Type} {c : Prop} [Decidable c] {b : Option α} {r : α} (h : (if c then none else b) = some r) : ¬ c ∧ b = some r := by
  by_cases hc : c
  · rw [if_pos hc] at h; cases h
  · rw [if_neg hc] at h; exact ⟨hc, h⟩
theorem ob_ck {α : Type} {c : Prop} [Decidable c] {b : Option α} {r : α} (h : (if c then b else none) = some r) : c ∧ b = some r := by
  by_cases hc : c
  · rw [if_pos hc] at h; exact ⟨hc, h⟩
  · rw [if_neg hc] at h; cases h
/-- the index i of an array of n places -/
def ix {α : Type} (n : Nat) (i : Int32) (k : Option α) : Option α := if i < 0 ∨ n ≤ i.toNatClampNeg then none else k
theorem ob_ix {α : Type} {n : Nat} {i : Int32} {k : Option α} {r : α} (h : ix n i k = some r) : ¬ (i < 0 ∨ n ≤ i.toNatClampNeg) ∧ k = some r := ob_gd h
/-- fuel of a mirrored loop -/
def FU : Nat := 1000000000000000000000000000000000000000000000000000000000000
abbrev zCh : Type := (Nat → Int32)
def ch_numbers (S : zCh) : Nat → Int32 := S
def ch_set_numbers (S : zCh) (x : Nat → Int32) : zCh := (x)
abbrev zGm : Type := (Nat → Int32)
def gm_wins (S : zGm) : Nat → Int32 := S
def gm_set_wins (S : zGm) (x : Nat → Int32) : zGm := (x)
abbrev zLt : Type := (Nat → Int32) × (Int32) × (Nat → Int32) × (Int32) × (Int32) × (Int32) × (Int32)
def lt_all (S : zLt) : Nat → Int32 := S.1
def lt_length (S : zLt) : Int32 := S.2.1
def lt_figures (S : zLt) : Nat → Int32 := S.2.2.1
def lt_at (S : zLt) : Int32 := S.2.2.2.1
def lt_verb (S : zLt) : Int32 := S.2.2.2.2.1
def lt_figureCount (S : zLt) : Int32 := S.2.2.2.2.2.1
def lt_statements (S : zLt) : Int32 := S.2.2.2.2.2.2
def lt_set_all (S : zLt) (x : Nat → Int32) : zLt := (x, S.2)
def lt_set_length (S : zLt) (x : Int32) : zLt := (S.1, x, S.2.2)
def lt_set_figures (S : zLt) (x : Nat → Int32) : zLt := (S.1, S.2.1, x, S.2.2.2)
def lt_set_at (S : zLt) (x : Int32) : zLt := (S.1, S.2.1, S.2.2.1, x, S.2.2.2.2)
def lt_set_verb (S : zLt) (x : Int32) : zLt := (S.1, S.2.1, S.2.2.1, S.2.2.2.1, x, S.2.2.2.2.2)
def lt_set_figureCount (S : zLt) (x : Int32) : zLt := (S.1, S.2.1, S.2.2.1, S.2.2.2.1, S.2.2.2.2.1, x, S.2.2.2.2.2.2)
def lt_set_statements (S : zLt) (x : Int32) : zLt := (S.1, S.2.1, S.2.2.1, S.2.2.2.1, S.2.2.2.2.1, S.2.2.2.2.2.1, x)
abbrev zOr : Type := (Nat → Int32)
def or_ways (S : zOr) : Nat → Int32 := S
def or_set_ways (S : zOr) (x : Nat → Int32) : zOr := (x)
abbrev zRw : Type := (Nat → Int32) × (Int32)
def rw_all (S : zRw) : Nat → Int32 := S.1
def rw_length (S : zRw) : Int32 := S.2
def rw_set_all (S : zRw) (x : Nat → Int32) : zRw := (x, S.2)
def rw_set_length (S : zRw) (x : Int32) : zRw := (S.1, x)
abbrev zSt : Type := (Nat → Int32) × (Nat → Int32) × (Nat → Int32) × (Nat → Int32) × (Nat → Int32) × (Nat → Int32) × (Nat → Int32) × (Int32) × (Int32) × (Int32) × (Int32)
def st_kinds (S : zSt) : Nat → Int32 := S.1
def st_figures (S : zSt) : Nat → Int32 := S.2.1
def st_numbers (S : zSt) : Nat → Int32 := S.2.2.1
def st_firsts (S : zSt) : Nat → Int32 := S.2.2.2.1
def st_seconds (S : zSt) : Nat → Int32 := S.2.2.2.2.1
def st_uses (S : zSt) : Nat → Int32 := S.2.2.2.2.2.1
def st_earned (S : zSt) : Nat → Int32 := S.2.2.2.2.2.2.1
def st_came (S : zSt) : Int32 := S.2.2.2.2.2.2.2.1
def st_standing (S : zSt) : Int32 := S.2.2.2.2.2.2.2.2.1
def st_sums (S : zSt) : Int32 := S.2.2.2.2.2.2.2.2.2.1
def st_falls (S : zSt) : Int32 := S.2.2.2.2.2.2.2.2.2.2
def st_set_kinds (S : zSt) (x : Nat → Int32) : zSt := (x, S.2)
def st_set_figures (S : zSt) (x : Nat → Int32) : zSt := (S.1, x, S.2.2)
def st_set_numbers (S : zSt) (x : Nat → Int32) : zSt := (S.1, S.2.1, x, S.2.2.2)
def st_set_firsts (S : zSt) (x : Nat → Int32) : zSt := (S.1, S.2.1, S.2.2.1, x, S.2.2.2.2)
def st_set_seconds (S : zSt) (x : Nat → Int32) : zSt := (S.1, S.2.1, S.2.2.1, S.2.2.2.1, x, S.2.2.2.2.2)
def st_set_uses (S : zSt) (x : Nat → Int32) : zSt := (S.1, S.2.1, S.2.2.1, S.2.2.2.1, S.2.2.2.2.1, x, S.2.2.2.2.2.2)
def st_set_earned (S : zSt) (x : Nat → Int32) : zSt := (S.1, S.2.1, S.2.2.1, S.2.2.2.1, S.2.2.2.2.1, S.2.2.2.2.2.1, x, S.2.2.2.2.2.2.2)
def st_set_came (S : zSt) (x : Int32) : zSt := (S.1, S.2.1, S.2.2.1, S.2.2.2.1, S.2.2.2.2.1, S.2.2.2.2.2.1, S.2.2.2.2.2.2.1, x, S.2.2.2.2.2.2.2.2)
def st_set_standing (S : zSt) (x : Int32) : zSt := (S.1, S.2.1, S.2.2.1, S.2.2.2.1, S.2.2.2.2.1, S.2.2.2.2.2.1, S.2.2.2.2.2.2.1, S.2.2.2.2.2.2.2.1, x, S.2.2.2.2.2.2.2.2.2)
def st_set_sums (S : zSt) (x : Int32) : zSt := (S.1, S.2.1, S.2.2.1, S.2.2.2.1, S.2.2.2.2.1, S.2.2.2.2.2.1, S.2.2.2.2.2.2.1, S.2.2.2.2.2.2.2.1, S.2.2.2.2.2.2.2.2.1, x, S.2.2.2.2.2.2.2.2.2.2)
def st_set_falls (S : zSt) (x : Int32) : zSt := (S.1, S.2.1, S.2.2.1, S.2.2.2.1, S.2.2.2.2.1, S.2.2.2.2.2.1, S.2.2.2.2.2.2.1, S.2.2.2.2.2.2.2.1, S.2.2.2.2.2.2.2.2.1, S.2.2.2.2.2.2.2.2.2.1, x)
abbrev zMn : Type := (zSt) × (zSt) × (zSt) × (zLt) × (zRw) × (zCh) × (zOr) × (zGm) × (Nat → Int32) × (Int32)
def mn_live (S : zMn) : zSt := S.1
def mn_kept (S : zMn) : zSt := S.2.1
def mn_mind (S : zMn) : zSt := S.2.2.1
def mn_letters (S : zMn) : zLt := S.2.2.2.1
def mn_told (S : zMn) : zRw := S.2.2.2.2.1
def mn_chains (S : zMn) : zCh := S.2.2.2.2.2.1
def mn_comings (S : zMn) : zOr := S.2.2.2.2.2.2.1
def mn_builders (S : zMn) : zGm := S.2.2.2.2.2.2.2.1
def mn_refusals (S : zMn) : Nat → Int32 := S.2.2.2.2.2.2.2.2.1
def mn_isKept (S : zMn) : Int32 := S.2.2.2.2.2.2.2.2.2
def mn_set_live (S : zMn) (x : zSt) : zMn := (x, S.2)
def mn_set_kept (S : zMn) (x : zSt) : zMn := (S.1, x, S.2.2)
def mn_set_mind (S : zMn) (x : zSt) : zMn := (S.1, S.2.1, x, S.2.2.2)
def mn_set_letters (S : zMn) (x : zLt) : zMn := (S.1, S.2.1, S.2.2.1, x, S.2.2.2.2)
def mn_set_told (S : zMn) (x : zRw) : zMn := (S.1, S.2.1, S.2.2.1, S.2.2.2.1, x, S.2.2.2.2.2)
def mn_set_chains (S : zMn) (x : zCh) : zMn := (S.1, S.2.1, S.2.2.1, S.2.2.2.1, S.2.2.2.2.1, x, S.2.2.2.2.2.2)
def mn_set_comings (S : zMn) (x : zOr) : zMn := (S.1, S.2.1, S.2.2.1, S.2.2.2.1, S.2.2.2.2.1, S.2.2.2.2.2.1, x, S.2.2.2.2.2.2.2)
def mn_set_builders (S : zMn) (x : zGm) : zMn := (S.1, S.2.1, S.2.2.1, S.2.2.2.1, S.2.2.2.2.1, S.2.2.2.2.2.1, S.2.2.2.2.2.2.1, x, S.2.2.2.2.2.2.2.2)
def mn_set_refusals (S : zMn) (x : Nat → Int32) : zMn := (S.1, S.2.1, S.2.2.1, S.2.2.2.1, S.2.2.2.2.1, S.2.2.2.2.2.1, S.2.2.2.2.2.2.1, S.2.2.2.2.2.2.2.1, x, S.2.2.2.2.2.2.2.2.2)
def mn_set_isKept (S : zMn) (x : Int32) : zMn := (S.1, S.2.1, S.2.2.1, S.2.2.2.1, S.2.2.2.2.1, S.2.2.2.2.2.1, S.2.2.2.2.2.2.1, S.2.2.2.2.2.2.2.1, S.2.2.2.2.2.2.2.2.1, x)
abbrev zMd : Type := (Nat → Int32) × (Nat → Int32) × (Nat → Int32) × (Nat → Int32) × (Nat → Int32) × (Nat → Int32) × (Nat → Int32) × (Nat → Int32) × (Nat → Int32) × (Int32) × (Int32) × (Int32) × (Nat → Int32) × (Nat → Int32) × (Nat → Int32) × (Nat → Int32) × (Int32) × (Int32) × (Int32) × (Int32) × (Nat → Int32) × (Int32) × (Int32) × (Int32) × (Nat → Int32) × (Int32) × (Int32) × (Nat → Int32) × (Nat → Int32) × (Nat → Int32) × (Nat → Int32) × (Int32) × (Int32)
def md_refused (S : zMd) : Nat → Int32 := S.1
def md_number (S : zMd) : Nat → Int32 := S.2.1
def md_kind (S : zMd) : Nat → Int32 := S.2.2.1
def md_figure (S : zMd) : Nat → Int32 := S.2.2.2.1
def md_one (S : zMd) : Nat → Int32 := S.2.2.2.2.1
def md_other (S : zMd) : Nat → Int32 := S.2.2.2.2.2.1
def md_stands (S : zMd) : Nat → Int32 := S.2.2.2.2.2.2.1
def md_uses (S : zMd) : Nat → Int32 := S.2.2.2.2.2.2.2.1
def md_earned (S : zMd) : Nat → Int32 := S.2.2.2.2.2.2.2.2.1
def md_houses (S : zMd) : Int32 := S.2.2.2.2.2.2.2.2.2.1
def md_sums (S : zMd) : Int32 := S.2.2.2.2.2.2.2.2.2.2.1
def md_falls (S : zMd) : Int32 := S.2.2.2.2.2.2.2.2.2.2.2.1
def md_tape (S : zMd) : Nat → Int32 := S.2.2.2.2.2.2.2.2.2.2.2.2.1
def md_sort (S : zMd) : Nat → Int32 := S.2.2.2.2.2.2.2.2.2.2.2.2.2.1
def md_sortAt (S : zMd) : Nat → Int32 := S.2.2.2.2.2.2.2.2.2.2.2.2.2.2.1
def md_told (S : zMd) : Nat → Int32 := S.2.2.2.2.2.2.2.2.2.2.2.2.2.2.2.1
def md_taped (S : zMd) : Int32 := S.2.2.2.2.2.2.2.2.2.2.2.2.2.2.2.2.1
def md_reading (S : zMd) : Int32 := S.2.2.2.2.2.2.2.2.2.2.2.2.2.2.2.2.2.1
def md_statements (S : zMd) : Int32 := S.2.2.2.2.2.2.2.2.2.2.2.2.2.2.2.2.2.2.1
def md_telling (S : zMd) : Int32 := S.2.2.2.2.2.2.2.2.2.2.2.2.2.2.2.2.2.2.2.1
def md_kept (S : zMd) : Nat → Int32 := S.2.2.2.2.2.2.2.2.2.2.2.2.2.2.2.2.2.2.2.2.1
def md_hasImage (S : zMd) : Int32 := S.2.2.2.2.2.2.2.2.2.2.2.2.2.2.2.2.2.2.2.2.2.1
def md_isKeeping (S : zMd) : Int32 := S.2.2.2.2.2.2.2.2.2.2.2.2.2.2.2.2.2.2.2.2.2.2.1
def md_cursor (S : zMd) : Int32 := S.2.2.2.2.2.2.2.2.2.2.2.2.2.2.2.2.2.2.2.2.2.2.2.1
def md_tried (S : zMd) : Nat → Int32 := S.2.2.2.2.2.2.2.2.2.2.2.2.2.2.2.2.2.2.2.2.2.2.2.2.1
def md_wanted (S : zMd) : Int32 := S.2.2.2.2.2.2.2.2.2.2.2.2.2.2.2.2.2.2.2.2.2.2.2.2.2.1
def md_goal (S : zMd) : Int32 := S.2.2.2.2.2.2.2.2.2.2.2.2.2.2.2.2.2.2.2.2.2.2.2.2.2.2.1
def md_byFactors (S : zMd) : Nat → Int32 := S.2.2.2.2.2.2.2.2.2.2.2.2.2.2.2.2.2.2.2.2.2.2.2.2.2.2.2.1
def md_ways (S : zMd) : Nat → Int32 := S.2.2.2.2.2.2.2.2.2.2.2.2.2.2.2.2.2.2.2.2.2.2.2.2.2.2.2.2.1
def md_wins (S : zMd) : Nat → Int32 := S.2.2.2.2.2.2.2.2.2.2.2.2.2.2.2.2.2.2.2.2.2.2.2.2.2.2.2.2.2.1
def md_row (S : zMd) : Nat → Int32 := S.2.2.2.2.2.2.2.2.2.2.2.2.2.2.2.2.2.2.2.2.2.2.2.2.2.2.2.2.2.2.1
def md_rowMany (S : zMd) : Int32 := S.2.2.2.2.2.2.2.2.2.2.2.2.2.2.2.2.2.2.2.2.2.2.2.2.2.2.2.2.2.2.2.1
def md_lots (S : zMd) : Int32 := S.2.2.2.2.2.2.2.2.2.2.2.2.2.2.2.2.2.2.2.2.2.2.2.2.2.2.2.2.2.2.2.2
def md_set_refused (S : zMd) (x : Nat → Int32) : zMd := (x, S.2)
def md_set_number (S : zMd) (x : Nat → Int32) : zMd := (S.1, x, S.2.2)
def md_set_kind (S : zMd) (x : Nat → Int32) : zMd := (S.1, S.2.1, x, S.2.2.2)
def md_set_figure (S : zMd) (x : Nat → Int32) : zMd := (S.1, S.2.1, S.2.2.1, x, S.2.2.2.2)
def md_set_one (S : zMd) (x : Nat → Int32) : zMd := (S.1, S.2.1, S.2.2.1, S.2.2.2.1, x, S.2.2.2.2.2)
def md_set_other (S : zMd) (x : Nat → Int32) : zMd := (S.1, S.2.1, S.2.2.1, S.2.2.2.1, S.2.2.2.2.1, x, S.2.2.2.2.2.2)
def md_set_stands (S : zMd) (x : Nat → Int32) : zMd := (S.1, S.2.1, S.2.2.1, S.2.2.2.1, S.2.2.2.2.1, S.2.2.2.2.2.1, x, S.2.2.2.2.2.2.2)
def md_set_uses (S : zMd) (x : Nat → Int32) : zMd := (S.1, S.2.1, S.2.2.1, S.2.2.2.1, S.2.2.2.2.1, S.2.2.2.2.2.1, S.2.2.2.2.2.2.1, x, S.2.2.2.2.2.2.2.2)
def md_set_earned (S : zMd) (x : Nat → Int32) : zMd := (S.1, S.2.1, S.2.2.1, S.2.2.2.1, S.2.2.2.2.1, S.2.2.2.2.2.1, S.2.2.2.2.2.2.1, S.2.2.2.2.2.2.2.1, x, S.2.2.2.2.2.2.2.2.2)
def md_set_houses (S : zMd) (x : Int32) : zMd := (S.1, S.2.1, S.2.2.1, S.2.2.2.1, S.2.2.2.2.1, S.2.2.2.2.2.1, S.2.2.2.2.2.2.1, S.2.2.2.2.2.2.2.1, S.2.2.2.2.2.2.2.2.1, x, S.2.2.2.2.2.2.2.2.2.2)
def md_set_sums (S : zMd) (x : Int32) : zMd := (S.1, S.2.1, S.2.2.1, S.2.2.2.1, S.2.2.2.2.1, S.2.2.2.2.2.1, S.2.2.2.2.2.2.1, S.2.2.2.2.2.2.2.1, S.2.2.2.2.2.2.2.2.1, S.2.2.2.2.2.2.2.2.2.1, x, S.2.2.2.2.2.2.2.2.2.2.2)
def md_set_falls (S : zMd) (x : Int32) : zMd := (S.1, S.2.1, S.2.2.1, S.2.2.2.1, S.2.2.2.2.1, S.2.2.2.2.2.1, S.2.2.2.2.2.2.1, S.2.2.2.2.2.2.2.1, S.2.2.2.2.2.2.2.2.1, S.2.2.2.2.2.2.2.2.2.1, S.2.2.2.2.2.2.2.2.2.2.1, x, S.2.2.2.2.2.2.2.2.2.2.2.2)
def md_set_tape (S : zMd) (x : Nat → Int32) : zMd := (S.1, S.2.1, S.2.2.1, S.2.2.2.1, S.2.2.2.2.1, S.2.2.2.2.2.1, S.2.2.2.2.2.2.1, S.2.2.2.2.2.2.2.1, S.2.2.2.2.2.2.2.2.1, S.2.2.2.2.2.2.2.2.2.1, S.2.2.2.2.2.2.2.2.2.2.1, S.2.2.2.2.2.2.2.2.2.2.2.1, x, S.2.2.2.2.2.2.2.2.2.2.2.2.2)
def md_set_sort (S : zMd) (x : Nat → Int32) : zMd := (S.1, S.2.1, S.2.2.1, S.2.2.2.1, S.2.2.2.2.1, S.2.2.2.2.2.1, S.2.2.2.2.2.2.1, S.2.2.2.2.2.2.2.1, S.2.2.2.2.2.2.2.2.1, S.2.2.2.2.2.2.2.2.2.1, S.2.2.2.2.2.2.2.2.2.2.1, S.2.2.2.2.2.2.2.2.2.2.2.1, S.2.2.2.2.2.2.2.2.2.2.2.2.1, x, S.2.2.2.2.2.2.2.2.2.2.2.2.2.2)
def md_set_sortAt (S : zMd) (x : Nat → Int32) : zMd := (S.1, S.2.1, S.2.2.1, S.2.2.2.1, S.2.2.2.2.1, S.2.2.2.2.2.1, S.2.2.2.2.2.2.1, S.2.2.2.2.2.2.2.1, S.2.2.2.2.2.2.2.2.1, S.2.2.2.2.2.2.2.2.2.1, S.2.2.2.2.2.2.2.2.2.2.1, S.2.2.2.2.2.2.2.2.2.2.2.1, S.2.2.2.2.2.2.2.2.2.2.2.2.1, S.2.2.2.2.2.2.2.2.2.2.2.2.2.1, x, S.2.2.2.2.2.2.2.2.2.2.2.2.2.2.2)
def md_set_told (S : zMd) (x : Nat → Int32) : zMd := (S.1, S.2.1, S.2.2.1, S.2.2.2.1, S.2.2.2.2.1, S.2.2.2.2.2.1, S.2.2.2.2.2.2.1, S.2.2.2.2.2.2.2.1, S.2.2.2.2.2.2.2.2.1, S.2.2.2.2.2.2.2.2.2.1, S.2.2.2.2.2.2.2.2.2.2.1, S.2.2.2.2.2.2.2.2.2.2.2.1, S.2.2.2.2.2.2.2.2.2.2.2.2.1, S.2.2.2.2.2.2.2.2.2.2.2.2.2.1, S.2.2.2.2.2.2.2.2.2.2.2.2.2.2.1, x, S.2.2.2.2.2.2.2.2.2.2.2.2.2.2.2.2)
def md_set_taped (S : zMd) (x : Int32) : zMd := (S.1, S.2.1, S.2.2.1, S.2.2.2.1, S.2.2.2.2.1, S.2.2.2.2.2.1, S.2.2.2.2.2.2.1, S.2.2.2.2.2.2.2.1, S.2.2.2.2.2.2.2.2.1, S.2.2.2.2.2.2.2.2.2.1, S.2.2.2.2.2.2.2.2.2.2.1, S.2.2.2.2.2.2.2.2.2.2.2.1, S.2.2.2.2.2.2.2.2.2.2.2.2.1, S.2.2.2.2.2.2.2.2.2.2.2.2.2.1, S.2.2.2.2.2.2.2.2.2.2.2.2.2.2.1, S.2.2.2.2.2.2.2.2.2.2.2.2.2.2.2.1, x, S.2.2.2.2.2.2.2.2.2.2.2.2.2.2.2.2.2)
def md_set_reading (S : zMd) (x : Int32) : zMd := (S.1, S.2.1, S.2.2.1, S.2.2.2.1, S.2.2.2.2.1, S.2.2.2.2.2.1, S.2.2.2.2.2.2.1, S.2.2.2.2.2.2.2.1, S.2.2.2.2.2.2.2.2.1, S.2.2.2.2.2.2.2.2.2.1, S.2.2.2.2.2.2.2.2.2.2.1, S.2.2.2.2.2.2.2.2.2.2.2.1, S.2.2.2.2.2.2.2.2.2.2.2.2.1, S.2.2.2.2.2.2.2.2.2.2.2.2.2.1, S.2.2.2.2.2.2.2.2.2.2.2.2.2.2.1, S.2.2.2.2.2.2.2.2.2.2.2.2.2.2.2.1, S.2.2.2.2.2.2.2.2.2.2.2.2.2.2.2.2.1, x, S.2.2.2.2.2.2.2.2.2.2.2.2.2.2.2.2.2.2)
def md_set_statements (S : zMd) (x : Int32) : zMd := (S.1, S.2.1, S.2.2.1, S.2.2.2.1, S.2.2.2.2.1, S.2.2.2.2.2.1, S.2.2.2.2.2.2.1, S.2.2.2.2.2.2.2.1, S.2.2.2.2.2.2.2.2.1, S.2.2.2.2.2.2.2.2.2.1, S.2.2.2.2.2.2.2.2.2.2.1, S.2.2.2.2.2.2.2.2.2.2.2.1, S.2.2.2.2.2.2.2.2.2.2.2.2.1, S.2.2.2.2.2.2.2.2.2.2.2.2.2.1, S.2.2.2.2.2.2.2.2.2.2.2.2.2.2.1, S.2.2.2.2.2.2.2.2.2.2.2.2.2.2.2.1, S.2.2.2.2.2.2.2.2.2.2.2.2.2.2.2.2.1, S.2.2.2.2.2.2.2.2.2.2.2.2.2.2.2.2.2.1, x, S.2.2.2.2.2.2.2.2.2.2.2.2.2.2.2.2.2.2.2)
def md_set_telling (S : zMd) (x : Int32) : zMd := (S.1, S.2.1, S.2.2.1, S.2.2.2.1, S.2.2.2.2.1, S.2.2.2.2.2.1, S.2.2.2.2.2.2.1, S.2.2.2.2.2.2.2.1, S.2.2.2.2.2.2.2.2.1, S.2.2.2.2.2.2.2.2.2.1, S.2.2.2.2.2.2.2.2.2.2.1, S.2.2.2.2.2.2.2.2.2.2.2.1, S.2.2.2.2.2.2.2.2.2.2.2.2.1, S.2.2.2.2.2.2.2.2.2.2.2.2.2.1, S.2.2.2.2.2.2.2.2.2.2.2.2.2.2.1, S.2.2.2.2.2.2.2.2.2.2.2.2.2.2.2.1, S.2.2.2.2.2.2.2.2.2.2.2.2.2.2.2.2.1, S.2.2.2.2.2.2.2.2.2.2.2.2.2.2.2.2.2.1, S.2.2.2.2.2.2.2.2.2.2.2.2.2.2.2.2.2.2.1, x, S.2.2.2.2.2.2.2.2.2.2.2.2.2.2.2.2.2.2.2.2)
def md_set_kept (S : zMd) (x : Nat → Int32) : zMd := (S.1, S.2.1, S.2.2.1, S.2.2.2.1, S.2.2.2.2.1, S.2.2.2.2.2.1, S.2.2.2.2.2.2.1, S.2.2.2.2.2.2.2.1, S.2.2.2.2.2.2.2.2.1, S.2.2.2.2.2.2.2.2.2.1, S.2.2.2.2.2.2.2.2.2.2.1, S.2.2.2.2.2.2.2.2.2.2.2.1, S.2.2.2.2.2.2.2.2.2.2.2.2.1, S.2.2.2.2.2.2.2.2.2.2.2.2.2.1, S.2.2.2.2.2.2.2.2.2.2.2.2.2.2.1, S.2.2.2.2.2.2.2.2.2.2.2.2.2.2.2.1, S.2.2.2.2.2.2.2.2.2.2.2.2.2.2.2.2.1, S.2.2.2.2.2.2.2.2.2.2.2.2.2.2.2.2.2.1, S.2.2.2.2.2.2.2.2.2.2.2.2.2.2.2.2.2.2.1, S.2.2.2.2.2.2.2.2.2.2.2.2.2.2.2.2.2.2.2.1, x, S.2.2.2.2.2.2.2.2.2.2.2.2.2.2.2.2.2.2.2.2.2)
def md_set_hasImage (S : zMd) (x : Int32) : zMd := (S.1, S.2.1, S.2.2.1, S.2.2.2.1, S.2.2.2.2.1, S.2.2.2.2.2.1, S.2.2.2.2.2.2.1, S.2.2.2.2.2.2.2.1, S.2.2.2.2.2.2.2.2.1, S.2.2.2.2.2.2.2.2.2.1, S.2.2.2.2.2.2.2.2.2.2.1, S.2.2.2.2.2.2.2.2.2.2.2.1, S.2.2.2.2.2.2.2.2.2.2.2.2.1, S.2.2.2.2.2.2.2.2.2.2.2.2.2.1, S.2.2.2.2.2.2.2.2.2.2.2.2.2.2.1, S.2.2.2.2.2.2.2.2.2.2.2.2.2.2.2.1, S.2.2.2.2.2.2.2.2.2.2.2.2.2.2.2.2.1, S.2.2.2.2.2.2.2.2.2.2.2.2.2.2.2.2.2.1, S.2.2.2.2.2.2.2.2.2.2.2.2.2.2.2.2.2.2.1, S.2.2.2.2.2.2.2.2.2.2.2.2.2.2.2.2.2.2.2.1, S.2.2.2.2.2.2.2.2.2.2.2.2.2.2.2.2.2.2.2.2.1, x, S.2.2.2.2.2.2.2.2.2.2.2.2.2.2.2.2.2.2.2.2.2.2)
def md_set_isKeeping (S : zMd) (x : Int32) : zMd := (S.1, S.2.1, S.2.2.1, S.2.2.2.1, S.2.2.2.2.1, S.2.2.2.2.2.1, S.2.2.2.2.2.2.1, S.2.2.2.2.2.2.2.1, S.2.2.2.2.2.2.2.2.1, S.2.2.2.2.2.2.2.2.2.1, S.2.2.2.2.2.2.2.2.2.2.1, S.2.2.2.2.2.2.2.2.2.2.2.1, S.2.2.2.2.2.2.2.2.2.2.2.2.1, S.2.2.2.2.2.2.2.2.2.2.2.2.2.1, S.2.2.2.2.2.2.2.2.2.2.2.2.2.2.1, S.2.2.2.2.2.2.2.2.2.2.2.2.2.2.2.1, S.2.2.2.2.2.2.2.2.2.2.2.2.2.2.2.2.1, S.2.2.2.2.2.2.2.2.2.2.2.2.2.2.2.2.2.1, S.2.2.2.2.2.2.2.2.2.2.2.2.2.2.2.2.2.2.1, S.2.2.2.2.2.2.2.2.2.2.2.2.2.2.2.2.2.2.2.1, S.2.2.2.2.2.2.2.2.2.2.2.2.2.2.2.2.2.2.2.2.1, S.2.2.2.2.2.2.2.2.2.2.2.2.2.2.2.2.2.2.2.2.2.1, x, S.2.2.2.2.2.2.2.2.2.2.2.2.2.2.2.2.2.2.2.2.2.2.2)
def md_set_cursor (S : zMd) (x : Int32) : zMd := (S.1, S.2.1, S.2.2.1, S.2.2.2.1, S.2.2.2.2.1, S.2.2.2.2.2.1, S.2.2.2.2.2.2.1, S.2.2.2.2.2.2.2.1, S.2.2.2.2.2.2.2.2.1, S.2.2.2.2.2.2.2.2.2.1, S.2.2.2.2.2.2.2.2.2.2.1, S.2.2.2.2.2.2.2.2.2.2.2.1, S.2.2.2.2.2.2.2.2.2.2.2.2.1, S.2.2.2.2.2.2.2.2.2.2.2.2.2.1, S.2.2.2.2.2.2.2.2.2.2.2.2.2.2.1, S.2.2.2.2.2.2.2.2.2.2.2.2.2.2.2.1, S.2.2.2.2.2.2.2.2.2.2.2.2.2.2.2.2.1, S.2.2.2.2.2.2.2.2.2.2.2.2.2.2.2.2.2.1, S.2.2.2.2.2.2.2.2.2.2.2.2.2.2.2.2.2.2.1, S.2.2.2.2.2.2.2.2.2.2.2.2.2.2.2.2.2.2.2.1, S.2.2.2.2.2.2.2.2.2.2.2.2.2.2.2.2.2.2.2.2.1, S.2.2.2.2.2.2.2.2.2.2.2.2.2.2.2.2.2.2.2.2.2.1, S.2.2.2.2.2.2.2.2.2.2.2.2.2.2.2.2.2.2.2.2.2.2.1, x, S.2.2.2.2.2.2.2.2.2.2.2.2.2.2.2.2.2.2.2.2.2.2.2.2)
def md_set_tried (S : zMd) (x : Nat → Int32) : zMd := (S.1, S.2.1, S.2.2.1, S.2.2.2.1, S.2.2.2.2.1, S.2.2.2.2.2.1, S.2.2.2.2.2.2.1, S.2.2.2.2.2.2.2.1, S.2.2.2.2.2.2.2.2.1, S.2.2.2.2.2.2.2.2.2.1, S.2.2.2.2.2.2.2.2.2.2.1, S.2.2.2.2.2.2.2.2.2.2.2.1, S.2.2.2.2.2.2.2.2.2.2.2.2.1, S.2.2.2.2.2.2.2.2.2.2.2.2.2.1, S.2.2.2.2.2.2.2.2.2.2.2.2.2.2.1, S.2.2.2.2.2.2.2.2.2.2.2.2.2.2.2.1, S.2.2.2.2.2.2.2.2.2.2.2.2.2.2.2.2.1, S.2.2.2.2.2.2.2.2.2.2.2.2.2.2.2.2.2.1, S.2.2.2.2.2.2.2.2.2.2.2.2.2.2.2.2.2.2.1, S.2.2.2.2.2.2.2.2.2.2.2.2.2.2.2.2.2.2.2.1, S.2.2.2.2.2.2.2.2.2.2.2.2.2.2.2.2.2.2.2.2.1, S.2.2.2.2.2.2.2.2.2.2.2.2.2.2.2.2.2.2.2.2.2.1, S.2.2.2.2.2.2.2.2.2.2.2.2.2.2.2.2.2.2.2.2.2.2.1, S.2.2.2.2.2.2.2.2.2.2.2.2.2.2.2.2.2.2.2.2.2.2.2.1, x, S.2.2.2.2.2.2.2.2.2.2.2.2.2.2.2.2.2.2.2.2.2.2.2.2.2)
def md_set_wanted (S : zMd) (x : Int32) : zMd := (S.1, S.2.1, S.2.2.1, S.2.2.2.1, S.2.2.2.2.1, S.2.2.2.2.2.1, S.2.2.2.2.2.2.1, S.2.2.2.2.2.2.2.1, S.2.2.2.2.2.2.2.2.1, S.2.2.2.2.2.2.2.2.2.1, S.2.2.2.2.2.2.2.2.2.2.1, S.2.2.2.2.2.2.2.2.2.2.2.1, S.2.2.2.2.2.2.2.2.2.2.2.2.1, S.2.2.2.2.2.2.2.2.2.2.2.2.2.1, S.2.2.2.2.2.2.2.2.2.2.2.2.2.2.1, S.2.2.2.2.2.2.2.2.2.2.2.2.2.2.2.1, S.2.2.2.2.2.2.2.2.2.2.2.2.2.2.2.2.1, S.2.2.2.2.2.2.2.2.2.2.2.2.2.2.2.2.2.1, S.2.2.2.2.2.2.2.2.2.2.2.2.2.2.2.2.2.2.1, S.2.2.2.2.2.2.2.2.2.2.2.2.2.2.2.2.2.2.2.1, S.2.2.2.2.2.2.2.2.2.2.2.2.2.2.2.2.2.2.2.2.1, S.2.2.2.2.2.2.2.2.2.2.2.2.2.2.2.2.2.2.2.2.2.1, S.2.2.2.2.2.2.2.2.2.2.2.2.2.2.2.2.2.2.2.2.2.2.1, S.2.2.2.2.2.2.2.2.2.2.2.2.2.2.2.2.2.2.2.2.2.2.2.1, S.2.2.2.2.2.2.2.2.2.2.2.2.2.2.2.2.2.2.2.2.2.2.2.2.1, x, S.2.2.2.2.2.2.2.2.2.2.2.2.2.2.2.2.2.2.2.2.2.2.2.2.2.2)
def md_set_goal (S : zMd) (x : Int32) : zMd := (S.1, S.2.1, S.2.2.1, S.2.2.2.1, S.2.2.2.2.1, S.2.2.2.2.2.1, S.2.2.2.2.2.2.1, S.2.2.2.2.2.2.2.1, S.2.2.2.2.2.2.2.2.1, S.2.2.2.2.2.2.2.2.2.1, S.2.2.2.2.2.2.2.2.2.2.1, S.2.2.2.2.2.2.2.2.2.2.2.1, S.2.2.2.2.2.2.2.2.2.2.2.2.1, S.2.2.2.2.2.2.2.2.2.2.2.2.2.1, S.2.2.2.2.2.2.2.2.2.2.2.2.2.2.1, S.2.2.2.2.2.2.2.2.2.2.2.2.2.2.2.1, S.2.2.2.2.2.2.2.2.2.2.2.2.2.2.2.2.1, S.2.2.2.2.2.2.2.2.2.2.2.2.2.2.2.2.2.1, S.2.2.2.2.2.2.2.2.2.2.2.2.2.2.2.2.2.2.1, S.2.2.2.2.2.2.2.2.2.2.2.2.2.2.2.2.2.2.2.1, S.2.2.2.2.2.2.2.2.2.2.2.2.2.2.2.2.2.2.2.2.1, S.2.2.2.2.2.2.2.2.2.2.2.2.2.2.2.2.2.2.2.2.2.1, S.2.2.2.2.2.2.2.2.2.2.2.2.2.2.2.2.2.2.2.2.2.2.1, S.2.2.2.2.2.2.2.2.2.2.2.2.2.2.2.2.2.2.2.2.2.2.2.1, S.2.2.2.2.2.2.2.2.2.2.2.2.2.2.2.2.2.2.2.2.2.2.2.2.1, S.2.2.2.2.2.2.2.2.2.2.2.2.2.2.2.2.2.2.2.2.2.2.2.2.2.1, x, S.2.2.2.2.2.2.2.2.2.2.2.2.2.2.2.2.2.2.2.2.2.2.2.2.2.2.2)
def md_set_byFactors (S : zMd) (x : Nat → Int32) : zMd := (S.1, S.2.1, S.2.2.1, S.2.2.2.1, S.2.2.2.2.1, S.2.2.2.2.2.1, S.2.2.2.2.2.2.1, S.2.2.2.2.2.2.2.1, S.2.2.2.2.2.2.2.2.1, S.2.2.2.2.2.2.2.2.2.1, S.2.2.2.2.2.2.2.2.2.2.1, S.2.2.2.2.2.2.2.2.2.2.2.1, S.2.2.2.2.2.2.2.2.2.2.2.2.1, S.2.2.2.2.2.2.2.2.2.2.2.2.2.1, S.2.2.2.2.2.2.2.2.2.2.2.2.2.2.1, S.2.2.2.2.2.2.2.2.2.2.2.2.2.2.2.1, S.2.2.2.2.2.2.2.2.2.2.2.2.2.2.2.2.1, S.2.2.2.2.2.2.2.2.2.2.2.2.2.2.2.2.2.1, S.2.2.2.2.2.2.2.2.2.2.2.2.2.2.2.2.2.2.1, S.2.2.2.2.2.2.2.2.2.2.2.2.2.2.2.2.2.2.2.1, S.2.2.2.2.2.2.2.2.2.2.2.2.2.2.2.2.2.2.2.2.1, S.2.2.2.2.2.2.2.2.2.2.2.2.2.2.2.2.2.2.2.2.2.1, S.2.2.2.2.2.2.2.2.2.2.2.2.2.2.2.2.2.2.2.2.2.2.1, S.2.2.2.2.2.2.2.2.2.2.2.2.2.2.2.2.2.2.2.2.2.2.2.1, S.2.2.2.2.2.2.2.2.2.2.2.2.2.2.2.2.2.2.2.2.2.2.2.2.1, S.2.2.2.2.2.2.2.2.2.2.2.2.2.2.2.2.2.2.2.2.2.2.2.2.2.1, S.2.2.2.2.2.2.2.2.2.2.2.2.2.2.2.2.2.2.2.2.2.2.2.2.2.2.1, x, S.2.2.2.2.2.2.2.2.2.2.2.2.2.2.2.2.2.2.2.2.2.2.2.2.2.2.2.2)
def md_set_ways (S : zMd) (x : Nat → Int32) : zMd := (S.1, S.2.1, S.2.2.1, S.2.2.2.1, S.2.2.2.2.1, S.2.2.2.2.2.1, S.2.2.2.2.2.2.1, S.2.2.2.2.2.2.2.1, S.2.2.2.2.2.2.2.2.1, S.2.2.2.2.2.2.2.2.2.1, S.2.2.2.2.2.2.2.2.2.2.1, S.2.2.2.2.2.2.2.2.2.2.2.1, S.2.2.2.2.2.2.2.2.2.2.2.2.1, S.2.2.2.2.2.2.2.2.2.2.2.2.2.1, S.2.2.2.2.2.2.2.2.2.2.2.2.2.2.1, S.2.2.2.2.2.2.2.2.2.2.2.2.2.2.2.1, S.2.2.2.2.2.2.2.2.2.2.2.2.2.2.2.2.1, S.2.2.2.2.2.2.2.2.2.2.2.2.2.2.2.2.2.1, S.2.2.2.2.2.2.2.2.2.2.2.2.2.2.2.2.2.2.1, S.2.2.2.2.2.2.2.2.2.2.2.2.2.2.2.2.2.2.2.1, S.2.2.2.2.2.2.2.2.2.2.2.2.2.2.2.2.2.2.2.2.1, S.2.2.2.2.2.2.2.2.2.2.2.2.2.2.2.2.2.2.2.2.2.1, S.2.2.2.2.2.2.2.2.2.2.2.2.2.2.2.2.2.2.2.2.2.2.1, S.2.2.2.2.2.2.2.2.2.2.2.2.2.2.2.2.2.2.2.2.2.2.2.1, S.2.2.2.2.2.2.2.2.2.2.2.2.2.2.2.2.2.2.2.2.2.2.2.2.1, S.2.2.2.2.2.2.2.2.2.2.2.2.2.2.2.2.2.2.2.2.2.2.2.2.2.1, S.2.2.2.2.2.2.2.2.2.2.2.2.2.2.2.2.2.2.2.2.2.2.2.2.2.2.1, S.2.2.2.2.2.2.2.2.2.2.2.2.2.2.2.2.2.2.2.2.2.2.2.2.2.2.2.1, x, S.2.2.2.2.2.2.2.2.2.2.2.2.2.2.2.2.2.2.2.2.2.2.2.2.2.2.2.2.2)
def md_set_wins (S : zMd) (x : Nat → Int32) : zMd := (S.1, S.2.1, S.2.2.1, S.2.2.2.1, S.2.2.2.2.1, S.2.2.2.2.2.1, S.2.2.2.2.2.2.1, S.2.2.2.2.2.2.2.1, S.2.2.2.2.2.2.2.2.1, S.2.2.2.2.2.2.2.2.2.1, S.2.2.2.2.2.2.2.2.2.2.1, S.2.2.2.2.2.2.2.2.2.2.2.1, S.2.2.2.2.2.2.2.2.2.2.2.2.1, S.2.2.2.2.2.2.2.2.2.2.2.2.2.1, S.2.2.2.2.2.2.2.2.2.2.2.2.2.2.1, S.2.2.2.2.2.2.2.2.2.2.2.2.2.2.2.1, S.2.2.2.2.2.2.2.2.2.2.2.2.2.2.2.2.1, S.2.2.2.2.2.2.2.2.2.2.2.2.2.2.2.2.2.1, S.2.2.2.2.2.2.2.2.2.2.2.2.2.2.2.2.2.2.1, S.2.2.2.2.2.2.2.2.2.2.2.2.2.2.2.2.2.2.2.1, S.2.2.2.2.2.2.2.2.2.2.2.2.2.2.2.2.2.2.2.2.1, S.2.2.2.2.2.2.2.2.2.2.2.2.2.2.2.2.2.2.2.2.2.1, S.2.2.2.2.2.2.2.2.2.2.2.2.2.2.2.2.2.2.2.2.2.2.1, S.2.2.2.2.2.2.2.2.2.2.2.2.2.2.2.2.2.2.2.2.2.2.2.1, S.2.2.2.2.2.2.2.2.2.2.2.2.2.2.2.2.2.2.2.2.2.2.2.2.1, S.2.2.2.2.2.2.2.2.2.2.2.2.2.2.2.2.2.2.2.2.2.2.2.2.2.1, S.2.2.2.2.2.2.2.2.2.2.2.2.2.2.2.2.2.2.2.2.2.2.2.2.2.2.1, S.2.2.2.2.2.2.2.2.2.2.2.2.2.2.2.2.2.2.2.2.2.2.2.2.2.2.2.1, S.2.2.2.2.2.2.2.2.2.2.2.2.2.2.2.2.2.2.2.2.2.2.2.2.2.2.2.2.1, x, S.2.2.2.2.2.2.2.2.2.2.2.2.2.2.2.2.2.2.2.2.2.2.2.2.2.2.2.2.2.2)
def md_set_row (S : zMd) (x : Nat → Int32) : zMd := (S.1, S.2.1, S.2.2.1, S.2.2.2.1, S.2.2.2.2.1, S.2.2.2.2.2.1, S.2.2.2.2.2.2.1, S.2.2.2.2.2.2.2.1, S.2.2.2.2.2.2.2.2.1, S.2.2.2.2.2.2.2.2.2.1, S.2.2.2.2.2.2.2.2.2.2.1, S.2.2.2.2.2.2.2.2.2.2.2.1, S.2.2.2.2.2.2.2.2.2.2.2.2.1, S.2.2.2.2.2.2.2.2.2.2.2.2.2.1, S.2.2.2.2.2.2.2.2.2.2.2.2.2.2.1, S.2.2.2.2.2.2.2.2.2.2.2.2.2.2.2.1, S.2.2.2.2.2.2.2.2.2.2.2.2.2.2.2.2.1, S.2.2.2.2.2.2.2.2.2.2.2.2.2.2.2.2.2.1, S.2.2.2.2.2.2.2.2.2.2.2.2.2.2.2.2.2.2.1, S.2.2.2.2.2.2.2.2.2.2.2.2.2.2.2.2.2.2.2.1, S.2.2.2.2.2.2.2.2.2.2.2.2.2.2.2.2.2.2.2.2.1, S.2.2.2.2.2.2.2.2.2.2.2.2.2.2.2.2.2.2.2.2.2.1, S.2.2.2.2.2.2.2.2.2.2.2.2.2.2.2.2.2.2.2.2.2.2.1, S.2.2.2.2.2.2.2.2.2.2.2.2.2.2.2.2.2.2.2.2.2.2.2.1, S.2.2.2.2.2.2.2.2.2.2.2.2.2.2.2.2.2.2.2.2.2.2.2.2.1, S.2.2.2.2.2.2.2.2.2.2.2.2.2.2.2.2.2.2.2.2.2.2.2.2.2.1, S.2.2.2.2.2.2.2.2.2.2.2.2.2.2.2.2.2.2.2.2.2.2.2.2.2.2.1, S.2.2.2.2.2.2.2.2.2.2.2.2.2.2.2.2.2.2.2.2.2.2.2.2.2.2.2.1, S.2.2.2.2.2.2.2.2.2.2.2.2.2.2.2.2.2.2.2.2.2.2.2.2.2.2.2.2.1, S.2.2.2.2.2.2.2.2.2.2.2.2.2.2.2.2.2.2.2.2.2.2.2.2.2.2.2.2.2.1, x, S.2.2.2.2.2.2.2.2.2.2.2.2.2.2.2.2.2.2.2.2.2.2.2.2.2.2.2.2.2.2.2)
def md_set_rowMany (S : zMd) (x : Int32) : zMd := (S.1, S.2.1, S.2.2.1, S.2.2.2.1, S.2.2.2.2.1, S.2.2.2.2.2.1, S.2.2.2.2.2.2.1, S.2.2.2.2.2.2.2.1, S.2.2.2.2.2.2.2.2.1, S.2.2.2.2.2.2.2.2.2.1, S.2.2.2.2.2.2.2.2.2.2.1, S.2.2.2.2.2.2.2.2.2.2.2.1, S.2.2.2.2.2.2.2.2.2.2.2.2.1, S.2.2.2.2.2.2.2.2.2.2.2.2.2.1, S.2.2.2.2.2.2.2.2.2.2.2.2.2.2.1, S.2.2.2.2.2.2.2.2.2.2.2.2.2.2.2.1, S.2.2.2.2.2.2.2.2.2.2.2.2.2.2.2.2.1, S.2.2.2.2.2.2.2.2.2.2.2.2.2.2.2.2.2.1, S.2.2.2.2.2.2.2.2.2.2.2.2.2.2.2.2.2.2.1, S.2.2.2.2.2.2.2.2.2.2.2.2.2.2.2.2.2.2.2.1, S.2.2.2.2.2.2.2.2.2.2.2.2.2.2.2.2.2.2.2.2.1, S.2.2.2.2.2.2.2.2.2.2.2.2.2.2.2.2.2.2.2.2.2.1, S.2.2.2.2.2.2.2.2.2.2.2.2.2.2.2.2.2.2.2.2.2.2.1, S.2.2.2.2.2.2.2.2.2.2.2.2.2.2.2.2.2.2.2.2.2.2.2.1, S.2.2.2.2.2.2.2.2.2.2.2.2.2.2.2.2.2.2.2.2.2.2.2.2.1, S.2.2.2.2.2.2.2.2.2.2.2.2.2.2.2.2.2.2.2.2.2.2.2.2.2.1, S.2.2.2.2.2.2.2.2.2.2.2.2.2.2.2.2.2.2.2.2.2.2.2.2.2.2.1, S.2.2.2.2.2.2.2.2.2.2.2.2.2.2.2.2.2.2.2.2.2.2.2.2.2.2.2.1, S.2.2.2.2.2.2.2.2.2.2.2.2.2.2.2.2.2.2.2.2.2.2.2.2.2.2.2.2.1, S.2.2.2.2.2.2.2.2.2.2.2.2.2.2.2.2.2.2.2.2.2.2.2.2.2.2.2.2.2.1, S.2.2.2.2.2.2.2.2.2.2.2.2.2.2.2.2.2.2.2.2.2.2.2.2.2.2.2.2.2.2.1, x, S.2.2.2.2.2.2.2.2.2.2.2.2.2.2.2.2.2.2.2.2.2.2.2.2.2.2.2.2.2.2.2.2)
def md_set_lots (S : zMd) (x : Int32) : zMd := (S.1, S.2.1, S.2.2.1, S.2.2.2.1, S.2.2.2.2.1, S.2.2.2.2.2.1, S.2.2.2.2.2.2.1, S.2.2.2.2.2.2.2.1, S.2.2.2.2.2.2.2.2.1, S.2.2.2.2.2.2.2.2.2.1, S.2.2.2.2.2.2.2.2.2.2.1, S.2.2.2.2.2.2.2.2.2.2.2.1, S.2.2.2.2.2.2.2.2.2.2.2.2.1, S.2.2.2.2.2.2.2.2.2.2.2.2.2.1, S.2.2.2.2.2.2.2.2.2.2.2.2.2.2.1, S.2.2.2.2.2.2.2.2.2.2.2.2.2.2.2.1, S.2.2.2.2.2.2.2.2.2.2.2.2.2.2.2.2.1, S.2.2.2.2.2.2.2.2.2.2.2.2.2.2.2.2.2.1, S.2.2.2.2.2.2.2.2.2.2.2.2.2.2.2.2.2.2.1, S.2.2.2.2.2.2.2.2.2.2.2.2.2.2.2.2.2.2.2.1, S.2.2.2.2.2.2.2.2.2.2.2.2.2.2.2.2.2.2.2.2.1, S.2.2.2.2.2.2.2.2.2.2.2.2.2.2.2.2.2.2.2.2.2.1, S.2.2.2.2.2.2.2.2.2.2.2.2.2.2.2.2.2.2.2.2.2.2.1, S.2.2.2.2.2.2.2.2.2.2.2.2.2.2.2.2.2.2.2.2.2.2.2.1, S.2.2.2.2.2.2.2.2.2.2.2.2.2.2.2.2.2.2.2.2.2.2.2.2.1, S.2.2.2.2.2.2.2.2.2.2.2.2.2.2.2.2.2.2.2.2.2.2.2.2.2.1, S.2.2.2.2.2.2.2.2.2.2.2.2.2.2.2.2.2.2.2.2.2.2.2.2.2.2.1, S.2.2.2.2.2.2.2.2.2.2.2.2.2.2.2.2.2.2.2.2.2.2.2.2.2.2.2.1, S.2.2.2.2.2.2.2.2.2.2.2.2.2.2.2.2.2.2.2.2.2.2.2.2.2.2.2.2.1, S.2.2.2.2.2.2.2.2.2.2.2.2.2.2.2.2.2.2.2.2.2.2.2.2.2.2.2.2.2.1, S.2.2.2.2.2.2.2.2.2.2.2.2.2.2.2.2.2.2.2.2.2.2.2.2.2.2.2.2.2.2.1, S.2.2.2.2.2.2.2.2.2.2.2.2.2.2.2.2.2.2.2.2.2.2.2.2.2.2.2.2.2.2.2.1, x)
def fJ6_bitCount_0f7a4_j48 (v0 : Int32) : Int32 :=
  (v0 &&& (63 : Int32))
def fJ6_bitCount_0f7a4_j41 (v0 : Int32) : Int32 :=
  fJ6_bitCount_0f7a4_j48 (v0 + (v0.toUInt32 >>> ((16 : Int32).toUInt32 &&& Int32.toUInt32 31)).toInt32)
def fJ6_bitCount_0f7a4_j34 (v0 : Int32) : Int32 :=
  fJ6_bitCount_0f7a4_j41 (v0 + (v0.toUInt32 >>> ((8 : Int32).toUInt32 &&& Int32.toUInt32 31)).toInt32)
def fJ6_bitCount_0f7a4_j24 (v0 : Int32) : Int32 :=
  fJ6_bitCount_0f7a4_j34 ((v0 + (v0.toUInt32 >>> ((4 : Int32).toUInt32 &&& Int32.toUInt32 31)).toInt32) &&& (252645135 : Int32))
def fJ6_bitCount_0f7a4_j10 (v0 : Int32) : Int32 :=
  fJ6_bitCount_0f7a4_j24 ((v0 &&& (858993459 : Int32)) + ((v0.toUInt32 >>> ((2 : Int32).toUInt32 &&& Int32.toUInt32 31)).toInt32 &&& (858993459 : Int32)))
def fJ6_bitCount_0f7a4 (p0 : Int32) : Int32 :=
  fJ6_bitCount_0f7a4_j10 (p0 - ((p0.toUInt32 >>> ((1 : Int32).toUInt32 &&& Int32.toUInt32 31)).toInt32 &&& (1431655765 : Int32)))
def fJ6_numberOfLeadingZeros_0f7a4_j61 (v0 : Int32) (v1 : Int32) : Int32 :=
  if v0 < (4 : Int32) then
  ((v1 - (v0.toUInt32 >>> ((1 : Int32).toUInt32 &&& Int32.toUInt32 31)).toInt32))
  else
  (((v1 + (-2 : Int32)) - ((v0.toUInt32 >>> ((2 : Int32).toUInt32 &&& Int32.toUInt32 31)).toInt32.toUInt32 >>> ((1 : Int32).toUInt32 &&& Int32.toUInt32 31)).toInt32))
def fJ6_numberOfLeadingZeros_0f7a4_j48 (v0 : Int32) (v1 : Int32) : Int32 :=
  if v0 < (16 : Int32) then
  (fJ6_numberOfLeadingZeros_0f7a4_j61 v0 v1)
  else
  (fJ6_numberOfLeadingZeros_0f7a4_j61 (v0.toUInt32 >>> ((4 : Int32).toUInt32 &&& Int32.toUInt32 31)).toInt32 (v1 + (-4 : Int32)))
def fJ6_numberOfLeadingZeros_0f7a4_j33 (v0 : Int32) (v1 : Int32) : Int32 :=
  if v0 < (256 : Int32) then
  (fJ6_numberOfLeadingZeros_0f7a4_j48 v0 v1)
  else
  (fJ6_numberOfLeadingZeros_0f7a4_j48 (v0.toUInt32 >>> ((8 : Int32).toUInt32 &&& Int32.toUInt32 31)).toInt32 (v1 + (-8 : Int32)))
def fJ6_numberOfLeadingZeros_0f7a4 (p0 : Int32) : Int32 :=
  if (0 : Int32) < p0 then
  (if p0 < (65536 : Int32) then
  (fJ6_numberOfLeadingZeros_0f7a4_j33 p0 (31 : Int32))
  else
  (fJ6_numberOfLeadingZeros_0f7a4_j33 (p0.toUInt32 >>> ((16 : Int32).toUInt32 &&& Int32.toUInt32 31)).toInt32 ((31 : Int32) + (-16 : Int32))))
  else
  (if p0 = (0 : Int32) then
  ((32 : Int32))
  else
  ((0 : Int32)))
def fJ6_numberOfTrailingZeros_0f7a4_j62 (v0 : Int32) (v1 : Int32) : Int32 :=
  if v0 ≤ (4 : Int32) then
  ((v1 + (v0.toUInt32 >>> ((1 : Int32).toUInt32 &&& Int32.toUInt32 31)).toInt32))
  else
  (((v1 + (2 : Int32)) + ((v0.toUInt32 >>> ((2 : Int32).toUInt32 &&& Int32.toUInt32 31)).toInt32.toUInt32 >>> ((1 : Int32).toUInt32 &&& Int32.toUInt32 31)).toInt32))
def fJ6_numberOfTrailingZeros_0f7a4_j49 (v0 : Int32) (v1 : Int32) : Int32 :=
  if v0 ≤ (16 : Int32) then
  (fJ6_numberOfTrailingZeros_0f7a4_j62 v0 v1)
  else
  (fJ6_numberOfTrailingZeros_0f7a4_j62 (v0.toUInt32 >>> ((4 : Int32).toUInt32 &&& Int32.toUInt32 31)).toInt32 (v1 + (4 : Int32)))
def fJ6_numberOfTrailingZeros_0f7a4_j34 (v0 : Int32) (v1 : Int32) : Int32 :=
  if v0 ≤ (256 : Int32) then
  (fJ6_numberOfTrailingZeros_0f7a4_j49 v0 v1)
  else
  (fJ6_numberOfTrailingZeros_0f7a4_j49 (v0.toUInt32 >>> ((8 : Int32).toUInt32 &&& Int32.toUInt32 31)).toInt32 (v1 + (8 : Int32)))
def fJ6_numberOfTrailingZeros_0f7a4 (p0 : Int32) : Int32 :=
  if (0 : Int32) < ((p0 ^^^ (-1 : Int32)) &&& (p0 - (1 : Int32))) then
  (if ((p0 ^^^ (-1 : Int32)) &&& (p0 - (1 : Int32))) ≤ (65536 : Int32) then
  (fJ6_numberOfTrailingZeros_0f7a4_j34 ((p0 ^^^ (-1 : Int32)) &&& (p0 - (1 : Int32))) (1 : Int32))
  else
  (fJ6_numberOfTrailingZeros_0f7a4_j34 (((p0 ^^^ (-1 : Int32)) &&& (p0 - (1 : Int32))).toUInt32 >>> ((16 : Int32).toUInt32 &&& Int32.toUInt32 31)).toInt32 ((1 : Int32) + (16 : Int32))))
  else
  ((((p0 ^^^ (-1 : Int32)) &&& (p0 - (1 : Int32))) &&& (32 : Int32)))
def fJ13_bitCount_95d88_j55 (v0 : Int64) : Int32 :=
  (v0.toInt32 &&& (127 : Int32))
def fJ13_bitCount_95d88_j48 (v0 : Int64) : Int32 :=
  fJ13_bitCount_95d88_j55 (v0 + (v0.toUInt64 >>> ((32 : Int32).toInt64.toUInt64 &&& Int64.toUInt64 63)).toInt64)
def fJ13_bitCount_95d88_j41 (v0 : Int64) : Int32 :=
  fJ13_bitCount_95d88_j48 (v0 + (v0.toUInt64 >>> ((16 : Int32).toInt64.toUInt64 &&& Int64.toUInt64 63)).toInt64)
def fJ13_bitCount_95d88_j34 (v0 : Int64) : Int32 :=
  fJ13_bitCount_95d88_j41 (v0 + (v0.toUInt64 >>> ((8 : Int32).toInt64.toUInt64 &&& Int64.toUInt64 63)).toInt64)
def fJ13_bitCount_95d88_j24 (v0 : Int64) : Int32 :=
  fJ13_bitCount_95d88_j34 ((v0 + (v0.toUInt64 >>> ((4 : Int32).toInt64.toUInt64 &&& Int64.toUInt64 63)).toInt64) &&& (1085102592571150095 : Int64))
def fJ13_bitCount_95d88_j10 (v0 : Int64) : Int32 :=
  fJ13_bitCount_95d88_j24 ((v0 &&& (3689348814741910323 : Int64)) + ((v0.toUInt64 >>> ((2 : Int32).toInt64.toUInt64 &&& Int64.toUInt64 63)).toInt64 &&& (3689348814741910323 : Int64)))
def fJ13_bitCount_95d88 (p0 : Int64) : Int32 :=
  fJ13_bitCount_95d88_j10 (p0 - ((p0.toUInt64 >>> ((1 : Int32).toInt64.toUInt64 &&& Int64.toUInt64 63)).toInt64 &&& (6148914691236517205 : Int64)))
def fJ13_numberOfTrailingZeros_95d88 (p0 : Int64) : Int32 :=
  if p0.toInt32 = (0 : Int32) then
  (((32 : Int32) + (fJ6_numberOfTrailingZeros_0f7a4 (p0.toUInt64 >>> ((32 : Int32).toInt64.toUInt64 &&& Int64.toUInt64 63)).toInt64.toInt32)))
  else
  ((fJ6_numberOfTrailingZeros_0f7a4 p0.toInt32))
def fX5_isIn (p0 : Int32) (p1 : Int32) : Int32 :=
  if p1 < (0 : Int32) then
  ((0 : Int32))
  else
  (if (12 : Int32) ≤ p1 then
  ((0 : Int32))
  else
  (if ((p0 >>> (p1 &&& 31)) &&& (1 : Int32)) = (1 : Int32) then
  ((1 : Int32))
  else
  ((0 : Int32))))
def fX5_isKind (p0 : Int32) : Int32 :=
  if p0 < (0 : Int32) then
  ((0 : Int32))
  else
  (if (5 : Int32) < p0 then
  ((0 : Int32))
  else
  ((1 : Int32)))
def fX5_has (S : zSt) (p1 : Int32) : Int32 :=
  if p1 < (0 : Int32) then
  ((0 : Int32))
  else
  (if (st_came S) ≤ p1 then
  ((0 : Int32))
  else
  ((1 : Int32)))
def fX5_stands (S : zSt) (p1 : Int32) : Int32 :=
  if (fX5_has S p1) = (0 : Int32) then
  ((0 : Int32))
  else
  (if (fX5_isIn (st_standing S) p1) = (0 : Int32) then
  ((0 : Int32))
  else
  ((1 : Int32)))
def fX5_hasRoom (S : zSt) : Int32 :=
  if (12 : Int32) ≤ (st_came S) then
  ((0 : Int32))
  else
  ((1 : Int32))
def fX5_cameCount (S : zSt) : Int32 :=
  (st_came S)
def fX5_standingCount (S : zSt) : Int32 :=
  (fJ6_bitCount_0f7a4 (st_standing S))
def fX5_standingBits (S : zSt) : Int32 :=
  (st_standing S)
def fX5_sumsLaw (S : zSt) : Int32 :=
  (st_sums S)
def fX5_fallsLaw (S : zSt) : Int32 :=
  (st_falls S)
def fX5_changeLaws (S : zSt) (p1 : Int32) (p2 : Int32) : Int32 × zSt :=
  if p1 < (0 : Int32) then
  (((0 : Int32), S))
  else
  (if (2 : Int32) < p1 then
  (((0 : Int32), S))
  else
  (if p2 < (0 : Int32) then
  (((0 : Int32), S))
  else
  (if p2 ≤ (1 : Int32) then
  (((1 : Int32), (st_set_falls (st_set_sums S p1) p2)))
  else
  (((0 : Int32), S)))))
def fX5_tell (S : zSt) (p1 : Int32) (p2 : Int32) : Option (Int32) :=
  if (fX5_has S p1) = (0 : Int32) then
  (some (-1 : Int32))
  else
  (if p2 = (0 : Int32) then
  (ix 12 p1 (some ((st_kinds S) p1.toNatClampNeg)))
  else
  (if p2 = (1 : Int32) then
  (ix 12 p1 (some ((st_figures S) p1.toNatClampNeg)))
  else
  (if p2 = (2 : Int32) then
  (ix 12 p1 (some ((st_numbers S) p1.toNatClampNeg)))
  else
  (if p2 = (3 : Int32) then
  (ix 12 p1 (some ((st_firsts S) p1.toNatClampNeg)))
  else
  (if p2 = (4 : Int32) then
  (ix 12 p1 (some ((st_seconds S) p1.toNatClampNeg)))
  else
  (if p2 = (5 : Int32) then
  (if (fX5_isIn (st_standing S) p1) = (0 : Int32) then
  (some (0 : Int32))
  else
  (some (1 : Int32)))
  else
  (if p2 = (6 : Int32) then
  (ix 12 p1 (some ((st_uses S) p1.toNatClampNeg)))
  else
  (if p2 = (7 : Int32) then
  (ix 12 p1 (some ((st_earned S) p1.toNatClampNeg)))
  else
  (some (-2 : Int32))))))))))
def fX5_greatest_l4 (S : zSt) : Nat → (Int32) → (Int32) → Option (Int32)
  | 0, _, _ => none
  | n + 1, v1, v2 =>
  if (st_came S) ≤ v2 then
  (some v1)
  else
  (if (fX5_isIn (st_standing S) v2) = (0 : Int32) then
  (fX5_greatest_l4 S n v1 (v2 + (1 : Int32)))
  else
  (ix 12 v2 (fX5_greatest_l4 S n (if v1 < ((st_numbers S) v2.toNatClampNeg) then ((st_numbers S) v2.toNatClampNeg) else v1) (v2 + (1 : Int32)))))
def fX5_greatest (S : zSt) : Option (Int32) :=
  fX5_greatest_l4 S FU (0 : Int32) (0 : Int32)
def fX5_allEarned_l4 (S : zSt) : Nat → (Int32) → (Int32) → Option (Int32)
  | 0, _, _ => none
  | n + 1, v1, v2 =>
  if (st_came S) ≤ v2 then
  (some v1)
  else
  (ix 12 v2 (fX5_allEarned_l4 S n (v1 + ((st_earned S) v2.toNatClampNeg)) (v2 + (1 : Int32))))
def fX5_allEarned (S : zSt) : Option (Int32) :=
  fX5_allEarned_l4 S FU (0 : Int32) (0 : Int32)
def fX5_isThere_l2 (S : zSt) (v1 : Int32) : Nat → (Int32) → Option (Int32)
  | 0, _ => none
  | n + 1, v2 =>
  if (st_came S) ≤ v2 then
  (some (0 : Int32))
  else
  (if (fX5_isIn (st_standing S) v2) = (0 : Int32) then
  (fX5_isThere_l2 S v1 n (v2 + (1 : Int32)))
  else
  (ix 12 v2 (if ((st_numbers S) v2.toNatClampNeg) = v1 then
  (some (1 : Int32))
  else
  (fX5_isThere_l2 S v1 n (v2 + (1 : Int32))))))
def fX5_isThere (S : zSt) (p1 : Int32) : Option (Int32) :=
  fX5_isThere_l2 S p1 FU (0 : Int32)
def fX5_fee (S : zSt) (p1 : Int32) : Option (Int32) :=
  if (fX5_has S p1) = (0 : Int32) then
  (some (0 : Int32))
  else
  (ix 12 p1 (if ((st_kinds S) p1.toNatClampNeg) = (2 : Int32) then
  (some ((st_figures S) p1.toNatClampNeg))
  else
  (if ((st_kinds S) p1.toNatClampNeg) = (3 : Int32) then
  (some (((2 : Int32) * ((st_figures S) p1.toNatClampNeg)) + (1 : Int32)))
  else
  (some (0 : Int32)))))
def fX5_isLawful (S : zSt) (p1 : Int32) (p2 : Int32) : Int32 :=
  if (st_sums S) = (1 : Int32) then
  (if p1 = ((31 : Int32) - (fJ6_numberOfLeadingZeros_0f7a4 (st_standing S))) then
  ((1 : Int32))
  else
  (if p2 = ((31 : Int32) - (fJ6_numberOfLeadingZeros_0f7a4 (st_standing S))) then
  ((1 : Int32))
  else
  ((0 : Int32))))
  else
  (if (st_sums S) = (2 : Int32) then
  (if p1 = p2 then
  ((1 : Int32))
  else
  ((0 : Int32)))
  else
  ((1 : Int32)))
def fX5_lends (S : zSt) (p1 : Int32) (p2 : Int32) : Option (Int32) :=
  if (fX5_has S p1) = (0 : Int32) then
  (some (0 : Int32))
  else
  (ix 12 p1 (if ((st_kinds S) p1.toNatClampNeg) = (1 : Int32) then
  (if ((st_uses S) p1.toNatClampNeg) = (0 : Int32) then
  (some (1 : Int32))
  else
  (some (0 : Int32)))
  else
  (if ((st_kinds S) p1.toNatClampNeg) = (2 : Int32) then
  (some (1 : Int32))
  else
  (if ((st_kinds S) p1.toNatClampNeg) = (3 : Int32) then
  (if (p2 &&& (1 : Int32)) = (0 : Int32) then
  (some (1 : Int32))
  else
  (some (0 : Int32)))
  else
  (if ((st_kinds S) p1.toNatClampNeg) = (4 : Int32) then
  (some (0 : Int32))
  else
  (some (1 : Int32)))))))
def fX5_mayBe (S : zSt) (p1 : Int32) (p2 : Int32) : Option (Int32) :=
  if (fX5_stands S p1) = (0 : Int32) then
  (some (0 : Int32))
  else
  (if (fX5_stands S p2) = (0 : Int32) then
  (some (0 : Int32))
  else
  (if (fX5_isLawful S p1 p2) = (0 : Int32) then
  (some (0 : Int32))
  else
  (ix 12 p1 (ix 12 p2 (if (9999 : Int32) < (((st_numbers S) p1.toNatClampNeg) + ((st_numbers S) p2.toNatClampNeg)) then
  (some (0 : Int32))
  else
  ((fX5_lends S p1 (((st_numbers S) p1.toNatClampNeg) + ((st_numbers S) p2.toNatClampNeg))).bind fun u10 =>
  if u10 = (0 : Int32) then
  (some (0 : Int32))
  else
  ((fX5_lends S p2 (((st_numbers S) p1.toNatClampNeg) + ((st_numbers S) p2.toNatClampNeg))).bind fun u12 =>
  if u12 = (0 : Int32) then
  (some (0 : Int32))
  else
  ((fX5_isThere S (((st_numbers S) p1.toNatClampNeg) + ((st_numbers S) p2.toNatClampNeg))).bind fun u14 =>
  if u14 = (0 : Int32) then
  (some (1 : Int32))
  else
  (some (0 : Int32))))))))))
def fX5_place (S : zSt) (p1 : Int32) (p2 : Int32) (p3 : Int32) (p4 : Int32) (p5 : Int32) : Option (zSt) :=
  if (fX5_hasRoom S) = (0 : Int32) then
  (some S)
  else
  (ix 12 (st_came S) (some (st_set_standing (st_set_came (st_set_earned (st_set_uses (st_set_seconds (st_set_firsts (st_set_numbers (st_set_figures (st_set_kinds S (upd (st_kinds S) (st_came S).toNatClampNeg p4)) (upd (st_figures S) (st_came S).toNatClampNeg p5)) (upd (st_numbers S) (st_came S).toNatClampNeg p1)) (upd (st_firsts S) (st_came S).toNatClampNeg p2)) (upd (st_seconds S) (st_came S).toNatClampNeg p3)) (upd (st_uses S) (st_came S).toNatClampNeg (0 : Int32))) (upd (st_earned S) (st_came S).toNatClampNeg (0 : Int32))) ((st_came S) + (1 : Int32))) ((st_standing S) ||| ((1 : Int32) <<< ((st_came S) &&& 31))))))
def fX5_use (S : zSt) (p1 : Int32) : Option (zSt) :=
  if (fX5_has S p1) = (0 : Int32) then
  (some S)
  else
  (ix 12 p1 ((fX5_fee (st_set_uses S (upd (st_uses S) p1.toNatClampNeg (((st_uses S) p1.toNatClampNeg) + (1 : Int32)))) p1).bind fun u4 =>
  some (st_set_earned (st_set_uses S (upd (st_uses S) p1.toNatClampNeg (((st_uses S) p1.toNatClampNeg) + (1 : Int32)))) (upd (st_earned S) p1.toNatClampNeg (((st_earned S) p1.toNatClampNeg) + u4)))))
def fX5_loseHut (S : zSt) (p1 : Int32) : Option (zSt) :=
  if (fX5_has S p1) = (0 : Int32) then
  (some S)
  else
  (ix 12 p1 (if ((st_kinds S) p1.toNatClampNeg) = (1 : Int32) then
  (some (st_set_standing S ((st_standing S) &&& (((1 : Int32) <<< (p1 &&& 31)) ^^^ (-1 : Int32)))))
  else
  (some S)))
def fX5_build (S : zSt) (p1 : Int32) (p2 : Int32) (p3 : Int32) (p4 : Int32) : Option (Int32 × zSt) :=
  if (fX5_hasRoom S) = (0 : Int32) then
  (some ((0 : Int32), S))
  else
  (if (fX5_isKind p3) = (0 : Int32) then
  (some ((0 : Int32), S))
  else
  ((fX5_mayBe S p1 p2).bind fun u5 =>
  if u5 = (0 : Int32) then
  (some ((0 : Int32), S))
  else
  (ix 12 p1 (ix 12 p2 ((fX5_place S (((st_numbers S) p1.toNatClampNeg) + ((st_numbers S) p2.toNatClampNeg)) p1 p2 p3 p4).bind fun u9 =>
  (fX5_use u9 p1).bind fun u10 =>
  (fX5_use u10 p2).bind fun u11 =>
  (fX5_loseHut u11 p1).bind fun u12 =>
  (fX5_loseHut u12 p2).bind fun u13 =>
  some ((1 : Int32), u13))))))
def fX5_beginAnew (S : zSt) : Option (zSt) :=
  (fX5_place (st_set_standing (st_set_came S (0 : Int32)) (0 : Int32)) (1 : Int32) (-4 : Int32) (-4 : Int32) (0 : Int32) (0 : Int32)).bind fun u1 =>
  some u1
def fX5_fallsWith_j87 (S : zSt) (v2 : Int32) (v3 : Int32) (k23 : (Int32) → (Int32) → Option (Int32)) : Option (Int32) :=
  k23 (v2 &&& (((1 : Int32) <<< (v3 &&& 31)) ^^^ (-1 : Int32))) (v3 + (1 : Int32))
def fX5_fallsWith_j54 (S : zSt) (v2 : Int32) (v3 : Int32) (t0 : Int32) (k23 : (Int32) → (Int32) → Option (Int32)) : Option (Int32) :=
  if t0 = (0 : Int32) then
  (k23 v2 (v3 + (1 : Int32)))
  else
  (ix 12 v3 (if (fX5_isIn v2 ((st_firsts S) v3.toNatClampNeg)) = (0 : Int32) then
  (fX5_fallsWith_j87 S v2 v3 (k23))
  else
  (if (fX5_isIn v2 ((st_seconds S) v3.toNatClampNeg)) = (0 : Int32) then
  (fX5_fallsWith_j87 S v2 v3 (k23))
  else
  (k23 v2 (v3 + (1 : Int32))))))
def fX5_fallsWith_j49 (S : zSt) (v2 : Int32) (v3 : Int32) (k23 : (Int32) → (Int32) → Option (Int32)) : Option (Int32) :=
  fX5_fallsWith_j54 S v2 v3 (1 : Int32) (k23)
def fX5_fallsWith_l23 (S : zSt) : Nat → (Int32) → (Int32) → Option (Int32)
  | 0, _, _ => none
  | n + 1, v2, v3 =>
  if (st_came S) ≤ v3 then
  (some ((st_standing S) &&& (v2 ^^^ (-1 : Int32))))
  else
  (if (st_falls S) = (1 : Int32) then
  (fX5_fallsWith_j49 S v2 v3 (fX5_fallsWith_l23 S n))
  else
  (ix 12 v3 (if ((st_kinds S) v3.toNatClampNeg) = (5 : Int32) then
  (fX5_fallsWith_j49 S v2 v3 (fX5_fallsWith_l23 S n))
  else
  (fX5_fallsWith_j54 S v2 v3 (0 : Int32) (fX5_fallsWith_l23 S n)))))
def fX5_fallsWith (S : zSt) (p1 : Int32) : Option (Int32) :=
  if (fX5_stands S p1) = (0 : Int32) then
  (some (0 : Int32))
  else
  (fX5_fallsWith_l23 S FU ((st_standing S) &&& (((1 : Int32) <<< (p1 &&& 31)) ^^^ (-1 : Int32))) (1 : Int32))
def fX5_fire (S : zSt) (p1 : Int32) : Option (Int32 × zSt) :=
  (fX5_fallsWith S p1).bind fun u1 =>
  some ((fJ6_bitCount_0f7a4 u1), (st_set_standing S ((st_standing S) &&& (u1 ^^^ (-1 : Int32)))))
def fX5_bitOf (S : zSt) (p1 : Int32) : Int32 :=
  if (fX5_stands S p1) = (0 : Int32) then
  ((0 : Int32))
  else
  (((1 : Int32) <<< (p1 &&& 31)))
def fX5_aheadOf (S : zSt) (p1 : Int32) : Option (Int32) :=
  if (fX5_has S p1) = (0 : Int32) then
  (some (0 : Int32))
  else
  (ix 12 p1 (some ((fX5_bitOf S ((st_firsts S) p1.toNatClampNeg)) ||| (fX5_bitOf S ((st_seconds S) p1.toNatClampNeg)))))
def fX5_comesNext_l21 (S : zSt) (v1 : Int32) (v2 : Int32) (k11 : (Int32) → Option (Int32)) : Nat → (Int32) → Option (Int32)
  | 0, _ => none
  | n + 1, v3 =>
  if (st_came S) ≤ v3 then
  (k11 (v2 + (1 : Int32)))
  else
  (ix 12 v2 (ix 12 v3 (if (((st_numbers S) v2.toNatClampNeg) + ((st_numbers S) v3.toNatClampNeg)) = v1 then
  ((fX5_mayBe S v2 v3).bind fun u5 =>
  if u5 = (0 : Int32) then
  (fX5_comesNext_l21 S v1 v2 k11 n (v3 + (1 : Int32)))
  else
  (some (1 : Int32)))
  else
  (fX5_comesNext_l21 S v1 v2 k11 n (v3 + (1 : Int32))))))
def fX5_comesNext_l11 (S : zSt) (v1 : Int32) : Nat → (Int32) → Option (Int32)
  | 0, _ => none
  | n + 1, v2 =>
  if (st_came S) ≤ v2 then
  (some (0 : Int32))
  else
  (fX5_comesNext_l21 S v1 v2 (fX5_comesNext_l11 S v1 n) FU v2)
def fX5_comesNext (S : zSt) (p1 : Int32) : Option (Int32) :=
  if (fX5_hasRoom S) = (0 : Int32) then
  (some (0 : Int32))
  else
  (fX5_comesNext_l11 S p1 FU (0 : Int32))
def fX5_become (S : zSt) (T : zSt) : zSt :=
  (st_set_falls (st_set_sums (st_set_standing (st_set_came (st_set_earned (st_set_uses (st_set_seconds (st_set_firsts (st_set_numbers (st_set_figures (st_set_kinds S (va_cpy (st_kinds T) (st_kinds S) (0 : Int32).toNatClampNeg (0 : Int32).toNatClampNeg (12 : Int32).toNatClampNeg)) (va_cpy (st_figures T) (st_figures S) (0 : Int32).toNatClampNeg (0 : Int32).toNatClampNeg (12 : Int32).toNatClampNeg)) (va_cpy (st_numbers T) (st_numbers S) (0 : Int32).toNatClampNeg (0 : Int32).toNatClampNeg (12 : Int32).toNatClampNeg)) (va_cpy (st_firsts T) (st_firsts S) (0 : Int32).toNatClampNeg (0 : Int32).toNatClampNeg (12 : Int32).toNatClampNeg)) (va_cpy (st_seconds T) (st_seconds S) (0 : Int32).toNatClampNeg (0 : Int32).toNatClampNeg (12 : Int32).toNatClampNeg)) (va_cpy (st_uses T) (st_uses S) (0 : Int32).toNatClampNeg (0 : Int32).toNatClampNeg (12 : Int32).toNatClampNeg)) (va_cpy (st_earned T) (st_earned S) (0 : Int32).toNatClampNeg (0 : Int32).toNatClampNeg (12 : Int32).toNatClampNeg)) (st_came T)) (st_standing T)) (st_sums T)) (st_falls T))
def fX6_howMany_L (S : zLt) : Int32 :=
  (lt_length S)
def fX6_hasRoom_L (S : zLt) : Int32 :=
  if (64 : Int32) ≤ (lt_length S) then
  ((0 : Int32))
  else
  ((1 : Int32))
def fX6_take_L (S : zLt) (p1 : Int32) : Option (Int32 × zLt) :=
  if (fX6_hasRoom_L S) = (0 : Int32) then
  (some ((lt_length S), S))
  else
  (ix 64 (lt_length S) (some (((lt_length S) + (1 : Int32)), (lt_set_length (lt_set_all S (upd (lt_all S) (lt_length S).toNatClampNeg p1)) ((lt_length S) + (1 : Int32))))))
def fX6_forget_L (S : zLt) : zLt :=
  (lt_set_length S (0 : Int32))
def fX6_toldAt_L (S : zLt) (p1 : Int32) : Option (Int32) :=
  if p1 < (0 : Int32) then
  (some (-1 : Int32))
  else
  (if (lt_length S) ≤ p1 then
  (some (-1 : Int32))
  else
  (ix 64 p1 (some ((lt_all S) p1.toNatClampNeg))))
def fX6_howMany_R (S : zRw) : Int32 :=
  (rw_length S)
def fX6_hasRoom_R (S : zRw) : Int32 :=
  if (12 : Int32) ≤ (rw_length S) then
  ((0 : Int32))
  else
  ((1 : Int32))
def fX6_take_R (S : zRw) (p1 : Int32) : Option (Int32 × zRw) :=
  if (fX6_hasRoom_R S) = (0 : Int32) then
  (some ((rw_length S), S))
  else
  (ix 12 (rw_length S) (some (((rw_length S) + (1 : Int32)), (rw_set_length (rw_set_all S (upd (rw_all S) (rw_length S).toNatClampNeg p1)) ((rw_length S) + (1 : Int32))))))
def fX6_forget_R (S : zRw) : zRw :=
  (rw_set_length S (0 : Int32))
def fX6_toldAt_R (S : zRw) (p1 : Int32) : Option (Int32) :=
  if p1 < (0 : Int32) then
  (some (-1 : Int32))
  else
  (if (rw_length S) ≤ p1 then
  (some (-1 : Int32))
  else
  (ix 12 p1 (some ((rw_all S) p1.toNatClampNeg))))
def fX0_isSum_l12 (S : (Nat → Int32)) (v2 : Int32) : Nat → (Int32) → (Int32) → Option (Int32)
  | 0, _, _ => none
  | n + 1, v3, v4 =>
  if v4 < v3 then
  (some (0 : Int32))
  else
  (ix 12 v3 (ix 12 v4 (if ((S v3.toNatClampNeg) + (S v4.toNatClampNeg)) = v2 then
  (some (1 : Int32))
  else
  (if v2 ≤ ((S v3.toNatClampNeg) + (S v4.toNatClampNeg)) then
  (fX0_isSum_l12 S v2 n v3 (v4 + (-1 : Int32)))
  else
  (fX0_isSum_l12 S v2 n (v3 + (1 : Int32)) v4)))))
def fX0_isSum (S : (Nat → Int32)) (p1 : Int32) (p2 : Int32) : Option (Int32) :=
  fX0_isSum_l12 S p2 FU (0 : Int32) ((if (12 : Int32) < p1 then (12 : Int32) else p1) - (1 : Int32))
def fX0_leastUseful (p0 : Int32) (p1 : Int32) (p2 : Int32) : Int32 :=
  (if (p0 + (1 : Int32)) < (((p2 + ((1 : Int32) <<< (p1 &&& 31))) - (1 : Int32)) >>> (p1 &&& 31)) then (((p2 + ((1 : Int32) <<< (p1 &&& 31))) - (1 : Int32)) >>> (p1 &&& 31)) else (p0 + (1 : Int32)))
def fX0_reaches_l77 (rf : ((Nat → Int32)) → Int32 → Int32 → Int32 → Int32 → Option (Int32 × (Nat → Int32))) (v1 : Int32) (v2 : Int32) (v3 : Int32) (v4 : Int32) (v6 : Int32) : Nat → (Int32) → ((Nat → Int32)) → Option (Int32 × (Nat → Int32))
  | 0, _, _ => none
  | n + 1, v7, S =>
  if v6 < v7 then
  (some ((0 : Int32), S))
  else
  ((fX0_isSum S v1 v7).bind fun u2 =>
  if u2 = (0 : Int32) then
  (fX0_reaches_l77 rf v1 v2 v3 v4 v6 n (v7 + (1 : Int32)) S)
  else
  (ix 12 v1 ((rf (upd S v1.toNatClampNeg v7) (v1 + (1 : Int32)) v2 v3 v4).bind fun u5 =>
  if u5.1 = (0 : Int32) then
  (fX0_reaches_l77 rf v1 v2 v3 v4 v6 n (v7 + (1 : Int32)) u5.2)
  else
  (some ((1 : Int32), u5.2)))))
def fX0_reaches_j58 (rf : ((Nat → Int32)) → Int32 → Int32 → Int32 → Int32 → Option (Int32 × (Nat → Int32))) (v1 : Int32) (v2 : Int32) (v3 : Int32) (v4 : Int32) (v5 : Int32) (t0 : Int32) (t1 : Int32) (S : (Nat → Int32)) : Option (Int32 × (Nat → Int32)) :=
  fX0_reaches_l77 rf v1 v2 v3 v4 (if t1 < t0 then t1 else t0) FU (fX0_leastUseful v5 ((v2 - v1) - (1 : Int32)) v4) S
def fX0_reaches_e (rf : ((Nat → Int32)) → Int32 → Int32 → Int32 → Int32 → Option (Int32 × (Nat → Int32))) (S : (Nat → Int32)) (p1 : Int32) (p2 : Int32) (p3 : Int32) (p4 : Int32) : Option (Int32 × (Nat → Int32)) :=
  if p1 < (1 : Int32) then
  (some ((0 : Int32), S))
  else
  (if p1 ≤ (12 : Int32) then
  (ix 12 (p1 - (1 : Int32)) (if (S (p1 - (1 : Int32)).toNatClampNeg) = p4 then
  (some ((1 : Int32), S))
  else
  (if p2 ≤ p1 then
  (some ((0 : Int32), S))
  else
  (if p1 < (12 : Int32) then
  (if p3 ≤ (S (p1 - (1 : Int32)).toNatClampNeg) then
  (fX0_reaches_j58 rf p1 p2 p3 p4 (S (p1 - (1 : Int32)).toNatClampNeg) ((2 : Int32) * (S (p1 - (1 : Int32)).toNatClampNeg)) p4 S)
  else
  (fX0_reaches_j58 rf p1 p2 p3 p4 (S (p1 - (1 : Int32)).toNatClampNeg) ((2 : Int32) * (S (p1 - (1 : Int32)).toNatClampNeg)) p3 S))
  else
  (some ((0 : Int32), S))))))
  else
  (some ((0 : Int32), S)))
def fX0_reaches : Nat → ((Nat → Int32)) → Int32 → Int32 → Int32 → Int32 → Option (Int32 × (Nat → Int32))
  | 0 => fun _ _ _ _ _ => none
  | d + 1 => fX0_reaches_e (fX0_reaches d)
def fX0_shortest_l2 (v1 : Int32) (v2 : Int32) : Nat → (Int32) → (zCh) → Option (Int32 × zCh)
  | 0, _, _ => none
  | n + 1, v3, S =>
  if (12 : Int32) < v3 then
  (some ((0 : Int32), S))
  else
  ((fX0_reaches 14 (ch_numbers S) (1 : Int32) v3 v1 v2).bind fun u2 =>
  if u2.1 = (0 : Int32) then
  (fX0_shortest_l2 v1 v2 n (v3 + (1 : Int32)) (ch_set_numbers S u2.2))
  else
  (some (v3, (ch_set_numbers S u2.2))))
def fX0_shortest (S : zCh) (p1 : Int32) (p2 : Int32) : Option (Int32 × zCh) :=
  fX0_shortest_l2 p1 p2 FU (1 : Int32) S
def fX0_numberAt (S : zCh) (p1 : Int32) : Option (Int32) :=
  if p1 < (0 : Int32) then
  (some (-9 : Int32))
  else
  (if (12 : Int32) ≤ p1 then
  (some (-9 : Int32))
  else
  (ix 12 p1 (some ((ch_numbers S) p1.toNatClampNeg))))
def fX0_reached_l45 (rf : ((Nat → Int32)) → Int32 → Int32 → Option (Int64 × (Nat → Int32))) (v1 : Int32) (v2 : Int32) (v3 : Int32) : Nat → (Int64) → (Int32) → ((Nat → Int32)) → Option (Int64 × (Nat → Int32))
  | 0, _, _, _ => none
  | n + 1, v4, v6, S =>
  if ((2 : Int32) * v3) < v6 then
  (some (v4, S))
  else
  ((fX0_isSum S v1 v6).bind fun u2 =>
  if u2 = (0 : Int32) then
  (fX0_reached_l45 rf v1 v2 v3 n v4 (v6 + (1 : Int32)) S)
  else
  (ix 12 v1 ((rf (upd S v1.toNatClampNeg v6) (v1 + (1 : Int32)) v2).bind fun u5 =>
  fX0_reached_l45 rf v1 v2 v3 n (v4 ||| u5.1) (v6 + (1 : Int32)) u5.2)))
def fX0_reached_e (rf : ((Nat → Int32)) → Int32 → Int32 → Option (Int64 × (Nat → Int32))) (S : (Nat → Int32)) (p1 : Int32) (p2 : Int32) : Option (Int64 × (Nat → Int32)) :=
  if p1 < (1 : Int32) then
  (some ((0 : Int64), S))
  else
  (if p1 ≤ (12 : Int32) then
  (ix 12 (p1 - (1 : Int32)) (if p2 ≤ p1 then
  (some (((1 : Int64) <<< (((S (p1 - (1 : Int32)).toNatClampNeg) - (1 : Int32)).toInt64 &&& 63)), S))
  else
  (if p1 < (12 : Int32) then
  (fX0_reached_l45 rf p1 p2 (S (p1 - (1 : Int32)).toNatClampNeg) FU ((1 : Int64) <<< (((S (p1 - (1 : Int32)).toNatClampNeg) - (1 : Int32)).toInt64 &&& 63)) ((S (p1 - (1 : Int32)).toNatClampNeg) + (1 : Int32)) S)
  else
  (some (((1 : Int64) <<< (((S (p1 - (1 : Int32)).toNatClampNeg) - (1 : Int32)).toInt64 &&& 63)), S)))))
  else
  (some ((0 : Int64), S)))
def fX0_reached : Nat → ((Nat → Int32)) → Int32 → Int32 → Option (Int64 × (Nat → Int32))
  | 0 => fun _ _ _ => none
  | d + 1 => fX0_reached_e (fX0_reached d)
def fX0_reachable (S : zCh) (p1 : Int32) : Option (Int64 × zCh) :=
  (fX0_reached 14 (ch_numbers S) (1 : Int32) (if (7 : Int32) < p1 then (7 : Int32) else p1)).bind fun u1 =>
  some (u1.1, (ch_set_numbers S u1.2))
def fX0_byHalves (p0 : Int32) : Int32 :=
  if (1 : Int32) ≤ p0 then
  ((((31 : Int32) - (fJ6_numberOfLeadingZeros_0f7a4 p0)) + (fJ6_bitCount_0f7a4 p0)))
  else
  ((0 : Int32))
def fX0_leastFactor_l2 (v0 : Int32) : Nat → (Int32) → Option (Int32)
  | 0, _ => none
  | n + 1, v1 =>
  if v0 < (v1 * v1) then
  (some v0)
  else
  (if v1 = 0 then none else if (v0 - v0 / v1 * v1) = (0 : Int32) then
  (some v1)
  else
  (fX0_leastFactor_l2 v0 n (v1 + (1 : Int32))))
def fX0_leastFactor (p0 : Int32) : Option (Int32) :=
  fX0_leastFactor_l2 p0 FU (2 : Int32)
def fX0_splitDown_e (rf : Int32 → Int32 → Option (Int32)) (p0 : Int32) (p1 : Int32) : Option (Int32) :=
  if p0 ≤ (1 : Int32) then
  (some (1 : Int32))
  else
  (if p1 ≤ (40 : Int32) then
  ((fX0_leastFactor p0).bind fun u3 =>
  if u3 = p0 then
  ((rf (p0 - (1 : Int32)) (p1 + (1 : Int32))).bind fun u8 =>
  some (u8 + (1 : Int32)))
  else
  ((rf u3 (p1 + (1 : Int32))).bind fun u5 =>
  if u3 = 0 then none else (rf (p0 / u3) (p1 + (1 : Int32))).bind fun u7 =>
  some ((u5 + u7) - (1 : Int32))))
  else
  (some (1 : Int32)))
def fX0_splitDown : Nat → Int32 → Int32 → Option (Int32)
  | 0 => fun _ _ => none
  | d + 1 => fX0_splitDown_e (fX0_splitDown d)
def fX0_byFactors (p0 : Int32) : Option (Int32) :=
  (fX0_splitDown 44 p0 (0 : Int32)).bind fun u1 =>
  some u1
def fX1_sumsOf_l4 (v0 : Int32) (v1 : Int32) : Nat → (Int32) → (Int32) → Option (Int32)
  | 0, _, _ => none
  | n + 1, v2, v3 =>
  if v1 ≤ v3 then
  (some v2)
  else
  (if ((v0 >>> (v3 &&& 31)) &&& (1 : Int32)) = (1 : Int32) then
  (fX1_sumsOf_l4 v0 v1 n (v2 ||| (v0 <<< (v3 &&& 31))) (v3 + (1 : Int32)))
  else
  (fX1_sumsOf_l4 v0 v1 n v2 (v3 + (1 : Int32))))
def fX1_sumsOf (p0 : Int32) (p1 : Int32) : Option (Int32) :=
  fX1_sumsOf_l4 p0 p1 FU (0 : Int32) (1 : Int32)
def fX1_isWon_l24 (S : zGm) (v1 : Int32) (v2 : Int32) (v3 : Int32) : Nat → (Int32) → Option (Int32)
  | 0, _ => none
  | n + 1, v4 =>
  if v2 ≤ v4 then
  (some (0 : Int32))
  else
  (if ((v3 >>> (v4 &&& 31)) &&& (1 : Int32)) = (1 : Int32) then
  (if (1024 : Int32) ≤ ((v1 ||| ((1 : Int32) <<< (v4 &&& 31))) >>> ((2 : Int32) &&& 31)) then
  (fX1_isWon_l24 S v1 v2 v3 n (v4 + (1 : Int32)))
  else
  (ix 1024 ((v1 ||| ((1 : Int32) <<< (v4 &&& 31))) >>> ((2 : Int32) &&& 31)) (if ((gm_wins S) ((v1 ||| ((1 : Int32) <<< (v4 &&& 31))) >>> ((2 : Int32) &&& 31)).toNatClampNeg) = (0 : Int32) then
  (some (1 : Int32))
  else
  (fX1_isWon_l24 S v1 v2 v3 n (v4 + (1 : Int32))))))
  else
  (fX1_isWon_l24 S v1 v2 v3 n (v4 + (1 : Int32))))
def fX1_isWon (S : zGm) (p1 : Int32) (p2 : Int32) : Option (Int32) :=
  (fX1_sumsOf p1 p2).bind fun u6 =>
  if (((u6 &&& (p1 ^^^ (-1 : Int32))) >>> (p2 &&& 31)) &&& (1 : Int32)) = (1 : Int32) then
  (some (1 : Int32))
  else
  (fX1_isWon_l24 S p1 p2 (u6 &&& (p1 ^^^ (-1 : Int32))) FU (2 : Int32))
def fX1_isWonByFirst_l21 (v1 : Int32) : Nat → (Int32) → (zGm) → Option (Int32 × zGm)
  | 0, _, _ => none
  | n + 1, v2, S =>
  if v2 < (0 : Int32) then
  (ix 1024 (0 : Int32) (if ((gm_wins S) (0 : Int32).toNatClampNeg) &&& 1 = ((gm_wins S) (0 : Int32).toNatClampNeg) then some (((gm_wins S) (0 : Int32).toNatClampNeg), S) else none))
  else
  ((fX1_isWon S ((v2 <<< ((2 : Int32) &&& 31)) ||| (2 : Int32)) v1).bind fun u4 =>
  ix 1024 v2 (fX1_isWonByFirst_l21 v1 n (v2 + (-1 : Int32)) (gm_set_wins S (upd (gm_wins S) v2.toNatClampNeg (u4 &&& 1)))))
def fX1_isWonByFirst (S : zGm) (p1 : Int32) : Option (Int32 × zGm) :=
  if p1 < (2 : Int32) then
  (some ((0 : Int32), S))
  else
  (if p1 ≤ (12 : Int32) then
  (fX1_isWonByFirst_l21 p1 FU (((1 : Int32) <<< ((p1 - (2 : Int32)) &&& 31)) - (1 : Int32)) S)
  else
  (some ((0 : Int32), S)))
def fX3_letNextCome_j46 (T : zSt) (v2 : Int32) (v4 : Int32) (v5 : Int32) (t0 : Int32) (S : zOr) (k10 : (Int32) → (zOr) → Option (zOr)) : Option (zOr) :=
  if t0 = (0 : Int32) then
  (k10 (v5 + (1 : Int32)) S)
  else
  (if (4096 : Int32) ≤ (v2 ||| ((1 : Int32) <<< (v5 &&& 31))) then
  (k10 (v5 + (1 : Int32)) S)
  else
  (ix 4096 (v2 ||| ((1 : Int32) <<< (v5 &&& 31))) (ix 4096 v2 (k10 (v5 + (1 : Int32)) (or_set_ways S (upd (or_ways S) (v2 ||| ((1 : Int32) <<< (v5 &&& 31))).toNatClampNeg (((or_ways S) (v2 ||| ((1 : Int32) <<< (v5 &&& 31))).toNatClampNeg) + ((or_ways S) v2.toNatClampNeg))))))))
def fX3_letNextCome_j45 (T : zSt) (v2 : Int32) (v4 : Int32) (v5 : Int32) (S : zOr) (k10 : (Int32) → (zOr) → Option (zOr)) : Option (zOr) :=
  fX3_letNextCome_j46 T v2 v4 v5 (0 : Int32) S (k10)
def fX3_letNextCome_l10 (T : zSt) (v2 : Int32) (v4 : Int32) : Nat → (Int32) → (zOr) → Option (zOr)
  | 0, _, _ => none
  | n + 1, v5, S =>
  if (12 : Int32) ≤ v5 then
  (some S)
  else
  (if ((v4 >>> (v5 &&& 31)) &&& (1 : Int32)) = (1 : Int32) then
  ((fX5_aheadOf T v5).bind fun u7 =>
  if (u7 &&& (v2 ^^^ (-1 : Int32))) = (0 : Int32) then
  (fX3_letNextCome_j46 T v2 v4 v5 (1 : Int32) S (fX3_letNextCome_l10 T v2 v4 n))
  else
  (fX3_letNextCome_j45 T v2 v4 v5 S (fX3_letNextCome_l10 T v2 v4 n)))
  else
  (fX3_letNextCome_j45 T v2 v4 v5 S (fX3_letNextCome_l10 T v2 v4 n)))
def fX3_letNextCome (S : zOr) (T : zSt) (p2 : Int32) (p3 : Int32) : Option (zOr) :=
  fX3_letNextCome_l10 T p2 (p3 &&& (p2 ^^^ (-1 : Int32))) FU (0 : Int32) S
def fX3_of_l42 (T : zSt) (v2 : Int32) : Nat → (Int32) → (zOr) → Option (Int32 × zOr)
  | 0, _, _ => none
  | n + 1, v3, S =>
  if v2 ≤ v3 then
  (ix 4096 v2 (some (((or_ways S) v2.toNatClampNeg), S)))
  else
  (ix 4096 v3 (if ((or_ways S) v3.toNatClampNeg) ≤ (0 : Int32) then
  (fX3_of_l42 T v2 n (v3 + (1 : Int32)) S)
  else
  ((fX3_letNextCome S T v3 v2).bind fun u5 =>
  fX3_of_l42 T v2 n (v3 + (1 : Int32)) u5)))
def fX3_of_l15 (T : zSt) (v2 : Int32) : Nat → (Int32) → (zOr) → Option (Int32 × zOr)
  | 0, _, _ => none
  | n + 1, v3, S =>
  if v2 < v3 then
  (ix 4096 (0 : Int32) (fX3_of_l42 T v2 FU (0 : Int32) (or_set_ways S (upd (or_ways S) (0 : Int32).toNatClampNeg (1 : Int32)))))
  else
  (ix 4096 v3 (fX3_of_l15 T v2 n (v3 + (1 : Int32)) (or_set_ways S (upd (or_ways S) v3.toNatClampNeg (0 : Int32)))))
def fX3_of (S : zOr) (T : zSt) : Option (Int32 × zOr) :=
  fX3_of_l15 T ((fX5_standingBits T) &&& ((4096 : Int32) - (1 : Int32))) FU (0 : Int32) S
def fX4_isNew_l2 (S : zRw) (v1 : Int32) : Nat → (Int32) → Option (Int32)
  | 0, _ => none
  | n + 1, v2 =>
  if v1 ≤ v2 then
  (some (1 : Int32))
  else
  ((fX6_toldAt_R S v2).bind fun u2 =>
  (fX6_toldAt_R S v1).bind fun u3 =>
  if u2 = u3 then
  (some (0 : Int32))
  else
  (fX4_isNew_l2 S v1 n (v2 + (1 : Int32))))
def fX4_isNew (S : zRw) (p1 : Int32) : Option (Int32) :=
  fX4_isNew_l2 S p1 FU (0 : Int32)
def fX4_isSum_l9 (S : zRw) (v1 : Int32) (v2 : Int32) (k2 : (Int32) → Option (Int32)) : Nat → (Int32) → Option (Int32)
  | 0, _ => none
  | n + 1, v3 =>
  if v1 ≤ v3 then
  (k2 (v2 + (1 : Int32)))
  else
  ((fX6_toldAt_R S v2).bind fun u2 =>
  (fX6_toldAt_R S v3).bind fun u3 =>
  (fX6_toldAt_R S v1).bind fun u4 =>
  if (u2 + u3) = u4 then
  (some (1 : Int32))
  else
  (fX4_isSum_l9 S v1 v2 k2 n (v3 + (1 : Int32))))
def fX4_isSum_l2 (S : zRw) (v1 : Int32) : Nat → (Int32) → Option (Int32)
  | 0, _ => none
  | n + 1, v2 =>
  if v1 ≤ v2 then
  (some (0 : Int32))
  else
  (fX4_isSum_l9 S v1 v2 (fX4_isSum_l2 S v1 n) FU v2)
def fX4_isSum (S : zRw) (p1 : Int32) : Option (Int32) :=
  fX4_isSum_l2 S p1 FU (0 : Int32)
def fX4_firstWrong_j52 (S : zRw) (v1 : Int32) (t0 : Int32) (k2 : (Int32) → Option (Int32)) : Option (Int32) :=
  if t0 = (0 : Int32) then
  (some v1)
  else
  (k2 (v1 + (1 : Int32)))
def fX4_firstWrong_j51 (S : zRw) (v1 : Int32) (k2 : (Int32) → Option (Int32)) : Option (Int32) :=
  fX4_firstWrong_j52 S v1 (0 : Int32) (k2)
def fX4_firstWrong_l2 (S : zRw) : Nat → (Int32) → Option (Int32)
  | 0, _ => none
  | n + 1, v1 =>
  if (fX6_howMany_R S) ≤ v1 then
  (some (-9 : Int32))
  else
  (if v1 = (0 : Int32) then
  ((fX6_toldAt_R S (0 : Int32)).bind fun u9 =>
  if u9 = (1 : Int32) then
  (fX4_firstWrong_j52 S v1 (1 : Int32) (fX4_firstWrong_l2 S n))
  else
  (fX4_firstWrong_j52 S v1 (0 : Int32) (fX4_firstWrong_l2 S n)))
  else
  ((fX4_isNew S v1).bind fun u5 =>
  if u5 = (0 : Int32) then
  (fX4_firstWrong_j51 S v1 (fX4_firstWrong_l2 S n))
  else
  ((fX4_isSum S v1).bind fun u7 =>
  if u7 = (0 : Int32) then
  (fX4_firstWrong_j51 S v1 (fX4_firstWrong_l2 S n))
  else
  (fX4_firstWrong_j52 S v1 (1 : Int32) (fX4_firstWrong_l2 S n)))))
def fX4_firstWrong (S : zRw) : Option (Int32) :=
  fX4_firstWrong_l2 S FU (0 : Int32)
def zLenI (k : Nat) : Int32 := Int32.ofNat (zLen.getD k 0)
def zIsE (k : Nat) : Int32 := if zLenI k = 0 then 1 else 0
def zChr (k : Nat) (i : Int32) : Int32 := (((zByt.getD k []).getD i.toNatClampNeg 0 &&& 255).toUInt32 % 65536).toInt32
def fX2_statementCount (S : zLt) : Int32 :=
  (lt_statements S)
def fX2_isDigit (p0 : Int32) : Int32 :=
  if p0 < (48 : Int32) then
  ((0 : Int32))
  else
  (if (57 : Int32) < p0 then
  ((0 : Int32))
  else
  ((1 : Int32)))
def fX2_readFigure_j88 (v3 : Int32) (S : zLt) : Option (Int32 × zLt) :=
  if v3 ≤ (0 : Int32) then
  (some ((0 : Int32), S))
  else
  (some ((1 : Int32), S))
def fX2_readFigure_j56 (v2 : Int32) (v3 : Int32) (S : zLt) : Option (Int32 × zLt) :=
  if (4 : Int32) ≤ (lt_figureCount S) then
  (fX2_readFigure_j88 v3 S)
  else
  (ix 4 (lt_figureCount S) (fX2_readFigure_j88 v3 (lt_set_figureCount (lt_set_figures S (upd (lt_figures S) (lt_figureCount S).toNatClampNeg v2)) ((lt_figureCount S) + (1 : Int32)))))
def fX2_readFigure_l4 (v1 : Int32) : Nat → (Int32) → (Int32) → (zLt) → Option (Int32 × zLt)
  | 0, _, _, _ => none
  | n + 1, v2, v3, S =>
  if v1 ≤ v3 then
  (fX2_readFigure_j56 v2 v3 S)
  else
  ((fX6_toldAt_L S (lt_at S)).bind fun u5 =>
  if (fX2_isDigit u5) = (0 : Int32) then
  (fX2_readFigure_j56 v2 v3 S)
  else
  ((fX6_toldAt_L S (lt_at S)).bind fun u8 =>
  fX2_readFigure_l4 v1 n (((v2 * (10 : Int32)) + u8) - (48 : Int32)) (v3 + (1 : Int32)) (lt_set_at S ((lt_at S) + (1 : Int32)))))
def fX2_readFigure (S : zLt) (p1 : Int32) : Option (Int32 × zLt) :=
  fX2_readFigure_l4 p1 FU (0 : Int32) (0 : Int32) S
def fX2_readPart (S : zLt) (p1 : Int32) : Option (Int32 × zLt) :=
  if p1 = (104 : Int32) then
  ((fX2_readFigure S (2 : Int32)).bind fun u7 =>
  if u7.1 &&& 1 = u7.1 then some (u7.1, u7.2) else none)
  else
  (if p1 = (100 : Int32) then
  ((fX2_readFigure S (1 : Int32)).bind fun u5 =>
  if u5.1 &&& 1 = u5.1 then some (u5.1, u5.2) else none)
  else
  ((fX6_toldAt_L S (lt_at S)).bind fun u3 =>
  if u3 = p1 then
  (some ((1 : Int32), (lt_set_at S ((lt_at S) + (1 : Int32)))))
  else
  (some ((0 : Int32), S))))
def fX2_formOf (p0 : Int32) : Nat :=
  if p0 = (97 : Int32) then
  ((0 : Nat))
  else
  (if p0 = (98 : Int32) then
  ((1 : Nat))
  else
  (if p0 = (108 : Int32) then
  ((2 : Nat))
  else
  (if p0 = (110 : Int32) then
  ((3 : Nat))
  else
  ((4 : Nat)))))
def fX2_readStatement_l46 (v1 : Nat) : Nat → (Int32) → (zLt) → Option (Int32 × zLt)
  | 0, _, _ => none
  | n + 1, v2, S =>
  if v1 < 5 then if (zLenI v1) ≤ v2 then
  (some ((1 : Int32), S))
  else
  (if v1 < 5 then if v2 < 0 ∨ zLenI v1 ≤ v2 then none else (fX2_readPart S (zChr v1 v2)).bind fun u5 =>
  if u5.1 = (0 : Int32) then
  (some ((0 : Int32), u5.2))
  else
  (fX2_readStatement_l46 v1 n (v2 + (1 : Int32)) u5.2) else none) else none
def fX2_readStatement (S : zLt) : Option (Int32 × zLt) :=
  (fX6_toldAt_L S (lt_at S)).bind fun u7 =>
  if (fX2_formOf u7) < 5 then if (zIsE (fX2_formOf u7)) = (0 : Int32) then
  (fX2_readStatement_l46 (fX2_formOf u7) FU (0 : Int32) (lt_set_figureCount (lt_set_verb (lt_set_at S ((lt_at S) + (1 : Int32))) u7) (0 : Int32)))
  else
  (some ((0 : Int32), (lt_set_figureCount (lt_set_verb S u7) (0 : Int32)))) else none
def fX2_comesTo (S : zLt) (T : zSt) : Option (Int32 × zSt) :=
  if (lt_verb S) = (97 : Int32) then
  (ix 4 (0 : Int32) (ix 4 (1 : Int32) (ix 4 (2 : Int32) (ix 4 (3 : Int32) ((fX5_build T ((lt_figures S) (0 : Int32).toNatClampNeg) ((lt_figures S) (1 : Int32).toNatClampNeg) ((lt_figures S) (2 : Int32).toNatClampNeg) ((lt_figures S) (3 : Int32).toNatClampNeg)).bind fun u6 =>
  if u6.1 &&& 1 = u6.1 then some (u6.1, u6.2) else none)))))
  else
  (if (lt_verb S) = (98 : Int32) then
  (ix 4 (0 : Int32) ((fX5_fire T ((lt_figures S) (0 : Int32).toNatClampNeg)).bind fun u9 =>
  if u9.1 ≤ (0 : Int32) then
  (some ((0 : Int32), u9.2))
  else
  (some ((1 : Int32), u9.2))))
  else
  (if (lt_verb S) = (108 : Int32) then
  (ix 4 (0 : Int32) (ix 4 (1 : Int32) (if (fX5_changeLaws T ((lt_figures S) (0 : Int32).toNatClampNeg) ((lt_figures S) (1 : Int32).toNatClampNeg)).1 &&& 1 = (fX5_changeLaws T ((lt_figures S) (0 : Int32).toNatClampNeg) ((lt_figures S) (1 : Int32).toNatClampNeg)).1 then some ((fX5_changeLaws T ((lt_figures S) (0 : Int32).toNatClampNeg) ((lt_figures S) (1 : Int32).toNatClampNeg)).1, (fX5_changeLaws T ((lt_figures S) (0 : Int32).toNatClampNeg) ((lt_figures S) (1 : Int32).toNatClampNeg)).2) else none)))
  else
  ((fX5_beginAnew T).bind fun u15 =>
  some ((1 : Int32), u15))))
def fX2_faultOfForm_j33 (v1 : Int32) (S : zLt) (k12 : (Int32) → (zLt) → Option (Int32 × zLt)) : Option (Int32 × zLt) :=
  (fX2_readStatement S).bind fun u1 =>
  if u1.1 = (0 : Int32) then
  (some (((-1000 : Int32) - (lt_at u1.2)), u1.2))
  else
  (k12 (v1 + (1 : Int32)) (lt_set_statements u1.2 ((lt_statements u1.2) + (1 : Int32))))
def fX2_faultOfForm_l12  : Nat → (Int32) → (zLt) → Option (Int32 × zLt)
  | 0, _, _ => none
  | n + 1, v1, S =>
  if (64 : Int32) ≤ v1 then
  (some ((0 : Int32), S))
  else
  (if v1 = (0 : Int32) then
  (fX2_faultOfForm_j33 v1 S (fX2_faultOfForm_l12  n))
  else
  (if (fX6_howMany_L S) ≤ (lt_at S) then
  (some ((0 : Int32), S))
  else
  (fX2_faultOfForm_j33 v1 S (fX2_faultOfForm_l12  n))))
def fX2_faultOfForm (S : zLt) : Option (Int32 × zLt) :=
  fX2_faultOfForm_l12 FU (0 : Int32) (lt_set_statements (lt_set_at S (0 : Int32)) (0 : Int32))
def fX2_faultOfSense_l7  : Nat → (Int32) → (zLt) → (zSt) → Option (Int32 × zLt × zSt)
  | 0, _, _, _ => none
  | n + 1, v2, S, T =>
  if (lt_statements S) ≤ v2 then
  (some ((0 : Int32), S, T))
  else
  ((fX2_readStatement S).bind fun u2 =>
  if u2.1 = (0 : Int32) then
  (some (((-2000 : Int32) - (lt_at S)), u2.2, T))
  else
  ((fX2_comesTo u2.2 T).bind fun u4 =>
  if u4.1 = (0 : Int32) then
  (some (((-2000 : Int32) - (lt_at S)), u2.2, u4.2))
  else
  (fX2_faultOfSense_l7  n (v2 + (1 : Int32)) u2.2 u4.2)))
def fX2_faultOfSense (S : zLt) (T : zSt) : Option (Int32 × zLt × zSt) :=
  fX2_faultOfSense_l7 FU (0 : Int32) (lt_set_at S (0 : Int32)) T
def fX8_isIn (p0 : Int32) (p1 : Int32) (p2 : Int32) : Int32 :=
  if p0 < p1 then
  ((0 : Int32))
  else
  (if p2 < p0 then
  ((0 : Int32))
  else
  ((1 : Int32)))
def fX8_bound (p0 : Int32) (p1 : Int32) (p2 : Int32) : Int32 :=
  if p1 ≤ p0 then
  (if p0 ≤ p2 then
  ((0 : Int32))
  else
  ((-6 : Int32)))
  else
  ((-4 : Int32))
def fX8_has (p0 : Int32) (p1 : Int32) : Int32 :=
  if ((p0 >>> (p1 &&& 31)) &&& (1 : Int32)) = (1 : Int32) then
  ((1 : Int32))
  else
  ((0 : Int32))
def fX8_bits_l4 (v0 : Int32) : Nat → (Int32) → (Int32) → Option (Int32)
  | 0, _, _ => none
  | n + 1, v1, v2 =>
  if (31 : Int32) ≤ v2 then
  (some v1)
  else
  (fX8_bits_l4 v0 n (v1 + ((v0 >>> (v2 &&& 31)) &&& (1 : Int32))) (v2 + (1 : Int32)))
def fX8_bits (p0 : Int32) : Option (Int32) :=
  fX8_bits_l4 p0 FU (0 : Int32) (0 : Int32)
def fX8_halves_l4  : Nat → (Int32) → (Int32) → Option (Int32)
  | 0, _, _ => none
  | n + 1, v1, v2 =>
  if v2 ≤ (1 : Int32) then
  (some (v1 + (1 : Int32)))
  else
  (fX8_halves_l4  n (v1 + ((1 : Int32) + (v2 - v2 / (2 : Int32) * (2 : Int32)))) (v2 / (2 : Int32)))
def fX8_halves (p0 : Int32) : Option (Int32) :=
  fX8_halves_l4 FU (0 : Int32) p0
def fX8_leastFactor_l2 (v0 : Int32) : Nat → (Int32) → Option (Int32)
  | 0, _ => none
  | n + 1, v1 =>
  if v1 = 0 then none else if (v0 - v0 / v1 * v1) = (0 : Int32) then
  (some v1)
  else
  (fX8_leastFactor_l2 v0 n (v1 + (1 : Int32)))
def fX8_leastFactor (p0 : Int32) : Option (Int32) :=
  fX8_leastFactor_l2 p0 FU (2 : Int32)
def fX8_no (S : zMd) (p1 : Int32) : Option (Int32 × zMd) :=
  ix 7 (-p1) (some (p1, (md_set_refused S (upd (md_refused S) (-p1).toNatClampNeg (((md_refused S) (-p1).toNatClampNeg) + (1 : Int32))))))
def fX8_isMore (S : zMd) (p1 : Int32) (p2 : Int32) (p3 : Int32) (p4 : Int32) (p5 : Int32) : Option (zMd) :=
  ix 12 (md_houses S) (some (md_set_houses (md_set_earned (md_set_uses (md_set_stands (md_set_other (md_set_one (md_set_figure (md_set_kind (md_set_number S (upd (md_number S) (md_houses S).toNatClampNeg p1)) (upd (md_kind S) (md_houses S).toNatClampNeg p2)) (upd (md_figure S) (md_houses S).toNatClampNeg p3)) (upd (md_one S) (md_houses S).toNatClampNeg p4)) (upd (md_other S) (md_houses S).toNatClampNeg p5)) (upd (md_stands S) (md_houses S).toNatClampNeg (1 : Int32))) (upd (md_uses S) (md_houses S).toNatClampNeg (0 : Int32))) (upd (md_earned S) (md_houses S).toNatClampNeg (0 : Int32))) ((md_houses S) + (1 : Int32))))
def fX8_beginsAnew (S : zMd) : Option (zMd) :=
  (fX8_isMore (md_set_houses S (0 : Int32)) (1 : Int32) (0 : Int32) (0 : Int32) (-4 : Int32) (-4 : Int32)).bind fun u1 =>
  some u1
def fX8_isHouse (S : zMd) (p1 : Int32) : Option (Int32) :=
  if (fX8_isIn p1 (0 : Int32) ((md_houses S) - (1 : Int32))) &&& 1 = (fX8_isIn p1 (0 : Int32) ((md_houses S) - (1 : Int32))) then some (fX8_isIn p1 (0 : Int32) ((md_houses S) - (1 : Int32))) else none
def fX8_doesStand (S : zMd) (p1 : Int32) : Option (Int32) :=
  (fX8_isHouse S p1).bind fun u1 =>
  if u1 = (0 : Int32) then
  (some (0 : Int32))
  else
  (ix 12 p1 (if ((md_stands S) p1.toNatClampNeg) = (1 : Int32) then
  (some (1 : Int32))
  else
  (some (0 : Int32))))
def fX8_standing_l4 (S : zMd) : Nat → (Int32) → (Int32) → Option (Int32)
  | 0, _, _ => none
  | n + 1, v1, v2 =>
  if (md_houses S) ≤ v2 then
  (some v1)
  else
  (ix 12 v2 (fX8_standing_l4 S n (v1 ||| (((md_stands S) v2.toNatClampNeg) <<< (v2 &&& 31))) (v2 + (1 : Int32))))
def fX8_standing (S : zMd) : Option (Int32) :=
  fX8_standing_l4 S FU (0 : Int32) (0 : Int32)
def fX8_lends (S : zMd) (p1 : Int32) (p2 : Int32) : Option (Int32) :=
  ix 12 p1 (if ((md_kind S) p1.toNatClampNeg) = (1 : Int32) then
  (if ((md_uses S) p1.toNatClampNeg) = (0 : Int32) then
  (some (1 : Int32))
  else
  (some (0 : Int32)))
  else
  (if ((md_kind S) p1.toNatClampNeg) = (2 : Int32) then
  (some (1 : Int32))
  else
  (if ((md_kind S) p1.toNatClampNeg) = (3 : Int32) then
  (if (p2 - p2 / (2 : Int32) * (2 : Int32)) = (0 : Int32) then
  (some (1 : Int32))
  else
  (some (0 : Int32)))
  else
  (if ((md_kind S) p1.toNatClampNeg) = (4 : Int32) then
  (some (0 : Int32))
  else
  (some (1 : Int32))))))
def fX8_fee (S : zMd) (p1 : Int32) : Option (Int32) :=
  ix 12 p1 (if ((md_kind S) p1.toNatClampNeg) = (2 : Int32) then
  (some ((md_figure S) p1.toNatClampNeg))
  else
  (if ((md_kind S) p1.toNatClampNeg) = (3 : Int32) then
  (some (((2 : Int32) * ((md_figure S) p1.toNatClampNeg)) + (1 : Int32)))
  else
  (some (0 : Int32))))
def fX8_isThere_l2 (S : zMd) (v1 : Int32) : Nat → (Int32) → Option (Int32)
  | 0, _ => none
  | n + 1, v2 =>
  if (md_houses S) ≤ v2 then
  (some (0 : Int32))
  else
  (ix 12 v2 (if ((md_stands S) v2.toNatClampNeg) = (1 : Int32) then
  (if ((md_number S) v2.toNatClampNeg) = v1 then
  (some (1 : Int32))
  else
  (fX8_isThere_l2 S v1 n (v2 + (1 : Int32))))
  else
  (fX8_isThere_l2 S v1 n (v2 + (1 : Int32)))))
def fX8_isThere (S : zMd) (p1 : Int32) : Option (Int32) :=
  fX8_isThere_l2 S p1 FU (0 : Int32)
def fX8_latest_l5 (S : zMd) : Nat → (Int32) → (Int32) → Option (Int32)
  | 0, _, _ => none
  | n + 1, v1, v2 =>
  if (md_houses S) ≤ v2 then
  (some v1)
  else
  (ix 12 v2 (if ((md_stands S) v2.toNatClampNeg) = (1 : Int32) then
  (fX8_latest_l5 S n v2 (v2 + (1 : Int32)))
  else
  (fX8_latest_l5 S n v1 (v2 + (1 : Int32)))))
def fX8_latest (S : zMd) : Option (Int32) :=
  fX8_latest_l5 S FU (-9 : Int32) (0 : Int32)
def fX8_isLawful (S : zMd) (p1 : Int32) (p2 : Int32) : Option (Int32) :=
  if (md_sums S) = (2 : Int32) then
  (if p1 = p2 then
  (some (1 : Int32))
  else
  (some (0 : Int32)))
  else
  (if (md_sums S) = (1 : Int32) then
  ((fX8_latest S).bind fun u3 =>
  if p1 = u3 then
  (some (1 : Int32))
  else
  ((fX8_latest S).bind fun u5 =>
  if p2 = u5 then
  (some (1 : Int32))
  else
  (some (0 : Int32))))
  else
  (some (1 : Int32)))
def fX8_mayBe (S : zMd) (p1 : Int32) (p2 : Int32) : Option (Int32) :=
  ix 12 p1 (ix 12 p2 ((fX8_lends S p1 (((md_number S) p1.toNatClampNeg) + ((md_number S) p2.toNatClampNeg))).bind fun u3 =>
  if u3 = (0 : Int32) then
  (some (0 : Int32))
  else
  ((fX8_lends S p2 (((md_number S) p1.toNatClampNeg) + ((md_number S) p2.toNatClampNeg))).bind fun u5 =>
  if u5 = (0 : Int32) then
  (some (0 : Int32))
  else
  (if (9999 : Int32) < (((md_number S) p1.toNatClampNeg) + ((md_number S) p2.toNatClampNeg)) then
  (some (0 : Int32))
  else
  ((fX8_isThere S (((md_number S) p1.toNatClampNeg) + ((md_number S) p2.toNatClampNeg))).bind fun u8 =>
  if u8 = (0 : Int32) then
  ((fX8_isLawful S p1 p2).bind fun u10 =>
  if u10 = (0 : Int32) then
  (some (0 : Int32))
  else
  (some (1 : Int32)))
  else
  (some (0 : Int32)))))))
def fX8_isUsed (S : zMd) (p1 : Int32) : Option (zMd) :=
  ix 12 p1 ((fX8_fee (md_set_uses S (upd (md_uses S) p1.toNatClampNeg (((md_uses S) p1.toNatClampNeg) + (1 : Int32)))) p1).bind fun u2 =>
  if ((md_kind S) p1.toNatClampNeg) = (1 : Int32) then
  (some (md_set_stands (md_set_earned (md_set_uses S (upd (md_uses S) p1.toNatClampNeg (((md_uses S) p1.toNatClampNeg) + (1 : Int32)))) (upd (md_earned S) p1.toNatClampNeg (((md_earned S) p1.toNatClampNeg) + u2))) (upd (md_stands S) p1.toNatClampNeg (0 : Int32))))
  else
  (some (md_set_earned (md_set_uses S (upd (md_uses S) p1.toNatClampNeg (((md_uses S) p1.toNatClampNeg) + (1 : Int32)))) (upd (md_earned S) p1.toNatClampNeg (((md_earned S) p1.toNatClampNeg) + u2)))))
def fX8_builds (S : zMd) (p1 : Int32) (p2 : Int32) (p3 : Int32) (p4 : Int32) : Option (zMd) :=
  ix 12 p1 (ix 12 p2 ((fX8_isUsed S p1).bind fun u3 =>
  (fX8_isUsed u3 p2).bind fun u4 =>
  (fX8_isMore u4 (((md_number S) p1.toNatClampNeg) + ((md_number S) p2.toNatClampNeg)) p3 p4 p1 p2).bind fun u5 =>
  some u5))
def fX8_hasFallen (S : zMd) (p1 : Int32) : Option (Int32) :=
  if p1 < (0 : Int32) then
  (some (0 : Int32))
  else
  (ix 12 p1 (if ((md_stands S) p1.toNatClampNeg) = (0 : Int32) then
  (some (1 : Int32))
  else
  (some (0 : Int32))))
def fX8_fallsWith_j28 (S : zMd) (v1 : Int32) : Option (Int32) :=
  ix 12 v1 ((fX8_hasFallen S ((md_one S) v1.toNatClampNeg)).bind fun u2 =>
  if u2 = (0 : Int32) then
  ((fX8_hasFallen S ((md_other S) v1.toNatClampNeg)).bind fun u4 =>
  if u4 = (0 : Int32) then
  (some (0 : Int32))
  else
  (some (1 : Int32)))
  else
  (some (1 : Int32)))
def fX8_fallsWith (S : zMd) (p1 : Int32) : Option (Int32) :=
  ix 12 p1 (if ((md_stands S) p1.toNatClampNeg) = (1 : Int32) then
  (if (md_falls S) = (1 : Int32) then
  (fX8_fallsWith_j28 S p1)
  else
  (if ((md_kind S) p1.toNatClampNeg) = (5 : Int32) then
  (fX8_fallsWith_j28 S p1)
  else
  (some (0 : Int32))))
  else
  (some (0 : Int32)))
def fX8_burns_l17 (k9 : (Int32) → (zMd) → Option (zMd)) : Nat → (Int32) → (Int32) → (zMd) → Option (zMd)
  | 0, _, _, _ => none
  | n + 1, v2, v3, S =>
  if (md_houses S) ≤ v3 then
  (k9 v2 S)
  else
  ((fX8_fallsWith S v3).bind fun u2 =>
  if u2 = (0 : Int32) then
  (fX8_burns_l17 k9 n v2 (v3 + (1 : Int32)) S)
  else
  (ix 12 v3 (fX8_burns_l17 k9 n (1 : Int32) (v3 + (1 : Int32)) (md_set_stands S (upd (md_stands S) v3.toNatClampNeg (0 : Int32))))))
def fX8_burns_l9  : Nat → (Int32) → (zMd) → Option (zMd)
  | 0, _, _ => none
  | n + 1, v2, S =>
  if v2 = (0 : Int32) then
  (some S)
  else
  (fX8_burns_l17 (fX8_burns_l9  n) FU (0 : Int32) (0 : Int32) S)
def fX8_burns (S : zMd) (p1 : Int32) : Option (zMd) :=
  ix 12 p1 (fX8_burns_l9 FU (1 : Int32) (md_set_stands S (upd (md_stands S) p1.toNatClampNeg (0 : Int32))))
def fX8_feed_j25 (v1 : Int32) (v2 : Int32) (S : zMd) : Option (Int32 × zMd) :=
  if v2 = (0 : Int32) then
  (ix 64 (md_taped S) (some (((md_taped S) + (1 : Int32)), (md_set_taped (md_set_tape S (upd (md_tape S) (md_taped S).toNatClampNeg v1)) ((md_taped S) + (1 : Int32))))))
  else
  ((fX8_no S v2).bind fun u3 =>
  some (u3.1, u3.2))
def fX8_feed (S : zMd) (p1 : Int32) : Option (Int32 × zMd) :=
  if (fX8_bound p1 (0 : Int32) (255 : Int32)) = (0 : Int32) then
  (if (md_taped S) = (64 : Int32) then
  (fX8_feed_j25 p1 (-6 : Int32) S)
  else
  (fX8_feed_j25 p1 (fX8_bound p1 (0 : Int32) (255 : Int32)) S))
  else
  (fX8_feed_j25 p1 (fX8_bound p1 (0 : Int32) (255 : Int32)) S)
def fX8_sign (S : zMd) : Option (Int32) :=
  if (md_taped S) ≤ (md_reading S) then
  (some (-1 : Int32))
  else
  (ix 64 (md_reading S) (some ((md_tape S) (md_reading S).toNatClampNeg)))
def fX8_reads (S : zMd) (p1 : Int32) : Option (Int32 × zMd) :=
  (fX8_sign S).bind fun u1 =>
  if u1 = p1 then
  (some ((1 : Int32), (md_set_reading S ((md_reading S) + (1 : Int32)))))
  else
  (some ((0 : Int32), S))
def fX8_readsNumber_j52 (v2 : Int32) (v3 : Int32) (S : zMd) : Option (Int32 × zMd) :=
  ix 132 (md_telling S) (if v3 ≤ (0 : Int32) then
  (some ((0 : Int32), (md_set_telling (md_set_told S (upd (md_told S) (md_telling S).toNatClampNeg v2)) ((md_telling S) + (1 : Int32)))))
  else
  (some ((1 : Int32), (md_set_telling (md_set_told S (upd (md_told S) (md_telling S).toNatClampNeg v2)) ((md_telling S) + (1 : Int32))))))
def fX8_readsNumber_l4 (v1 : Int32) : Nat → (Int32) → (Int32) → (zMd) → Option (Int32 × zMd)
  | 0, _, _, _ => none
  | n + 1, v2, v3, S =>
  if v1 ≤ v3 then
  (fX8_readsNumber_j52 v2 v3 S)
  else
  ((fX8_sign S).bind fun u4 =>
  if (fX8_isIn u4 (48 : Int32) (57 : Int32)) = (0 : Int32) then
  (fX8_readsNumber_j52 v2 v3 S)
  else
  ((fX8_sign S).bind fun u7 =>
  fX8_readsNumber_l4 v1 n ((((10 : Int32) * v2) + u7) - (48 : Int32)) (v3 + (1 : Int32)) (md_set_reading S ((md_reading S) + (1 : Int32)))))
def fX8_readsNumber (S : zMd) (p1 : Int32) : Option (Int32 × zMd) :=
  fX8_readsNumber_l4 p1 FU (0 : Int32) (0 : Int32) S
def fX8_readsAll (S : zMd) (p1 : Int32) : Option (Int32 × zMd) :=
  if p1 = (97 : Int32) then
  ((fX8_readsNumber S (2 : Int32)).bind fun u2 =>
  if u2.1 = (0 : Int32) then
  (some ((0 : Int32), u2.2))
  else
  ((fX8_reads u2.2 (44 : Int32)).bind fun u4 =>
  if u4.1 = (0 : Int32) then
  (some ((0 : Int32), u4.2))
  else
  ((fX8_readsNumber u4.2 (2 : Int32)).bind fun u6 =>
  if u6.1 = (0 : Int32) then
  (some ((0 : Int32), u6.2))
  else
  ((fX8_reads u6.2 (44 : Int32)).bind fun u8 =>
  if u8.1 = (0 : Int32) then
  (some ((0 : Int32), u8.2))
  else
  ((fX8_readsNumber u8.2 (1 : Int32)).bind fun u10 =>
  if u10.1 = (0 : Int32) then
  (some ((0 : Int32), u10.2))
  else
  ((fX8_readsNumber u10.2 (1 : Int32)).bind fun u12 =>
  if u12.1 = (0 : Int32) then
  (some ((0 : Int32), u12.2))
  else
  (some ((1 : Int32), u12.2))))))))
  else
  (if p1 = (98 : Int32) then
  ((fX8_readsNumber S (2 : Int32)).bind fun u14 =>
  if u14.1 &&& 1 = u14.1 then some (u14.1, u14.2) else none)
  else
  (if p1 = (108 : Int32) then
  ((fX8_readsNumber S (1 : Int32)).bind fun u16 =>
  if u16.1 = (0 : Int32) then
  (some ((0 : Int32), u16.2))
  else
  ((fX8_readsNumber u16.2 (1 : Int32)).bind fun u18 =>
  if u18.1 = (0 : Int32) then
  (some ((0 : Int32), u18.2))
  else
  (some ((1 : Int32), u18.2))))
  else
  (some ((1 : Int32), S))))
def fX8_statement_j31 (v1 : Int32) (S : zMd) : Option (Int32 × zMd) :=
  ix 33 (md_statements S) ((fX8_readsAll (md_set_reading (md_set_telling (md_set_sortAt (md_set_sort S (upd (md_sort S) (md_statements S).toNatClampNeg v1)) (upd (md_sortAt S) (md_statements S).toNatClampNeg (md_reading S))) ((4 : Int32) * (md_statements S))) ((md_reading S) + (1 : Int32))) v1).bind fun u2 =>
  if u2.1 = (0 : Int32) then
  (some ((0 : Int32), u2.2))
  else
  ((fX8_reads u2.2 (59 : Int32)).bind fun u4 =>
  if u4.1 = (0 : Int32) then
  (some ((0 : Int32), u4.2))
  else
  (some ((1 : Int32), u4.2))))
def fX8_statement (S : zMd) : Option (Int32 × zMd) :=
  (fX8_sign S).bind fun u6 =>
  if u6 = (97 : Int32) then
  (fX8_statement_j31 u6 S)
  else
  (if u6 = (98 : Int32) then
  (fX8_statement_j31 u6 S)
  else
  (if u6 = (108 : Int32) then
  (fX8_statement_j31 u6 S)
  else
  (if u6 = (110 : Int32) then
  (fX8_statement_j31 u6 S)
  else
  (some ((0 : Int32), S)))))
def fX8_comesNew (S : zMd) (p1 : Int32) : Option (Int32 × zMd) :=
  ix 132 p1 (ix 132 (p1 + (1 : Int32)) ((fX8_doesStand S ((md_told S) p1.toNatClampNeg)).bind fun u3 =>
  if u3 = (0 : Int32) then
  (some ((0 : Int32), S))
  else
  ((fX8_doesStand S ((md_told S) (p1 + (1 : Int32)).toNatClampNeg)).bind fun u5 =>
  if u5 = (0 : Int32) then
  (some ((0 : Int32), S))
  else
  (ix 132 (p1 + (2 : Int32)) (if (6 : Int32) ≤ ((md_told S) (p1 + (2 : Int32)).toNatClampNeg) then
  (some ((0 : Int32), S))
  else
  ((fX8_mayBe S ((md_told S) p1.toNatClampNeg) ((md_told S) (p1 + (1 : Int32)).toNatClampNeg)).bind fun u9 =>
  if u9 = (0 : Int32) then
  (some ((0 : Int32), S))
  else
  (if (md_houses S) = (12 : Int32) then
  (some ((0 : Int32), S))
  else
  (ix 132 (p1 + (3 : Int32)) ((fX8_builds S ((md_told S) p1.toNatClampNeg) ((md_told S) (p1 + (1 : Int32)).toNatClampNeg) ((md_told S) (p1 + (2 : Int32)).toNatClampNeg) ((md_told S) (p1 + (3 : Int32)).toNatClampNeg)).bind fun u13 =>
  some ((1 : Int32), u13))))))))))
def fX8_comesFire (S : zMd) (p1 : Int32) : Option (Int32 × zMd) :=
  (fX8_doesStand S p1).bind fun u1 =>
  if u1 = (0 : Int32) then
  (some ((0 : Int32), S))
  else
  ((fX8_burns S p1).bind fun u3 =>
  some ((1 : Int32), u3))
def fX8_comesLaw (S : zMd) (p1 : Int32) (p2 : Int32) : Int32 × zMd :=
  if (2 : Int32) < p1 then
  (((0 : Int32), S))
  else
  (if p2 ≤ (1 : Int32) then
  (((1 : Int32), (md_set_falls (md_set_sums S p1) p2)))
  else
  (((0 : Int32), S)))
def fX8_comesTold (S : zMd) (p1 : Int32) : Option (Int32 × zMd) :=
  ix 33 p1 (if ((md_sort S) p1.toNatClampNeg) = (97 : Int32) then
  ((fX8_comesNew S ((4 : Int32) * p1)).bind fun u3 =>
  if u3.1 &&& 1 = u3.1 then some (u3.1, u3.2) else none)
  else
  (if ((md_sort S) p1.toNatClampNeg) = (98 : Int32) then
  (ix 132 ((4 : Int32) * p1) ((fX8_comesFire S ((md_told S) ((4 : Int32) * p1).toNatClampNeg)).bind fun u6 =>
  if u6.1 &&& 1 = u6.1 then some (u6.1, u6.2) else none))
  else
  (if ((md_sort S) p1.toNatClampNeg) = (108 : Int32) then
  (ix 132 ((4 : Int32) * p1) (ix 132 (((4 : Int32) * p1) + (1 : Int32)) (if (fX8_comesLaw S ((md_told S) ((4 : Int32) * p1).toNatClampNeg) ((md_told S) (((4 : Int32) * p1) + (1 : Int32)).toNatClampNeg)).1 &&& 1 = (fX8_comesLaw S ((md_told S) ((4 : Int32) * p1).toNatClampNeg) ((md_told S) (((4 : Int32) * p1) + (1 : Int32)).toNatClampNeg)).1 then some ((fX8_comesLaw S ((md_told S) ((4 : Int32) * p1).toNatClampNeg) ((md_told S) (((4 : Int32) * p1) + (1 : Int32)).toNatClampNeg)).1, (fX8_comesLaw S ((md_told S) ((4 : Int32) * p1).toNatClampNeg) ((md_told S) (((4 : Int32) * p1) + (1 : Int32)).toNatClampNeg)).2) else none)))
  else
  ((fX8_beginsAnew S).bind fun u12 =>
  some ((1 : Int32), u12)))))
def fX8_passOne_j38 (v2 : Int32) (S : zMd) : Option (Int32 × zMd) :=
  some (v2, (md_set_cursor S ((md_cursor S) + (1 : Int32))))
def fX8_passOne_j20 (v1 : Int32) (t0 : Int32) (S : zMd) : Option (Int32 × zMd) :=
  if (md_isKeeping S) = (0 : Int32) then
  (fX8_passOne_j38 t0 S)
  else
  (ix 400 (md_cursor S) (fX8_passOne_j38 t0 (md_set_kept S (upd (md_kept S) (md_cursor S).toNatClampNeg v1))))
def fX8_passOne (S : zMd) (p1 : Int32) : Option (Int32 × zMd) :=
  if (md_isKeeping S) = (0 : Int32) then
  (ix 400 (md_cursor S) (fX8_passOne_j20 p1 ((md_kept S) (md_cursor S).toNatClampNeg) S))
  else
  (fX8_passOne_j20 p1 p1 S)
def fX8_passes_number_j42 (v2 : Int32) (S : zMd) (k2 : (Int32) → (zMd) → Option (zMd)) : Option (zMd) :=
  k2 (v2 + (1 : Int32)) (md_set_cursor S ((md_cursor S) + (1 : Int32)))
def fX8_passes_number_l2  : Nat → (Int32) → (zMd) → Option (zMd)
  | 0, _, _ => none
  | n + 1, v2, S =>
  if (12 : Int32) ≤ v2 then
  (some S)
  else
  (if (md_isKeeping S) = (0 : Int32) then
  (ix 400 (md_cursor S) (ix 12 v2 (fX8_passes_number_j42 v2 (md_set_number S (upd (md_number S) v2.toNatClampNeg ((md_kept S) (md_cursor S).toNatClampNeg))) (fX8_passes_number_l2  n))))
  else
  (ix 12 v2 (ix 400 (md_cursor S) (fX8_passes_number_j42 v2 (md_set_kept S (upd (md_kept S) (md_cursor S).toNatClampNeg ((md_number S) v2.toNatClampNeg))) (fX8_passes_number_l2  n)))))
def fX8_passes_number (S : zMd) : Option (zMd) :=
  fX8_passes_number_l2 FU (0 : Int32) S
def fX8_passes_kind_j42 (v2 : Int32) (S : zMd) (k2 : (Int32) → (zMd) → Option (zMd)) : Option (zMd) :=
  k2 (v2 + (1 : Int32)) (md_set_cursor S ((md_cursor S) + (1 : Int32)))
def fX8_passes_kind_l2  : Nat → (Int32) → (zMd) → Option (zMd)
  | 0, _, _ => none
  | n + 1, v2, S =>
  if (12 : Int32) ≤ v2 then
  (some S)
  else
  (if (md_isKeeping S) = (0 : Int32) then
  (ix 400 (md_cursor S) (ix 12 v2 (fX8_passes_kind_j42 v2 (md_set_kind S (upd (md_kind S) v2.toNatClampNeg ((md_kept S) (md_cursor S).toNatClampNeg))) (fX8_passes_kind_l2  n))))
  else
  (ix 12 v2 (ix 400 (md_cursor S) (fX8_passes_kind_j42 v2 (md_set_kept S (upd (md_kept S) (md_cursor S).toNatClampNeg ((md_kind S) v2.toNatClampNeg))) (fX8_passes_kind_l2  n)))))
def fX8_passes_kind (S : zMd) : Option (zMd) :=
  fX8_passes_kind_l2 FU (0 : Int32) S
def fX8_passes_figure_j42 (v2 : Int32) (S : zMd) (k2 : (Int32) → (zMd) → Option (zMd)) : Option (zMd) :=
  k2 (v2 + (1 : Int32)) (md_set_cursor S ((md_cursor S) + (1 : Int32)))
def fX8_passes_figure_l2  : Nat → (Int32) → (zMd) → Option (zMd)
  | 0, _, _ => none
  | n + 1, v2, S =>
  if (12 : Int32) ≤ v2 then
  (some S)
  else
  (if (md_isKeeping S) = (0 : Int32) then
  (ix 400 (md_cursor S) (ix 12 v2 (fX8_passes_figure_j42 v2 (md_set_figure S (upd (md_figure S) v2.toNatClampNeg ((md_kept S) (md_cursor S).toNatClampNeg))) (fX8_passes_figure_l2  n))))
  else
  (ix 12 v2 (ix 400 (md_cursor S) (fX8_passes_figure_j42 v2 (md_set_kept S (upd (md_kept S) (md_cursor S).toNatClampNeg ((md_figure S) v2.toNatClampNeg))) (fX8_passes_figure_l2  n)))))
def fX8_passes_figure (S : zMd) : Option (zMd) :=
  fX8_passes_figure_l2 FU (0 : Int32) S
def fX8_passes_one_j42 (v2 : Int32) (S : zMd) (k2 : (Int32) → (zMd) → Option (zMd)) : Option (zMd) :=
  k2 (v2 + (1 : Int32)) (md_set_cursor S ((md_cursor S) + (1 : Int32)))
def fX8_passes_one_l2  : Nat → (Int32) → (zMd) → Option (zMd)
  | 0, _, _ => none
  | n + 1, v2, S =>
  if (12 : Int32) ≤ v2 then
  (some S)
  else
  (if (md_isKeeping S) = (0 : Int32) then
  (ix 400 (md_cursor S) (ix 12 v2 (fX8_passes_one_j42 v2 (md_set_one S (upd (md_one S) v2.toNatClampNeg ((md_kept S) (md_cursor S).toNatClampNeg))) (fX8_passes_one_l2  n))))
  else
  (ix 12 v2 (ix 400 (md_cursor S) (fX8_passes_one_j42 v2 (md_set_kept S (upd (md_kept S) (md_cursor S).toNatClampNeg ((md_one S) v2.toNatClampNeg))) (fX8_passes_one_l2  n)))))
def fX8_passes_one (S : zMd) : Option (zMd) :=
  fX8_passes_one_l2 FU (0 : Int32) S
def fX8_passes_other_j42 (v2 : Int32) (S : zMd) (k2 : (Int32) → (zMd) → Option (zMd)) : Option (zMd) :=
  k2 (v2 + (1 : Int32)) (md_set_cursor S ((md_cursor S) + (1 : Int32)))
def fX8_passes_other_l2  : Nat → (Int32) → (zMd) → Option (zMd)
  | 0, _, _ => none
  | n + 1, v2, S =>
  if (12 : Int32) ≤ v2 then
  (some S)
  else
  (if (md_isKeeping S) = (0 : Int32) then
  (ix 400 (md_cursor S) (ix 12 v2 (fX8_passes_other_j42 v2 (md_set_other S (upd (md_other S) v2.toNatClampNeg ((md_kept S) (md_cursor S).toNatClampNeg))) (fX8_passes_other_l2  n))))
  else
  (ix 12 v2 (ix 400 (md_cursor S) (fX8_passes_other_j42 v2 (md_set_kept S (upd (md_kept S) (md_cursor S).toNatClampNeg ((md_other S) v2.toNatClampNeg))) (fX8_passes_other_l2  n)))))
def fX8_passes_other (S : zMd) : Option (zMd) :=
  fX8_passes_other_l2 FU (0 : Int32) S
def fX8_passes_stands_j42 (v2 : Int32) (S : zMd) (k2 : (Int32) → (zMd) → Option (zMd)) : Option (zMd) :=
  k2 (v2 + (1 : Int32)) (md_set_cursor S ((md_cursor S) + (1 : Int32)))
def fX8_passes_stands_l2  : Nat → (Int32) → (zMd) → Option (zMd)
  | 0, _, _ => none
  | n + 1, v2, S =>
  if (12 : Int32) ≤ v2 then
  (some S)
  else
  (if (md_isKeeping S) = (0 : Int32) then
  (ix 400 (md_cursor S) (ix 12 v2 (fX8_passes_stands_j42 v2 (md_set_stands S (upd (md_stands S) v2.toNatClampNeg ((md_kept S) (md_cursor S).toNatClampNeg))) (fX8_passes_stands_l2  n))))
  else
  (ix 12 v2 (ix 400 (md_cursor S) (fX8_passes_stands_j42 v2 (md_set_kept S (upd (md_kept S) (md_cursor S).toNatClampNeg ((md_stands S) v2.toNatClampNeg))) (fX8_passes_stands_l2  n)))))
def fX8_passes_stands (S : zMd) : Option (zMd) :=
  fX8_passes_stands_l2 FU (0 : Int32) S
def fX8_passes_uses_j42 (v2 : Int32) (S : zMd) (k2 : (Int32) → (zMd) → Option (zMd)) : Option (zMd) :=
  k2 (v2 + (1 : Int32)) (md_set_cursor S ((md_cursor S) + (1 : Int32)))
def fX8_passes_uses_l2  : Nat → (Int32) → (zMd) → Option (zMd)
  | 0, _, _ => none
  | n + 1, v2, S =>
  if (12 : Int32) ≤ v2 then
  (some S)
  else
  (if (md_isKeeping S) = (0 : Int32) then
  (ix 400 (md_cursor S) (ix 12 v2 (fX8_passes_uses_j42 v2 (md_set_uses S (upd (md_uses S) v2.toNatClampNeg ((md_kept S) (md_cursor S).toNatClampNeg))) (fX8_passes_uses_l2  n))))
  else
  (ix 12 v2 (ix 400 (md_cursor S) (fX8_passes_uses_j42 v2 (md_set_kept S (upd (md_kept S) (md_cursor S).toNatClampNeg ((md_uses S) v2.toNatClampNeg))) (fX8_passes_uses_l2  n)))))
def fX8_passes_uses (S : zMd) : Option (zMd) :=
  fX8_passes_uses_l2 FU (0 : Int32) S
def fX8_passes_earned_j42 (v2 : Int32) (S : zMd) (k2 : (Int32) → (zMd) → Option (zMd)) : Option (zMd) :=
  k2 (v2 + (1 : Int32)) (md_set_cursor S ((md_cursor S) + (1 : Int32)))
def fX8_passes_earned_l2  : Nat → (Int32) → (zMd) → Option (zMd)
  | 0, _, _ => none
  | n + 1, v2, S =>
  if (12 : Int32) ≤ v2 then
  (some S)
  else
  (if (md_isKeeping S) = (0 : Int32) then
  (ix 400 (md_cursor S) (ix 12 v2 (fX8_passes_earned_j42 v2 (md_set_earned S (upd (md_earned S) v2.toNatClampNeg ((md_kept S) (md_cursor S).toNatClampNeg))) (fX8_passes_earned_l2  n))))
  else
  (ix 12 v2 (ix 400 (md_cursor S) (fX8_passes_earned_j42 v2 (md_set_kept S (upd (md_kept S) (md_cursor S).toNatClampNeg ((md_earned S) v2.toNatClampNeg))) (fX8_passes_earned_l2  n)))))
def fX8_passes_earned (S : zMd) : Option (zMd) :=
  fX8_passes_earned_l2 FU (0 : Int32) S
def fX8_passesAll (S : zMd) (p1 : Int32) (p2 : Int32) : Option (zMd) :=
  if p2 &&& 1 = p2 then (fX8_passes_number (md_set_isKeeping (md_set_cursor S ((100 : Int32) * p1)) p2)).bind fun u2 =>
  (fX8_passes_kind u2).bind fun u3 =>
  (fX8_passes_figure u3).bind fun u4 =>
  (fX8_passes_one u4).bind fun u5 =>
  (fX8_passes_other u5).bind fun u6 =>
  (fX8_passes_stands u6).bind fun u7 =>
  (fX8_passes_uses u7).bind fun u8 =>
  (fX8_passes_earned u8).bind fun u9 =>
  (fX8_passOne u9 (md_houses u9)).bind fun u10 =>
  (fX8_passOne (md_set_houses u10.2 u10.1) (md_sums u10.2)).bind fun u11 =>
  (fX8_passOne (md_set_sums u11.2 u11.1) (md_falls u11.2)).bind fun u12 =>
  some (md_set_falls u12.2 u12.1) else none
def fX8_street_l86  : Nat → (Int32) → (zMd) → Option (Int32 × zMd)
  | 0, _, _ => none
  | n + 1, v2, S =>
  if (md_statements S) ≤ v2 then
  (some ((md_statements S), S))
  else
  ((fX8_comesTold S v2).bind fun u2 =>
  if u2.1 = (0 : Int32) then
  ((fX8_passesAll u2.2 (1 : Int32) (0 : Int32)).bind fun u4 =>
  ix 33 v2 (some (((-2000 : Int32) - ((md_sortAt u4) v2.toNatClampNeg)), u4)))
  else
  (fX8_street_l86  n (v2 + (1 : Int32)) u2.2))
def fX8_street_j60 (v1 : Int32) (S : zMd) : Option (Int32 × zMd) :=
  if v1 = (0 : Int32) then
  (some (((-1000 : Int32) - (md_reading S)), (md_set_taped S (0 : Int32))))
  else
  ((fX8_passesAll (md_set_taped S (0 : Int32)) (1 : Int32) (1 : Int32)).bind fun u7 =>
  fX8_street_l86 FU (0 : Int32) u7)
def fX8_street_j53 (v1 : Int32) (t1 : Int32) (t2 : Int32) (S : zMd) (k12 : (Int32) → (zMd) → Option (Int32 × zMd)) : Option (Int32 × zMd) :=
  k12 v1 (md_set_statements S (t1 + t2))
def fX8_street_j34 (S : zMd) (k12 : (Int32) → (zMd) → Option (Int32 × zMd)) : Option (Int32 × zMd) :=
  (fX8_statement S).bind fun u8 =>
  if u8.1 = (0 : Int32) then
  (fX8_street_j53 u8.1 (md_statements u8.2) (0 : Int32) u8.2 (k12))
  else
  (fX8_street_j53 u8.1 (md_statements u8.2) (1 : Int32) u8.2 (k12))
def fX8_street_l12  : Nat → (Int32) → (zMd) → Option (Int32 × zMd)
  | 0, _, _ => none
  | n + 1, v1, S =>
  if v1 = (0 : Int32) then
  (fX8_street_j60 v1 S)
  else
  (if (md_reading S) < (md_taped S) then
  (fX8_street_j34 S (fX8_street_l12  n))
  else
  (if (md_statements S) = (0 : Int32) then
  (fX8_street_j34 S (fX8_street_l12  n))
  else
  (fX8_street_j60 v1 S)))
def fX8_street (S : zMd) : Option (Int32 × zMd) :=
  fX8_street_l12 FU (1 : Int32) (md_set_statements (md_set_reading S (0 : Int32)) (0 : Int32))
def fX8_image (S : zMd) : Option (Int32 × zMd) :=
  (fX8_passesAll (md_set_hasImage S (1 : Int32)) (0 : Int32) (1 : Int32)).bind fun u1 =>
  some ((md_houses u1), u1)
def fX8_restore (S : zMd) : Option (Int32 × zMd) :=
  if (md_hasImage S) = (0 : Int32) then
  ((fX8_no S (-3 : Int32)).bind fun u3 =>
  some (u3.1, u3.2))
  else
  ((fX8_passesAll S (0 : Int32) (0 : Int32)).bind fun u2 =>
  some ((md_houses u2), u2))
def fX8_house (S : zMd) (p1 : Int32) (p2 : Int32) : Option (Int32 × zMd) :=
  (fX8_isHouse S p1).bind fun u1 =>
  if u1 = (0 : Int32) then
  ((fX8_no S (-1 : Int32)).bind fun u13 =>
  some (u13.1, u13.2))
  else
  (if p2 = (0 : Int32) then
  (ix 12 p1 (some (((md_kind S) p1.toNatClampNeg), S)))
  else
  (if p2 = (1 : Int32) then
  (ix 12 p1 (some (((md_figure S) p1.toNatClampNeg), S)))
  else
  (if p2 = (2 : Int32) then
  (ix 12 p1 (some (((md_number S) p1.toNatClampNeg), S)))
  else
  (if p2 = (3 : Int32) then
  (ix 12 p1 (some (((md_one S) p1.toNatClampNeg), S)))
  else
  (if p2 = (4 : Int32) then
  (ix 12 p1 (some (((md_other S) p1.toNatClampNeg), S)))
  else
  (if p2 = (5 : Int32) then
  (ix 12 p1 (some (((md_stands S) p1.toNatClampNeg), S)))
  else
  (if p2 = (6 : Int32) then
  (ix 12 p1 (some (((md_uses S) p1.toNatClampNeg), S)))
  else
  (if p2 = (7 : Int32) then
  (ix 12 p1 (some (((md_earned S) p1.toNatClampNeg), S)))
  else
  ((fX8_no S (-2 : Int32)).bind fun u12 =>
  some (u12.1, u12.2))))))))))
def fX8_law_j48 (v1 : Int32) (v2 : Int32) (t0 : Int32) (S : zMd) : Option (Int32 × zMd) :=
  if v1 = (0 : Int32) then
  (some (t0, (md_set_sums S v2)))
  else
  (some (t0, (md_set_falls S v2)))
def fX8_law_j26 (S : zMd) : Option (Int32 × zMd) :=
  (fX8_no S (-2 : Int32)).bind fun u2 =>
  some (u2.1, u2.2)
def fX8_law_j20 (v1 : Int32) (v2 : Int32) (t0 : Int32) (t1 : Int32) (t2 : Int32) (S : zMd) : Option (Int32 × zMd) :=
  if (fX8_isIn t0 t1 t2) = (0 : Int32) then
  (fX8_law_j26 S)
  else
  (if v1 = (0 : Int32) then
  (fX8_law_j48 v1 v2 (md_sums S) S)
  else
  (fX8_law_j48 v1 v2 (md_falls S) S))
def fX8_law (S : zMd) (p1 : Int32) (p2 : Int32) : Option (Int32 × zMd) :=
  if (fX8_isIn p1 (0 : Int32) (1 : Int32)) = (0 : Int32) then
  (fX8_law_j26 S)
  else
  (if p1 = (0 : Int32) then
  (fX8_law_j20 p1 p2 p2 (0 : Int32) (2 : Int32) S)
  else
  (fX8_law_j20 p1 p2 p2 (0 : Int32) (1 : Int32) S))
def fX8_may_j42 (v1 : Int32) (v2 : Int32) (t0 : Int32) (S : zMd) : Option (Int32 × zMd) :=
  if t0 = (0 : Int32) then
  ((fX8_mayBe S v1 v2).bind fun u2 =>
  if u2 = (0 : Int32) then
  (some ((0 : Int32), S))
  else
  (some ((1 : Int32), S)))
  else
  ((fX8_no S t0).bind fun u4 =>
  some (u4.1, u4.2))
def fX8_may_j36 (v1 : Int32) (v2 : Int32) (S : zMd) : Option (Int32 × zMd) :=
  fX8_may_j42 v1 v2 (-3 : Int32) S
def fX8_may_j16 (v1 : Int32) (v2 : Int32) (S : zMd) : Option (Int32 × zMd) :=
  fX8_may_j42 v1 v2 (-1 : Int32) S
def fX8_may (S : zMd) (p1 : Int32) (p2 : Int32) : Option (Int32 × zMd) :=
  (fX8_isHouse S p1).bind fun u5 =>
  if u5 = (0 : Int32) then
  (fX8_may_j16 p1 p2 S)
  else
  ((fX8_isHouse S p2).bind fun u7 =>
  if u7 = (0 : Int32) then
  (fX8_may_j16 p1 p2 S)
  else
  ((fX8_doesStand S p1).bind fun u9 =>
  if u9 = (0 : Int32) then
  (fX8_may_j36 p1 p2 S)
  else
  ((fX8_doesStand S p2).bind fun u11 =>
  if u11 = (0 : Int32) then
  (fX8_may_j36 p1 p2 S)
  else
  (fX8_may_j42 p1 p2 (0 : Int32) S))))
def fX8_canBe (S : zMd) (p1 : Int32) (p2 : Int32) : Option (Int32) :=
  (fX8_doesStand S p1).bind fun u1 =>
  if u1 = (0 : Int32) then
  (some (0 : Int32))
  else
  ((fX8_doesStand S p2).bind fun u3 =>
  if u3 = (0 : Int32) then
  (some (0 : Int32))
  else
  ((fX8_mayBe S p1 p2).bind fun u5 =>
  if u5 = (0 : Int32) then
  (some (0 : Int32))
  else
  (some (1 : Int32))))
def fX8_cost_j35 (v1 : Int32) (v2 : Int32) (t0 : Int32) (S : zMd) : Option (Int32 × zMd) :=
  if t0 = (0 : Int32) then
  ((fX8_fee S v1).bind fun u2 =>
  (fX8_fee S v2).bind fun u3 =>
  some ((u2 + u3), S))
  else
  ((fX8_no S t0).bind fun u4 =>
  some (u4.1, u4.2))
def fX8_cost_j16 (v1 : Int32) (v2 : Int32) (S : zMd) : Option (Int32 × zMd) :=
  fX8_cost_j35 v1 v2 (-1 : Int32) S
def fX8_cost (S : zMd) (p1 : Int32) (p2 : Int32) : Option (Int32 × zMd) :=
  (fX8_isHouse S p1).bind fun u5 =>
  if u5 = (0 : Int32) then
  (fX8_cost_j16 p1 p2 S)
  else
  ((fX8_isHouse S p2).bind fun u7 =>
  if u7 = (0 : Int32) then
  (fX8_cost_j16 p1 p2 S)
  else
  ((fX8_canBe S p1 p2).bind fun u9 =>
  if u9 = (0 : Int32) then
  (fX8_cost_j35 p1 p2 (-3 : Int32) S)
  else
  (fX8_cost_j35 p1 p2 (0 : Int32) S)))
def fX8_add_j80 (v1 : Int32) (v2 : Int32) (v3 : Int32) (v4 : Int32) (v5 : Int32) (S : zMd) : Option (Int32 × zMd) :=
  if v5 = (0 : Int32) then
  ((fX8_builds S v1 v2 v3 v4).bind fun u2 =>
  some (((md_houses u2) - (1 : Int32)), u2))
  else
  ((fX8_no S v5).bind fun u3 =>
  some (u3.1, u3.2))
def fX8_add_j78 (v1 : Int32) (v2 : Int32) (v3 : Int32) (v4 : Int32) (t0 : Int32) (S : zMd) : Option (Int32 × zMd) :=
  fX8_add_j80 v1 v2 v3 v4 t0 S
def fX8_add_j42 (v1 : Int32) (v2 : Int32) (v3 : Int32) (v4 : Int32) (t0 : Int32) (S : zMd) : Option (Int32 × zMd) :=
  if t0 = (0 : Int32) then
  ((fX8_canBe S v1 v2).bind fun u5 =>
  if u5 = (0 : Int32) then
  (fX8_add_j78 v1 v2 v3 v4 (-3 : Int32) S)
  else
  (if (md_houses S) = (12 : Int32) then
  (fX8_add_j78 v1 v2 v3 v4 (-6 : Int32) S)
  else
  (fX8_add_j78 v1 v2 v3 v4 (0 : Int32) S)))
  else
  (fX8_add_j80 v1 v2 v3 v4 t0 S)
def fX8_add_j16 (v1 : Int32) (v2 : Int32) (v3 : Int32) (v4 : Int32) (S : zMd) : Option (Int32 × zMd) :=
  fX8_add_j42 v1 v2 v3 v4 (-1 : Int32) S
def fX8_add (S : zMd) (p1 : Int32) (p2 : Int32) (p3 : Int32) (p4 : Int32) : Option (Int32 × zMd) :=
  (fX8_isHouse S p1).bind fun u8 =>
  if u8 = (0 : Int32) then
  (fX8_add_j16 p1 p2 p3 p4 S)
  else
  ((fX8_isHouse S p2).bind fun u10 =>
  if u10 = (0 : Int32) then
  (fX8_add_j16 p1 p2 p3 p4 S)
  else
  (if (fX8_isIn p3 (0 : Int32) (5 : Int32)) = (0 : Int32) then
  (fX8_add_j42 p1 p2 p3 p4 (-2 : Int32) S)
  else
  (fX8_add_j42 p1 p2 p3 p4 (fX8_bound p4 (0 : Int32) (9 : Int32)) S)))
def fX8_burn_j26 (v1 : Int32) (t0 : Int32) (S : zMd) : Option (Int32 × zMd) :=
  if t0 = (0 : Int32) then
  ((fX8_standing S).bind fun u2 =>
  (fX8_bits u2).bind fun u3 =>
  (fX8_burns S v1).bind fun u4 =>
  (fX8_standing u4).bind fun u5 =>
  (fX8_bits u5).bind fun u6 =>
  some ((u3 - u6), u4))
  else
  ((fX8_no S t0).bind fun u7 =>
  some (u7.1, u7.2))
def fX8_burn (S : zMd) (p1 : Int32) : Option (Int32 × zMd) :=
  (fX8_isHouse S p1).bind fun u8 =>
  if u8 = (0 : Int32) then
  (fX8_burn_j26 p1 (-1 : Int32) S)
  else
  ((fX8_doesStand S p1).bind fun u10 =>
  if u10 = (0 : Int32) then
  (fX8_burn_j26 p1 (-3 : Int32) S)
  else
  (fX8_burn_j26 p1 (0 : Int32) S))
def fX8_hangsOn (S : zMd) (p1 : Int32) : Option (Int32 × zMd) :=
  (fX8_standing S).bind fun u1 =>
  (fX8_passesAll S (2 : Int32) (1 : Int32)).bind fun u2 =>
  (fX8_burns u2 p1).bind fun u3 =>
  (fX8_standing u3).bind fun u4 =>
  (fX8_passesAll u3 (2 : Int32) (0 : Int32)).bind fun u5 =>
  some ((u1 &&& (u4 ^^^ (-1 : Int32))), u5)
def fX8_hangs_j26 (v1 : Int32) (t0 : Int32) (S : zMd) : Option (Int32 × zMd) :=
  if t0 = (0 : Int32) then
  ((fX8_hangsOn S v1).bind fun u2 =>
  some (u2.1, u2.2))
  else
  ((fX8_no S t0).bind fun u3 =>
  some (u3.1, u3.2))
def fX8_hangs (S : zMd) (p1 : Int32) : Option (Int32 × zMd) :=
  (fX8_isHouse S p1).bind fun u4 =>
  if u4 = (0 : Int32) then
  (fX8_hangs_j26 p1 (-1 : Int32) S)
  else
  ((fX8_doesStand S p1).bind fun u6 =>
  if u6 = (0 : Int32) then
  (fX8_hangs_j26 p1 (-3 : Int32) S)
  else
  (fX8_hangs_j26 p1 (0 : Int32) S))
def fX8_save_j37 (v1 : Int32) (v2 : Int32) (v3 : Int32) (t0 : Int32) (S : zMd) (k7 : (Int32) → (Int32) → (Int32) → (zMd) → Option (Int32 × zMd)) : Option (Int32 × zMd) :=
  if v2 < t0 then
  (k7 v3 t0 (v3 + (1 : Int32)) S)
  else
  (k7 v1 v2 (v3 + (1 : Int32)) S)
def fX8_save_l7  : Nat → (Int32) → (Int32) → (Int32) → (zMd) → Option (Int32 × zMd)
  | 0, _, _, _, _ => none
  | n + 1, v1, v2, v3, S =>
  if (md_houses S) ≤ v3 then
  (some (v1, S))
  else
  (ix 12 v3 (if ((md_stands S) v3.toNatClampNeg) = (1 : Int32) then
  ((fX8_hangsOn S v3).bind fun u5 =>
  (fX8_bits u5.1).bind fun u6 =>
  fX8_save_j37 v1 v2 v3 u6 u5.2 (fX8_save_l7  n))
  else
  (fX8_save_j37 v1 v2 v3 (0 : Int32) S (fX8_save_l7  n))))
def fX8_save (S : zMd) : Option (Int32 × zMd) :=
  fX8_save_l7 FU (-9 : Int32) (0 : Int32) (0 : Int32) S
def fX8_isSum_l10 (S : zMd) (v1 : Int32) (v2 : Int32) (v3 : Int32) (k2 : (Int32) → Option (Int32)) : Nat → (Int32) → Option (Int32)
  | 0, _ => none
  | n + 1, v4 =>
  if v2 ≤ v4 then
  (k2 (v3 + (1 : Int32)))
  else
  (ix 16 v3 (ix 16 v4 (if (((md_tried S) v3.toNatClampNeg) + ((md_tried S) v4.toNatClampNeg)) = v1 then
  (some (1 : Int32))
  else
  (fX8_isSum_l10 S v1 v2 v3 k2 n (v4 + (1 : Int32))))))
def fX8_isSum_l2 (S : zMd) (v1 : Int32) (v2 : Int32) : Nat → (Int32) → Option (Int32)
  | 0, _ => none
  | n + 1, v3 =>
  if v2 ≤ v3 then
  (some (0 : Int32))
  else
  (fX8_isSum_l10 S v1 v2 v3 (fX8_isSum_l2 S v1 v2 n) FU v3)
def fX8_isSum (S : zMd) (p1 : Int32) (p2 : Int32) : Option (Int32) :=
  fX8_isSum_l2 S p1 p2 FU (0 : Int32)
def fX8_canReach_j29 (S : zMd) (v3 : Int32) : Option (Int32) :=
  if v3 < (md_goal S) then
  (some (0 : Int32))
  else
  (some (1 : Int32))
def fX8_canReach_l5 (S : zMd) (v2 : Int32) : Nat → (Int32) → (Int32) → Option (Int32)
  | 0, _, _ => none
  | n + 1, v3, v4 =>
  if v2 ≤ v4 then
  (fX8_canReach_j29 S v3)
  else
  (if (md_goal S) ≤ v3 then
  (fX8_canReach_j29 S v3)
  else
  (fX8_canReach_l5 S v2 n (v3 * (2 : Int32)) (v4 + (1 : Int32))))
def fX8_canReach (S : zMd) (p1 : Int32) (p2 : Int32) : Option (Int32) :=
  fX8_canReach_l5 S p2 FU p1 (0 : Int32)
def fX8_goesOn (S : zMd) (p1 : Int32) (p2 : Int32) (p3 : Int32) : Option (Int32) :=
  (fX8_isSum S p1 p2).bind fun u1 =>
  if u1 = (0 : Int32) then
  (some (0 : Int32))
  else
  ((fX8_canReach S p1 ((p3 - (1 : Int32)) - p2)).bind fun u3 =>
  if u3 = (0 : Int32) then
  (some (0 : Int32))
  else
  (ix 16 (p2 - (1 : Int32)) (if (md_wanted S) ≤ ((md_tried S) (p2 - (1 : Int32)).toNatClampNeg) then
  (some (1 : Int32))
  else
  (if (md_wanted S) < p1 then
  (some (0 : Int32))
  else
  (some (1 : Int32))))))
def fX8_nextTry_j65 (S : zMd) (v4 : Int32) (v5 : Int32) : Option (Int32) :=
  if v5 < v4 then
  (some ((md_goal S) + (1 : Int32)))
  else
  (some v4)
def fX8_nextTry_l41 (S : zMd) (v2 : Int32) (v3 : Int32) (v5 : Int32) : Nat → (Int32) → Option (Int32)
  | 0, _ => none
  | n + 1, v4 =>
  if v5 < v4 then
  (fX8_nextTry_j65 S v4 v5)
  else
  ((fX8_goesOn S v4 v2 v3).bind fun u3 =>
  if u3 = (0 : Int32) then
  (fX8_nextTry_l41 S v2 v3 v5 n (v4 + (1 : Int32)))
  else
  (fX8_nextTry_j65 S v4 v5))
def fX8_nextTry_j39 (S : zMd) (v2 : Int32) (v3 : Int32) (v4 : Int32) (t0 : Int32) : Option (Int32) :=
  fX8_nextTry_l41 S v2 v3 t0 FU v4
def fX8_nextTry (S : zMd) (p1 : Int32) (p2 : Int32) (p3 : Int32) : Option (Int32) :=
  ix 16 (p2 - (1 : Int32)) (if (md_goal S) ≤ ((2 : Int32) * ((md_tried S) (p2 - (1 : Int32)).toNatClampNeg)) then
  (fX8_nextTry_j39 S p2 p3 (p1 + (1 : Int32)) (md_goal S))
  else
  (fX8_nextTry_j39 S p2 p3 (p1 + (1 : Int32)) ((2 : Int32) * ((md_tried S) (p2 - (1 : Int32)).toNatClampNeg))))
def fX8_findsChain_l35 (v1 : Int32) : Nat → (Int32) → (zMd) → Option (Int32 × zMd)
  | 0, _, _ => none
  | n + 1, v2, S =>
  if v2 ≤ (0 : Int32) then
  (some ((0 : Int32), S))
  else
  (ix 16 v2 ((fX8_nextTry S ((md_tried S) v2.toNatClampNeg) v2 v1).bind fun u3 =>
  if ((upd (md_tried S) v2.toNatClampNeg u3) v2.toNatClampNeg) ≤ (md_goal S) then
  (if v2 = (v1 - (1 : Int32)) then
  (if ((upd (md_tried S) v2.toNatClampNeg u3) v2.toNatClampNeg) = (md_goal S) then
  (some ((1 : Int32), (md_set_tried S (upd (md_tried S) v2.toNatClampNeg u3))))
  else
  (fX8_findsChain_l35 v1 n v2 (md_set_tried S (upd (md_tried S) v2.toNatClampNeg u3))))
  else
  (ix 16 ((v2 + (1 : Int32)) - (1 : Int32)) (ix 16 (v2 + (1 : Int32)) (fX8_findsChain_l35 v1 n (v2 + (1 : Int32)) (md_set_tried (md_set_tried S (upd (md_tried S) v2.toNatClampNeg u3)) (upd (upd (md_tried S) v2.toNatClampNeg u3) (v2 + (1 : Int32)).toNatClampNeg ((upd (md_tried S) v2.toNatClampNeg u3) ((v2 + (1 : Int32)) - (1 : Int32)).toNatClampNeg)))))))
  else
  (fX8_findsChain_l35 v1 n (v2 + (-1 : Int32)) (md_set_tried S (upd (md_tried S) v2.toNatClampNeg u3)))))
def fX8_findsChain (S : zMd) (p1 : Int32) : Option (Int32 × zMd) :=
  ix 16 (0 : Int32) (if p1 = (1 : Int32) then
  (if (md_goal S) = (1 : Int32) then
  (some ((1 : Int32), (md_set_tried S (upd (md_tried S) (0 : Int32).toNatClampNeg (1 : Int32)))))
  else
  (some ((0 : Int32), (md_set_tried S (upd (md_tried S) (0 : Int32).toNatClampNeg (1 : Int32))))))
  else
  (ix 16 (1 : Int32) (fX8_findsChain_l35 p1 FU (1 : Int32) (md_set_tried (md_set_tried S (upd (md_tried S) (0 : Int32).toNatClampNeg (1 : Int32))) (upd (upd (md_tried S) (0 : Int32).toNatClampNeg (1 : Int32)) (1 : Int32).toNatClampNeg (1 : Int32))))))
def fX8_shortest_l12  : Nat → (Int32) → (zMd) → Option (Int32 × zMd)
  | 0, _, _ => none
  | n + 1, v3, S =>
  (fX8_findsChain S v3).bind fun u1 =>
  if u1.1 = (0 : Int32) then
  (fX8_shortest_l12  n (v3 + (1 : Int32)) u1.2)
  else
  (some (v3, u1.2))
def fX8_shortest (S : zMd) (p1 : Int32) (p2 : Int32) : Option (Int32 × zMd) :=
  fX8_shortest_l12 FU (1 : Int32) (md_set_goal (md_set_wanted S p1) p2)
def fX8_fewest (S : zMd) (p1 : Int32) : Option (Int32 × zMd) :=
  if (fX8_bound p1 (1 : Int32) (100 : Int32)) = (0 : Int32) then
  ((fX8_shortest S p1 p1).bind fun u3 =>
  some (u3.1, u3.2))
  else
  ((fX8_no S (fX8_bound p1 (1 : Int32) (100 : Int32))).bind fun u4 =>
  some (u4.1, u4.2))
def fX8_chain_j26 (v1 : Int32) (v2 : Int32) (t0 : Int32) (S : zMd) : Option (Int32 × zMd) :=
  if t0 = (0 : Int32) then
  ((fX8_shortest S v1 v1).bind fun u2 =>
  if u2.1 ≤ v2 then
  (some ((-9 : Int32), u2.2))
  else
  (ix 16 v2 (some (((md_tried u2.2) v2.toNatClampNeg), u2.2))))
  else
  ((fX8_no S t0).bind fun u5 =>
  some (u5.1, u5.2))
def fX8_chain_j9 (v1 : Int32) (v2 : Int32) (S : zMd) : Option (Int32 × zMd) :=
  fX8_chain_j26 v1 v2 (-4 : Int32) S
def fX8_chain (S : zMd) (p1 : Int32) (p2 : Int32) : Option (Int32 × zMd) :=
  if p1 < (1 : Int32) then
  (fX8_chain_j9 p1 p2 S)
  else
  (if (0 : Int32) ≤ p2 then
  (if p1 ≤ (100 : Int32) then
  (fX8_chain_j26 p1 p2 (0 : Int32) S)
  else
  (fX8_chain_j26 p1 p2 (-6 : Int32) S))
  else
  (fX8_chain_j9 p1 p2 S))
def fX8_factors_j59 (v1 : Int32) (v2 : Int32) (t1 : Int32) (t2 : Int32) (S : zMd) (k9 : (Int32) → (zMd) → Option (Int32 × zMd)) : Option (Int32 × zMd) :=
  ix 301 t1 (k9 (v2 + (1 : Int32)) (md_set_byFactors S (upd (md_byFactors S) t1.toNatClampNeg t2)))
def fX8_factors_l9 (v1 : Int32) : Nat → (Int32) → (zMd) → Option (Int32 × zMd)
  | 0, _, _ => none
  | n + 1, v2, S =>
  if v1 < v2 then
  (ix 301 v1 (some (((md_byFactors S) v1.toNatClampNeg), S)))
  else
  ((fX8_leastFactor v2).bind fun u4 =>
  if u4 = v2 then
  (ix 301 (v2 - (1 : Int32)) (fX8_factors_j59 v1 v2 v2 (((md_byFactors S) (v2 - (1 : Int32)).toNatClampNeg) + (1 : Int32)) S (fX8_factors_l9 v1 n)))
  else
  (ix 301 u4 (if u4 = 0 then none else ix 301 (v2 / u4) (fX8_factors_j59 v1 v2 v2 ((((md_byFactors S) u4.toNatClampNeg) + ((md_byFactors S) (v2 / u4).toNatClampNeg)) - (1 : Int32)) S (fX8_factors_l9 v1 n)))))
def fX8_factors (S : zMd) (p1 : Int32) : Option (Int32 × zMd) :=
  ix 301 (1 : Int32) (fX8_factors_l9 p1 FU (2 : Int32) (md_set_byFactors S (upd (md_byFactors S) (1 : Int32).toNatClampNeg (1 : Int32))))
def fX8_way_j22 (v1 : Int32) (v2 : Int32) (t0 : Int32) (S : zMd) : Option (Int32 × zMd) :=
  if t0 = (0 : Int32) then
  (if v2 = (0 : Int32) then
  ((fX8_halves v1).bind fun u4 =>
  some (u4, S))
  else
  ((fX8_factors S v1).bind fun u3 =>
  some (u3.1, u3.2)))
  else
  ((fX8_no S t0).bind fun u5 =>
  some (u5.1, u5.2))
def fX8_way (S : zMd) (p1 : Int32) (p2 : Int32) : Option (Int32 × zMd) :=
  if (fX8_isIn p2 (0 : Int32) (1 : Int32)) = (0 : Int32) then
  (fX8_way_j22 p1 p2 (-2 : Int32) S)
  else
  (fX8_way_j22 p1 p2 (fX8_bound p1 (1 : Int32) (300 : Int32)) S)
def fX8_both_j33 (v1 : Int32) (v2 : Int32) (t0 : Int32) (S : zMd) : Option (Int32 × zMd) :=
  if t0 = (0 : Int32) then
  (if v2 ≤ v1 then
  ((fX8_shortest S v2 v1).bind fun u3 =>
  some (u3.1, u3.2))
  else
  ((fX8_shortest S v1 v2).bind fun u4 =>
  some (u4.1, u4.2)))
  else
  ((fX8_no S t0).bind fun u5 =>
  some (u5.1, u5.2))
def fX8_both_j27 (v1 : Int32) (v2 : Int32) (S : zMd) : Option (Int32 × zMd) :=
  fX8_both_j33 v1 v2 (-6 : Int32) S
def fX8_both_j10 (v1 : Int32) (v2 : Int32) (S : zMd) : Option (Int32 × zMd) :=
  fX8_both_j33 v1 v2 (-4 : Int32) S
def fX8_both (S : zMd) (p1 : Int32) (p2 : Int32) : Option (Int32 × zMd) :=
  if p1 < (1 : Int32) then
  (fX8_both_j10 p1 p2 S)
  else
  (if (1 : Int32) ≤ p2 then
  (if (30 : Int32) < p1 then
  (fX8_both_j27 p1 p2 S)
  else
  (if p2 ≤ (30 : Int32) then
  (fX8_both_j33 p1 p2 (0 : Int32) S)
  else
  (fX8_both_j27 p1 p2 S)))
  else
  (fX8_both_j10 p1 p2 S))
def fX8_far (S : zMd) (p1 : Int32) : Option (Int32 × zMd) :=
  if (fX8_bound p1 (1 : Int32) (12 : Int32)) = (0 : Int32) then
  (some (((1 : Int32) <<< ((p1 - (1 : Int32)) &&& 31)), S))
  else
  ((fX8_no S (fX8_bound p1 (1 : Int32) (12 : Int32))).bind fun u3 =>
  some (u3.1, u3.2))
def fX8_isWithin_l12 (v2 : Int32) : Nat → (Int32) → (zMd) → Option (Int32 × zMd)
  | 0, _, _ => none
  | n + 1, v3, S =>
  if v2 < v3 then
  (some ((0 : Int32), S))
  else
  ((fX8_findsChain S v3).bind fun u2 =>
  if u2.1 = (0 : Int32) then
  (fX8_isWithin_l12 v2 n (v3 + (1 : Int32)) u2.2)
  else
  (some ((1 : Int32), u2.2)))
def fX8_isWithin (S : zMd) (p1 : Int32) (p2 : Int32) : Option (Int32 × zMd) :=
  fX8_isWithin_l12 p2 FU (1 : Int32) (md_set_goal (md_set_wanted S p1) p1)
def fX8_can_j69 (v1 : Int32) (v2 : Int32) (v5 : Int32) (v6 : Int32) (v7 : Int32) (t0 : Int32) (t1 : Int32) (S : zMd) (k41 : (Int32) → (Int32) → (Int32) → (zMd) → Option (Int32 × zMd)) : Option (Int32 × zMd) :=
  if v7 = (0 : Int32) then
  (if v5 = (0 : Int32) then
  (k41 (t0 + t1) v6 (v6 + (1 : Int32)) S)
  else
  (k41 (t0 + t1) v5 (v6 + (1 : Int32)) S))
  else
  (k41 (t0 + t1) v5 (v6 + (1 : Int32)) S)
def fX8_can_l41 (v1 : Int32) (v2 : Int32) : Nat → (Int32) → (Int32) → (Int32) → (zMd) → Option (Int32 × zMd)
  | 0, _, _, _, _ => none
  | n + 1, v4, v5, v6, S =>
  if (65 : Int32) < v6 then
  (if v2 = (0 : Int32) then
  (some (v4, S))
  else
  (some (v5, S)))
  else
  ((fX8_isWithin S v6 v1).bind fun u5 =>
  if u5.1 = (0 : Int32) then
  (fX8_can_j69 v1 v2 v5 v6 u5.1 v4 (0 : Int32) u5.2 (fX8_can_l41 v1 v2 n))
  else
  (fX8_can_j69 v1 v2 v5 v6 u5.1 v4 (1 : Int32) u5.2 (fX8_can_l41 v1 v2 n)))
def fX8_can_j21 (v1 : Int32) (v2 : Int32) (t0 : Int32) (S : zMd) : Option (Int32 × zMd) :=
  if t0 = (0 : Int32) then
  (fX8_can_l41 v1 v2 FU (0 : Int32) (0 : Int32) (1 : Int32) S)
  else
  ((fX8_no S t0).bind fun u8 =>
  some (u8.1, u8.2))
def fX8_can (S : zMd) (p1 : Int32) (p2 : Int32) : Option (Int32 × zMd) :=
  if (fX8_isIn p2 (0 : Int32) (1 : Int32)) = (0 : Int32) then
  (fX8_can_j21 p1 p2 (-2 : Int32) S)
  else
  (fX8_can_j21 p1 p2 (fX8_bound p1 (1 : Int32) (7 : Int32)) S)
def fX8_comesToIn1_l21 (S : zMd) (v1 : Int32) (v2 : Int32) (k2 : (Int32) → Option (Int32)) : Nat → (Int32) → Option (Int32)
  | 0, _ => none
  | n + 1, v3 =>
  if (md_houses S) ≤ v3 then
  (k2 (v2 + (1 : Int32)))
  else
  (ix 12 v2 (ix 12 v3 (if (((md_number S) v2.toNatClampNeg) + ((md_number S) v3.toNatClampNeg)) = v1 then
  ((fX8_canBe S v2 v3).bind fun u5 =>
  if u5 = (0 : Int32) then
  (fX8_comesToIn1_l21 S v1 v2 k2 n (v3 + (1 : Int32)))
  else
  (some (1 : Int32)))
  else
  (fX8_comesToIn1_l21 S v1 v2 k2 n (v3 + (1 : Int32))))))
def fX8_comesToIn1_l2 (S : zMd) (v1 : Int32) : Nat → (Int32) → Option (Int32)
  | 0, _ => none
  | n + 1, v2 =>
  if (md_houses S) ≤ v2 then
  (some (0 : Int32))
  else
  (if (12 : Int32) ≤ (md_houses S) then
  (some (0 : Int32))
  else
  (fX8_comesToIn1_l21 S v1 v2 (fX8_comesToIn1_l2 S v1 n) FU v2))
def fX8_comesToIn1 (S : zMd) (p1 : Int32) : Option (Int32) :=
  fX8_comesToIn1_l2 S p1 FU (0 : Int32)
def fX8_comesToIn2_l30 (v1 : Int32) (v3 : Int32) (v4 : Int32) (k10 : (Int32) → (Int32) → (zMd) → Option (Int32 × zMd)) : Nat → (Int32) → (Int32) → (zMd) → Option (Int32 × zMd)
  | 0, _, _, _ => none
  | n + 1, v2, v5, S =>
  if v3 ≤ v5 then
  (k10 v2 (v4 + (1 : Int32)) S)
  else
  (if v2 = (0 : Int32) then
  ((fX8_canBe S v4 v5).bind fun u3 =>
  if u3 = (0 : Int32) then
  (fX8_comesToIn2_l30 v1 v3 v4 k10 n v2 (v5 + (1 : Int32)) S)
  else
  ((fX8_passesAll S (2 : Int32) (1 : Int32)).bind fun u5 =>
  (fX8_builds u5 v4 v5 (0 : Int32) (0 : Int32)).bind fun u6 =>
  (fX8_comesToIn1 u6 v1).bind fun u7 =>
  (fX8_passesAll u6 (2 : Int32) (0 : Int32)).bind fun u8 =>
  fX8_comesToIn2_l30 v1 v3 v4 k10 n u7 (v5 + (1 : Int32)) u8))
  else
  (k10 v2 (v4 + (1 : Int32)) S))
def fX8_comesToIn2_l10 (v1 : Int32) (v3 : Int32) : Nat → (Int32) → (Int32) → (zMd) → Option (Int32 × zMd)
  | 0, _, _, _ => none
  | n + 1, v2, v4, S =>
  if v3 ≤ v4 then
  (if v2 &&& 1 = v2 then some (v2, S) else none)
  else
  (if (12 : Int32) ≤ v3 then
  (if v2 &&& 1 = v2 then some (v2, S) else none)
  else
  (if v2 = (0 : Int32) then
  (fX8_comesToIn2_l30 v1 v3 v4 (fX8_comesToIn2_l10 v1 v3 n) FU v2 v4 S)
  else
  (if v2 &&& 1 = v2 then some (v2, S) else none)))
def fX8_comesToIn2 (S : zMd) (p1 : Int32) : Option (Int32 × zMd) :=
  fX8_comesToIn2_l10 p1 (md_houses S) FU (0 : Int32) (0 : Int32) S
def fX8_more (S : zMd) (p1 : Int32) : Option (Int32 × zMd) :=
  if (fX8_bound p1 (1 : Int32) (300 : Int32)) = (0 : Int32) then
  ((fX8_isThere S p1).bind fun u3 =>
  if u3 = (0 : Int32) then
  ((fX8_comesToIn1 S p1).bind fun u5 =>
  if u5 = (0 : Int32) then
  ((fX8_comesToIn2 S p1).bind fun u7 =>
  if u7.1 = (0 : Int32) then
  (some ((-9 : Int32), u7.2))
  else
  (some ((2 : Int32), u7.2)))
  else
  (some ((1 : Int32), S)))
  else
  (some ((0 : Int32), S)))
  else
  ((fX8_no S (fX8_bound p1 (1 : Int32) (300 : Int32))).bind fun u9 =>
  some (u9.1, u9.2))
def fX8_needs_j31 (S : zMd) (v2 : Int32) : Option (Int32) :=
  (fX8_standing S).bind fun u1 =>
  some (v2 &&& u1)
def fX8_needs (S : zMd) (p1 : Int32) : Option (Int32) :=
  ix 12 p1 (if ((md_one S) p1.toNatClampNeg) < (0 : Int32) then
  (fX8_needs_j31 S (0 : Int32))
  else
  (fX8_needs_j31 S ((0 : Int32) ||| (((1 : Int32) <<< (((md_one S) p1.toNatClampNeg) &&& 31)) ||| ((1 : Int32) <<< (((md_other S) p1.toNatClampNeg) &&& 31))))))
def fX8_orders_l44 (v1 : Int32) (v2 : Int32) (k14 : (Int32) → (zMd) → Option (Int32 × zMd)) : Nat → (Int32) → (zMd) → Option (Int32 × zMd)
  | 0, _, _ => none
  | n + 1, v3, S =>
  if (md_houses S) ≤ v3 then
  (k14 (v2 + (1 : Int32)) S)
  else
  (if (fX8_has v2 v3) = (0 : Int32) then
  (fX8_orders_l44 v1 v2 k14 n (v3 + (1 : Int32)) S)
  else
  ((fX8_needs S v3).bind fun u4 =>
  if (u4 &&& ((v2 &&& (((1 : Int32) <<< (v3 &&& 31)) ^^^ (-1 : Int32))) ^^^ (-1 : Int32))) = (0 : Int32) then
  (ix 4096 v2 (ix 4096 (v2 &&& (((1 : Int32) <<< (v3 &&& 31)) ^^^ (-1 : Int32))) (fX8_orders_l44 v1 v2 k14 n (v3 + (1 : Int32)) (md_set_ways S (upd (md_ways S) v2.toNatClampNeg (((md_ways S) v2.toNatClampNeg) + ((md_ways S) (v2 &&& (((1 : Int32) <<< (v3 &&& 31)) ^^^ (-1 : Int32))).toNatClampNeg)))))))
  else
  (fX8_orders_l44 v1 v2 k14 n (v3 + (1 : Int32)) S)))
def fX8_orders_l14 (v1 : Int32) : Nat → (Int32) → (zMd) → Option (Int32 × zMd)
  | 0, _, _ => none
  | n + 1, v2, S =>
  if ((1 : Int32) <<< ((md_houses S) &&& 31)) ≤ v2 then
  (ix 4096 v1 (some (((md_ways S) v1.toNatClampNeg), S)))
  else
  (ix 4096 v2 (if (v2 &&& (v1 ^^^ (-1 : Int32))) = (0 : Int32) then
  (fX8_orders_l44 v1 v2 (fX8_orders_l14 v1 n) FU (0 : Int32) (md_set_ways S (upd (md_ways S) v2.toNatClampNeg (0 : Int32))))
  else
  (fX8_orders_l14 v1 n (v2 + (1 : Int32)) (md_set_ways S (upd (md_ways S) v2.toNatClampNeg (0 : Int32))))))
def fX8_orders (S : zMd) : Option (Int32 × zMd) :=
  (fX8_standing S).bind fun u12 =>
  ix 4096 (0 : Int32) (fX8_orders_l14 u12 FU (1 : Int32) (md_set_ways S (upd (md_ways S) (0 : Int32).toNatClampNeg (1 : Int32))))
def fX8_isSumIn_l2 (S : zMd) (v1 : Int32) (v2 : Int32) : Nat → (Int32) → Option (Int32)
  | 0, _ => none
  | n + 1, v3 =>
  if v2 < ((2 : Int32) * v3) then
  (some (0 : Int32))
  else
  (if (fX8_has v1 v3) = (0 : Int32) then
  (fX8_isSumIn_l2 S v1 v2 n (v3 + (1 : Int32)))
  else
  (if (fX8_has v1 (v2 - v3)) = (0 : Int32) then
  (fX8_isSumIn_l2 S v1 v2 n (v3 + (1 : Int32)))
  else
  (some (1 : Int32))))
def fX8_isSumIn (S : zMd) (p1 : Int32) (p2 : Int32) : Option (Int32) :=
  fX8_isSumIn_l2 S p1 p2 FU (1 : Int32)
def fX8_doesWin_l2 (S : zMd) (v1 : Int32) (v2 : Int32) : Nat → (Int32) → Option (Int32)
  | 0, _ => none
  | n + 1, v3 =>
  if v2 < v3 then
  (some (0 : Int32))
  else
  (if (fX8_has v1 v3) = (0 : Int32) then
  ((fX8_isSumIn S v1 v3).bind fun u4 =>
  if u4 = (0 : Int32) then
  (fX8_doesWin_l2 S v1 v2 n (v3 + (1 : Int32)))
  else
  (if v3 = v2 then
  (some (1 : Int32))
  else
  (ix 8192 (v1 ||| ((1 : Int32) <<< (v3 &&& 31))) (if ((md_wins S) (v1 ||| ((1 : Int32) <<< (v3 &&& 31))).toNatClampNeg) = (0 : Int32) then
  (some (1 : Int32))
  else
  (fX8_doesWin_l2 S v1 v2 n (v3 + (1 : Int32)))))))
  else
  (fX8_doesWin_l2 S v1 v2 n (v3 + (1 : Int32))))
def fX8_doesWin (S : zMd) (p1 : Int32) (p2 : Int32) : Option (Int32) :=
  fX8_doesWin_l2 S p1 p2 FU (2 : Int32)
def fX8_game_j56 (v1 : Int32) (v3 : Int32) (t1 : Int32) (t2 : Int32) (S : zMd) (k24 : (Int32) → (zMd) → Option (Int32 × zMd)) : Option (Int32 × zMd) :=
  ix 8192 t1 (k24 (v3 + (-1 : Int32)) (md_set_wins S (upd (md_wins S) t1.toNatClampNeg t2)))
def fX8_game_j55 (v1 : Int32) (v3 : Int32) (t1 : Int32) (S : zMd) (k24 : (Int32) → (zMd) → Option (Int32 × zMd)) : Option (Int32 × zMd) :=
  fX8_game_j56 v1 v3 t1 (0 : Int32) S (k24)
def fX8_game_l24 (v1 : Int32) : Nat → (Int32) → (zMd) → Option (Int32 × zMd)
  | 0, _, _ => none
  | n + 1, v3, S =>
  if v3 < (2 : Int32) then
  (ix 8192 (2 : Int32) (some (((md_wins S) (2 : Int32).toNatClampNeg), S)))
  else
  (if (fX8_has v3 (1 : Int32)) = (0 : Int32) then
  (fX8_game_j55 v1 v3 v3 S (fX8_game_l24 v1 n))
  else
  ((fX8_doesWin S v3 v1).bind fun u6 =>
  if u6 = (0 : Int32) then
  (fX8_game_j55 v1 v3 v3 S (fX8_game_l24 v1 n))
  else
  (fX8_game_j56 v1 v3 v3 (1 : Int32) S (fX8_game_l24 v1 n))))
def fX8_game (S : zMd) (p1 : Int32) : Option (Int32 × zMd) :=
  if (fX8_bound p1 (2 : Int32) (12 : Int32)) = (0 : Int32) then
  (fX8_game_l24 p1 FU (((1 : Int32) <<< (p1 &&& 31)) - (1 : Int32)) S)
  else
  ((fX8_no S (fX8_bound p1 (2 : Int32) (12 : Int32))).bind fun u10 =>
  some (u10.1, u10.2))
def fX8_row_j25 (v1 : Int32) (v2 : Int32) (S : zMd) : Option (Int32 × zMd) :=
  if v2 = (0 : Int32) then
  (ix 12 (md_rowMany S) (some (((md_rowMany S) + (1 : Int32)), (md_set_rowMany (md_set_row S (upd (md_row S) (md_rowMany S).toNatClampNeg v1)) ((md_rowMany S) + (1 : Int32))))))
  else
  ((fX8_no S v2).bind fun u3 =>
  some (u3.1, u3.2))
def fX8_row (S : zMd) (p1 : Int32) : Option (Int32 × zMd) :=
  if (fX8_bound p1 (1 : Int32) (9999 : Int32)) = (0 : Int32) then
  (if (md_rowMany S) = (12 : Int32) then
  (fX8_row_j25 p1 (-6 : Int32) S)
  else
  (fX8_row_j25 p1 (fX8_bound p1 (1 : Int32) (9999 : Int32)) S))
  else
  (fX8_row_j25 p1 (fX8_bound p1 (1 : Int32) (9999 : Int32)) S)
def fX8_isWell_l47 (S : zMd) (v1 : Int32) (v3 : Int32) (k22 : (Int32) → (Int32) → Option (Int32)) : Nat → (Int32) → (Int32) → Option (Int32)
  | 0, _, _ => none
  | n + 1, v2, v4 =>
  if v1 ≤ v4 then
  (k22 v2 (v3 + (1 : Int32)))
  else
  (ix 12 v3 (ix 12 v4 (ix 12 v1 (if (((md_row S) v3.toNatClampNeg) + ((md_row S) v4.toNatClampNeg)) = ((md_row S) v1.toNatClampNeg) then
  (fX8_isWell_l47 S v1 v3 k22 n (v2 ||| (1 : Int32)) (v4 + (1 : Int32)))
  else
  (fX8_isWell_l47 S v1 v3 k22 n (v2 ||| (0 : Int32)) (v4 + (1 : Int32)))))))
def fX8_isWell_l22 (S : zMd) (v1 : Int32) : Nat → (Int32) → (Int32) → Option (Int32)
  | 0, _, _ => none
  | n + 1, v2, v3 =>
  if v1 ≤ v3 then
  (if v2 &&& 1 = v2 then some v2 else none)
  else
  (ix 12 v3 (ix 12 v1 (if ((md_row S) v3.toNatClampNeg) = ((md_row S) v1.toNatClampNeg) then
  (some (0 : Int32))
  else
  (fX8_isWell_l47 S v1 v3 (fX8_isWell_l22 S v1 n) FU v2 v3))))
def fX8_isWell_j19 (S : zMd) (v1 : Int32) (t0 : Int32) : Option (Int32) :=
  fX8_isWell_l22 S v1 FU t0 (0 : Int32)
def fX8_isWell_j18 (S : zMd) (v1 : Int32) : Option (Int32) :=
  fX8_isWell_j19 S v1 (0 : Int32)
def fX8_isWell (S : zMd) (p1 : Int32) : Option (Int32) :=
  if p1 = (0 : Int32) then
  (ix 12 (0 : Int32) (if ((md_row S) (0 : Int32).toNatClampNeg) = (1 : Int32) then
  (fX8_isWell_j19 S p1 (1 : Int32))
  else
  (fX8_isWell_j18 S p1)))
  else
  (fX8_isWell_j18 S p1)
def fX8_judge_l12 (v1 : Int32) (S : zMd) : Nat → (Int32) → Option (Int32 × zMd)
  | 0, _ => none
  | n + 1, v2 =>
  if v1 ≤ v2 then
  (some ((-9 : Int32), S))
  else
  ((fX8_isWell S v2).bind fun u2 =>
  if u2 = (0 : Int32) then
  (some (v2, S))
  else
  (fX8_judge_l12 v1 S n (v2 + (1 : Int32))))
def fX8_judge (S : zMd) : Option (Int32 × zMd) :=
  fX8_judge_l12 (md_rowMany S) (md_set_rowMany S (0 : Int32)) FU (0 : Int32)
def fX8_draw (S : zMd) (p1 : Int32) : Option (Int32 × zMd) :=
  if p1 = 0 then none else some (((((((md_lots S) * (1103515245 : Int32)) + (12345 : Int32)) &&& (2147483647 : Int32)) / (65536 : Int32)) - (((((md_lots S) * (1103515245 : Int32)) + (12345 : Int32)) &&& (2147483647 : Int32)) / (65536 : Int32)) / p1 * p1), (md_set_lots S (((md_lots S) * (1103515245 : Int32)) + (12345 : Int32))))
def fX8_greatest_l4 (S : zMd) : Nat → (Int32) → (Int32) → Option (Int32)
  | 0, _, _ => none
  | n + 1, v1, v2 =>
  if (md_houses S) ≤ v2 then
  (some v1)
  else
  (ix 12 v2 (if ((md_stands S) v2.toNatClampNeg) = (1 : Int32) then
  (if ((md_number S) v2.toNatClampNeg) ≤ v1 then
  (fX8_greatest_l4 S n v1 (v2 + (1 : Int32)))
  else
  (fX8_greatest_l4 S n ((md_number S) v2.toNatClampNeg) (v2 + (1 : Int32))))
  else
  (fX8_greatest_l4 S n v1 (v2 + (1 : Int32)))))
def fX8_greatest (S : zMd) : Option (Int32) :=
  fX8_greatest_l4 S FU (0 : Int32) (0 : Int32)
def fX8_buildsByLot (S : zMd) : Option (zMd) :=
  (fX8_draw S (md_houses S)).bind fun u1 =>
  (fX8_draw u1.2 (md_houses u1.2)).bind fun u2 =>
  (fX8_canBe u2.2 u1.1 u2.1).bind fun u3 =>
  if u3 = (0 : Int32) then
  (some u2.2)
  else
  (if (12 : Int32) ≤ (md_houses u2.2) then
  (some u2.2)
  else
  ((fX8_builds u2.2 u1.1 u2.1 (0 : Int32) (0 : Int32)).bind fun u6 =>
  some u6))
def fX8_seeds_j83 (t0 : Int32) (S : zMd) : Option (Int32 × zMd) :=
  (fX8_passesAll S (2 : Int32) (0 : Int32)).bind fun u1 =>
  some (t0, u1)
def fX8_seeds_l49 (v1 : Int32) (v3 : Int32) : Nat → (Int32) → (zMd) → Option (Int32 × zMd)
  | 0, _, _ => none
  | n + 1, v5, S =>
  if v1 ≤ v5 then
  (if v3 = (0 : Int32) then
  ((fX8_standing S).bind fun u5 =>
  (fX8_bits u5).bind fun u6 =>
  fX8_seeds_j83 u6 S)
  else
  ((fX8_greatest S).bind fun u4 =>
  fX8_seeds_j83 u4 S))
  else
  ((fX8_buildsByLot S).bind fun u7 =>
  fX8_seeds_l49 v1 v3 n (v5 + (1 : Int32)) u7)
def fX8_seeds_j21 (v1 : Int32) (v2 : Int32) (v3 : Int32) (t0 : Int32) (S : zMd) : Option (Int32 × zMd) :=
  if t0 = (0 : Int32) then
  ((fX8_passesAll S (2 : Int32) (1 : Int32)).bind fun u9 =>
  fX8_seeds_l49 v1 v3 FU (0 : Int32) (md_set_lots u9 v2))
  else
  ((fX8_no S t0).bind fun u10 =>
  some (u10.1, u10.2))
def fX8_seeds (S : zMd) (p1 : Int32) (p2 : Int32) (p3 : Int32) : Option (Int32 × zMd) :=
  if (fX8_isIn p3 (0 : Int32) (1 : Int32)) = (0 : Int32) then
  (fX8_seeds_j21 p1 p2 p3 (-2 : Int32) S)
  else
  (fX8_seeds_j21 p1 p2 p3 (fX8_bound p1 (1 : Int32) (40 : Int32)) S)
def fX8_allEarned_l4 (S : zMd) : Nat → (Int32) → (Int32) → Option (Int32)
  | 0, _, _ => none
  | n + 1, v1, v2 =>
  if (md_houses S) ≤ v2 then
  (some v1)
  else
  (ix 12 v2 (fX8_allEarned_l4 S n (v1 + ((md_earned S) v2.toNatClampNeg)) (v2 + (1 : Int32))))
def fX8_allEarned (S : zMd) : Option (Int32) :=
  fX8_allEarned_l4 S FU (0 : Int32) (0 : Int32)
def fX8_count (S : zMd) (p1 : Int32) : Option (Int32) :=
  if (fX8_isIn p1 (11 : Int32) (16 : Int32)) = (0 : Int32) then
  (if p1 = (0 : Int32) then
  (some (md_houses S))
  else
  (if p1 = (1 : Int32) then
  ((fX8_standing S).bind fun u4 =>
  (fX8_bits u4).bind fun u5 =>
  some u5)
  else
  (if p1 = (2 : Int32) then
  ((fX8_greatest S).bind fun u6 =>
  some u6)
  else
  (if p1 = (3 : Int32) then
  (some (md_sums S))
  else
  (if p1 = (4 : Int32) then
  (some (md_falls S))
  else
  (if p1 = (5 : Int32) then
  ((fX8_allEarned S).bind fun u7 =>
  some u7)
  else
  (if p1 = (6 : Int32) then
  (some (md_taped S))
  else
  (if p1 = (7 : Int32) then
  (some (md_rowMany S))
  else
  (some (-9 : Int32))))))))))
  else
  (ix 7 (p1 - (10 : Int32)) (some ((md_refused S) (p1 - (10 : Int32)).toNatClampNeg)))
def fX7_nextSeed (p0 : Int32) : Int32 :=
  ((p0 * (1103515245 : Int32)) + (12345 : Int32))
def fX7_draw (p0 : Int32) (p1 : Int32) : Option (Int32) :=
  if (1 : Int32) ≤ p1 then
  (if p1 = 0 then none else some (((p0 &&& (2147483647 : Int32)).toUInt32 >>> ((16 : Int32).toUInt32 &&& Int32.toUInt32 31)).toInt32 - ((p0 &&& (2147483647 : Int32)).toUInt32 >>> ((16 : Int32).toUInt32 &&& Int32.toUInt32 31)).toInt32 / p1 * p1))
  else
  (some (0 : Int32))
def fX7_outside (p0 : Int32) (p1 : Int32) (p2 : Int32) : Int32 :=
  if p1 ≤ p0 then
  (if p0 ≤ p2 then
  ((0 : Int32))
  else
  ((-6 : Int32)))
  else
  ((-4 : Int32))
def fX7_isOneOfTwo (p0 : Int32) : Int32 :=
  if p0 = (0 : Int32) then
  ((1 : Int32))
  else
  (if p0 = (1 : Int32) then
  ((1 : Int32))
  else
  ((0 : Int32)))
def fX7_sow_l5 (v1 : Int32) : Nat → (Int32) → (Int32) → (zSt) → Option (zSt)
  | 0, _, _, _ => none
  | n + 1, v3, v4, S =>
  if v1 ≤ v4 then
  (some S)
  else
  ((fX7_draw (fX7_nextSeed v3) (fX5_cameCount S)).bind fun u4 =>
  (fX7_draw (fX7_nextSeed (fX7_nextSeed v3)) (fX5_cameCount S)).bind fun u7 =>
  (fX5_build S u4 u7 (0 : Int32) (0 : Int32)).bind fun u8 =>
  fX7_sow_l5 v1 n (fX7_nextSeed (fX7_nextSeed v3)) (v4 + (1 : Int32)) u8.2)
def fX7_sow (S : zSt) (p1 : Int32) (p2 : Int32) : Option (zSt) :=
  fX7_sow_l5 p1 FU p2 (0 : Int32) S
def fX7_refuse (S : zMn) (p1 : Int32) : Option (Int32 × zMn) :=
  if (0 : Int32) ≤ p1 then
  (some (p1, S))
  else
  (if p1 ≤ (-(7 : Int32)) then
  (some (p1, S))
  else
  (ix 7 (-p1) (some (p1, (mn_set_refusals S (upd (mn_refusals S) (-p1).toNatClampNeg (((mn_refusals S) (-p1).toNatClampNeg) + (1 : Int32))))))))
def fX7_comesNextButOne_l15 (v1 : Int32) (v2 : Int32) (k2 : (Int32) → (zMn) → Option (Int32 × zMn)) : Nat → (Int32) → (zMn) → Option (Int32 × zMn)
  | 0, _, _ => none
  | n + 1, v3, S =>
  if (fX5_cameCount (mn_live S)) ≤ v3 then
  (k2 (v2 + (1 : Int32)) S)
  else
  ((fX5_build (fX5_become (mn_mind S) (mn_live S)) v2 v3 (0 : Int32) (0 : Int32)).bind fun u4 =>
  if u4.1 = (0 : Int32) then
  (fX7_comesNextButOne_l15 v1 v2 k2 n (v3 + (1 : Int32)) (mn_set_mind S u4.2))
  else
  ((fX5_comesNext u4.2 v1).bind fun u6 =>
  if u6 = (0 : Int32) then
  (fX7_comesNextButOne_l15 v1 v2 k2 n (v3 + (1 : Int32)) (mn_set_mind S u4.2))
  else
  (some ((1 : Int32), (mn_set_mind S u4.2)))))
def fX7_comesNextButOne_l2 (v1 : Int32) : Nat → (Int32) → (zMn) → Option (Int32 × zMn)
  | 0, _, _ => none
  | n + 1, v2, S =>
  if (fX5_cameCount (mn_live S)) ≤ v2 then
  (some ((0 : Int32), S))
  else
  (fX7_comesNextButOne_l15 v1 v2 (fX7_comesNextButOne_l2 v1 n) FU v2 S)
def fX7_comesNextButOne (S : zMn) (p1 : Int32) : Option (Int32 × zMn) :=
  fX7_comesNextButOne_l2 p1 FU (0 : Int32) S
def fX7_feed_j28 (S : zMn) : Option (Int32 × zMn) :=
  (fX7_refuse S (-6 : Int32)).bind fun u1 =>
  some (u1.1, u1.2)
def fX7_feed (S : zMn) (p1 : Int32) : Option (Int32 × zMn) :=
  if (0 : Int32) ≤ p1 then
  (if (255 : Int32) < p1 then
  (fX7_feed_j28 S)
  else
  (if (fX6_hasRoom_L (mn_letters S)) = (0 : Int32) then
  (fX7_feed_j28 S)
  else
  ((fX6_take_L (mn_letters S) p1).bind fun u6 =>
  some (u6.1, (mn_set_letters S u6.2)))))
  else
  ((fX7_refuse S (-4 : Int32)).bind fun u7 =>
  some (u7.1, u7.2))
def fX7_street_j35 (v1 : Int32) (S : zMn) : Option (Int32 × zMn) :=
  if v1 = (0 : Int32) then
  (some ((fX2_statementCount (fX6_forget_L (mn_letters S))), (mn_set_letters (mn_set_live S (fX5_become (mn_live S) (mn_mind S))) (fX6_forget_L (mn_letters S)))))
  else
  (some (v1, (mn_set_letters S (fX6_forget_L (mn_letters S)))))
def fX7_street (S : zMn) : Option (Int32 × zMn) :=
  (fX2_faultOfForm (mn_letters S)).bind fun u6 =>
  if u6.1 = (0 : Int32) then
  ((fX2_faultOfSense u6.2 (fX5_become (mn_mind S) (mn_live S))).bind fun u8 =>
  fX7_street_j35 u8.1 (mn_set_letters (mn_set_mind S u8.2.2) u8.2.1))
  else
  (fX7_street_j35 u6.1 (mn_set_letters (mn_set_mind S (fX5_become (mn_mind S) (mn_live S))) u6.2))
def fX7_house_j27 (S : zMn) : Option (Int32 × zMn) :=
  (fX7_refuse S (-2 : Int32)).bind fun u1 =>
  some (u1.1, u1.2)
def fX7_house (S : zMn) (p1 : Int32) (p2 : Int32) : Option (Int32 × zMn) :=
  if (fX5_has (mn_live S) p1) = (0 : Int32) then
  ((fX7_refuse S (-1 : Int32)).bind fun u7 =>
  some (u7.1, u7.2))
  else
  (if p2 < (0 : Int32) then
  (fX7_house_j27 S)
  else
  (if p2 ≤ (7 : Int32) then
  ((fX5_tell (mn_live S) p1 p2).bind fun u6 =>
  some (u6, S))
  else
  (fX7_house_j27 S)))
def fX7_law_j70 (v3 : Int32) (v4 : Int32) (t0 : Int32) (S : zMn) : Option (Int32 × zMn) :=
  if (fX5_changeLaws (mn_live S) v4 t0).1 = (0 : Int32) then
  ((fX7_refuse (mn_set_live S (fX5_changeLaws (mn_live S) v4 t0).2) (-2 : Int32)).bind fun u3 =>
  some (u3.1, u3.2))
  else
  (some (v3, (mn_set_live S (fX5_changeLaws (mn_live S) v4 t0).2)))
def fX7_law_j53 (v1 : Int32) (v2 : Int32) (v3 : Int32) (t0 : Int32) (S : zMn) : Option (Int32 × zMn) :=
  if v1 = (0 : Int32) then
  (fX7_law_j70 v3 t0 (fX5_fallsLaw (mn_live S)) S)
  else
  (fX7_law_j70 v3 t0 v2 S)
def fX7_law_j37 (v1 : Int32) (v2 : Int32) (t0 : Int32) (S : zMn) : Option (Int32 × zMn) :=
  if v1 = (0 : Int32) then
  (fX7_law_j53 v1 v2 t0 v2 S)
  else
  (fX7_law_j53 v1 v2 t0 (fX5_sumsLaw (mn_live S)) S)
def fX7_law_j9 (S : zMn) : Option (Int32 × zMn) :=
  (fX7_refuse S (-2 : Int32)).bind fun u8 =>
  some (u8.1, u8.2)
def fX7_law (S : zMn) (p1 : Int32) (p2 : Int32) : Option (Int32 × zMn) :=
  if p1 < (0 : Int32) then
  (fX7_law_j9 S)
  else
  (if p1 ≤ (1 : Int32) then
  (if p1 = (0 : Int32) then
  (fX7_law_j37 p1 p2 (fX5_sumsLaw (mn_live S)) S)
  else
  (fX7_law_j37 p1 p2 (fX5_fallsLaw (mn_live S)) S))
  else
  (fX7_law_j9 S))
def fX7_may_j50 (S : zMn) : Option (Int32 × zMn) :=
  (fX7_refuse S (-3 : Int32)).bind fun u1 =>
  some (u1.1, u1.2)
def fX7_may_j22 (S : zMn) : Option (Int32 × zMn) :=
  (fX7_refuse S (-1 : Int32)).bind fun u2 =>
  some (u2.1, u2.2)
def fX7_may (S : zMn) (p1 : Int32) (p2 : Int32) : Option (Int32 × zMn) :=
  if (fX5_has (mn_live S) p1) = (0 : Int32) then
  (fX7_may_j22 S)
  else
  (if (fX5_has (mn_live S) p2) = (0 : Int32) then
  (fX7_may_j22 S)
  else
  (if (fX5_stands (mn_live S) p1) = (0 : Int32) then
  (fX7_may_j50 S)
  else
  (if (fX5_stands (mn_live S) p2) = (0 : Int32) then
  (fX7_may_j50 S)
  else
  ((fX5_mayBe (mn_live S) p1 p2).bind fun u11 =>
  if u11 = (0 : Int32) then
  (some ((0 : Int32), S))
  else
  (some ((1 : Int32), S))))))
def fX7_cost_j22 (S : zMn) : Option (Int32 × zMn) :=
  (fX7_refuse S (-1 : Int32)).bind fun u1 =>
  some (u1.1, u1.2)
def fX7_cost (S : zMn) (p1 : Int32) (p2 : Int32) : Option (Int32 × zMn) :=
  if (fX5_has (mn_live S) p1) = (0 : Int32) then
  (fX7_cost_j22 S)
  else
  (if (fX5_has (mn_live S) p2) = (0 : Int32) then
  (fX7_cost_j22 S)
  else
  ((fX5_mayBe (mn_live S) p1 p2).bind fun u6 =>
  if u6 = (0 : Int32) then
  ((fX7_refuse S (-3 : Int32)).bind fun u10 =>
  some (u10.1, u10.2))
  else
  ((fX5_fee (mn_live S) p1).bind fun u8 =>
  (fX5_fee (mn_live S) p2).bind fun u9 =>
  some ((u8 + u9), S))))
def fX7_add_j22 (S : zMn) : Option (Int32 × zMn) :=
  (fX7_refuse S (-1 : Int32)).bind fun u1 =>
  some (u1.1, u1.2)
def fX7_add (S : zMn) (p1 : Int32) (p2 : Int32) (p3 : Int32) (p4 : Int32) : Option (Int32 × zMn) :=
  if (fX5_has (mn_live S) p1) = (0 : Int32) then
  (fX7_add_j22 S)
  else
  (if (fX5_has (mn_live S) p2) = (0 : Int32) then
  (fX7_add_j22 S)
  else
  (if (fX5_isKind p3) = (0 : Int32) then
  ((fX7_refuse S (-2 : Int32)).bind fun u19 =>
  some (u19.1, u19.2))
  else
  (if (0 : Int32) ≤ p4 then
  (if p4 ≤ (9 : Int32) then
  ((fX5_mayBe (mn_live S) p1 p2).bind fun u10 =>
  if u10 = (0 : Int32) then
  ((fX7_refuse S (-3 : Int32)).bind fun u16 =>
  some (u16.1, u16.2))
  else
  ((fX5_build (mn_live S) p1 p2 p3 p4).bind fun u12 =>
  if u12.1 = (0 : Int32) then
  ((fX7_refuse (mn_set_live S u12.2) (-6 : Int32)).bind fun u15 =>
  some (u15.1, u15.2))
  else
  (some (((fX5_cameCount u12.2) - (1 : Int32)), (mn_set_live S u12.2)))))
  else
  ((fX7_refuse S (-6 : Int32)).bind fun u17 =>
  some (u17.1, u17.2)))
  else
  ((fX7_refuse S (-4 : Int32)).bind fun u18 =>
  some (u18.1, u18.2)))))
def fX7_burn (S : zMn) (p1 : Int32) : Option (Int32 × zMn) :=
  if (fX5_has (mn_live S) p1) = (0 : Int32) then
  ((fX7_refuse S (-1 : Int32)).bind fun u7 =>
  some (u7.1, u7.2))
  else
  (if (fX5_stands (mn_live S) p1) = (0 : Int32) then
  ((fX7_refuse S (-3 : Int32)).bind fun u6 =>
  some (u6.1, u6.2))
  else
  ((fX5_fire (mn_live S) p1).bind fun u5 =>
  some (u5.1, (mn_set_live S u5.2))))
def fX7_hangs (S : zMn) (p1 : Int32) : Option (Int32 × zMn) :=
  if (fX5_has (mn_live S) p1) = (0 : Int32) then
  ((fX7_refuse S (-1 : Int32)).bind fun u7 =>
  some (u7.1, u7.2))
  else
  (if (fX5_stands (mn_live S) p1) = (0 : Int32) then
  ((fX7_refuse S (-3 : Int32)).bind fun u6 =>
  some (u6.1, u6.2))
  else
  ((fX5_fallsWith (mn_live S) p1).bind fun u5 =>
  some (u5, S)))
def fX7_save_j44 (S : zMn) (v1 : Int32) (v2 : Int32) (v3 : Int32) (t0 : Int32) (k7 : (Int32) → (Int32) → (Int32) → Option (Int32)) : Option (Int32) :=
  if t0 ≤ v2 then
  (k7 v1 v2 (v3 + (1 : Int32)))
  else
  (k7 v3 t0 (v3 + (1 : Int32)))
def fX7_save_l7 (S : zMn) : Nat → (Int32) → (Int32) → (Int32) → Option (Int32)
  | 0, _, _, _ => none
  | n + 1, v1, v2, v3 =>
  if (fX5_cameCount (mn_live S)) ≤ v3 then
  (some v1)
  else
  (if (fX5_stands (mn_live S) v3) = (0 : Int32) then
  (fX7_save_j44 S v1 v2 v3 (0 : Int32) (fX7_save_l7 S n))
  else
  ((fX5_fallsWith (mn_live S) v3).bind fun u6 =>
  fX7_save_j44 S v1 v2 v3 (fJ6_bitCount_0f7a4 u6) (fX7_save_l7 S n)))
def fX7_save (S : zMn) : Option (Int32) :=
  fX7_save_l7 S FU (-9 : Int32) (0 : Int32) (0 : Int32)
def fX7_fewest (S : zMn) (p1 : Int32) : Option (Int32 × zMn) :=
  if (fX7_outside p1 (1 : Int32) (100 : Int32)) = (0 : Int32) then
  ((fX0_shortest (mn_chains S) (1 : Int32) p1).bind fun u3 =>
  some (u3.1, (mn_set_chains S u3.2)))
  else
  ((fX7_refuse S (fX7_outside p1 (1 : Int32) (100 : Int32))).bind fun u4 =>
  some (u4.1, u4.2))
def fX7_chain (S : zMn) (p1 : Int32) (p2 : Int32) : Option (Int32 × zMn) :=
  if (0 : Int32) ≤ p2 then
  (if (fX7_outside p1 (1 : Int32) (100 : Int32)) = (0 : Int32) then
  ((fX0_shortest (mn_chains S) (1 : Int32) p1).bind fun u4 =>
  if u4.1 ≤ p2 then
  (some ((-9 : Int32), (mn_set_chains S u4.2)))
  else
  ((fX0_numberAt u4.2 p2).bind fun u6 =>
  some (u6, (mn_set_chains S u4.2))))
  else
  ((fX7_refuse S (fX7_outside p1 (1 : Int32) (100 : Int32))).bind fun u7 =>
  some (u7.1, u7.2)))
  else
  ((fX7_refuse S (-4 : Int32)).bind fun u8 =>
  some (u8.1, u8.2))
def fX7_way_j20 (v1 : Int32) (v2 : Int32) (t0 : Int32) (S : zMn) : Option (Int32 × zMn) :=
  if t0 = (0 : Int32) then
  (if v2 = (0 : Int32) then
  (some ((fX0_byHalves v1), S))
  else
  ((fX0_byFactors v1).bind fun u3 =>
  some (u3, S)))
  else
  ((fX7_refuse S t0).bind fun u5 =>
  some (u5.1, u5.2))
def fX7_way (S : zMn) (p1 : Int32) (p2 : Int32) : Option (Int32 × zMn) :=
  if (fX7_isOneOfTwo p2) = (0 : Int32) then
  (fX7_way_j20 p1 p2 (-2 : Int32) S)
  else
  (fX7_way_j20 p1 p2 (fX7_outside p1 (1 : Int32) (300 : Int32)) S)
def fX7_both_j31 (v3 : Int32) (v4 : Int32) (t0 : Int32) (S : zMn) : Option (Int32 × zMn) :=
  if t0 = (0 : Int32) then
  ((fX0_shortest (mn_chains S) v3 v4).bind fun u2 =>
  some (u2.1, (mn_set_chains S u2.2)))
  else
  ((fX7_refuse S t0).bind fun u3 =>
  some (u3.1, u3.2))
def fX7_both (S : zMn) (p1 : Int32) (p2 : Int32) : Option (Int32 × zMn) :=
  if (1 : Int32) ≤ (if p2 < p1 then p2 else p1) then
  (fX7_both_j31 (if p2 < p1 then p2 else p1) (if p1 < p2 then p2 else p1) (fX7_outside (if p1 < p2 then p2 else p1) (1 : Int32) (30 : Int32)) S)
  else
  (fX7_both_j31 (if p2 < p1 then p2 else p1) (if p1 < p2 then p2 else p1) (-4 : Int32) S)
def fX7_far (S : zMn) (p1 : Int32) : Option (Int32 × zMn) :=
  if (fX7_outside p1 (1 : Int32) (12 : Int32)) = (0 : Int32) then
  (some (((1 : Int32) <<< ((p1 - (1 : Int32)) &&& 31)), S))
  else
  ((fX7_refuse S (fX7_outside p1 (1 : Int32) (12 : Int32))).bind fun u3 =>
  some (u3.1, u3.2))
def fX7_can_j19 (v1 : Int32) (v2 : Int32) (t0 : Int32) (S : zMn) : Option (Int32 × zMn) :=
  if t0 = (0 : Int32) then
  ((fX0_reachable (mn_chains S) v1).bind fun u2 =>
  if v2 = (0 : Int32) then
  (some ((fJ13_bitCount_95d88 u2.1), (mn_set_chains S u2.2)))
  else
  (some (((fJ13_numberOfTrailingZeros_95d88 (u2.1 ^^^ (-1 : Int64))) + (1 : Int32)), (mn_set_chains S u2.2))))
  else
  ((fX7_refuse S t0).bind fun u6 =>
  some (u6.1, u6.2))
def fX7_can (S : zMn) (p1 : Int32) (p2 : Int32) : Option (Int32 × zMn) :=
  if (fX7_isOneOfTwo p2) = (0 : Int32) then
  (fX7_can_j19 p1 p2 (-2 : Int32) S)
  else
  (fX7_can_j19 p1 p2 (fX7_outside p1 (1 : Int32) (7 : Int32)) S)
def fX7_more (S : zMn) (p1 : Int32) : Option (Int32 × zMn) :=
  if (fX7_outside p1 (1 : Int32) (300 : Int32)) = (0 : Int32) then
  ((fX5_isThere (mn_live S) p1).bind fun u3 =>
  if u3 = (0 : Int32) then
  ((fX5_comesNext (mn_live S) p1).bind fun u5 =>
  if u5 = (0 : Int32) then
  ((fX7_comesNextButOne S p1).bind fun u7 =>
  if u7.1 = (0 : Int32) then
  (some ((-9 : Int32), u7.2))
  else
  (some ((2 : Int32), u7.2)))
  else
  (some ((1 : Int32), S)))
  else
  (some ((0 : Int32), S)))
  else
  ((fX7_refuse S (fX7_outside p1 (1 : Int32) (300 : Int32))).bind fun u9 =>
  some (u9.1, u9.2))
def fX7_orders (S : zMn) : Option (Int32 × zMn) :=
  (fX3_of (mn_comings S) (mn_live S)).bind fun u1 =>
  some (u1.1, (mn_set_comings S u1.2))
def fX7_game (S : zMn) (p1 : Int32) : Option (Int32 × zMn) :=
  if (fX7_outside p1 (2 : Int32) (12 : Int32)) = (0 : Int32) then
  ((fX1_isWonByFirst (mn_builders S) p1).bind fun u3 =>
  if u3.1 = (0 : Int32) then
  (some ((0 : Int32), (mn_set_builders S u3.2)))
  else
  (some ((1 : Int32), (mn_set_builders S u3.2))))
  else
  ((fX7_refuse S (fX7_outside p1 (2 : Int32) (12 : Int32))).bind fun u5 =>
  some (u5.1, u5.2))
def fX7_row_j26 (v1 : Int32) (v2 : Int32) (S : zMn) : Option (Int32 × zMn) :=
  if v2 = (0 : Int32) then
  ((fX6_take_R (mn_told S) v1).bind fun u2 =>
  some (u2.1, (mn_set_told S u2.2)))
  else
  ((fX7_refuse S v2).bind fun u3 =>
  some (u3.1, u3.2))
def fX7_row (S : zMn) (p1 : Int32) : Option (Int32 × zMn) :=
  if (fX7_outside p1 (1 : Int32) (9999 : Int32)) = (0 : Int32) then
  (if (fX6_hasRoom_R (mn_told S)) = (0 : Int32) then
  (fX7_row_j26 p1 (-6 : Int32) S)
  else
  (fX7_row_j26 p1 (fX7_outside p1 (1 : Int32) (9999 : Int32)) S))
  else
  (fX7_row_j26 p1 (fX7_outside p1 (1 : Int32) (9999 : Int32)) S)
def fX7_judge (S : zMn) : Option (Int32 × zMn) :=
  (fX4_firstWrong (mn_told S)).bind fun u1 =>
  some (u1, (mn_set_told S (fX6_forget_R (mn_told S))))
def fX7_seeds_j19 (v1 : Int32) (v2 : Int32) (v3 : Int32) (t0 : Int32) (S : zMn) : Option (Int32 × zMn) :=
  if t0 = (0 : Int32) then
  ((fX7_sow (fX5_become (mn_mind S) (mn_live S)) v1 v2).bind fun u3 =>
  if v3 = (0 : Int32) then
  (some ((fX5_standingCount u3), (mn_set_mind S u3)))
  else
  ((fX5_greatest u3).bind fun u5 =>
  some (u5, (mn_set_mind S u3))))
  else
  ((fX7_refuse S t0).bind fun u7 =>
  some (u7.1, u7.2))
def fX7_seeds (S : zMn) (p1 : Int32) (p2 : Int32) (p3 : Int32) : Option (Int32 × zMn) :=
  if (fX7_isOneOfTwo p3) = (0 : Int32) then
  (fX7_seeds_j19 p1 p2 p3 (-2 : Int32) S)
  else
  (fX7_seeds_j19 p1 p2 p3 (fX7_outside p1 (1 : Int32) (40 : Int32)) S)
def fX7_image (S : zMn) : Option (Int32 × zMn) :=
  some ((fX5_cameCount (mn_live S)), (mn_set_isKept (mn_set_kept S (fX5_become (mn_kept S) (mn_live S))) (1 : Int32)))
def fX7_restore (S : zMn) : Option (Int32 × zMn) :=
  if (mn_isKept S) = (0 : Int32) then
  ((fX7_refuse S (-3 : Int32)).bind fun u4 =>
  some (u4.1, u4.2))
  else
  (some ((fX5_cameCount (fX5_become (mn_live S) (mn_kept S))), (mn_set_live S (fX5_become (mn_live S) (mn_kept S)))))
def fX7_count_j22 (S : zMn) (v1 : Int32) : Option (Int32) :=
  if v1 = (0 : Int32) then
  (some (fX5_cameCount (mn_live S)))
  else
  (if v1 = (1 : Int32) then
  (some (fX5_standingCount (mn_live S)))
  else
  (if v1 = (2 : Int32) then
  ((fX5_greatest (mn_live S)).bind fun u4 =>
  some u4)
  else
  (if v1 = (3 : Int32) then
  (some (fX5_sumsLaw (mn_live S)))
  else
  (if v1 = (4 : Int32) then
  (some (fX5_fallsLaw (mn_live S)))
  else
  (if v1 = (5 : Int32) then
  ((fX5_allEarned (mn_live S)).bind fun u7 =>
  some u7)
  else
  (if v1 = (6 : Int32) then
  (some (fX6_howMany_L (mn_letters S)))
  else
  (if v1 = (7 : Int32) then
  (some (fX6_howMany_R (mn_told S)))
  else
  (some (-9 : Int32)))))))))
def fX7_count (S : zMn) (p1 : Int32) : Option (Int32) :=
  if p1 ≤ (10 : Int32) then
  (fX7_count_j22 S p1)
  else
  (if (17 : Int32) ≤ p1 then
  (fX7_count_j22 S p1)
  else
  (ix 7 (p1 - (10 : Int32)) (some ((mn_refusals S) (p1 - (10 : Int32)).toNatClampNeg))))
def zStz : zSt := ((fun _ => 0), (fun _ => 0), (fun _ => 0), (fun _ => 0), (fun _ => 0), (fun _ => 0), (fun _ => 0), 0, 0, 0, 0)
def zLtz : zLt := ((fun _ => 0), 0, (fun _ => 0), 0, 0, 0, 0)
def zRwz : zRw := ((fun _ => 0), 0)
def zMdz : zMd := ((fun _ => 0), (fun _ => 0), (fun _ => 0), (fun _ => 0), (fun _ => 0), (fun _ => 0), (fun _ => 0), (fun _ => 0), (fun _ => 0), 0, 0, 0, (fun _ => 0), (fun _ => 0), (fun _ => 0), (fun _ => 0), 0, 0, 0, 0, (fun _ => 0), 0, 0, 0, (fun _ => 0), 0, 0, (fun _ => 0), (fun _ => 0), (fun _ => 0), (fun _ => 0), 0, 0)
def zGmz : zGm := (fun _ => 0)
def zOrz : zOr := (fun _ => 0)
def zChz : zCh := (fun _ => 0)
def zCh1 : zCh := upd (fun _ => 0) (0 : Int32).toNatClampNeg (1 : Int32)
end
section
/-! what each call owes: both answer, alike, and the relation stays -/
def zSim_feed (R : zMn → zMd → Prop) : Prop := ∀ (M : zMn) (S : zMd) (p1 : Int32), R M S → ∃ (r : Int32) (M' : zMn) (S' : zMd), fX7_feed M p1 = some (r, M') ∧ fX8_feed S p1 = some (r, S') ∧ R M' S'
def zSim_street (R : zMn → zMd → Prop) : Prop := ∀ (M : zMn) (S : zMd), R M S → ∃ (r : Int32) (M' : zMn) (S' : zMd), fX7_street M = some (r, M') ∧ fX8_street S = some (r, S') ∧ R M' S'
def zSim_house (R : zMn → zMd → Prop) : Prop := ∀ (M : zMn) (S : zMd) (p1 p2 : Int32), R M S → ∃ (r : Int32) (M' : zMn) (S' : zMd), fX7_house M p1 p2 = some (r, M') ∧ fX8_house S p1 p2 = some (r, S') ∧ R M' S'
def zSim_law (R : zMn → zMd → Prop) : Prop := ∀ (M : zMn) (S : zMd) (p1 p2 : Int32), R M S → ∃ (r : Int32) (M' : zMn) (S' : zMd), fX7_law M p1 p2 = some (r, M') ∧ fX8_law S p1 p2 = some (r, S') ∧ R M' S'
def zSim_may (R : zMn → zMd → Prop) : Prop := ∀ (M : zMn) (S : zMd) (p1 p2 : Int32), R M S → ∃ (r : Int32) (M' : zMn) (S' : zMd), fX7_may M p1 p2 = some (r, M') ∧ fX8_may S p1 p2 = some (r, S') ∧ R M' S'
def zSim_cost (R : zMn → zMd → Prop) : Prop := ∀ (M : zMn) (S : zMd) (p1 p2 : Int32), R M S → ∃ (r : Int32) (M' : zMn) (S' : zMd), fX7_cost M p1 p2 = some (r, M') ∧ fX8_cost S p1 p2 = some (r, S') ∧ R M' S'
def zSim_add (R : zMn → zMd → Prop) : Prop := ∀ (M : zMn) (S : zMd) (p1 p2 p3 p4 : Int32), R M S → ∃ (r : Int32) (M' : zMn) (S' : zMd), fX7_add M p1 p2 p3 p4 = some (r, M') ∧ fX8_add S p1 p2 p3 p4 = some (r, S') ∧ R M' S'
def zSim_burn (R : zMn → zMd → Prop) : Prop := ∀ (M : zMn) (S : zMd) (p1 : Int32), R M S → ∃ (r : Int32) (M' : zMn) (S' : zMd), fX7_burn M p1 = some (r, M') ∧ fX8_burn S p1 = some (r, S') ∧ R M' S'
def zSim_hangs (R : zMn → zMd → Prop) : Prop := ∀ (M : zMn) (S : zMd) (p1 : Int32), R M S → ∃ (r : Int32) (M' : zMn) (S' : zMd), fX7_hangs M p1 = some (r, M') ∧ fX8_hangs S p1 = some (r, S') ∧ R M' S'
def zSim_save (R : zMn → zMd → Prop) : Prop := ∀ (M : zMn) (S : zMd), R M S → ∃ (r : Int32) (M' : zMn) (S' : zMd), fX7_save M = some r ∧ fX8_save S = some (r, S') ∧ R M S'
def zSim_fewest (R : zMn → zMd → Prop) : Prop := ∀ (M : zMn) (S : zMd) (p1 : Int32), R M S → ∃ (r : Int32) (M' : zMn) (S' : zMd), fX7_fewest M p1 = some (r, M') ∧ fX8_fewest S p1 = some (r, S') ∧ R M' S'
def zSim_chain (R : zMn → zMd → Prop) : Prop := ∀ (M : zMn) (S : zMd) (p1 p2 : Int32), R M S → ∃ (r : Int32) (M' : zMn) (S' : zMd), fX7_chain M p1 p2 = some (r, M') ∧ fX8_chain S p1 p2 = some (r, S') ∧ R M' S'
def zSim_way (R : zMn → zMd → Prop) : Prop := ∀ (M : zMn) (S : zMd) (p1 p2 : Int32), R M S → ∃ (r : Int32) (M' : zMn) (S' : zMd), fX7_way M p1 p2 = some (r, M') ∧ fX8_way S p1 p2 = some (r, S') ∧ R M' S'
def zSim_both (R : zMn → zMd → Prop) : Prop := ∀ (M : zMn) (S : zMd) (p1 p2 : Int32), R M S → ∃ (r : Int32) (M' : zMn) (S' : zMd), fX7_both M p1 p2 = some (r, M') ∧ fX8_both S p1 p2 = some (r, S') ∧ R M' S'
def zSim_far (R : zMn → zMd → Prop) : Prop := ∀ (M : zMn) (S : zMd) (p1 : Int32), R M S → ∃ (r : Int32) (M' : zMn) (S' : zMd), fX7_far M p1 = some (r, M') ∧ fX8_far S p1 = some (r, S') ∧ R M' S'
def zSim_can (R : zMn → zMd → Prop) : Prop := ∀ (M : zMn) (S : zMd) (p1 p2 : Int32), R M S → ∃ (r : Int32) (M' : zMn) (S' : zMd), fX7_can M p1 p2 = some (r, M') ∧ fX8_can S p1 p2 = some (r, S') ∧ R M' S'
def zSim_more (R : zMn → zMd → Prop) : Prop := ∀ (M : zMn) (S : zMd) (p1 : Int32), R M S → ∃ (r : Int32) (M' : zMn) (S' : zMd), fX7_more M p1 = some (r, M') ∧ fX8_more S p1 = some (r, S') ∧ R M' S'
def zSim_orders (R : zMn → zMd → Prop) : Prop := ∀ (M : zMn) (S : zMd), R M S → ∃ (r : Int32) (M' : zMn) (S' : zMd), fX7_orders M = some (r, M') ∧ fX8_orders S = some (r, S') ∧ R M' S'
def zSim_game (R : zMn → zMd → Prop) : Prop := ∀ (M : zMn) (S : zMd) (p1 : Int32), R M S → ∃ (r : Int32) (M' : zMn) (S' : zMd), fX7_game M p1 = some (r, M') ∧ fX8_game S p1 = some (r, S') ∧ R M' S'
def zSim_row (R : zMn → zMd → Prop) : Prop := ∀ (M : zMn) (S : zMd) (p1 : Int32), R M S → ∃ (r : Int32) (M' : zMn) (S' : zMd), fX7_row M p1 = some (r, M') ∧ fX8_row S p1 = some (r, S') ∧ R M' S'
def zSim_judge (R : zMn → zMd → Prop) : Prop := ∀ (M : zMn) (S : zMd), R M S → ∃ (r : Int32) (M' : zMn) (S' : zMd), fX7_judge M = some (r, M') ∧ fX8_judge S = some (r, S') ∧ R M' S'
def zSim_seeds (R : zMn → zMd → Prop) : Prop := ∀ (M : zMn) (S : zMd) (p1 p2 p3 : Int32), R M S → ∃ (r : Int32) (M' : zMn) (S' : zMd), fX7_seeds M p1 p2 p3 = some (r, M') ∧ fX8_seeds S p1 p2 p3 = some (r, S') ∧ R M' S'
def zSim_image (R : zMn → zMd → Prop) : Prop := ∀ (M : zMn) (S : zMd), R M S → ∃ (r : Int32) (M' : zMn) (S' : zMd), fX7_image M = some (r, M') ∧ fX8_image S = some (r, S') ∧ R M' S'
def zSim_restore (R : zMn → zMd → Prop) : Prop := ∀ (M : zMn) (S : zMd), R M S → ∃ (r : Int32) (M' : zMn) (S' : zMd), fX7_restore M = some (r, M') ∧ fX8_restore S = some (r, S') ∧ R M' S'
def zSim_count (R : zMn → zMd → Prop) : Prop := ∀ (M : zMn) (S : zMd) (p1 : Int32), R M S → ∃ (r : Int32) (M' : zMn) (S' : zMd), fX7_count M p1 = some r ∧ fX8_count S p1 = some r ∧ R M S
end
section
/-! the two streets: one relation, and what reads them -/
theorem ix_nI {α : Type} {n j : Nat} {k : Option α} (h : j < n) (hn : n < 2 ^ 31) : ix n (nI j) k = k := by
  unfold ix
  exact if_neg (nI_in h hn)
theorem FU_big (d : Nat) (h : d ≤ 1000000000) : d < FU := by unfold FU; omega
/-- the bit h of w, as an int -/
def zbit (w h : Nat) : Int32 := if w.testBit h then 1 else 0
theorem zbit01 (w h : Nat) : zbit w h = 0 ∨ zbit w h = 1 := by
  unfold zbit
  by_cases hb : w.testBit h
  · right; rw [if_pos hb]
  · left; rw [if_neg hb]
theorem zbit1 {w h : Nat} : zbit w h = 1 ↔ w.testBit h = true := by
  unfold zbit
  by_cases hb : w.testBit h
  · rw [if_pos hb]; simp [hb]
  · rw [if_neg hb]; simp [hb]
theorem zbit0 {w h : Nat} : zbit w h = 0 ↔ w.testBit h = false := by
  unfold zbit
  by_cases hb : w.testBit h
  · rw [if_pos hb]; simp [hb]
  · rw [if_neg hb]; simp [hb]
theorem z_and31 : ∀ h, h < 32 → nI h &&& 31 = nI h := by decide +kernel
theorem z_sm : ∀ h, h < 32 → ((nI h).toBitVec.smod 32).toNat = h := by decide +kernel
theorem z_shr {w h : Nat} (hw : w < 2 ^ 31) (hh : h < 32) : nI w >>> (nI h &&& 31) = nI (w / 2 ^ h) := by
  rw [z_and31 h hh]
  exact pk_shrN hw (nI h) h (z_sm h hh)
theorem z_and1 {n : Nat} (h : n < 2 ^ 32) : nI n &&& 1 = nI (n % 2) := pk_andN h 1 (by decide)
theorem z_bit {w h : Nat} (hw : w < 2 ^ 31) (hh : h < 32) : (nI w >>> (nI h &&& 31)) &&& 1 = zbit w h := by
  rw [z_shr hw hh, z_and1 (by have := Nat.div_le_self w (2 ^ h); omega)]
  unfold zbit
  rw [Nat.testBit_eq_decide_div_mod_eq]
  rcases Nat.mod_two_eq_zero_or_one (w / 2 ^ h) with e | e
  · rw [e]; rfl
  · rw [e]; rfl
theorem isIn_nI {w h : Nat} (hw : w < 2 ^ 31) (hh : h < 12) : fX5_isIn (nI w) (nI h) = zbit w h := by
  unfold fX5_isIn
  rw [if_neg (nI_pos (by omega)), if_neg (show ¬ (12 : Int32) ≤ nI h from nI_ge (b := 12) hh (by omega)), z_bit hw (by omega)]
  rcases zbit01 w h with e | e
  · rw [e]; rfl
  · rw [e]; rfl
theorem isIn_out {x b : Int32} (hb : b < 0) : fX5_isIn x b = 0 := by
  unfold fX5_isIn
  rw [if_pos hb]
/-- the class's street S and the reference's T tell the same: c houses came, the bits of w stand -/
def SR (c w : Nat) (S : zSt) (T : zMd) : Prop :=
  (1 ≤ c ∧ c ≤ 12) ∧ w < 2 ^ c ∧ st_came S = nI c ∧ md_houses T = nI c ∧ st_standing S = nI w ∧
  (∀ h, h < c → st_kinds S h = md_kind T h ∧ st_figures S h = md_figure T h ∧ st_numbers S h = md_number T h ∧ st_firsts S h = md_one T h ∧ st_seconds S h = md_other T h ∧ st_uses S h = md_uses T h ∧ st_earned S h = md_earned T h ∧ md_stands T h = zbit w h) ∧
  (st_sums S = md_sums T ∧ (md_sums T = 0 ∨ md_sums T = 1 ∨ md_sums T = 2)) ∧ (st_falls S = md_falls T ∧ (md_falls T = 0 ∨ md_falls T = 1)) ∧
  ∀ h, h < c → (∃ n, 1 ≤ n ∧ n ≤ 9999 ∧ md_number T h = nI n) ∧ ((h = 0 ∧ md_one T h = -4 ∧ md_other T h = -4) ∨ ∃ a b, a < h ∧ b < h ∧ md_one T h = nI a ∧ md_other T h = nI b)
theorem SR.c {c w : Nat} {S : zSt} {T : zMd} (h : SR c w S T) : c ≤ 12 := h.1.2
theorem SR.c1 {c w : Nat} {S : zSt} {T : zMd} (h : SR c w S T) : 1 ≤ c := h.1.1
theorem SR.w {c w : Nat} {S : zSt} {T : zMd} (h : SR c w S T) : w < 2 ^ c := h.2.1
theorem SR.w12 {c w : Nat} {S : zSt} {T : zMd} (h : SR c w S T) : w < 4096 := Nat.lt_of_lt_of_le h.2.1 (Nat.pow_le_pow_right (by omega) h.1.2)
theorem SR.came {c w : Nat} {S : zSt} {T : zMd} (h : SR c w S T) : st_came S = nI c := h.2.2.1
theorem SR.houses {c w : Nat} {S : zSt} {T : zMd} (h : SR c w S T) : md_houses T = nI c := h.2.2.2.1
theorem SR.st {c w : Nat} {S : zSt} {T : zMd} (h : SR c w S T) : st_standing S = nI w := h.2.2.2.2.1
theorem SR.arr {c w : Nat} {S : zSt} {T : zMd} (h : SR c w S T) : ∀ h, h < c → st_kinds S h = md_kind T h ∧ st_figures S h = md_figure T h ∧ st_numbers S h = md_number T h ∧ st_firsts S h = md_one T h ∧ st_seconds S h = md_other T h ∧ st_uses S h = md_uses T h ∧ st_earned S h = md_earned T h ∧ md_stands T h = zbit w h := h.2.2.2.2.2.1
theorem SR.sums {c w : Nat} {S : zSt} {T : zMd} (h : SR c w S T) : st_sums S = md_sums T := h.2.2.2.2.2.2.1.1
theorem SR.falls {c w : Nat} {S : zSt} {T : zMd} (h : SR c w S T) : st_falls S = md_falls T := h.2.2.2.2.2.2.2.1.1
theorem SR.num {c w : Nat} {S : zSt} {T : zMd} (h : SR c w S T) : ∀ j, j < c → ∃ n, 1 ≤ n ∧ n ≤ 9999 ∧ md_number T j = nI n := fun j hj => (h.2.2.2.2.2.2.2.2 j hj).1
theorem SR.two {c w : Nat} {S : zSt} {T : zMd} (h : SR c w S T) : ∀ j, j < c → (j = 0 ∧ md_one T j = -4 ∧ md_other T j = -4) ∨ ∃ a b, a < j ∧ b < j ∧ md_one T j = nI a ∧ md_other T j = nI b := fun j hj => (h.2.2.2.2.2.2.2.2 j hj).2
section SRr
variable {c w : Nat} {S : zSt} {T : zMd}
theorem has_in (h : SR c w S T) {j : Nat} (hj : j < c) : fX5_has S (nI j) = 1 := by
  have := h.c
  unfold fX5_has
  rw [h.came, if_neg (nI_pos (by omega)), if_neg (nI_ge hj (by omega))]
theorem has_out (h : SR c w S T) {x : Int32} (hx : x < 0 ∨ nI c ≤ x) : fX5_has S x = 0 := by
  unfold fX5_has
  by_cases h0 : x < 0
  · rw [if_pos h0]
  · rw [if_neg h0, h.came, if_pos (hx.resolve_left h0)]
theorem nI_m1 {c : Nat} (hc : c ≤ 12) : (nI c - 1).toInt = (c : Int) - 1 := by
  have := pk_sub_toInt (a := c) (b := 1) (by omega) (by omega)
  exact this
theorem isHouse_in (h : SR c w S T) {j : Nat} (hj : j < c) : fX8_isHouse T (nI j) = some 1 := by
  have := h.c
  have e : fX8_isIn (nI j) 0 (md_houses T - 1) = 1 := by
    unfold fX8_isIn
    rw [h.houses, if_neg (nI_pos (by omega)), if_neg]
    rw [Int32.lt_iff_toInt_lt, nI_m1 h.c, nI_toInt (by omega)]
    omega
  unfold fX8_isHouse
  rw [e]
  rfl
theorem isHouse_out (h : SR c w S T) {x : Int32} (hx : x < 0 ∨ nI c ≤ x) : fX8_isHouse T x = some 0 := by
  have := h.c
  have e : fX8_isIn x 0 (md_houses T - 1) = 0 := by
    unfold fX8_isIn
    by_cases h0 : x < 0
    · rw [if_pos h0]
    · rw [if_neg h0, h.houses, if_pos]
      have h1 := hx.resolve_left h0
      rw [Int32.le_iff_toInt_le, nI_toInt (by omega)] at h1
      rw [Int32.lt_iff_toInt_lt, nI_m1 h.c]
      omega
  unfold fX8_isHouse
  rw [e]
  rfl
theorem stands_in (h : SR c w S T) {j : Nat} (hj : j < c) : fX5_stands S (nI j) = zbit w j := by
  have := h.c
  have := h.w12
  unfold fX5_stands
  rw [has_in h hj, if_neg (by decide), h.st, isIn_nI (by omega) (by omega)]
  rcases zbit01 w j with e | e
  · rw [e]; rfl
  · rw [e]; rfl
theorem stands_out (h : SR c w S T) {x : Int32} (hx : x < 0 ∨ nI c ≤ x) : fX5_stands S x = 0 := by
  unfold fX5_stands
  rw [has_out h hx, if_pos rfl]
theorem doesStand_in (h : SR c w S T) {j : Nat} (hj : j < c) : fX8_doesStand T (nI j) = some (zbit w j) := by
  have := h.c
  unfold fX8_doesStand
  rw [isHouse_in h hj]
  show (if (1 : Int32) = 0 then some (0 : Int32) else ix 12 (nI j) (if md_stands T (nI j).toNatClampNeg = 1 then some 1 else some 0)) = _
  rw [if_neg (by decide), ix_nI (by omega) (by omega), nI_clamp (by omega), (h.arr j hj).2.2.2.2.2.2.2]
  rcases zbit01 w j with e | e
  · rw [e]; rfl
  · rw [e]; rfl
theorem doesStand_out (h : SR c w S T) {x : Int32} (hx : x < 0 ∨ nI c ≤ x) : fX8_doesStand T x = some 0 := by
  unfold fX8_doesStand
  rw [isHouse_out h hx]
  rfl
theorem isThere_l (h : SR c w S T) (n : Int32) : ∀ d i k, i + d = c → d < k → ∃ r : Int32, (r = 0 ∨ r = 1) ∧ fX5_isThere_l2 S n k (nI i) = some r ∧ fX8_isThere_l2 T n k (nI i) = some r := by
  have hc := h.c
  have hw := h.w12
  intro d
  induction d with
  | zero =>
    intro i k hi hk
    obtain ⟨k, rfl⟩ : ∃ k', k = k' + 1 := ⟨k - 1, by omega⟩
    refine ⟨0, Or.inl rfl, ?_, ?_⟩
    · rw [fX5_isThere_l2, h.came, if_pos (nI_le (by omega) (by omega))]
    · rw [fX8_isThere_l2, h.houses, if_pos (nI_le (by omega) (by omega))]
  | succ d ih =>
    intro i k hi hk
    obtain ⟨k, rfl⟩ : ∃ k', k = k' + 1 := ⟨k - 1, by omega⟩
    obtain ⟨r, hr, e1, e2⟩ := ih (i + 1) k (by omega) (by omega)
    have a := h.arr i (by omega)
    rw [fX5_isThere_l2, fX8_isThere_l2, h.came, h.houses, if_neg (nI_ge (by omega) (by omega)), if_neg (nI_ge (by omega) (by omega)), h.st, isIn_nI (by omega) (by omega), ix_nI (by omega) (by omega), ix_nI (by omega) (by omega), nI_clamp (by omega), a.2.2.2.2.2.2.2, a.2.2.1, nI_1, e1, e2]
    rcases zbit01 w i with e | e
    · rw [e, if_pos rfl, if_neg (by decide)]
      exact ⟨r, hr, rfl, rfl⟩
    · rw [e, if_neg (by decide), if_pos rfl]
      by_cases hn : md_number T i = n
      · simp only [if_pos hn]
        exact ⟨1, Or.inr rfl, rfl, rfl⟩
      · simp only [if_neg hn]
        exact ⟨r, hr, rfl, rfl⟩
theorem isThere_eq (h : SR c w S T) (n : Int32) : ∃ r : Int32, (r = 0 ∨ r = 1) ∧ fX5_isThere S n = some r ∧ fX8_isThere T n = some r := by
  have hc := h.c
  exact isThere_l h n c 0 FU (by omega) (FU_big _ (by omega))
theorem z_par {n : Nat} (h : n < 2 ^ 31) : (nI n &&& 1 = 0) ↔ (nI n - nI n / 2 * 2 = 0) := by
  rw [z_and1 (by omega)]
  have e : nI n - nI n / 2 * 2 = nI (n % 2) := pk_rem h (d := 2) (by omega) (by omega)
  rw [e]
theorem lends_eq (h : SR c w S T) {j : Nat} (hj : j < c) {n : Nat} (hn : n < 2 ^ 31) : ∃ r : Int32, (r = 0 ∨ r = 1) ∧ fX5_lends S (nI j) (nI n) = some r ∧ fX8_lends T (nI j) (nI n) = some r := by
  have hc := h.c
  have a := h.arr j hj
  unfold fX5_lends fX8_lends
  rw [has_in h hj, if_neg (by decide), ix_nI (by omega) (by omega), ix_nI (by omega) (by omega), nI_clamp (by omega), a.1, a.2.2.2.2.2.1]
  by_cases h1 : md_kind T j = 1
  · simp only [if_pos h1]
    by_cases h0 : md_uses T j = 0
    · simp only [if_pos h0]; exact ⟨1, Or.inr rfl, rfl, rfl⟩
    · simp only [if_neg h0]; exact ⟨0, Or.inl rfl, rfl, rfl⟩
  · simp only [if_neg h1]
    by_cases h2 : md_kind T j = 2
    · simp only [if_pos h2]; exact ⟨1, Or.inr rfl, rfl, rfl⟩
    · simp only [if_neg h2]
      by_cases h3 : md_kind T j = 3
      · simp only [if_pos h3]
        by_cases hp : nI n &&& 1 = 0
        · rw [if_pos hp, if_pos ((z_par hn).mp hp)]; exact ⟨1, Or.inr rfl, rfl, rfl⟩
        · rw [if_neg hp, if_neg (fun q => hp ((z_par hn).mpr q))]; exact ⟨0, Or.inl rfl, rfl, rfl⟩
      · simp only [if_neg h3]
        by_cases h4 : md_kind T j = 4
        · simp only [if_pos h4]; exact ⟨0, Or.inl rfl, rfl, rfl⟩
        · simp only [if_neg h4]; exact ⟨1, Or.inr rfl, rfl, rfl⟩
theorem fee_eq (h : SR c w S T) {j : Nat} (hj : j < c) : ∃ r : Int32, fX5_fee S (nI j) = some r ∧ fX8_fee T (nI j) = some r := by
  have hc := h.c
  have a := h.arr j hj
  unfold fX5_fee fX8_fee
  rw [has_in h hj, if_neg (by decide), ix_nI (by omega) (by omega), ix_nI (by omega) (by omega), nI_clamp (by omega), a.1, a.2.1]
  by_cases h2 : md_kind T j = 2
  · simp only [if_pos h2]; exact ⟨_, rfl, rfl⟩
  · simp only [if_neg h2]
    by_cases h3 : md_kind T j = 3
    · simp only [if_pos h3]; exact ⟨_, rfl, rfl⟩
    · simp only [if_neg h3]; exact ⟨_, rfl, rfl⟩
end SRr
end
section
/-! who lends, what may be -/
theorem z_nlz' : ∀ qa, qa < 64 → ∀ qb, qb < 64 → (64 * qa + qb) ≠ 0 → 31 - fJ6_numberOfLeadingZeros_0f7a4 (nI (64 * qa + qb)) = nI (Nat.log2 (64 * qa + qb)) := by decide +kernel
theorem z_nlz : ∀ w, w < 4096 → w ≠ 0 → 31 - fJ6_numberOfLeadingZeros_0f7a4 (nI w) = nI (Nat.log2 w) := by
  intro w hw
  have t := z_nlz' (w / 64) (by omega) (w % 64) (by omega)
  rw [show 64 * (w / 64) + w % 64 = w from by omega] at t
  exact t
theorem z_topa : ∀ i, i < 12 → ∀ qa, qa < 64 → ∀ qb, qb < 64 → (64 * qa + qb).testBit i = true → 2 ^ i ≤ 64 * qa + qb := by decide +kernel
theorem z_topb : ∀ i, i < 12 → ∀ qa, qa < 64 → ∀ qb, qb < 64 → 2 ^ i ≤ 64 * qa + qb → 64 * qa + qb < 2 ^ (i + 1) → Nat.log2 (64 * qa + qb) = i := by decide +kernel
theorem z_topc : ∀ i, i < 12 → ∀ qa, qa < 64 → ∀ qb, qb < 64 → (64 * qa + qb).testBit i = false → 2 ^ i ≤ 64 * qa + qb → 2 ^ (i + 1) ≤ 64 * qa + qb := by decide +kernel
theorem z_top : ∀ w, w < 4096 → ∀ i, i < 12 → (w.testBit i = true → 2 ^ i ≤ w ∧ (w < 2 ^ (i + 1) → Nat.log2 w = i)) ∧ (w.testBit i = false → 2 ^ i ≤ w → 2 ^ (i + 1) ≤ w) := by
  intro w hw i hi
  have a := z_topa i hi (w / 64) (by omega) (w % 64) (by omega)
  have b := z_topb i hi (w / 64) (by omega) (w % 64) (by omega)
  have c := z_topc i hi (w / 64) (by omega) (w % 64) (by omega)
  rw [show 64 * (w / 64) + w % 64 = w from by omega] at a b c
  exact ⟨fun z => ⟨a z, fun y => b (a z) y⟩, c⟩
section SRm
variable {c w : Nat} {S : zSt} {T : zMd}
theorem latest_l (h : SR c w S T) : ∀ d i k v, i + d = c → d < k → fX8_latest_l5 T k v (nI i) = some (if 2 ^ i ≤ w then nI (Nat.log2 w) else v) := by
  have hc := h.c
  have hw := h.w12
  have hwc := h.w
  intro d
  induction d with
  | zero =>
    intro i k v hi hk
    obtain ⟨k, rfl⟩ : ∃ k', k = k' + 1 := ⟨k - 1, by omega⟩
    have e : i = c := by omega
    subst e
    rw [fX8_latest_l5, h.houses, if_pos (nI_le (by omega) (by omega)), if_neg (by omega)]
  | succ d ih =>
    intro i k v hi hk
    obtain ⟨k, rfl⟩ : ∃ k', k = k' + 1 := ⟨k - 1, by omega⟩
    have a := (h.arr i (by omega)).2.2.2.2.2.2.2
    obtain ⟨t1, t2⟩ := z_top w hw i (by omega)
    rw [fX8_latest_l5, h.houses, if_neg (nI_ge (by omega) (by omega)), ix_nI (by omega) (by omega), nI_clamp (by omega), a, nI_1, ih (i + 1) k _ (by omega) (by omega), ih (i + 1) k _ (by omega) (by omega)]
    by_cases hb : w.testBit i = true
    · obtain ⟨p1, p2⟩ := t1 hb
      rw [if_pos (zbit1.mpr hb), if_pos p1]
      by_cases q : 2 ^ (i + 1) ≤ w
      · rw [if_pos q]
      · rw [if_neg q, p2 (by omega)]
    · have hb' : w.testBit i = false := by simpa using hb
      rw [if_neg (fun q => hb (zbit1.mp q))]
      by_cases q : 2 ^ (i + 1) ≤ w
      · rw [if_pos q, if_pos (by rw [Nat.pow_succ] at q; omega)]
      · rw [if_neg q, if_neg (fun q2 => q (t2 hb' q2))]
theorem latest_eq (h : SR c w S T) (hw0 : w ≠ 0) : fX8_latest T = some (nI (Nat.log2 w)) := by
  have hc := h.c
  have := latest_l h c 0 FU (-9) (by omega) (FU_big _ (by omega))
  rw [if_pos (by omega)] at this
  exact this
theorem isLawful_eq (h : SR c w S T) (hw0 : w ≠ 0) (a b : Int32) : ∃ r : Int32, (r = 0 ∨ r = 1) ∧ fX5_isLawful S a b = r ∧ fX8_isLawful T a b = some r := by
  unfold fX5_isLawful fX8_isLawful
  rw [h.st, z_nlz w h.w12 hw0, latest_eq h hw0, h.sums]
  by_cases h1 : md_sums T = 1
  · have h2 : ¬ md_sums T = 2 := by rw [h1]; decide
    rw [if_pos h1, if_neg h2, if_pos h1]
    show ∃ r : Int32, _ ∧ _ ∧ (if a = nI w.log2 then some 1 else (if b = nI w.log2 then some 1 else some 0)) = some r
    by_cases e1 : a = nI w.log2
    · simp only [if_pos e1]; exact ⟨1, Or.inr rfl, rfl, rfl⟩
    · simp only [if_neg e1]
      by_cases e2 : b = nI w.log2
      · simp only [if_pos e2]; exact ⟨1, Or.inr rfl, rfl, rfl⟩
      · simp only [if_neg e2]; exact ⟨0, Or.inl rfl, rfl, rfl⟩
  · simp only [if_neg h1]
    by_cases h2 : md_sums T = 2
    · simp only [if_pos h2]
      by_cases e : a = b
      · simp only [if_pos e]; exact ⟨1, Or.inr rfl, rfl, rfl⟩
      · simp only [if_neg e]; exact ⟨0, Or.inl rfl, rfl, rfl⟩
    · simp only [if_neg h2]; exact ⟨1, Or.inr rfl, rfl, rfl⟩
theorem mayBe_std (h : SR c w S T) {a b : Nat} (ha : a < c) (hb : b < c) (sa : w.testBit a = true) (sb : w.testBit b = true) : ∃ r : Int32, (r = 0 ∨ r = 1) ∧ fX5_mayBe S (nI a) (nI b) = some r ∧ fX8_mayBe T (nI a) (nI b) = some r ∧ (r = 1 → ∃ n, 1 ≤ n ∧ n ≤ 9999 ∧ md_number T a + md_number T b = nI n) := by
  have hc := h.c
  have hw0 : w ≠ 0 := by intro e; rw [e] at sa; simp at sa
  obtain ⟨na, p1, p2, ena⟩ := h.num a ha
  obtain ⟨nb, p3, p4, enb⟩ := h.num b hb
  obtain ⟨r1, hr1, x1, y1⟩ := lends_eq h ha (n := na + nb) (by omega)
  obtain ⟨r2, hr2, x2, y2⟩ := lends_eq h hb (n := na + nb) (by omega)
  obtain ⟨r3, hr3, x3, y3⟩ := isThere_eq h (nI (na + nb))
  obtain ⟨r4, hr4, x4, y4⟩ := isLawful_eq h hw0 (nI a) (nI b)
  have ia : ∀ k : Option Int32, ix 12 (nI a) k = k := fun k => ix_nI (by omega) (by omega)
  have ib : ∀ k : Option Int32, ix 12 (nI b) k = k := fun k => ix_nI (by omega) (by omega)
  have ca : (nI a).toNatClampNeg = a := nI_clamp (by omega)
  have cb : (nI b).toNatClampNeg = b := nI_clamp (by omega)
  have fa := (h.arr a ha).2.2.1
  have fb := (h.arr b hb).2.2.1
  unfold fX5_mayBe fX8_mayBe
  rw [stands_in h ha, stands_in h hb, zbit1.mpr sa, zbit1.mpr sb, x4, ia, ib, ia, ib, ca, cb, fa, fb, ena, enb, nI_add, x1, x2, x3, y1, y2, y3, y4]
  by_cases h9 : (9999 : Int32) < nI (na + nb)
  · simp only [if_pos h9]
    rcases hr4 with rfl | rfl <;> rcases hr1 with rfl | rfl <;> rcases hr2 with rfl | rfl <;> exact ⟨0, Or.inl rfl, rfl, rfl, fun q => absurd q (by decide)⟩
  · simp only [if_neg h9]
    have hn : ∃ n, 1 ≤ n ∧ n ≤ 9999 ∧ nI (na + nb) = nI n := by
      refine ⟨na + nb, by omega, ?_, rfl⟩
      have h10 : ¬ 9999 < na + nb := fun q => h9 ((nI_ltI (a := 9999) (by omega) (by omega)).mpr q)
      omega
    rcases hr4 with rfl | rfl <;> rcases hr1 with rfl | rfl <;> rcases hr2 with rfl | rfl <;> rcases hr3 with rfl | rfl <;> first | exact ⟨0, Or.inl rfl, rfl, rfl, fun q => absurd q (by decide)⟩ | exact ⟨1, Or.inr rfl, rfl, rfl, fun _ => hn⟩
theorem canBe_eq (h : SR c w S T) {a b : Nat} (ha : a < c) (hb : b < c) : ∃ r : Int32, (r = 0 ∨ r = 1) ∧ fX5_mayBe S (nI a) (nI b) = some r ∧ fX8_canBe T (nI a) (nI b) = some r ∧ (r = 1 → w.testBit a = true ∧ w.testBit b = true ∧ ∃ n, 1 ≤ n ∧ n ≤ 9999 ∧ md_number T a + md_number T b = nI n) := by
  unfold fX8_canBe
  rw [doesStand_in h ha, doesStand_in h hb]
  by_cases sa : w.testBit a = true
  · by_cases sb : w.testBit b = true
    · obtain ⟨r, hr, e1, e2, e3⟩ := mayBe_std h ha hb sa sb
      rw [zbit1.mpr sa, zbit1.mpr sb, e2]
      refine ⟨r, hr, e1, ?_, fun q => ⟨sa, sb, e3 q⟩⟩
      rcases hr with rfl | rfl <;> rfl
    · have sb' : zbit w b = 0 := zbit0.mpr (by simpa using sb)
      refine ⟨0, Or.inl rfl, ?_, ?_, fun q => absurd q (by decide)⟩
      · unfold fX5_mayBe
        rw [stands_in h ha, stands_in h hb, zbit1.mpr sa, sb']
        rfl
      · rw [zbit1.mpr sa, sb']
        rfl
  · have sa' : zbit w a = 0 := zbit0.mpr (by simpa using sa)
    refine ⟨0, Or.inl rfl, ?_, ?_, fun q => absurd q (by decide)⟩
    · unfold fX5_mayBe
      rw [stands_in h ha, sa']
      rfl
    · rw [sa']
      rfl
theorem greatest_l (h : SR c w S T) : ∀ d i k v, i + d = c → d < k → ∃ r, fX5_greatest_l4 S k v (nI i) = some r ∧ fX8_greatest_l4 T k v (nI i) = some r := by
  have hc := h.c
  have hw := h.w12
  intro d
  induction d with
  | zero =>
    intro i k v hi hk
    obtain ⟨k, rfl⟩ : ∃ k', k = k' + 1 := ⟨k - 1, by omega⟩
    refine ⟨v, ?_, ?_⟩
    · rw [fX5_greatest_l4, h.came, if_pos (nI_le (by omega) (by omega))]
    · rw [fX8_greatest_l4, h.houses, if_pos (nI_le (by omega) (by omega))]
  | succ d ih =>
    intro i k v hi hk
    obtain ⟨k, rfl⟩ : ∃ k', k = k' + 1 := ⟨k - 1, by omega⟩
    have a := h.arr i (by omega)
    rw [fX5_greatest_l4, fX8_greatest_l4, h.came, h.houses, if_neg (nI_ge (by omega) (by omega)), if_neg (nI_ge (by omega) (by omega)), h.st, isIn_nI (by omega) (by omega), ix_nI (by omega) (by omega), ix_nI (by omega) (by omega), nI_clamp (by omega), a.2.2.2.2.2.2.2, a.2.2.1, nI_1]
    rcases zbit01 w i with e | e
    · rw [e, if_pos rfl, if_neg (by decide)]
      exact ih (i + 1) k v (by omega) (by omega)
    · rw [e, if_neg (by decide), if_pos rfl]
      by_cases q : md_number T i ≤ v
      · rw [if_pos q, if_neg (Int32.not_lt.mpr q)]
        exact ih (i + 1) k v (by omega) (by omega)
      · rw [if_neg q, if_pos (Int32.not_le.mp q)]
        exact ih (i + 1) k _ (by omega) (by omega)
theorem greatest_eq (h : SR c w S T) : ∃ r, fX5_greatest S = some r ∧ fX8_greatest T = some r := by
  have hc := h.c
  exact greatest_l h c 0 FU 0 (by omega) (FU_big _ (by omega))
theorem allEarned_l (h : SR c w S T) : ∀ d i k v, i + d = c → d < k → ∃ r, fX5_allEarned_l4 S k v (nI i) = some r ∧ fX8_allEarned_l4 T k v (nI i) = some r := by
  have hc := h.c
  intro d
  induction d with
  | zero =>
    intro i k v hi hk
    obtain ⟨k, rfl⟩ : ∃ k', k = k' + 1 := ⟨k - 1, by omega⟩
    refine ⟨v, ?_, ?_⟩
    · rw [fX5_allEarned_l4, h.came, if_pos (nI_le (by omega) (by omega))]
    · rw [fX8_allEarned_l4, h.houses, if_pos (nI_le (by omega) (by omega))]
  | succ d ih =>
    intro i k v hi hk
    obtain ⟨k, rfl⟩ : ∃ k', k = k' + 1 := ⟨k - 1, by omega⟩
    have a := h.arr i (by omega)
    rw [fX5_allEarned_l4, fX8_allEarned_l4, h.came, h.houses, if_neg (nI_ge (by omega) (by omega)), if_neg (nI_ge (by omega) (by omega)), ix_nI (by omega) (by omega), ix_nI (by omega) (by omega), nI_clamp (by omega), a.2.2.2.2.2.2.1, nI_1]
    exact ih (i + 1) k _ (by omega) (by omega)
theorem allEarned_eq (h : SR c w S T) : ∃ r, fX5_allEarned S = some r ∧ fX8_allEarned T = some r := by
  have hc := h.c
  exact allEarned_l h c 0 FU 0 (by omega) (FU_big _ (by omega))
theorem comesNext_in (h : SR c w S T) (n : Int32) (a : Nat) (ha : a < c) (K1 K2 : Int32 → Option Int32) (hK : ∃ r : Int32, (r = 0 ∨ r = 1) ∧ K1 (nI (a + 1)) = some r ∧ K2 (nI (a + 1)) = some r) : ∀ d i k, i + d = c → d < k → ∃ r : Int32, (r = 0 ∨ r = 1) ∧ fX5_comesNext_l21 S n (nI a) K1 k (nI i) = some r ∧ fX8_comesToIn1_l21 T n (nI a) K2 k (nI i) = some r := by
  have hc := h.c
  intro d
  induction d with
  | zero =>
    intro i k hi hk
    obtain ⟨k, rfl⟩ : ∃ k', k = k' + 1 := ⟨k - 1, by omega⟩
    rw [fX5_comesNext_l21, fX8_comesToIn1_l21, h.came, h.houses, if_pos (nI_le (by omega) (by omega)), if_pos (nI_le (by omega) (by omega)), nI_1]
    exact hK
  | succ d ih =>
    intro i k hi hk
    obtain ⟨k, rfl⟩ : ∃ k', k = k' + 1 := ⟨k - 1, by omega⟩
    have x := h.arr i (by omega)
    have y := h.arr a ha
    obtain ⟨r, hr, e1, e2⟩ := ih (i + 1) k (by omega) (by omega)
    obtain ⟨q, hq, f1, f2, -⟩ := canBe_eq h ha (b := i) (by omega)
    rw [fX5_comesNext_l21, fX8_comesToIn1_l21, h.came, h.houses, if_neg (nI_ge (by omega) (by omega)), if_neg (nI_ge (by omega) (by omega)), ix_nI (by omega) (by omega), ix_nI (by omega) (by omega), ix_nI (by omega) (by omega), ix_nI (by omega) (by omega), nI_clamp (by omega), nI_clamp (by omega), x.2.2.1, y.2.2.1, nI_1, f1, f2, e1, e2]
    by_cases z : md_number T a + md_number T i = n
    · simp only [if_pos z]
      rcases hq with rfl | rfl
      · exact ⟨r, hr, rfl, rfl⟩
      · exact ⟨1, Or.inr rfl, rfl, rfl⟩
    · simp only [if_neg z]
      exact ⟨r, hr, rfl, rfl⟩
theorem comesNext_out (h : SR c w S T) (hc12 : c < 12) (n : Int32) : ∀ d i k, i + d = c → d < k → ∃ r : Int32, (r = 0 ∨ r = 1) ∧ fX5_comesNext_l11 S n k (nI i) = some r ∧ fX8_comesToIn1_l2 T n k (nI i) = some r := by
  have hc := h.c
  intro d
  induction d with
  | zero =>
    intro i k hi hk
    obtain ⟨k, rfl⟩ : ∃ k', k = k' + 1 := ⟨k - 1, by omega⟩
    rw [fX5_comesNext_l11, fX8_comesToIn1_l2, h.came, h.houses, if_pos (nI_le (by omega) (by omega)), if_pos (nI_le (by omega) (by omega))]
    exact ⟨0, Or.inl rfl, rfl, rfl⟩
  | succ d ih =>
    intro i k hi hk
    obtain ⟨k, rfl⟩ : ∃ k', k = k' + 1 := ⟨k - 1, by omega⟩
    rw [fX5_comesNext_l11, fX8_comesToIn1_l2, h.came, h.houses, if_neg (nI_ge (by omega) (by omega)), if_neg (nI_ge (by omega) (by omega)), if_neg (show ¬ (12 : Int32) ≤ nI c from nI_ge (b := 12) hc12 (by omega))]
    exact comesNext_in h n i (by omega) _ _ (ih (i + 1) k (by omega) (by omega)) (c - i) i FU (by omega) (FU_big _ (by omega))
theorem comesNext_eq (h : SR c w S T) (n : Int32) : ∃ r : Int32, (r = 0 ∨ r = 1) ∧ fX5_comesNext S n = some r ∧ fX8_comesToIn1 T n = some r := by
  have hc := h.c
  have hc1 := h.c1
  by_cases q : c < 12
  · have e : fX5_hasRoom S = 1 := by
      unfold fX5_hasRoom
      rw [h.came, if_neg (show ¬ (12 : Int32) ≤ nI c from nI_ge (b := 12) q (by omega))]
    unfold fX5_comesNext
    rw [e, if_neg (by decide)]
    exact comesNext_out h q n c 0 FU (by omega) (FU_big _ (by omega))
  · have e12 : c = 12 := by omega
    subst e12
    have e : fX5_hasRoom S = 0 := by
      unfold fX5_hasRoom
      rw [h.came, if_pos (show (12 : Int32) ≤ nI 12 from nI_le (a := 12) (by omega) (by omega))]
    refine ⟨0, Or.inl rfl, ?_, ?_⟩
    · unfold fX5_comesNext
      rw [e, if_pos rfl]
    · show fX8_comesToIn1_l2 T n (FU - 1 + 1) 0 = some 0
      rw [fX8_comesToIn1_l2, h.houses, if_neg (show ¬ nI 12 ≤ (0 : Int32) from by decide), if_pos (show (12 : Int32) ≤ nI 12 from by decide)]
end SRm
end
section
/-! bits set and cleared; a new house -/
def zclr (w a : Nat) : Nat := w &&& (2 ^ a ^^^ 4294967295)
theorem zclr_le (w a : Nat) : zclr w a ≤ w := Nat.and_le_left
theorem z_one_shl {a : Nat} (ha : a < 31) : ((1 : Int32) <<< (nI a &&& 31)).toBitVec.toNat = 2 ^ a := by
  rw [z_and31 a (by omega), pk_shl (1 : Int32) (nI a) a (z_sm a (by omega))]
  have : 2 ^ a < 2 ^ 32 := Nat.pow_lt_pow_right (by omega) (by omega)
  show 1 * 2 ^ a % 2 ^ 32 = _
  rw [Nat.one_mul, Nat.mod_eq_of_lt this]
theorem z_clr {w a : Nat} (hw : w < 2 ^ 31) (ha : a < 31) : nI w &&& (((1 : Int32) <<< (nI a &&& 31)) ^^^ (-1 : Int32)) = nI (zclr w a) := by
  apply Int32.toBitVec_inj.mp
  apply BitVec.eq_of_toNat_eq
  have hz := zclr_le w a
  rw [pk_tn (by omega), Int32.toBitVec_and, Int32.toBitVec_xor, BitVec.toNat_and, BitVec.toNat_xor, z_one_shl ha, pk_tn (by omega)]
  rfl
theorem z_one {a : Nat} (ha : a < 31) : (1 : Int32) <<< (nI a &&& 31) = nI (2 ^ a) := by
  apply Int32.toBitVec_inj.mp
  apply BitVec.eq_of_toNat_eq
  have : 2 ^ a < 2 ^ 32 := Nat.pow_lt_pow_right (by omega) (by omega)
  rw [z_one_shl ha, pk_tn this]
theorem z_or {a b : Nat} (ha : a < 2 ^ 31) (hb : b < 2 ^ 31) : nI a ||| nI b = nI (a ||| b) := by
  apply Int32.toBitVec_inj.mp
  apply BitVec.eq_of_toNat_eq
  have := Nat.or_lt_two_pow ha hb
  rw [pk_tn (by omega), Int32.toBitVec_or, BitVec.toNat_or, pk_tn (by omega), pk_tn (by omega)]
theorem z_andN {a b : Nat} (ha : a < 2 ^ 31) (hb : b < 2 ^ 31) : nI a &&& nI b = nI (a &&& b) := by
  apply Int32.toBitVec_inj.mp
  apply BitVec.eq_of_toNat_eq
  have : a &&& b ≤ a := Nat.and_le_left
  rw [pk_tn (by omega), Int32.toBitVec_and, BitVec.toNat_and, pk_tn (by omega), pk_tn (by omega)]
theorem z_andnot {a b : Nat} (ha : a < 2 ^ 31) (hb : b < 2 ^ 31) : nI a &&& (nI b ^^^ (-1 : Int32)) = nI (a &&& (b ^^^ 4294967295)) := by
  apply Int32.toBitVec_inj.mp
  apply BitVec.eq_of_toNat_eq
  have : a &&& (b ^^^ 4294967295) ≤ a := Nat.and_le_left
  rw [pk_tn (by omega), Int32.toBitVec_and, Int32.toBitVec_xor, BitVec.toNat_and, BitVec.toNat_xor, pk_tn (by omega), pk_tn (by omega)]
  rfl
theorem z_tb_not (b i : Nat) (hi : i < 32) : (b ^^^ 4294967295).testBit i = !b.testBit i := by
  have e : (4294967295 : Nat) = 2 ^ 32 - 1 := by decide
  rw [Nat.testBit_xor, e, Nat.testBit_two_pow_sub_one]
  simp [hi]
theorem zclr_tb (w a i : Nat) (hi : i < 32) : (zclr w a).testBit i = (w.testBit i && !decide (a = i)) := by
  unfold zclr
  rw [Nat.testBit_and, z_tb_not _ _ hi, Nat.testBit_two_pow]
theorem zbit_clr (w a i : Nat) (hi : i < 32) : zbit (zclr w a) i = if i = a then 0 else zbit w i := by
  unfold zbit
  rw [zclr_tb w a i hi]
  by_cases e : i = a
  · subst e; simp
  · have e2 : ¬ a = i := fun q => e q.symm
    simp [e, e2]
theorem zbit_set (w a i : Nat) : zbit (w ||| 2 ^ a) i = if i = a then 1 else zbit w i := by
  unfold zbit
  rw [Nat.testBit_or, Nat.testBit_two_pow]
  by_cases e : i = a
  · subst e; simp
  · have e2 : ¬ a = i := fun q => e q.symm
    simp [e, e2]
theorem z_two {c : Nat} (U V : Nat → Int32) (hUV : ∀ h, h < c → U h = V h) {a b : Nat} (ha : a < c) (hb : b < c) (x y z : Int32) : ∀ h, h < c + 1 →
    upd (upd (upd U c z) a (upd U c z a + x)) b (upd (upd U c z) a (upd U c z a + x) b + y) h = upd (upd (upd V a (V a + x)) b (upd V a (V a + x) b + y)) c z h := by
  intro h hh
  have n1 : ¬ a = c := by omega
  have n2 : ¬ b = c := by omega
  have ea := hUV a ha
  have eb := hUV b hb
  by_cases e1 : h = c
  · subst e1
    have m1 : ¬ h = a := by omega
    have m2 : ¬ h = b := by omega
    simp [upd, m1, m2]
  · have eh := hUV h (by omega)
    by_cases e2 : h = b
    · subst e2
      by_cases e3 : h = a
      · subst e3; simp [upd, n1, ea]
      · simp [upd, n1, n2, e3, ea, eb]
    · by_cases e3 : h = a
      · subst e3; simp [upd, n1, e2, ea]
      · simp [upd, e1, e2, e3, eh]
theorem z_one1 {c : Nat} (U V : Nat → Int32) (hUV : ∀ h, h < c → U h = V h) (x : Int32) : ∀ h, h < c + 1 → upd U c x h = upd V c x h := by
  intro h hh
  by_cases e : h = c
  · subst e; simp [upd]
  · simp [upd, e, hUV h (by omega)]
def zfee (k f : Int32) : Int32 := if k = 2 then f else if k = 3 then 2 * f + 1 else 0
theorem has_nI {S : zSt} {c j : Nat} (hc : c ≤ 12) (h : st_came S = nI c) (hj : j < c) : fX5_has S (nI j) = 1 := by
  unfold fX5_has
  rw [h, if_neg (nI_pos (by omega)), if_neg (nI_ge hj (by omega))]
theorem use_nI {S : zSt} {c j : Nat} (hc : c ≤ 12) (h : st_came S = nI c) (hj : j < c) : fX5_use S (nI j) = some (st_set_earned (st_set_uses S (upd (st_uses S) j (st_uses S j + 1))) (upd (st_earned S) j (st_earned S j + zfee (st_kinds S j) (st_figures S j)))) := by
  unfold fX5_use
  rw [has_nI hc h hj, if_neg (by decide), ix_nI (by omega) (by omega), nI_clamp (by omega)]
  unfold fX5_fee
  rw [has_nI (S := st_set_uses S (upd (st_uses S) j (st_uses S j + 1))) hc h hj, if_neg (by decide), ix_nI (by omega) (by omega), nI_clamp (by omega)]
  show ((if st_kinds S j = 2 then some (st_figures S j) else if st_kinds S j = 3 then some (2 * st_figures S j + 1) else some 0).bind _) = _
  unfold zfee
  by_cases h2 : st_kinds S j = 2
  · simp only [if_pos h2]; rfl
  · simp only [if_neg h2]
    by_cases h3 : st_kinds S j = 3
    · simp only [if_pos h3]; rfl
    · simp only [if_neg h3]; rfl
theorem loseHut_nI {S : zSt} {c j w : Nat} (hc : c ≤ 12) (hw : w < 2 ^ 31) (h : st_came S = nI c) (hs : st_standing S = nI w) (hj : j < c) : fX5_loseHut S (nI j) = some (st_set_standing S (nI (if st_kinds S j = 1 then zclr w j else w))) := by
  unfold fX5_loseHut
  rw [has_nI hc h hj, if_neg (by decide), ix_nI (by omega) (by omega), nI_clamp (by omega)]
  by_cases h1 : st_kinds S j = 1
  · rw [if_pos h1, if_pos h1, hs, z_clr hw (by omega)]
  · rw [if_neg h1, if_neg h1, ← hs]
    rfl
theorem isUsed_nI {T : zMd} {j : Nat} (hj : j < 12) : fX8_isUsed T (nI j) = some (md_set_stands (md_set_earned (md_set_uses T (upd (md_uses T) j (md_uses T j + 1))) (upd (md_earned T) j (md_earned T j + zfee (md_kind T j) (md_figure T j)))) (if md_kind T j = 1 then upd (md_stands T) j 0 else md_stands T)) := by
  unfold fX8_isUsed
  rw [ix_nI (by omega) (by omega), nI_clamp (by omega)]
  have e : fX8_fee (md_set_uses T (upd (md_uses T) j (md_uses T j + 1))) (nI j) = some (zfee (md_kind T j) (md_figure T j)) := by
    unfold fX8_fee
    rw [ix_nI (by omega) (by omega), nI_clamp (by omega)]
    show (if md_kind T j = 2 then some (md_figure T j) else if md_kind T j = 3 then some (2 * md_figure T j + 1) else some 0) = _
    unfold zfee
    by_cases h2 : md_kind T j = 2
    · simp only [if_pos h2]
    · simp only [if_neg h2]
      by_cases h3 : md_kind T j = 3
      · simp only [if_pos h3]
      · simp only [if_neg h3]
  rw [e]
  show (if md_kind T j = 1 then some _ else some _) = _
  by_cases h1 : md_kind T j = 1
  · simp only [if_pos h1]
  · simp only [if_neg h1]
    rfl
/-- what isn't the street, nor the keeping, is the same -/
def FR (T T' : zMd) : Prop :=
  md_refused T' = md_refused T ∧ md_tape T' = md_tape T ∧ md_sort T' = md_sort T ∧ md_sortAt T' = md_sortAt T ∧ md_told T' = md_told T ∧ md_taped T' = md_taped T ∧ md_reading T' = md_reading T ∧ md_statements T' = md_statements T ∧ md_telling T' = md_telling T ∧ md_hasImage T' = md_hasImage T ∧
  md_row T' = md_row T ∧ md_rowMany T' = md_rowMany T
theorem FR.rf {T : zMd} : FR T T := ⟨rfl, rfl, rfl, rfl, rfl, rfl, rfl, rfl, rfl, rfl, rfl, rfl⟩
theorem FR.tr {A B C : zMd} (h : FR A B) (g : FR B C) : FR A C :=
  ⟨g.1.trans h.1, g.2.1.trans h.2.1, g.2.2.1.trans h.2.2.1, g.2.2.2.1.trans h.2.2.2.1, g.2.2.2.2.1.trans h.2.2.2.2.1, g.2.2.2.2.2.1.trans h.2.2.2.2.2.1, g.2.2.2.2.2.2.1.trans h.2.2.2.2.2.2.1, g.2.2.2.2.2.2.2.1.trans h.2.2.2.2.2.2.2.1, g.2.2.2.2.2.2.2.2.1.trans h.2.2.2.2.2.2.2.2.1, g.2.2.2.2.2.2.2.2.2.1.trans h.2.2.2.2.2.2.2.2.2.1, g.2.2.2.2.2.2.2.2.2.2.1.trans h.2.2.2.2.2.2.2.2.2.2.1, g.2.2.2.2.2.2.2.2.2.2.2.trans h.2.2.2.2.2.2.2.2.2.2.2⟩
theorem place_nI {S : zSt} {c w : Nat} (hc : c < 12) (hw : w < 2 ^ 31) (h : st_came S = nI c) (hs : st_standing S = nI w) (n p q k f : Int32) : fX5_place S n p q k f = some (st_set_standing (st_set_came (st_set_earned (st_set_uses (st_set_seconds (st_set_firsts (st_set_numbers (st_set_figures (st_set_kinds S (upd (st_kinds S) c k)) (upd (st_figures S) c f)) (upd (st_numbers S) c n)) (upd (st_firsts S) c p)) (upd (st_seconds S) c q)) (upd (st_uses S) c 0)) (upd (st_earned S) c 0)) (nI (c + 1))) (nI (w ||| 2 ^ c))) := by
  unfold fX5_place
  have e : fX5_hasRoom S = 1 := by
    unfold fX5_hasRoom
    rw [h, if_neg (show ¬ (12 : Int32) ≤ nI c from nI_ge (b := 12) hc (by omega))]
  have p2 : 2 ^ c < 2 ^ 31 := Nat.pow_lt_pow_right (by omega) (by omega)
  rw [e, if_neg (by decide), h, hs, ix_nI (by omega) (by omega), nI_clamp (by omega), nI_1, z_one (by omega), z_or hw p2]
theorem isMore_nI {T : zMd} {c : Nat} (hc : c < 12) (h : md_houses T = nI c) (n k f p q : Int32) : fX8_isMore T n k f p q = some (md_set_houses (md_set_earned (md_set_uses (md_set_stands (md_set_other (md_set_one (md_set_figure (md_set_kind (md_set_number T (upd (md_number T) c n)) (upd (md_kind T) c k)) (upd (md_figure T) c f)) (upd (md_one T) c p)) (upd (md_other T) c q)) (upd (md_stands T) c 1)) (upd (md_uses T) c 0)) (upd (md_earned T) c 0)) (nI (c + 1))) := by
  unfold fX8_isMore
  rw [h, ix_nI (by omega) (by omega), nI_clamp (by omega), nI_1]
theorem upd_at (f : Nat → Int32) (k : Nat) (x : Int32) (h : Nat) : upd f k x h = if h = k then x else f h := rfl
theorem z_ifupd (k : Int32) (U : Nat → Int32) (a j : Nat) : (if k = 1 then upd U a 0 else U) j = if k = 1 ∧ j = a then 0 else U j := by
  by_cases q : k = 1
  · rw [if_pos q, upd_at]
    by_cases e : j = a
    · rw [if_pos e, if_pos ⟨q, e⟩]
    · rw [if_neg e, if_neg (fun z => e z.2)]
  · rw [if_neg q, if_neg (fun z => q z.1)]
theorem z_clrif (k : Int32) (w a j : Nat) (hj : j < 32) : zbit (if k = 1 then zclr w a else w) j = if k = 1 ∧ j = a then 0 else zbit w j := by
  by_cases q : k = 1
  · rw [if_pos q, zbit_clr _ _ _ hj]
    by_cases e : j = a
    · rw [if_pos e, if_pos ⟨q, e⟩]
    · rw [if_neg e, if_neg (fun z => e z.2)]
  · rw [if_neg q, if_neg (fun z => q z.1)]
theorem z_standsAll {c a b w : Nat} (hc : c < 12) (ha : a < c) (hb : b < c) (U : Nat → Int32) (k1 k2 : Int32) (hU : ∀ h, h < c → U h = zbit w h) {w1 wa wb : Nat} (ew1 : w1 = (w ||| 2 ^ c)) (ewa : wa = if k1 = 1 then zclr w1 a else w1) (ewb : wb = if k2 = 1 then zclr wa b else wa) :
    ∀ j, j < c + 1 → upd (if k2 = 1 then upd (if k1 = 1 then upd U a 0 else U) b 0 else (if k1 = 1 then upd U a 0 else U)) c 1 j = zbit wb j := by
  intro j hj
  rw [upd_at, ewb, z_clrif _ _ _ _ (by omega), ewa, z_clrif _ _ _ _ (by omega), ew1, zbit_set]
  by_cases ec : j = c
  · rw [if_pos ec, if_neg (fun z => by omega), if_neg (fun z => by omega), if_pos ec]
  · rw [if_neg ec, if_neg ec, z_ifupd, z_ifupd, hU j (by omega)]
def zFix (S S' : zSt) : Prop := st_came S' = st_came S ∧ st_kinds S' = st_kinds S ∧ st_figures S' = st_figures S ∧ st_numbers S' = st_numbers S ∧ st_firsts S' = st_firsts S ∧ st_seconds S' = st_seconds S ∧ st_sums S' = st_sums S ∧ st_falls S' = st_falls S
theorem place_ex {S : zSt} {c w : Nat} (hc : c < 12) (hw : w < 2 ^ 31) (h : st_came S = nI c) (hs : st_standing S = nI w) (n p q k f : Int32) : ∃ S1, fX5_place S n p q k f = some S1 ∧ st_came S1 = nI (c + 1) ∧ st_standing S1 = nI (w ||| 2 ^ c) ∧ st_kinds S1 = upd (st_kinds S) c k ∧ st_figures S1 = upd (st_figures S) c f ∧ st_numbers S1 = upd (st_numbers S) c n ∧ st_firsts S1 = upd (st_firsts S) c p ∧ st_seconds S1 = upd (st_seconds S) c q ∧ st_uses S1 = upd (st_uses S) c 0 ∧ st_earned S1 = upd (st_earned S) c 0 ∧ st_sums S1 = st_sums S ∧ st_falls S1 = st_falls S :=
  ⟨_, place_nI hc hw h hs n p q k f, rfl, rfl, rfl, rfl, rfl, rfl, rfl, rfl, rfl, rfl, rfl⟩
theorem use_ex {S : zSt} {c j : Nat} (hc : c ≤ 12) (h : st_came S = nI c) (hj : j < c) : ∃ S1, fX5_use S (nI j) = some S1 ∧ zFix S S1 ∧ st_standing S1 = st_standing S ∧ st_uses S1 = upd (st_uses S) j (st_uses S j + 1) ∧ st_earned S1 = upd (st_earned S) j (st_earned S j + zfee (st_kinds S j) (st_figures S j)) :=
  ⟨_, use_nI hc h hj, ⟨rfl, rfl, rfl, rfl, rfl, rfl, rfl, rfl⟩, rfl, rfl, rfl⟩
theorem lose_ex {S : zSt} {c j w : Nat} (hc : c ≤ 12) (hw : w < 2 ^ 31) (h : st_came S = nI c) (hs : st_standing S = nI w) (hj : j < c) : ∃ S1, fX5_loseHut S (nI j) = some S1 ∧ zFix S S1 ∧ st_standing S1 = nI (if st_kinds S j = 1 then zclr w j else w) ∧ st_uses S1 = st_uses S ∧ st_earned S1 = st_earned S :=
  ⟨_, loseHut_nI hc hw h hs hj, ⟨rfl, rfl, rfl, rfl, rfl, rfl, rfl, rfl⟩, rfl, rfl, rfl⟩
def zFixM (T T' : zMd) : Prop := md_houses T' = md_houses T ∧ md_kind T' = md_kind T ∧ md_figure T' = md_figure T ∧ md_number T' = md_number T ∧ md_one T' = md_one T ∧ md_other T' = md_other T ∧ md_sums T' = md_sums T ∧ md_falls T' = md_falls T ∧ FR T T' ∧ md_kept T' = md_kept T ∧ md_lots T' = md_lots T
theorem used_ex {T : zMd} {j : Nat} (hj : j < 12) : ∃ T1, fX8_isUsed T (nI j) = some T1 ∧ zFixM T T1 ∧ md_stands T1 = (if md_kind T j = 1 then upd (md_stands T) j 0 else md_stands T) ∧ md_uses T1 = upd (md_uses T) j (md_uses T j + 1) ∧ md_earned T1 = upd (md_earned T) j (md_earned T j + zfee (md_kind T j) (md_figure T j)) :=
  ⟨_, isUsed_nI hj, ⟨rfl, rfl, rfl, rfl, rfl, rfl, rfl, rfl, ⟨rfl, rfl, rfl, rfl, rfl, rfl, rfl, rfl, rfl, rfl, rfl, rfl⟩, rfl, rfl⟩, rfl, rfl, rfl⟩
theorem more_ex {T : zMd} {c : Nat} (hc : c < 12) (h : md_houses T = nI c) (n k f p q : Int32) : ∃ T1, fX8_isMore T n k f p q = some T1 ∧ md_houses T1 = nI (c + 1) ∧ md_stands T1 = upd (md_stands T) c 1 ∧ md_kind T1 = upd (md_kind T) c k ∧ md_figure T1 = upd (md_figure T) c f ∧ md_number T1 = upd (md_number T) c n ∧ md_one T1 = upd (md_one T) c p ∧ md_other T1 = upd (md_other T) c q ∧ md_uses T1 = upd (md_uses T) c 0 ∧ md_earned T1 = upd (md_earned T) c 0 ∧ md_sums T1 = md_sums T ∧ md_falls T1 = md_falls T ∧ FR T T1 ∧ md_kept T1 = md_kept T ∧ md_lots T1 = md_lots T :=
  ⟨_, isMore_nI hc h n k f p q, rfl, rfl, rfl, rfl, rfl, rfl, rfl, rfl, rfl, rfl, rfl, ⟨rfl, rfl, rfl, rfl, rfl, rfl, rfl, rfl, rfl, rfl, rfl, rfl⟩, rfl, rfl⟩
theorem build_eq {c w : Nat} {S : zSt} {T : zMd} (h : SR c w S T) (hc12 : c < 12) {a b : Nat} (ha : a < c) (hb : b < c) {k f : Int32} (hk : fX5_isKind k = 1) (hm : fX5_mayBe S (nI a) (nI b) = some 1) (h9 : ∃ n, 1 ≤ n ∧ n ≤ 9999 ∧ md_number T a + md_number T b = nI n) :
    ∃ (w' : Nat) (S' : zSt) (T' : zMd), fX5_build S (nI a) (nI b) k f = some (1, S') ∧ fX8_builds T (nI a) (nI b) k f = some T' ∧ SR (c + 1) w' S' T' ∧ FR T T' ∧ md_kept T' = md_kept T ∧ md_lots T' = md_lots T := by
  have hc := h.c
  have hw := h.w12
  have hwc := h.w
  have fa := h.arr a ha
  have fb := h.arr b hb
  have p2 : 2 ^ c < 2 ^ 12 := Nat.pow_lt_pow_right (by omega) (by omega)
  have hw1 : (w ||| 2 ^ c) < 2 ^ 12 := Nat.or_lt_two_pow (by omega) p2
  have e1 : fX5_hasRoom S = 1 := by
    unfold fX5_hasRoom
    rw [h.came, if_neg (show ¬ (12 : Int32) ≤ nI c from nI_ge (b := 12) hc12 (by omega))]
  have na : ¬ a = c := by omega
  have nb : ¬ b = c := by omega
  have key : fX5_build S (nI a) (nI b) k f = (fX5_place S (st_numbers S a + st_numbers S b) (nI a) (nI b) k f).bind fun u9 => (fX5_use u9 (nI a)).bind fun u10 => (fX5_use u10 (nI b)).bind fun u11 => (fX5_loseHut u11 (nI a)).bind fun u12 => (fX5_loseHut u12 (nI b)).bind fun u13 => some (1, u13) := by
    unfold fX5_build
    rw [e1, if_neg (by decide), hk, if_neg (by decide), hm, ix_nI (by omega) (by omega), ix_nI (by omega) (by omega), nI_clamp (by omega), nI_clamp (by omega)]
    rfl
  have key2 : fX8_builds T (nI a) (nI b) k f = (fX8_isUsed T (nI a)).bind fun u3 => (fX8_isUsed u3 (nI b)).bind fun u4 => (fX8_isMore u4 (md_number T a + md_number T b) k f (nI a) (nI b)).bind fun u5 => some u5 := by
    unfold fX8_builds
    rw [ix_nI (by omega) (by omega), ix_nI (by omega) (by omega), nI_clamp (by omega), nI_clamp (by omega)]
  obtain ⟨w1, ew1⟩ : ∃ w1, w1 = (w ||| 2 ^ c) := ⟨_, rfl⟩
  obtain ⟨wa, ewa⟩ : ∃ wa, wa = if md_kind T a = 1 then zclr w1 a else w1 := ⟨_, rfl⟩
  obtain ⟨wb, ewb⟩ : ∃ wb, wb = if md_kind T b = 1 then zclr wa b else wa := ⟨_, rfl⟩
  have l1 : w1 < 2 ^ (c + 1) := by
    rw [ew1]
    exact Nat.or_lt_two_pow (by rw [Nat.pow_succ]; omega) (by rw [Nat.pow_succ]; omega)
  have l12 : w1 < 2 ^ 12 := by rw [ew1]; exact hw1
  have la : wa ≤ w1 := by
    rw [ewa]
    by_cases q : md_kind T a = 1
    · rw [if_pos q]; exact zclr_le _ _
    · rw [if_neg q]; exact Nat.le_refl _
  have lb : wb ≤ wa := by
    rw [ewb]
    by_cases q : md_kind T b = 1
    · rw [if_pos q]; exact zclr_le _ _
    · rw [if_neg q]; exact Nat.le_refl _
  obtain ⟨n9, p9, q9, e9⟩ := h9
  obtain ⟨S1, p0, p1, p2', p3, p4, p5, p6, p7, p8, p9', p10, p11⟩ := place_ex hc12 (show w < 2 ^ 31 from by omega) h.came h.st (st_numbers S a + st_numbers S b) (nI a) (nI b) k f
  rw [← ew1] at p2'
  obtain ⟨S2, u0, ⟨u1, u2, u3, u4, u5, u6, u7, u8⟩, u9, u10, u11⟩ := use_ex (c := c + 1) (j := a) (by omega) p1 (by omega)
  obtain ⟨S3, v0, ⟨v1, v2, v3, v4, v5, v6, v7, v8⟩, v9, v10, v11⟩ := use_ex (c := c + 1) (j := b) (by omega) (u1.trans p1) (by omega)
  have ka : st_kinds S1 a = md_kind T a := by rw [p3, upd_at, if_neg na, fa.1]
  have kb : st_kinds S1 b = md_kind T b := by rw [p3, upd_at, if_neg nb, fb.1]
  have ga : st_figures S1 a = md_figure T a := by rw [p4, upd_at, if_neg na, fa.2.1]
  have gb : st_figures S1 b = md_figure T b := by rw [p4, upd_at, if_neg nb, fb.2.1]
  obtain ⟨S4, x0, ⟨x1, x2, x3, x4, x5, x6, x7, x8⟩, x9, x10, x11⟩ := lose_ex (c := c + 1) (j := a) (w := w1) (by omega) (by omega) (v1.trans (u1.trans p1)) (v9.trans (u9.trans p2')) (by omega)
  rw [v2, u2, ka, ← ewa] at x9
  obtain ⟨S5, y0, ⟨y1, y2, y3, y4, y5, y6, y7, y8⟩, y9, y10, y11⟩ := lose_ex (c := c + 1) (j := b) (w := wa) (by omega) (by omega) (x1.trans (v1.trans (u1.trans p1))) x9 (by omega)
  rw [x2, v2, u2, kb, ← ewb] at y9
  obtain ⟨T1, a0, ⟨a1, a2, a3, a4, a5, a6, a7, a8, a9, a10, a11⟩, a12, a13, a14⟩ := used_ex (T := T) (j := a) (by omega)
  obtain ⟨T2, b0, ⟨b1, b2, b3, b4, b5, b6, b7, b8, b9, b10, b11⟩, b12, b13, b14⟩ := used_ex (T := T1) (j := b) (by omega)
  obtain ⟨T3, c0, c1, c2, c3, c4, c5, c6, c7, c8, c9, c10, c11, c12, c13, c14⟩ := more_ex (T := T2) hc12 (b1.trans (a1.trans h.houses)) (md_number T a + md_number T b) k f (nI a) (nI b)
  refine ⟨wb, S5, T3, ?_, ?_, ?_, a9.tr (b9.tr c12), c13.trans (b10.trans a10), c14.trans (b11.trans a11)⟩
  · rw [key, p0]
    show (fX5_use S1 (nI a)).bind _ = _
    rw [u0]
    show (fX5_use S2 (nI b)).bind _ = _
    rw [v0]
    show (fX5_loseHut S3 (nI a)).bind _ = _
    rw [x0]
    show (fX5_loseHut S4 (nI b)).bind _ = _
    rw [y0]
    rfl
  · rw [key2, a0]
    show (fX8_isUsed T1 (nI b)).bind _ = _
    rw [b0]
    show (fX8_isMore T2 _ _ _ _ _).bind _ = _
    rw [c0]
    rfl
  refine ⟨⟨by omega, by omega⟩, by omega, y1.trans (x1.trans (v1.trans (u1.trans p1))), c1, y9, ?_, ?_, ?_, ?_⟩
  · intro j hj
    refine ⟨?_, ?_, ?_, ?_, ?_, ?_, ?_, ?_⟩
    · rw [y2, x2, v2, u2, p3, c3, b2, a2]
      exact z_one1 _ _ (fun x hx => (h.arr x hx).1) k j hj
    · rw [y3, x3, v3, u3, p4, c4, b3, a3]
      exact z_one1 _ _ (fun x hx => (h.arr x hx).2.1) f j hj
    · rw [y4, x4, v4, u4, p5, c5, b4, a4, fa.2.2.1, fb.2.2.1]
      exact z_one1 _ _ (fun x hx => (h.arr x hx).2.2.1) _ j hj
    · rw [y5, x5, v5, u5, p6, c6, b5, a5]
      exact z_one1 _ _ (fun x hx => (h.arr x hx).2.2.2.1) _ j hj
    · rw [y6, x6, v6, u6, p7, c7, b6, a6]
      exact z_one1 _ _ (fun x hx => (h.arr x hx).2.2.2.2.1) _ j hj
    · rw [y10, x10, v10, u10, p8, c8, b13, a13]
      exact z_two _ _ (fun x hx => (h.arr x hx).2.2.2.2.2.1) ha hb 1 1 0 j hj
    · rw [y11, x11, v11, u11, p9', u2, u3, ka, kb, ga, gb, c9, b14, a14, a2, a3]
      exact z_two _ _ (fun x hx => (h.arr x hx).2.2.2.2.2.2.1) ha hb (zfee (md_kind T a) (md_figure T a)) (zfee (md_kind T b) (md_figure T b)) 0 j hj
    · rw [c2, b12, a12, a2]
      exact z_standsAll hc12 ha hb (md_stands T) (md_kind T a) (md_kind T b) (fun x hx => (h.arr x hx).2.2.2.2.2.2.2) ew1 ewa ewb j hj
  · rw [y7, x7, v7, u7, p10, c10, b7, a7]
    exact h.2.2.2.2.2.2.1
  · rw [y8, x8, v8, u8, p11, c11, b8, a8]
    exact h.2.2.2.2.2.2.2.1
  · intro j hj
    by_cases ec : j = c
    · subst ec
      refine ⟨⟨n9, p9, q9, ?_⟩, Or.inr ⟨a, b, by omega, by omega, ?_, ?_⟩⟩
      · rw [c5, b4, a4, upd_at, if_pos rfl, e9]
      · rw [c6, b5, a5, upd_at, if_pos rfl]
      · rw [c7, b6, a6, upd_at, if_pos rfl]
    · obtain ⟨⟨n, x1, x2, x3⟩, y⟩ := h.2.2.2.2.2.2.2.2 j (by omega)
      refine ⟨⟨n, x1, x2, ?_⟩, ?_⟩
      · rw [c5, b4, a4, upd_at, if_neg ec, x3]
      · rcases y with ⟨y0, y1, y2⟩ | ⟨u, v, y1, y2, y3, y4⟩
        · refine Or.inl ⟨y0, ?_, ?_⟩
          · rw [c6, b5, a5, upd_at, if_neg ec, y1]
          · rw [c7, b6, a6, upd_at, if_neg ec, y2]
        · refine Or.inr ⟨u, v, y1, y2, ?_, ?_⟩
          · rw [c6, b5, a5, upd_at, if_neg ec, y3]
          · rw [c7, b6, a6, upd_at, if_neg ec, y4]
end
section
/-! what a setter leaves, and what it sets -/
theorem ac_number_kept (T : zMd) (v : Nat → Int32) : md_number (md_set_kept T v) = md_number T := rfl
theorem ac_kind_kept (T : zMd) (v : Nat → Int32) : md_kind (md_set_kept T v) = md_kind T := rfl
theorem ac_figure_kept (T : zMd) (v : Nat → Int32) : md_figure (md_set_kept T v) = md_figure T := rfl
theorem ac_one_kept (T : zMd) (v : Nat → Int32) : md_one (md_set_kept T v) = md_one T := rfl
theorem ac_other_kept (T : zMd) (v : Nat → Int32) : md_other (md_set_kept T v) = md_other T := rfl
theorem ac_stands_kept (T : zMd) (v : Nat → Int32) : md_stands (md_set_kept T v) = md_stands T := rfl
theorem ac_uses_kept (T : zMd) (v : Nat → Int32) : md_uses (md_set_kept T v) = md_uses T := rfl
theorem ac_earned_kept (T : zMd) (v : Nat → Int32) : md_earned (md_set_kept T v) = md_earned T := rfl
theorem ac_houses_kept (T : zMd) (v : Nat → Int32) : md_houses (md_set_kept T v) = md_houses T := rfl
theorem ac_sums_kept (T : zMd) (v : Nat → Int32) : md_sums (md_set_kept T v) = md_sums T := rfl
theorem ac_falls_kept (T : zMd) (v : Nat → Int32) : md_falls (md_set_kept T v) = md_falls T := rfl
theorem ac_kept_kept (T : zMd) (v : Nat → Int32) : md_kept (md_set_kept T v) = v := rfl
theorem ac_cursor_kept (T : zMd) (v : Nat → Int32) : md_cursor (md_set_kept T v) = md_cursor T := rfl
theorem ac_isKeeping_kept (T : zMd) (v : Nat → Int32) : md_isKeeping (md_set_kept T v) = md_isKeeping T := rfl
theorem ac_number_cursor (T : zMd) (v : Int32) : md_number (md_set_cursor T v) = md_number T := rfl
theorem ac_kind_cursor (T : zMd) (v : Int32) : md_kind (md_set_cursor T v) = md_kind T := rfl
theorem ac_figure_cursor (T : zMd) (v : Int32) : md_figure (md_set_cursor T v) = md_figure T := rfl
theorem ac_one_cursor (T : zMd) (v : Int32) : md_one (md_set_cursor T v) = md_one T := rfl
theorem ac_other_cursor (T : zMd) (v : Int32) : md_other (md_set_cursor T v) = md_other T := rfl
theorem ac_stands_cursor (T : zMd) (v : Int32) : md_stands (md_set_cursor T v) = md_stands T := rfl
theorem ac_uses_cursor (T : zMd) (v : Int32) : md_uses (md_set_cursor T v) = md_uses T := rfl
theorem ac_earned_cursor (T : zMd) (v : Int32) : md_earned (md_set_cursor T v) = md_earned T := rfl
theorem ac_houses_cursor (T : zMd) (v : Int32) : md_houses (md_set_cursor T v) = md_houses T := rfl
theorem ac_sums_cursor (T : zMd) (v : Int32) : md_sums (md_set_cursor T v) = md_sums T := rfl
theorem ac_falls_cursor (T : zMd) (v : Int32) : md_falls (md_set_cursor T v) = md_falls T := rfl
theorem ac_kept_cursor (T : zMd) (v : Int32) : md_kept (md_set_cursor T v) = md_kept T := rfl
theorem ac_cursor_cursor (T : zMd) (v : Int32) : md_cursor (md_set_cursor T v) = v := rfl
theorem ac_isKeeping_cursor (T : zMd) (v : Int32) : md_isKeeping (md_set_cursor T v) = md_isKeeping T := rfl
theorem ac_number_isKeeping (T : zMd) (v : Int32) : md_number (md_set_isKeeping T v) = md_number T := rfl
theorem ac_kind_isKeeping (T : zMd) (v : Int32) : md_kind (md_set_isKeeping T v) = md_kind T := rfl
theorem ac_figure_isKeeping (T : zMd) (v : Int32) : md_figure (md_set_isKeeping T v) = md_figure T := rfl
theorem ac_one_isKeeping (T : zMd) (v : Int32) : md_one (md_set_isKeeping T v) = md_one T := rfl
theorem ac_other_isKeeping (T : zMd) (v : Int32) : md_other (md_set_isKeeping T v) = md_other T := rfl
theorem ac_stands_isKeeping (T : zMd) (v : Int32) : md_stands (md_set_isKeeping T v) = md_stands T := rfl
theorem ac_uses_isKeeping (T : zMd) (v : Int32) : md_uses (md_set_isKeeping T v) = md_uses T := rfl
theorem ac_earned_isKeeping (T : zMd) (v : Int32) : md_earned (md_set_isKeeping T v) = md_earned T := rfl
theorem ac_houses_isKeeping (T : zMd) (v : Int32) : md_houses (md_set_isKeeping T v) = md_houses T := rfl
theorem ac_sums_isKeeping (T : zMd) (v : Int32) : md_sums (md_set_isKeeping T v) = md_sums T := rfl
theorem ac_falls_isKeeping (T : zMd) (v : Int32) : md_falls (md_set_isKeeping T v) = md_falls T := rfl
theorem ac_kept_isKeeping (T : zMd) (v : Int32) : md_kept (md_set_isKeeping T v) = md_kept T := rfl
theorem ac_cursor_isKeeping (T : zMd) (v : Int32) : md_cursor (md_set_isKeeping T v) = md_cursor T := rfl
theorem ac_isKeeping_isKeeping (T : zMd) (v : Int32) : md_isKeeping (md_set_isKeeping T v) = v := rfl
theorem ac_number_number (T : zMd) (v : Nat → Int32) : md_number (md_set_number T v) = v := rfl
theorem ac_kind_number (T : zMd) (v : Nat → Int32) : md_kind (md_set_number T v) = md_kind T := rfl
theorem ac_figure_number (T : zMd) (v : Nat → Int32) : md_figure (md_set_number T v) = md_figure T := rfl
theorem ac_one_number (T : zMd) (v : Nat → Int32) : md_one (md_set_number T v) = md_one T := rfl
theorem ac_other_number (T : zMd) (v : Nat → Int32) : md_other (md_set_number T v) = md_other T := rfl
theorem ac_stands_number (T : zMd) (v : Nat → Int32) : md_stands (md_set_number T v) = md_stands T := rfl
theorem ac_uses_number (T : zMd) (v : Nat → Int32) : md_uses (md_set_number T v) = md_uses T := rfl
theorem ac_earned_number (T : zMd) (v : Nat → Int32) : md_earned (md_set_number T v) = md_earned T := rfl
theorem ac_houses_number (T : zMd) (v : Nat → Int32) : md_houses (md_set_number T v) = md_houses T := rfl
theorem ac_sums_number (T : zMd) (v : Nat → Int32) : md_sums (md_set_number T v) = md_sums T := rfl
theorem ac_falls_number (T : zMd) (v : Nat → Int32) : md_falls (md_set_number T v) = md_falls T := rfl
theorem ac_kept_number (T : zMd) (v : Nat → Int32) : md_kept (md_set_number T v) = md_kept T := rfl
theorem ac_cursor_number (T : zMd) (v : Nat → Int32) : md_cursor (md_set_number T v) = md_cursor T := rfl
theorem ac_isKeeping_number (T : zMd) (v : Nat → Int32) : md_isKeeping (md_set_number T v) = md_isKeeping T := rfl
theorem ac_number_kind (T : zMd) (v : Nat → Int32) : md_number (md_set_kind T v) = md_number T := rfl
theorem ac_kind_kind (T : zMd) (v : Nat → Int32) : md_kind (md_set_kind T v) = v := rfl
theorem ac_figure_kind (T : zMd) (v : Nat → Int32) : md_figure (md_set_kind T v) = md_figure T := rfl
theorem ac_one_kind (T : zMd) (v : Nat → Int32) : md_one (md_set_kind T v) = md_one T := rfl
theorem ac_other_kind (T : zMd) (v : Nat → Int32) : md_other (md_set_kind T v) = md_other T := rfl
theorem ac_stands_kind (T : zMd) (v : Nat → Int32) : md_stands (md_set_kind T v) = md_stands T := rfl
theorem ac_uses_kind (T : zMd) (v : Nat → Int32) : md_uses (md_set_kind T v) = md_uses T := rfl
theorem ac_earned_kind (T : zMd) (v : Nat → Int32) : md_earned (md_set_kind T v) = md_earned T := rfl
theorem ac_houses_kind (T : zMd) (v : Nat → Int32) : md_houses (md_set_kind T v) = md_houses T := rfl
theorem ac_sums_kind (T : zMd) (v : Nat → Int32) : md_sums (md_set_kind T v) = md_sums T := rfl
theorem ac_falls_kind (T : zMd) (v : Nat → Int32) : md_falls (md_set_kind T v) = md_falls T := rfl
theorem ac_kept_kind (T : zMd) (v : Nat → Int32) : md_kept (md_set_kind T v) = md_kept T := rfl
theorem ac_cursor_kind (T : zMd) (v : Nat → Int32) : md_cursor (md_set_kind T v) = md_cursor T := rfl
theorem ac_isKeeping_kind (T : zMd) (v : Nat → Int32) : md_isKeeping (md_set_kind T v) = md_isKeeping T := rfl
theorem ac_number_figure (T : zMd) (v : Nat → Int32) : md_number (md_set_figure T v) = md_number T := rfl
theorem ac_kind_figure (T : zMd) (v : Nat → Int32) : md_kind (md_set_figure T v) = md_kind T := rfl
theorem ac_figure_figure (T : zMd) (v : Nat → Int32) : md_figure (md_set_figure T v) = v := rfl
theorem ac_one_figure (T : zMd) (v : Nat → Int32) : md_one (md_set_figure T v) = md_one T := rfl
theorem ac_other_figure (T : zMd) (v : Nat → Int32) : md_other (md_set_figure T v) = md_other T := rfl
theorem ac_stands_figure (T : zMd) (v : Nat → Int32) : md_stands (md_set_figure T v) = md_stands T := rfl
theorem ac_uses_figure (T : zMd) (v : Nat → Int32) : md_uses (md_set_figure T v) = md_uses T := rfl
theorem ac_earned_figure (T : zMd) (v : Nat → Int32) : md_earned (md_set_figure T v) = md_earned T := rfl
theorem ac_houses_figure (T : zMd) (v : Nat → Int32) : md_houses (md_set_figure T v) = md_houses T := rfl
theorem ac_sums_figure (T : zMd) (v : Nat → Int32) : md_sums (md_set_figure T v) = md_sums T := rfl
theorem ac_falls_figure (T : zMd) (v : Nat → Int32) : md_falls (md_set_figure T v) = md_falls T := rfl
theorem ac_kept_figure (T : zMd) (v : Nat → Int32) : md_kept (md_set_figure T v) = md_kept T := rfl
theorem ac_cursor_figure (T : zMd) (v : Nat → Int32) : md_cursor (md_set_figure T v) = md_cursor T := rfl
theorem ac_isKeeping_figure (T : zMd) (v : Nat → Int32) : md_isKeeping (md_set_figure T v) = md_isKeeping T := rfl
theorem ac_number_one (T : zMd) (v : Nat → Int32) : md_number (md_set_one T v) = md_number T := rfl
theorem ac_kind_one (T : zMd) (v : Nat → Int32) : md_kind (md_set_one T v) = md_kind T := rfl
theorem ac_figure_one (T : zMd) (v : Nat → Int32) : md_figure (md_set_one T v) = md_figure T := rfl
theorem ac_one_one (T : zMd) (v : Nat → Int32) : md_one (md_set_one T v) = v := rfl
theorem ac_other_one (T : zMd) (v : Nat → Int32) : md_other (md_set_one T v) = md_other T := rfl
theorem ac_stands_one (T : zMd) (v : Nat → Int32) : md_stands (md_set_one T v) = md_stands T := rfl
theorem ac_uses_one (T : zMd) (v : Nat → Int32) : md_uses (md_set_one T v) = md_uses T := rfl
theorem ac_earned_one (T : zMd) (v : Nat → Int32) : md_earned (md_set_one T v) = md_earned T := rfl
theorem ac_houses_one (T : zMd) (v : Nat → Int32) : md_houses (md_set_one T v) = md_houses T := rfl
theorem ac_sums_one (T : zMd) (v : Nat → Int32) : md_sums (md_set_one T v) = md_sums T := rfl
theorem ac_falls_one (T : zMd) (v : Nat → Int32) : md_falls (md_set_one T v) = md_falls T := rfl
theorem ac_kept_one (T : zMd) (v : Nat → Int32) : md_kept (md_set_one T v) = md_kept T := rfl
theorem ac_cursor_one (T : zMd) (v : Nat → Int32) : md_cursor (md_set_one T v) = md_cursor T := rfl
theorem ac_isKeeping_one (T : zMd) (v : Nat → Int32) : md_isKeeping (md_set_one T v) = md_isKeeping T := rfl
theorem ac_number_other (T : zMd) (v : Nat → Int32) : md_number (md_set_other T v) = md_number T := rfl
theorem ac_kind_other (T : zMd) (v : Nat → Int32) : md_kind (md_set_other T v) = md_kind T := rfl
theorem ac_figure_other (T : zMd) (v : Nat → Int32) : md_figure (md_set_other T v) = md_figure T := rfl
theorem ac_one_other (T : zMd) (v : Nat → Int32) : md_one (md_set_other T v) = md_one T := rfl
theorem ac_other_other (T : zMd) (v : Nat → Int32) : md_other (md_set_other T v) = v := rfl
theorem ac_stands_other (T : zMd) (v : Nat → Int32) : md_stands (md_set_other T v) = md_stands T := rfl
theorem ac_uses_other (T : zMd) (v : Nat → Int32) : md_uses (md_set_other T v) = md_uses T := rfl
theorem ac_earned_other (T : zMd) (v : Nat → Int32) : md_earned (md_set_other T v) = md_earned T := rfl
theorem ac_houses_other (T : zMd) (v : Nat → Int32) : md_houses (md_set_other T v) = md_houses T := rfl
theorem ac_sums_other (T : zMd) (v : Nat → Int32) : md_sums (md_set_other T v) = md_sums T := rfl
theorem ac_falls_other (T : zMd) (v : Nat → Int32) : md_falls (md_set_other T v) = md_falls T := rfl
theorem ac_kept_other (T : zMd) (v : Nat → Int32) : md_kept (md_set_other T v) = md_kept T := rfl
theorem ac_cursor_other (T : zMd) (v : Nat → Int32) : md_cursor (md_set_other T v) = md_cursor T := rfl
theorem ac_isKeeping_other (T : zMd) (v : Nat → Int32) : md_isKeeping (md_set_other T v) = md_isKeeping T := rfl
theorem ac_number_stands (T : zMd) (v : Nat → Int32) : md_number (md_set_stands T v) = md_number T := rfl
theorem ac_kind_stands (T : zMd) (v : Nat → Int32) : md_kind (md_set_stands T v) = md_kind T := rfl
theorem ac_figure_stands (T : zMd) (v : Nat → Int32) : md_figure (md_set_stands T v) = md_figure T := rfl
theorem ac_one_stands (T : zMd) (v : Nat → Int32) : md_one (md_set_stands T v) = md_one T := rfl
theorem ac_other_stands (T : zMd) (v : Nat → Int32) : md_other (md_set_stands T v) = md_other T := rfl
theorem ac_stands_stands (T : zMd) (v : Nat → Int32) : md_stands (md_set_stands T v) = v := rfl
theorem ac_uses_stands (T : zMd) (v : Nat → Int32) : md_uses (md_set_stands T v) = md_uses T := rfl
theorem ac_earned_stands (T : zMd) (v : Nat → Int32) : md_earned (md_set_stands T v) = md_earned T := rfl
theorem ac_houses_stands (T : zMd) (v : Nat → Int32) : md_houses (md_set_stands T v) = md_houses T := rfl
theorem ac_sums_stands (T : zMd) (v : Nat → Int32) : md_sums (md_set_stands T v) = md_sums T := rfl
theorem ac_falls_stands (T : zMd) (v : Nat → Int32) : md_falls (md_set_stands T v) = md_falls T := rfl
theorem ac_kept_stands (T : zMd) (v : Nat → Int32) : md_kept (md_set_stands T v) = md_kept T := rfl
theorem ac_cursor_stands (T : zMd) (v : Nat → Int32) : md_cursor (md_set_stands T v) = md_cursor T := rfl
theorem ac_isKeeping_stands (T : zMd) (v : Nat → Int32) : md_isKeeping (md_set_stands T v) = md_isKeeping T := rfl
theorem ac_number_uses (T : zMd) (v : Nat → Int32) : md_number (md_set_uses T v) = md_number T := rfl
theorem ac_kind_uses (T : zMd) (v : Nat → Int32) : md_kind (md_set_uses T v) = md_kind T := rfl
theorem ac_figure_uses (T : zMd) (v : Nat → Int32) : md_figure (md_set_uses T v) = md_figure T := rfl
theorem ac_one_uses (T : zMd) (v : Nat → Int32) : md_one (md_set_uses T v) = md_one T := rfl
theorem ac_other_uses (T : zMd) (v : Nat → Int32) : md_other (md_set_uses T v) = md_other T := rfl
theorem ac_stands_uses (T : zMd) (v : Nat → Int32) : md_stands (md_set_uses T v) = md_stands T := rfl
theorem ac_uses_uses (T : zMd) (v : Nat → Int32) : md_uses (md_set_uses T v) = v := rfl
theorem ac_earned_uses (T : zMd) (v : Nat → Int32) : md_earned (md_set_uses T v) = md_earned T := rfl
theorem ac_houses_uses (T : zMd) (v : Nat → Int32) : md_houses (md_set_uses T v) = md_houses T := rfl
theorem ac_sums_uses (T : zMd) (v : Nat → Int32) : md_sums (md_set_uses T v) = md_sums T := rfl
theorem ac_falls_uses (T : zMd) (v : Nat → Int32) : md_falls (md_set_uses T v) = md_falls T := rfl
theorem ac_kept_uses (T : zMd) (v : Nat → Int32) : md_kept (md_set_uses T v) = md_kept T := rfl
theorem ac_cursor_uses (T : zMd) (v : Nat → Int32) : md_cursor (md_set_uses T v) = md_cursor T := rfl
theorem ac_isKeeping_uses (T : zMd) (v : Nat → Int32) : md_isKeeping (md_set_uses T v) = md_isKeeping T := rfl
theorem ac_number_earned (T : zMd) (v : Nat → Int32) : md_number (md_set_earned T v) = md_number T := rfl
theorem ac_kind_earned (T : zMd) (v : Nat → Int32) : md_kind (md_set_earned T v) = md_kind T := rfl
theorem ac_figure_earned (T : zMd) (v : Nat → Int32) : md_figure (md_set_earned T v) = md_figure T := rfl
theorem ac_one_earned (T : zMd) (v : Nat → Int32) : md_one (md_set_earned T v) = md_one T := rfl
theorem ac_other_earned (T : zMd) (v : Nat → Int32) : md_other (md_set_earned T v) = md_other T := rfl
theorem ac_stands_earned (T : zMd) (v : Nat → Int32) : md_stands (md_set_earned T v) = md_stands T := rfl
theorem ac_uses_earned (T : zMd) (v : Nat → Int32) : md_uses (md_set_earned T v) = md_uses T := rfl
theorem ac_earned_earned (T : zMd) (v : Nat → Int32) : md_earned (md_set_earned T v) = v := rfl
theorem ac_houses_earned (T : zMd) (v : Nat → Int32) : md_houses (md_set_earned T v) = md_houses T := rfl
theorem ac_sums_earned (T : zMd) (v : Nat → Int32) : md_sums (md_set_earned T v) = md_sums T := rfl
theorem ac_falls_earned (T : zMd) (v : Nat → Int32) : md_falls (md_set_earned T v) = md_falls T := rfl
theorem ac_kept_earned (T : zMd) (v : Nat → Int32) : md_kept (md_set_earned T v) = md_kept T := rfl
theorem ac_cursor_earned (T : zMd) (v : Nat → Int32) : md_cursor (md_set_earned T v) = md_cursor T := rfl
theorem ac_isKeeping_earned (T : zMd) (v : Nat → Int32) : md_isKeeping (md_set_earned T v) = md_isKeeping T := rfl
theorem ac_number_houses (T : zMd) (v : Int32) : md_number (md_set_houses T v) = md_number T := rfl
theorem ac_kind_houses (T : zMd) (v : Int32) : md_kind (md_set_houses T v) = md_kind T := rfl
theorem ac_figure_houses (T : zMd) (v : Int32) : md_figure (md_set_houses T v) = md_figure T := rfl
theorem ac_one_houses (T : zMd) (v : Int32) : md_one (md_set_houses T v) = md_one T := rfl
theorem ac_other_houses (T : zMd) (v : Int32) : md_other (md_set_houses T v) = md_other T := rfl
theorem ac_stands_houses (T : zMd) (v : Int32) : md_stands (md_set_houses T v) = md_stands T := rfl
theorem ac_uses_houses (T : zMd) (v : Int32) : md_uses (md_set_houses T v) = md_uses T := rfl
theorem ac_earned_houses (T : zMd) (v : Int32) : md_earned (md_set_houses T v) = md_earned T := rfl
theorem ac_houses_houses (T : zMd) (v : Int32) : md_houses (md_set_houses T v) = v := rfl
theorem ac_sums_houses (T : zMd) (v : Int32) : md_sums (md_set_houses T v) = md_sums T := rfl
theorem ac_falls_houses (T : zMd) (v : Int32) : md_falls (md_set_houses T v) = md_falls T := rfl
theorem ac_kept_houses (T : zMd) (v : Int32) : md_kept (md_set_houses T v) = md_kept T := rfl
theorem ac_cursor_houses (T : zMd) (v : Int32) : md_cursor (md_set_houses T v) = md_cursor T := rfl
theorem ac_isKeeping_houses (T : zMd) (v : Int32) : md_isKeeping (md_set_houses T v) = md_isKeeping T := rfl
theorem ac_number_sums (T : zMd) (v : Int32) : md_number (md_set_sums T v) = md_number T := rfl
theorem ac_kind_sums (T : zMd) (v : Int32) : md_kind (md_set_sums T v) = md_kind T := rfl
theorem ac_figure_sums (T : zMd) (v : Int32) : md_figure (md_set_sums T v) = md_figure T := rfl
theorem ac_one_sums (T : zMd) (v : Int32) : md_one (md_set_sums T v) = md_one T := rfl
theorem ac_other_sums (T : zMd) (v : Int32) : md_other (md_set_sums T v) = md_other T := rfl
theorem ac_stands_sums (T : zMd) (v : Int32) : md_stands (md_set_sums T v) = md_stands T := rfl
theorem ac_uses_sums (T : zMd) (v : Int32) : md_uses (md_set_sums T v) = md_uses T := rfl
theorem ac_earned_sums (T : zMd) (v : Int32) : md_earned (md_set_sums T v) = md_earned T := rfl
theorem ac_houses_sums (T : zMd) (v : Int32) : md_houses (md_set_sums T v) = md_houses T := rfl
theorem ac_sums_sums (T : zMd) (v : Int32) : md_sums (md_set_sums T v) = v := rfl
theorem ac_falls_sums (T : zMd) (v : Int32) : md_falls (md_set_sums T v) = md_falls T := rfl
theorem ac_kept_sums (T : zMd) (v : Int32) : md_kept (md_set_sums T v) = md_kept T := rfl
theorem ac_cursor_sums (T : zMd) (v : Int32) : md_cursor (md_set_sums T v) = md_cursor T := rfl
theorem ac_isKeeping_sums (T : zMd) (v : Int32) : md_isKeeping (md_set_sums T v) = md_isKeeping T := rfl
theorem ac_number_falls (T : zMd) (v : Int32) : md_number (md_set_falls T v) = md_number T := rfl
theorem ac_kind_falls (T : zMd) (v : Int32) : md_kind (md_set_falls T v) = md_kind T := rfl
theorem ac_figure_falls (T : zMd) (v : Int32) : md_figure (md_set_falls T v) = md_figure T := rfl
theorem ac_one_falls (T : zMd) (v : Int32) : md_one (md_set_falls T v) = md_one T := rfl
theorem ac_other_falls (T : zMd) (v : Int32) : md_other (md_set_falls T v) = md_other T := rfl
theorem ac_stands_falls (T : zMd) (v : Int32) : md_stands (md_set_falls T v) = md_stands T := rfl
theorem ac_uses_falls (T : zMd) (v : Int32) : md_uses (md_set_falls T v) = md_uses T := rfl
theorem ac_earned_falls (T : zMd) (v : Int32) : md_earned (md_set_falls T v) = md_earned T := rfl
theorem ac_houses_falls (T : zMd) (v : Int32) : md_houses (md_set_falls T v) = md_houses T := rfl
theorem ac_sums_falls (T : zMd) (v : Int32) : md_sums (md_set_falls T v) = md_sums T := rfl
theorem ac_falls_falls (T : zMd) (v : Int32) : md_falls (md_set_falls T v) = v := rfl
theorem ac_kept_falls (T : zMd) (v : Int32) : md_kept (md_set_falls T v) = md_kept T := rfl
theorem ac_cursor_falls (T : zMd) (v : Int32) : md_cursor (md_set_falls T v) = md_cursor T := rfl
theorem ac_isKeeping_falls (T : zMd) (v : Int32) : md_isKeeping (md_set_falls T v) = md_isKeeping T := rfl
theorem af_kept (T : zMd) (v : Nat → Int32) : FR T (md_set_kept T v) := ⟨rfl, rfl, rfl, rfl, rfl, rfl, rfl, rfl, rfl, rfl, rfl, rfl⟩
theorem af_cursor (T : zMd) (v : Int32) : FR T (md_set_cursor T v) := ⟨rfl, rfl, rfl, rfl, rfl, rfl, rfl, rfl, rfl, rfl, rfl, rfl⟩
theorem af_isKeeping (T : zMd) (v : Int32) : FR T (md_set_isKeeping T v) := ⟨rfl, rfl, rfl, rfl, rfl, rfl, rfl, rfl, rfl, rfl, rfl, rfl⟩
theorem af_number (T : zMd) (v : Nat → Int32) : FR T (md_set_number T v) := ⟨rfl, rfl, rfl, rfl, rfl, rfl, rfl, rfl, rfl, rfl, rfl, rfl⟩
theorem af_kind (T : zMd) (v : Nat → Int32) : FR T (md_set_kind T v) := ⟨rfl, rfl, rfl, rfl, rfl, rfl, rfl, rfl, rfl, rfl, rfl, rfl⟩
theorem af_figure (T : zMd) (v : Nat → Int32) : FR T (md_set_figure T v) := ⟨rfl, rfl, rfl, rfl, rfl, rfl, rfl, rfl, rfl, rfl, rfl, rfl⟩
theorem af_one (T : zMd) (v : Nat → Int32) : FR T (md_set_one T v) := ⟨rfl, rfl, rfl, rfl, rfl, rfl, rfl, rfl, rfl, rfl, rfl, rfl⟩
theorem af_other (T : zMd) (v : Nat → Int32) : FR T (md_set_other T v) := ⟨rfl, rfl, rfl, rfl, rfl, rfl, rfl, rfl, rfl, rfl, rfl, rfl⟩
theorem af_stands (T : zMd) (v : Nat → Int32) : FR T (md_set_stands T v) := ⟨rfl, rfl, rfl, rfl, rfl, rfl, rfl, rfl, rfl, rfl, rfl, rfl⟩
theorem af_uses (T : zMd) (v : Nat → Int32) : FR T (md_set_uses T v) := ⟨rfl, rfl, rfl, rfl, rfl, rfl, rfl, rfl, rfl, rfl, rfl, rfl⟩
theorem af_earned (T : zMd) (v : Nat → Int32) : FR T (md_set_earned T v) := ⟨rfl, rfl, rfl, rfl, rfl, rfl, rfl, rfl, rfl, rfl, rfl, rfl⟩
theorem af_houses (T : zMd) (v : Int32) : FR T (md_set_houses T v) := ⟨rfl, rfl, rfl, rfl, rfl, rfl, rfl, rfl, rfl, rfl, rfl, rfl⟩
theorem af_sums (T : zMd) (v : Int32) : FR T (md_set_sums T v) := ⟨rfl, rfl, rfl, rfl, rfl, rfl, rfl, rfl, rfl, rfl, rfl, rfl⟩
theorem af_falls (T : zMd) (v : Int32) : FR T (md_set_falls T v) := ⟨rfl, rfl, rfl, rfl, rfl, rfl, rfl, rfl, rfl, rfl, rfl, rfl⟩
end
section
/-! the keeping: passesAll -/
/-- twelve places of K from cu on hold X -/
def zpt (K X : Nat → Int32) (cu i : Nat) : Nat → Int32 := fun j => if cu ≤ j ∧ j < cu + i then X (j - cu) else K j
theorem zpt_0 (K X : Nat → Int32) (cu : Nat) : zpt K X cu 0 = K := by
  funext j
  unfold zpt
  rw [if_neg (by omega)]
theorem zpt_s (K X : Nat → Int32) (cu i : Nat) : upd (zpt K X cu i) (cu + i) (X i) = zpt K X cu (i + 1) := by
  funext j
  unfold zpt
  rw [upd_at]
  by_cases e : j = cu + i
  · subst e
    rw [if_pos rfl, if_pos (by omega), Nat.add_sub_cancel_left]
  · rw [if_neg e]
    by_cases q : cu ≤ j ∧ j < cu + i
    · rw [if_pos q, if_pos (by omega)]
    · rw [if_neg q, if_neg (by omega)]
theorem zpt_in {K X : Nat → Int32} {cu i j : Nat} (h : j < i) : zpt K X cu i (cu + j) = X j := by
  unfold zpt
  rw [if_pos (by omega), Nat.add_sub_cancel_left]
theorem zpt_out {K X : Nat → Int32} {cu i j : Nat} (h : j < cu ∨ cu + i ≤ j) : zpt K X cu i j = K j := by
  unfold zpt
  rw [if_neg (by omega)]
/-- the first i of X are K's from cu on -/
def zget12 (K X : Nat → Int32) (cu i : Nat) : Nat → Int32 := fun j => if j < i then K (cu + j) else X j
theorem zget12_0 (K X : Nat → Int32) (cu : Nat) : zget12 K X cu 0 = X := by
  funext j
  unfold zget12
  rw [if_neg (by omega)]
theorem zget12_s (K X : Nat → Int32) (cu i : Nat) : upd (zget12 K X cu i) i (K (cu + i)) = zget12 K X cu (i + 1) := by
  funext j
  unfold zget12
  rw [upd_at]
  by_cases e : j = i
  · subst e
    rw [if_pos rfl, if_pos (by omega)]
  · rw [if_neg e]
    by_cases q : j < i
    · rw [if_pos q, if_pos (by omega)]
    · rw [if_neg q, if_neg (by omega)]
theorem zget12_in {K X : Nat → Int32} {cu i j : Nat} (h : j < i) : zget12 K X cu i j = K (cu + j) := by
  unfold zget12
  rw [if_pos h]
/-- the kept row behind a keeping from place cu on -/
def zkeep (T : zMd) (cu : Nat) : Nat → Int32 :=
  upd (upd (upd (zpt (zpt (zpt (zpt (zpt (zpt (zpt (zpt (md_kept T) (md_number T) cu 12) (md_kind T) (cu + 12) 12) (md_figure T) (cu + 24) 12) (md_one T) (cu + 36) 12) (md_other T) (cu + 48) 12) (md_stands T) (cu + 60) 12) (md_uses T) (cu + 72) 12) (md_earned T) (cu + 84) 12) (cu + 96) (md_houses T)) (cu + 97) (md_sums T)) (cu + 98) (md_falls T)
/-- the street that lies kept from place cu on -/
def zload (T : zMd) (cu : Nat) : zMd :=
  md_set_falls (md_set_sums (md_set_houses (md_set_earned (md_set_uses (md_set_stands (md_set_other (md_set_one (md_set_figure (md_set_kind (md_set_number T (zget12 (md_kept T) (md_number T) cu 12)) (zget12 (md_kept T) (md_kind T) (cu + 12) 12)) (zget12 (md_kept T) (md_figure T) (cu + 24) 12)) (zget12 (md_kept T) (md_one T) (cu + 36) 12)) (zget12 (md_kept T) (md_other T) (cu + 48) 12)) (zget12 (md_kept T) (md_stands T) (cu + 60) 12)) (zget12 (md_kept T) (md_uses T) (cu + 72) 12)) (zget12 (md_kept T) (md_earned T) (cu + 84) 12)) (md_kept T (cu + 96))) (md_kept T (cu + 97))) (md_kept T (cu + 98))
/-- two streets of the reference's kind are the same where they are looked at -/
def SE (T T' : zMd) : Prop := (∀ h, h < 12 → md_number T' h = md_number T h ∧ md_kind T' h = md_kind T h ∧ md_figure T' h = md_figure T h ∧ md_one T' h = md_one T h ∧ md_other T' h = md_other T h ∧ md_stands T' h = md_stands T h ∧ md_uses T' h = md_uses T h ∧ md_earned T' h = md_earned T h) ∧ md_houses T' = md_houses T ∧ md_sums T' = md_sums T ∧ md_falls T' = md_falls T
theorem SE.rf {T : zMd} : SE T T := ⟨fun _ _ => ⟨rfl, rfl, rfl, rfl, rfl, rfl, rfl, rfl⟩, rfl, rfl, rfl⟩
theorem SE.sy {T T' : zMd} (h : SE T T') : SE T' T := ⟨fun j hj => by
  obtain ⟨a1, a2, a3, a4, a5, a6, a7, a8⟩ := h.1 j hj
  exact ⟨a1.symm, a2.symm, a3.symm, a4.symm, a5.symm, a6.symm, a7.symm, a8.symm⟩, h.2.1.symm, h.2.2.1.symm, h.2.2.2.symm⟩
theorem SE.tr {A B C : zMd} (h : SE A B) (g : SE B C) : SE A C := ⟨fun j hj => by
  obtain ⟨a1, a2, a3, a4, a5, a6, a7, a8⟩ := h.1 j hj
  obtain ⟨b1, b2, b3, b4, b5, b6, b7, b8⟩ := g.1 j hj
  exact ⟨b1.trans a1, b2.trans a2, b3.trans a3, b4.trans a4, b5.trans a5, b6.trans a6, b7.trans a7, b8.trans a8⟩, g.2.1.trans h.2.1, g.2.2.1.trans h.2.2.1, g.2.2.2.trans h.2.2.2⟩
theorem SR.se {c w : Nat} {S : zSt} {T T' : zMd} (h : SR c w S T) (e : SE T T') : SR c w S T' := by
  obtain ⟨e1, e2, e3, e4⟩ := e
  obtain ⟨h1, h2, h3, h4, h5, h6, h7, h8, h9⟩ := h
  refine ⟨h1, h2, h3, e2.trans h4, h5, fun j hj => ?_, ?_, ?_, fun j hj => ?_⟩
  · obtain ⟨a1, a2, a3, a4, a5, a6, a7, a8⟩ := e1 j (by omega)
    obtain ⟨b1, b2, b3, b4, b5, b6, b7, b8⟩ := h6 j hj
    exact ⟨b1.trans a2.symm, b2.trans a3.symm, b3.trans a1.symm, b4.trans a4.symm, b5.trans a5.symm, b6.trans a7.symm, b7.trans a8.symm, a6.trans b8⟩
  · rw [e3]; exact h7
  · rw [e4]; exact h8
  · obtain ⟨a1, a2, a3, a4, a5, a6, a7, a8⟩ := e1 j (by omega)
    rw [a1, a4, a5]
    exact h9 j hj
/-- the keeping keeps -/
theorem zkeep_at (T : zMd) (cu : Nat) : ∀ j, j < 12 → zkeep T cu (cu + j) = md_number T j ∧ zkeep T cu (cu + 12 + j) = md_kind T j ∧ zkeep T cu (cu + 24 + j) = md_figure T j ∧ zkeep T cu (cu + 36 + j) = md_one T j ∧ zkeep T cu (cu + 48 + j) = md_other T j ∧ zkeep T cu (cu + 60 + j) = md_stands T j ∧ zkeep T cu (cu + 72 + j) = md_uses T j ∧ zkeep T cu (cu + 84 + j) = md_earned T j := by
  intro j hj
  unfold zkeep
  refine ⟨?_, ?_, ?_, ?_, ?_, ?_, ?_, ?_⟩
  all_goals rw [upd_at, if_neg (by omega), upd_at, if_neg (by omega), upd_at, if_neg (by omega)]
  · rw [zpt_out (by omega), zpt_out (by omega), zpt_out (by omega), zpt_out (by omega), zpt_out (by omega), zpt_out (by omega), zpt_out (by omega), zpt_in (by omega)]
  · rw [zpt_out (by omega), zpt_out (by omega), zpt_out (by omega), zpt_out (by omega), zpt_out (by omega), zpt_out (by omega), zpt_in (by omega)]
  · rw [zpt_out (by omega), zpt_out (by omega), zpt_out (by omega), zpt_out (by omega), zpt_out (by omega), zpt_in (by omega)]
  · rw [zpt_out (by omega), zpt_out (by omega), zpt_out (by omega), zpt_out (by omega), zpt_in (by omega)]
  · rw [zpt_out (by omega), zpt_out (by omega), zpt_out (by omega), zpt_in (by omega)]
  · rw [zpt_out (by omega), zpt_out (by omega), zpt_in (by omega)]
  · rw [zpt_out (by omega), zpt_in (by omega)]
  · rw [zpt_in (by omega)]
theorem zkeep_3 (T : zMd) (cu : Nat) : zkeep T cu (cu + 96) = md_houses T ∧ zkeep T cu (cu + 97) = md_sums T ∧ zkeep T cu (cu + 98) = md_falls T := by
  unfold zkeep
  refine ⟨?_, ?_, ?_⟩
  · rw [upd_at, if_neg (by omega), upd_at, if_neg (by omega), upd_at, if_pos rfl]
  · rw [upd_at, if_neg (by omega), upd_at, if_pos rfl]
  · rw [upd_at, if_pos rfl]
theorem zkeep_out (T : zMd) (cu j : Nat) (h : j < cu ∨ cu + 99 ≤ j) : zkeep T cu j = md_kept T j := by
  unfold zkeep
  rw [upd_at, if_neg (by omega), upd_at, if_neg (by omega), upd_at, if_neg (by omega), zpt_out (by omega), zpt_out (by omega), zpt_out (by omega), zpt_out (by omega), zpt_out (by omega), zpt_out (by omega), zpt_out (by omega), zpt_out (by omega)]
/-- the kept street at cu depends on the kept row alone -/
theorem zload_se {T T' : zMd} {cu : Nat} (h : ∀ j, cu ≤ j → j < cu + 99 → md_kept T' j = md_kept T j) : SE (zload T cu) (zload T' cu) := by
  refine ⟨fun j hj => ⟨?_, ?_, ?_, ?_, ?_, ?_, ?_, ?_⟩, h _ (by omega) (by omega), h _ (by omega) (by omega), h _ (by omega) (by omega)⟩
  · show zget12 _ _ _ 12 j = zget12 _ _ _ 12 j
    rw [zget12_in hj, zget12_in hj]; exact h _ (by omega) (by omega)
  · show zget12 _ _ _ 12 j = zget12 _ _ _ 12 j
    rw [zget12_in hj, zget12_in hj]; exact h _ (by omega) (by omega)
  · show zget12 _ _ _ 12 j = zget12 _ _ _ 12 j
    rw [zget12_in hj, zget12_in hj]; exact h _ (by omega) (by omega)
  · show zget12 _ _ _ 12 j = zget12 _ _ _ 12 j
    rw [zget12_in hj, zget12_in hj]; exact h _ (by omega) (by omega)
  · show zget12 _ _ _ 12 j = zget12 _ _ _ 12 j
    rw [zget12_in hj, zget12_in hj]; exact h _ (by omega) (by omega)
  · show zget12 _ _ _ 12 j = zget12 _ _ _ 12 j
    rw [zget12_in hj, zget12_in hj]; exact h _ (by omega) (by omega)
  · show zget12 _ _ _ 12 j = zget12 _ _ _ 12 j
    rw [zget12_in hj, zget12_in hj]; exact h _ (by omega) (by omega)
  · show zget12 _ _ _ 12 j = zget12 _ _ _ 12 j
    rw [zget12_in hj, zget12_in hj]; exact h _ (by omega) (by omega)
theorem zload_keep {T T' : zMd} {cu : Nat} (h : md_kept T' = zkeep T cu) : SE T (zload T' cu) := by
  obtain ⟨b1, b2, b3⟩ := zkeep_3 T cu
  refine ⟨fun j hj => ?_, by show md_kept T' (cu + 96) = _; rw [h, b1], by show md_kept T' (cu + 97) = _; rw [h, b2], by show md_kept T' (cu + 98) = _; rw [h, b3]⟩
  obtain ⟨a1, a2, a3, a4, a5, a6, a7, a8⟩ := zkeep_at T cu j hj
  refine ⟨?_, ?_, ?_, ?_, ?_, ?_, ?_, ?_⟩
  · show zget12 (md_kept T') _ cu 12 j = _
    rw [zget12_in hj, h, a1]
  · show zget12 (md_kept T') _ (cu + 12) 12 j = _
    rw [zget12_in hj, h, a2]
  · show zget12 (md_kept T') _ (cu + 24) 12 j = _
    rw [zget12_in hj, h, a3]
  · show zget12 (md_kept T') _ (cu + 36) 12 j = _
    rw [zget12_in hj, h, a4]
  · show zget12 (md_kept T') _ (cu + 48) 12 j = _
    rw [zget12_in hj, h, a5]
  · show zget12 (md_kept T') _ (cu + 60) 12 j = _
    rw [zget12_in hj, h, a6]
  · show zget12 (md_kept T') _ (cu + 72) 12 j = _
    rw [zget12_in hj, h, a7]
  · show zget12 (md_kept T') _ (cu + 84) 12 j = _
    rw [zget12_in hj, h, a8]
def zSame (T T' : zMd) : Prop := md_number T' = md_number T ∧ md_kind T' = md_kind T ∧ md_figure T' = md_figure T ∧ md_one T' = md_one T ∧ md_other T' = md_other T ∧ md_stands T' = md_stands T ∧ md_uses T' = md_uses T ∧ md_earned T' = md_earned T ∧ md_houses T' = md_houses T ∧ md_sums T' = md_sums T ∧ md_falls T' = md_falls T ∧ FR T T'
theorem zSame.tr {A B C : zMd} (h : zSame A B) (g : zSame B C) : zSame A C := by
  obtain ⟨a1, a2, a3, a4, a5, a6, a7, a8, a9, a10, a11, a12⟩ := h
  obtain ⟨b1, b2, b3, b4, b5, b6, b7, b8, b9, b10, b11, b12⟩ := g
  exact ⟨b1.trans a1, b2.trans a2, b3.trans a3, b4.trans a4, b5.trans a5, b6.trans a6, b7.trans a7, b8.trans a8, b9.trans a9, b10.trans a10, b11.trans a11, a12.tr b12⟩
theorem zSame.se {A B : zMd} (h : zSame A B) : SE A B := by
  obtain ⟨a1, a2, a3, a4, a5, a6, a7, a8, a9, a10, a11, a12⟩ := h
  exact ⟨fun j _ => ⟨by rw [a1], by rw [a2], by rw [a3], by rw [a4], by rw [a5], by rw [a6], by rw [a7], by rw [a8]⟩, a9, a10, a11⟩
theorem zs_kept (T : zMd) (v : Nat → Int32) : zSame T (md_set_kept T v) := ⟨ac_number_kept T v, ac_kind_kept T v, ac_figure_kept T v, ac_one_kept T v, ac_other_kept T v, ac_stands_kept T v, ac_uses_kept T v, ac_earned_kept T v, ac_houses_kept T v, ac_sums_kept T v, ac_falls_kept T v, af_kept T v⟩
theorem zs_cursor (T : zMd) (v : Int32) : zSame T (md_set_cursor T v) := ⟨ac_number_cursor T v, ac_kind_cursor T v, ac_figure_cursor T v, ac_one_cursor T v, ac_other_cursor T v, ac_stands_cursor T v, ac_uses_cursor T v, ac_earned_cursor T v, ac_houses_cursor T v, ac_sums_cursor T v, ac_falls_cursor T v, af_cursor T v⟩
theorem zs_isKeeping (T : zMd) (v : Int32) : zSame T (md_set_isKeeping T v) := ⟨ac_number_isKeeping T v, ac_kind_isKeeping T v, ac_figure_isKeeping T v, ac_one_isKeeping T v, ac_other_isKeeping T v, ac_stands_isKeeping T v, ac_uses_isKeeping T v, ac_earned_isKeeping T v, ac_houses_isKeeping T v, ac_sums_isKeeping T v, ac_falls_isKeeping T v, af_isKeeping T v⟩
theorem pkl_number (cu : Nat) (hcu : cu + 12 ≤ 400) : ∀ d i k (T : zMd), i + d = 12 → d < k → md_isKeeping T = 1 → md_cursor T = nI (cu + i) → ∃ T', fX8_passes_number_l2 k (nI i) T = some T' ∧ zSame T T' ∧ md_isKeeping T' = 1 ∧ md_cursor T' = nI (cu + 12) ∧ ∀ j, md_kept T' j = if cu + i ≤ j ∧ j < cu + 12 then md_number T (j - cu) else md_kept T j := by
  intro d
  induction d with
  | zero =>
    intro i k T hi hk hq hc
    obtain ⟨k, rfl⟩ : ∃ k', k = k' + 1 := ⟨k - 1, by omega⟩
    have e : i = 12 := by omega
    subst e
    refine ⟨T, ?_, ⟨rfl, rfl, rfl, rfl, rfl, rfl, rfl, rfl, rfl, rfl, rfl, FR.rf⟩, hq, hc, fun j => ?_⟩
    · rw [fX8_passes_number_l2, if_pos (by decide)]
    · rw [if_neg (by omega)]
  | succ d ih =>
    intro i k T hi hk hq hc
    obtain ⟨k, rfl⟩ : ∃ k', k = k' + 1 := ⟨k - 1, by omega⟩
    rw [fX8_passes_number_l2, if_neg (show ¬ (12 : Int32) ≤ nI i from nI_ge (b := 12) (by omega) (by omega)), hq, if_neg (by decide), ix_nI (by omega) (by omega), hc, ix_nI (by omega) (by omega), nI_clamp (by omega), nI_clamp (by omega)]
    unfold fX8_passes_number_j42
    rw [ac_cursor_kept, hc, nI_1, nI_1]
    obtain ⟨T', e1, e2, e3, e4, e5⟩ := ih (i + 1) k (md_set_cursor (md_set_kept T (upd (md_kept T) (cu + i) (md_number T i))) (nI (cu + i + 1))) (by omega) (by omega) (by rw [ac_isKeeping_cursor, ac_isKeeping_kept, hq]) (ac_cursor_cursor _ _)
    refine ⟨T', e1, (zs_kept T _).tr ((zs_cursor _ _).tr e2), e3, e4, fun j => ?_⟩
    rw [e5 j, ac_number_cursor, ac_number_kept, ac_kept_cursor, ac_kept_kept, upd_at]
    by_cases q : j = cu + i
    · rw [if_neg (by omega), if_pos q, if_pos (by omega), show j - cu = i from by omega]
    · rw [if_neg q]
      by_cases g : cu + (i + 1) ≤ j ∧ j < cu + 12
      · rw [if_pos g, if_pos (by omega)]
      · rw [if_neg g, if_neg (by omega)]
theorem pke_number (T : zMd) (hk : md_isKeeping T = 1) (cu : Nat) (hcu : cu + 12 ≤ 400) (hc : md_cursor T = nI cu) : ∃ T', fX8_passes_number T = some T' ∧ zSame T T' ∧ md_isKeeping T' = 1 ∧ md_kept T' = zpt (md_kept T) (md_number T) cu 12 ∧ md_cursor T' = nI (cu + 12) := by
  obtain ⟨T', e1, e2, e3, e4, e5⟩ := pkl_number cu hcu 12 0 FU T (by omega) (FU_big _ (by omega)) hk hc
  exact ⟨T', e1, e2, e3, funext e5, e4⟩
theorem pll_number (cu : Nat) (hcu : cu + 12 ≤ 400) : ∀ d i k (T : zMd), i + d = 12 → d < k → md_isKeeping T = 0 → md_cursor T = nI (cu + i) → ∃ T', fX8_passes_number_l2 k (nI i) T = some T' ∧ (md_kind T' = md_kind T ∧ md_figure T' = md_figure T ∧ md_one T' = md_one T ∧ md_other T' = md_other T ∧ md_stands T' = md_stands T ∧ md_uses T' = md_uses T ∧ md_earned T' = md_earned T ∧ md_houses T' = md_houses T ∧ md_sums T' = md_sums T ∧ md_falls T' = md_falls T) ∧ FR T T' ∧ md_isKeeping T' = 0 ∧ md_kept T' = md_kept T ∧ md_cursor T' = nI (cu + 12) ∧ ∀ j, md_number T' j = if i ≤ j ∧ j < 12 then md_kept T (cu + j) else md_number T j := by
  intro d
  induction d with
  | zero =>
    intro i k T hi hk hq hc
    obtain ⟨k, rfl⟩ : ∃ k', k = k' + 1 := ⟨k - 1, by omega⟩
    have e : i = 12 := by omega
    subst e
    refine ⟨T, ?_, ⟨rfl, rfl, rfl, rfl, rfl, rfl, rfl, rfl, rfl, rfl⟩, FR.rf, hq, rfl, hc, fun j => ?_⟩
    · rw [fX8_passes_number_l2, if_pos (by decide)]
    · rw [if_neg (by omega)]
  | succ d ih =>
    intro i k T hi hk hq hc
    obtain ⟨k, rfl⟩ : ∃ k', k = k' + 1 := ⟨k - 1, by omega⟩
    rw [fX8_passes_number_l2, if_neg (show ¬ (12 : Int32) ≤ nI i from nI_ge (b := 12) (by omega) (by omega)), hq, if_pos rfl, hc, ix_nI (by omega) (by omega), ix_nI (by omega) (by omega), nI_clamp (by omega), nI_clamp (by omega)]
    unfold fX8_passes_number_j42
    rw [ac_cursor_number, hc, nI_1, nI_1]
    obtain ⟨T', e1, ⟨x0, x1, x2, x3, x4, x5, x6, x7, x8, x9⟩, e3, e4, e5, e6, e7⟩ := ih (i + 1) k (md_set_cursor (md_set_number T (upd (md_number T) i (md_kept T (cu + i)))) (nI (cu + i + 1))) (by omega) (by omega) (by rw [ac_isKeeping_cursor, ac_isKeeping_number, hq]) (ac_cursor_cursor _ _)
    refine ⟨T', e1, ⟨x0.trans ((ac_kind_cursor _ _).trans (ac_kind_number _ _)), x1.trans ((ac_figure_cursor _ _).trans (ac_figure_number _ _)), x2.trans ((ac_one_cursor _ _).trans (ac_one_number _ _)), x3.trans ((ac_other_cursor _ _).trans (ac_other_number _ _)), x4.trans ((ac_stands_cursor _ _).trans (ac_stands_number _ _)), x5.trans ((ac_uses_cursor _ _).trans (ac_uses_number _ _)), x6.trans ((ac_earned_cursor _ _).trans (ac_earned_number _ _)), x7.trans ((ac_houses_cursor _ _).trans (ac_houses_number _ _)), x8.trans ((ac_sums_cursor _ _).trans (ac_sums_number _ _)), x9.trans ((ac_falls_cursor _ _).trans (ac_falls_number _ _))⟩, (af_number T _).tr ((af_cursor _ _).tr e3), e4, e5.trans ((ac_kept_cursor _ _).trans (ac_kept_number _ _)), e6, fun j => ?_⟩
    rw [e7 j, ac_kept_cursor, ac_kept_number, ac_number_cursor, ac_number_number, upd_at]
    by_cases q : j = i
    · rw [if_neg (by omega), if_pos q, if_pos (by omega), q]
    · rw [if_neg q]
      by_cases g : i + 1 ≤ j ∧ j < 12
      · rw [if_pos g, if_pos (by omega)]
      · rw [if_neg g, if_neg (by omega)]
theorem ple_number (T : zMd) (hk : md_isKeeping T = 0) (cu : Nat) (hcu : cu + 12 ≤ 400) (hc : md_cursor T = nI cu) : ∃ T', fX8_passes_number T = some T' ∧ (md_number T' = zget12 (md_kept T) (md_number T) cu 12 ∧ md_kind T' = md_kind T ∧ md_figure T' = md_figure T ∧ md_one T' = md_one T ∧ md_other T' = md_other T ∧ md_stands T' = md_stands T ∧ md_uses T' = md_uses T ∧ md_earned T' = md_earned T ∧ md_houses T' = md_houses T ∧ md_sums T' = md_sums T ∧ md_falls T' = md_falls T ∧ FR T T') ∧ md_isKeeping T' = 0 ∧ md_kept T' = md_kept T ∧ md_cursor T' = nI (cu + 12) := by
  obtain ⟨T', e1, ⟨x0, x1, x2, x3, x4, x5, x6, x7, x8, x9⟩, e3, e4, e5, e6, e7⟩ := pll_number cu hcu 12 0 FU T (by omega) (FU_big _ (by omega)) hk hc
  have ex : md_number T' = zget12 (md_kept T) (md_number T) cu 12 := by
    funext j
    rw [e7 j]
    unfold zget12
    by_cases g : j < 12
    · rw [if_pos ⟨Nat.zero_le _, g⟩, if_pos g]
    · rw [if_neg (by omega), if_neg g]
  exact ⟨T', e1, ⟨ex, x0, x1, x2, x3, x4, x5, x6, x7, x8, x9, e3⟩, e4, e5, e6⟩
theorem pkl_kind (cu : Nat) (hcu : cu + 12 ≤ 400) : ∀ d i k (T : zMd), i + d = 12 → d < k → md_isKeeping T = 1 → md_cursor T = nI (cu + i) → ∃ T', fX8_passes_kind_l2 k (nI i) T = some T' ∧ zSame T T' ∧ md_isKeeping T' = 1 ∧ md_cursor T' = nI (cu + 12) ∧ ∀ j, md_kept T' j = if cu + i ≤ j ∧ j < cu + 12 then md_kind T (j - cu) else md_kept T j := by
  intro d
  induction d with
  | zero =>
    intro i k T hi hk hq hc
    obtain ⟨k, rfl⟩ : ∃ k', k = k' + 1 := ⟨k - 1, by omega⟩
    have e : i = 12 := by omega
    subst e
    refine ⟨T, ?_, ⟨rfl, rfl, rfl, rfl, rfl, rfl, rfl, rfl, rfl, rfl, rfl, FR.rf⟩, hq, hc, fun j => ?_⟩
    · rw [fX8_passes_kind_l2, if_pos (by decide)]
    · rw [if_neg (by omega)]
  | succ d ih =>
    intro i k T hi hk hq hc
    obtain ⟨k, rfl⟩ : ∃ k', k = k' + 1 := ⟨k - 1, by omega⟩
    rw [fX8_passes_kind_l2, if_neg (show ¬ (12 : Int32) ≤ nI i from nI_ge (b := 12) (by omega) (by omega)), hq, if_neg (by decide), ix_nI (by omega) (by omega), hc, ix_nI (by omega) (by omega), nI_clamp (by omega), nI_clamp (by omega)]
    unfold fX8_passes_kind_j42
    rw [ac_cursor_kept, hc, nI_1, nI_1]
    obtain ⟨T', e1, e2, e3, e4, e5⟩ := ih (i + 1) k (md_set_cursor (md_set_kept T (upd (md_kept T) (cu + i) (md_kind T i))) (nI (cu + i + 1))) (by omega) (by omega) (by rw [ac_isKeeping_cursor, ac_isKeeping_kept, hq]) (ac_cursor_cursor _ _)
    refine ⟨T', e1, (zs_kept T _).tr ((zs_cursor _ _).tr e2), e3, e4, fun j => ?_⟩
    rw [e5 j, ac_kind_cursor, ac_kind_kept, ac_kept_cursor, ac_kept_kept, upd_at]
    by_cases q : j = cu + i
    · rw [if_neg (by omega), if_pos q, if_pos (by omega), show j - cu = i from by omega]
    · rw [if_neg q]
      by_cases g : cu + (i + 1) ≤ j ∧ j < cu + 12
      · rw [if_pos g, if_pos (by omega)]
      · rw [if_neg g, if_neg (by omega)]
theorem pke_kind (T : zMd) (hk : md_isKeeping T = 1) (cu : Nat) (hcu : cu + 12 ≤ 400) (hc : md_cursor T = nI cu) : ∃ T', fX8_passes_kind T = some T' ∧ zSame T T' ∧ md_isKeeping T' = 1 ∧ md_kept T' = zpt (md_kept T) (md_kind T) cu 12 ∧ md_cursor T' = nI (cu + 12) := by
  obtain ⟨T', e1, e2, e3, e4, e5⟩ := pkl_kind cu hcu 12 0 FU T (by omega) (FU_big _ (by omega)) hk hc
  exact ⟨T', e1, e2, e3, funext e5, e4⟩
theorem pll_kind (cu : Nat) (hcu : cu + 12 ≤ 400) : ∀ d i k (T : zMd), i + d = 12 → d < k → md_isKeeping T = 0 → md_cursor T = nI (cu + i) → ∃ T', fX8_passes_kind_l2 k (nI i) T = some T' ∧ (md_number T' = md_number T ∧ md_figure T' = md_figure T ∧ md_one T' = md_one T ∧ md_other T' = md_other T ∧ md_stands T' = md_stands T ∧ md_uses T' = md_uses T ∧ md_earned T' = md_earned T ∧ md_houses T' = md_houses T ∧ md_sums T' = md_sums T ∧ md_falls T' = md_falls T) ∧ FR T T' ∧ md_isKeeping T' = 0 ∧ md_kept T' = md_kept T ∧ md_cursor T' = nI (cu + 12) ∧ ∀ j, md_kind T' j = if i ≤ j ∧ j < 12 then md_kept T (cu + j) else md_kind T j := by
  intro d
  induction d with
  | zero =>
    intro i k T hi hk hq hc
    obtain ⟨k, rfl⟩ : ∃ k', k = k' + 1 := ⟨k - 1, by omega⟩
    have e : i = 12 := by omega
    subst e
    refine ⟨T, ?_, ⟨rfl, rfl, rfl, rfl, rfl, rfl, rfl, rfl, rfl, rfl⟩, FR.rf, hq, rfl, hc, fun j => ?_⟩
    · rw [fX8_passes_kind_l2, if_pos (by decide)]
    · rw [if_neg (by omega)]
  | succ d ih =>
    intro i k T hi hk hq hc
    obtain ⟨k, rfl⟩ : ∃ k', k = k' + 1 := ⟨k - 1, by omega⟩
    rw [fX8_passes_kind_l2, if_neg (show ¬ (12 : Int32) ≤ nI i from nI_ge (b := 12) (by omega) (by omega)), hq, if_pos rfl, hc, ix_nI (by omega) (by omega), ix_nI (by omega) (by omega), nI_clamp (by omega), nI_clamp (by omega)]
    unfold fX8_passes_kind_j42
    rw [ac_cursor_kind, hc, nI_1, nI_1]
    obtain ⟨T', e1, ⟨x0, x1, x2, x3, x4, x5, x6, x7, x8, x9⟩, e3, e4, e5, e6, e7⟩ := ih (i + 1) k (md_set_cursor (md_set_kind T (upd (md_kind T) i (md_kept T (cu + i)))) (nI (cu + i + 1))) (by omega) (by omega) (by rw [ac_isKeeping_cursor, ac_isKeeping_kind, hq]) (ac_cursor_cursor _ _)
    refine ⟨T', e1, ⟨x0.trans ((ac_number_cursor _ _).trans (ac_number_kind _ _)), x1.trans ((ac_figure_cursor _ _).trans (ac_figure_kind _ _)), x2.trans ((ac_one_cursor _ _).trans (ac_one_kind _ _)), x3.trans ((ac_other_cursor _ _).trans (ac_other_kind _ _)), x4.trans ((ac_stands_cursor _ _).trans (ac_stands_kind _ _)), x5.trans ((ac_uses_cursor _ _).trans (ac_uses_kind _ _)), x6.trans ((ac_earned_cursor _ _).trans (ac_earned_kind _ _)), x7.trans ((ac_houses_cursor _ _).trans (ac_houses_kind _ _)), x8.trans ((ac_sums_cursor _ _).trans (ac_sums_kind _ _)), x9.trans ((ac_falls_cursor _ _).trans (ac_falls_kind _ _))⟩, (af_kind T _).tr ((af_cursor _ _).tr e3), e4, e5.trans ((ac_kept_cursor _ _).trans (ac_kept_kind _ _)), e6, fun j => ?_⟩
    rw [e7 j, ac_kept_cursor, ac_kept_kind, ac_kind_cursor, ac_kind_kind, upd_at]
    by_cases q : j = i
    · rw [if_neg (by omega), if_pos q, if_pos (by omega), q]
    · rw [if_neg q]
      by_cases g : i + 1 ≤ j ∧ j < 12
      · rw [if_pos g, if_pos (by omega)]
      · rw [if_neg g, if_neg (by omega)]
theorem ple_kind (T : zMd) (hk : md_isKeeping T = 0) (cu : Nat) (hcu : cu + 12 ≤ 400) (hc : md_cursor T = nI cu) : ∃ T', fX8_passes_kind T = some T' ∧ (md_number T' = md_number T ∧ md_kind T' = zget12 (md_kept T) (md_kind T) cu 12 ∧ md_figure T' = md_figure T ∧ md_one T' = md_one T ∧ md_other T' = md_other T ∧ md_stands T' = md_stands T ∧ md_uses T' = md_uses T ∧ md_earned T' = md_earned T ∧ md_houses T' = md_houses T ∧ md_sums T' = md_sums T ∧ md_falls T' = md_falls T ∧ FR T T') ∧ md_isKeeping T' = 0 ∧ md_kept T' = md_kept T ∧ md_cursor T' = nI (cu + 12) := by
  obtain ⟨T', e1, ⟨x0, x1, x2, x3, x4, x5, x6, x7, x8, x9⟩, e3, e4, e5, e6, e7⟩ := pll_kind cu hcu 12 0 FU T (by omega) (FU_big _ (by omega)) hk hc
  have ex : md_kind T' = zget12 (md_kept T) (md_kind T) cu 12 := by
    funext j
    rw [e7 j]
    unfold zget12
    by_cases g : j < 12
    · rw [if_pos ⟨Nat.zero_le _, g⟩, if_pos g]
    · rw [if_neg (by omega), if_neg g]
  exact ⟨T', e1, ⟨x0, ex, x1, x2, x3, x4, x5, x6, x7, x8, x9, e3⟩, e4, e5, e6⟩
theorem pkl_figure (cu : Nat) (hcu : cu + 12 ≤ 400) : ∀ d i k (T : zMd), i + d = 12 → d < k → md_isKeeping T = 1 → md_cursor T = nI (cu + i) → ∃ T', fX8_passes_figure_l2 k (nI i) T = some T' ∧ zSame T T' ∧ md_isKeeping T' = 1 ∧ md_cursor T' = nI (cu + 12) ∧ ∀ j, md_kept T' j = if cu + i ≤ j ∧ j < cu + 12 then md_figure T (j - cu) else md_kept T j := by
  intro d
  induction d with
  | zero =>
    intro i k T hi hk hq hc
    obtain ⟨k, rfl⟩ : ∃ k', k = k' + 1 := ⟨k - 1, by omega⟩
    have e : i = 12 := by omega
    subst e
    refine ⟨T, ?_, ⟨rfl, rfl, rfl, rfl, rfl, rfl, rfl, rfl, rfl, rfl, rfl, FR.rf⟩, hq, hc, fun j => ?_⟩
    · rw [fX8_passes_figure_l2, if_pos (by decide)]
    · rw [if_neg (by omega)]
  | succ d ih =>
    intro i k T hi hk hq hc
    obtain ⟨k, rfl⟩ : ∃ k', k = k' + 1 := ⟨k - 1, by omega⟩
    rw [fX8_passes_figure_l2, if_neg (show ¬ (12 : Int32) ≤ nI i from nI_ge (b := 12) (by omega) (by omega)), hq, if_neg (by decide), ix_nI (by omega) (by omega), hc, ix_nI (by omega) (by omega), nI_clamp (by omega), nI_clamp (by omega)]
    unfold fX8_passes_figure_j42
    rw [ac_cursor_kept, hc, nI_1, nI_1]
    obtain ⟨T', e1, e2, e3, e4, e5⟩ := ih (i + 1) k (md_set_cursor (md_set_kept T (upd (md_kept T) (cu + i) (md_figure T i))) (nI (cu + i + 1))) (by omega) (by omega) (by rw [ac_isKeeping_cursor, ac_isKeeping_kept, hq]) (ac_cursor_cursor _ _)
    refine ⟨T', e1, (zs_kept T _).tr ((zs_cursor _ _).tr e2), e3, e4, fun j => ?_⟩
    rw [e5 j, ac_figure_cursor, ac_figure_kept, ac_kept_cursor, ac_kept_kept, upd_at]
    by_cases q : j = cu + i
    · rw [if_neg (by omega), if_pos q, if_pos (by omega), show j - cu = i from by omega]
    · rw [if_neg q]
      by_cases g : cu + (i + 1) ≤ j ∧ j < cu + 12
      · rw [if_pos g, if_pos (by omega)]
      · rw [if_neg g, if_neg (by omega)]
theorem pke_figure (T : zMd) (hk : md_isKeeping T = 1) (cu : Nat) (hcu : cu + 12 ≤ 400) (hc : md_cursor T = nI cu) : ∃ T', fX8_passes_figure T = some T' ∧ zSame T T' ∧ md_isKeeping T' = 1 ∧ md_kept T' = zpt (md_kept T) (md_figure T) cu 12 ∧ md_cursor T' = nI (cu + 12) := by
  obtain ⟨T', e1, e2, e3, e4, e5⟩ := pkl_figure cu hcu 12 0 FU T (by omega) (FU_big _ (by omega)) hk hc
  exact ⟨T', e1, e2, e3, funext e5, e4⟩
theorem pll_figure (cu : Nat) (hcu : cu + 12 ≤ 400) : ∀ d i k (T : zMd), i + d = 12 → d < k → md_isKeeping T = 0 → md_cursor T = nI (cu + i) → ∃ T', fX8_passes_figure_l2 k (nI i) T = some T' ∧ (md_number T' = md_number T ∧ md_kind T' = md_kind T ∧ md_one T' = md_one T ∧ md_other T' = md_other T ∧ md_stands T' = md_stands T ∧ md_uses T' = md_uses T ∧ md_earned T' = md_earned T ∧ md_houses T' = md_houses T ∧ md_sums T' = md_sums T ∧ md_falls T' = md_falls T) ∧ FR T T' ∧ md_isKeeping T' = 0 ∧ md_kept T' = md_kept T ∧ md_cursor T' = nI (cu + 12) ∧ ∀ j, md_figure T' j = if i ≤ j ∧ j < 12 then md_kept T (cu + j) else md_figure T j := by
  intro d
  induction d with
  | zero =>
    intro i k T hi hk hq hc
    obtain ⟨k, rfl⟩ : ∃ k', k = k' + 1 := ⟨k - 1, by omega⟩
    have e : i = 12 := by omega
    subst e
    refine ⟨T, ?_, ⟨rfl, rfl, rfl, rfl, rfl, rfl, rfl, rfl, rfl, rfl⟩, FR.rf, hq, rfl, hc, fun j => ?_⟩
    · rw [fX8_passes_figure_l2, if_pos (by decide)]
    · rw [if_neg (by omega)]
  | succ d ih =>
    intro i k T hi hk hq hc
    obtain ⟨k, rfl⟩ : ∃ k', k = k' + 1 := ⟨k - 1, by omega⟩
    rw [fX8_passes_figure_l2, if_neg (show ¬ (12 : Int32) ≤ nI i from nI_ge (b := 12) (by omega) (by omega)), hq, if_pos rfl, hc, ix_nI (by omega) (by omega), ix_nI (by omega) (by omega), nI_clamp (by omega), nI_clamp (by omega)]
    unfold fX8_passes_figure_j42
    rw [ac_cursor_figure, hc, nI_1, nI_1]
    obtain ⟨T', e1, ⟨x0, x1, x2, x3, x4, x5, x6, x7, x8, x9⟩, e3, e4, e5, e6, e7⟩ := ih (i + 1) k (md_set_cursor (md_set_figure T (upd (md_figure T) i (md_kept T (cu + i)))) (nI (cu + i + 1))) (by omega) (by omega) (by rw [ac_isKeeping_cursor, ac_isKeeping_figure, hq]) (ac_cursor_cursor _ _)
    refine ⟨T', e1, ⟨x0.trans ((ac_number_cursor _ _).trans (ac_number_figure _ _)), x1.trans ((ac_kind_cursor _ _).trans (ac_kind_figure _ _)), x2.trans ((ac_one_cursor _ _).trans (ac_one_figure _ _)), x3.trans ((ac_other_cursor _ _).trans (ac_other_figure _ _)), x4.trans ((ac_stands_cursor _ _).trans (ac_stands_figure _ _)), x5.trans ((ac_uses_cursor _ _).trans (ac_uses_figure _ _)), x6.trans ((ac_earned_cursor _ _).trans (ac_earned_figure _ _)), x7.trans ((ac_houses_cursor _ _).trans (ac_houses_figure _ _)), x8.trans ((ac_sums_cursor _ _).trans (ac_sums_figure _ _)), x9.trans ((ac_falls_cursor _ _).trans (ac_falls_figure _ _))⟩, (af_figure T _).tr ((af_cursor _ _).tr e3), e4, e5.trans ((ac_kept_cursor _ _).trans (ac_kept_figure _ _)), e6, fun j => ?_⟩
    rw [e7 j, ac_kept_cursor, ac_kept_figure, ac_figure_cursor, ac_figure_figure, upd_at]
    by_cases q : j = i
    · rw [if_neg (by omega), if_pos q, if_pos (by omega), q]
    · rw [if_neg q]
      by_cases g : i + 1 ≤ j ∧ j < 12
      · rw [if_pos g, if_pos (by omega)]
      · rw [if_neg g, if_neg (by omega)]
theorem ple_figure (T : zMd) (hk : md_isKeeping T = 0) (cu : Nat) (hcu : cu + 12 ≤ 400) (hc : md_cursor T = nI cu) : ∃ T', fX8_passes_figure T = some T' ∧ (md_number T' = md_number T ∧ md_kind T' = md_kind T ∧ md_figure T' = zget12 (md_kept T) (md_figure T) cu 12 ∧ md_one T' = md_one T ∧ md_other T' = md_other T ∧ md_stands T' = md_stands T ∧ md_uses T' = md_uses T ∧ md_earned T' = md_earned T ∧ md_houses T' = md_houses T ∧ md_sums T' = md_sums T ∧ md_falls T' = md_falls T ∧ FR T T') ∧ md_isKeeping T' = 0 ∧ md_kept T' = md_kept T ∧ md_cursor T' = nI (cu + 12) := by
  obtain ⟨T', e1, ⟨x0, x1, x2, x3, x4, x5, x6, x7, x8, x9⟩, e3, e4, e5, e6, e7⟩ := pll_figure cu hcu 12 0 FU T (by omega) (FU_big _ (by omega)) hk hc
  have ex : md_figure T' = zget12 (md_kept T) (md_figure T) cu 12 := by
    funext j
    rw [e7 j]
    unfold zget12
    by_cases g : j < 12
    · rw [if_pos ⟨Nat.zero_le _, g⟩, if_pos g]
    · rw [if_neg (by omega), if_neg g]
  exact ⟨T', e1, ⟨x0, x1, ex, x2, x3, x4, x5, x6, x7, x8, x9, e3⟩, e4, e5, e6⟩
theorem pkl_one (cu : Nat) (hcu : cu + 12 ≤ 400) : ∀ d i k (T : zMd), i + d = 12 → d < k → md_isKeeping T = 1 → md_cursor T = nI (cu + i) → ∃ T', fX8_passes_one_l2 k (nI i) T = some T' ∧ zSame T T' ∧ md_isKeeping T' = 1 ∧ md_cursor T' = nI (cu + 12) ∧ ∀ j, md_kept T' j = if cu + i ≤ j ∧ j < cu + 12 then md_one T (j - cu) else md_kept T j := by
  intro d
  induction d with
  | zero =>
    intro i k T hi hk hq hc
    obtain ⟨k, rfl⟩ : ∃ k', k = k' + 1 := ⟨k - 1, by omega⟩
    have e : i = 12 := by omega
    subst e
    refine ⟨T, ?_, ⟨rfl, rfl, rfl, rfl, rfl, rfl, rfl, rfl, rfl, rfl, rfl, FR.rf⟩, hq, hc, fun j => ?_⟩
    · rw [fX8_passes_one_l2, if_pos (by decide)]
    · rw [if_neg (by omega)]
  | succ d ih =>
    intro i k T hi hk hq hc
    obtain ⟨k, rfl⟩ : ∃ k', k = k' + 1 := ⟨k - 1, by omega⟩
    rw [fX8_passes_one_l2, if_neg (show ¬ (12 : Int32) ≤ nI i from nI_ge (b := 12) (by omega) (by omega)), hq, if_neg (by decide), ix_nI (by omega) (by omega), hc, ix_nI (by omega) (by omega), nI_clamp (by omega), nI_clamp (by omega)]
    unfold fX8_passes_one_j42
    rw [ac_cursor_kept, hc, nI_1, nI_1]
    obtain ⟨T', e1, e2, e3, e4, e5⟩ := ih (i + 1) k (md_set_cursor (md_set_kept T (upd (md_kept T) (cu + i) (md_one T i))) (nI (cu + i + 1))) (by omega) (by omega) (by rw [ac_isKeeping_cursor, ac_isKeeping_kept, hq]) (ac_cursor_cursor _ _)
    refine ⟨T', e1, (zs_kept T _).tr ((zs_cursor _ _).tr e2), e3, e4, fun j => ?_⟩
    rw [e5 j, ac_one_cursor, ac_one_kept, ac_kept_cursor, ac_kept_kept, upd_at]
    by_cases q : j = cu + i
    · rw [if_neg (by omega), if_pos q, if_pos (by omega), show j - cu = i from by omega]
    · rw [if_neg q]
      by_cases g : cu + (i + 1) ≤ j ∧ j < cu + 12
      · rw [if_pos g, if_pos (by omega)]
      · rw [if_neg g, if_neg (by omega)]
theorem pke_one (T : zMd) (hk : md_isKeeping T = 1) (cu : Nat) (hcu : cu + 12 ≤ 400) (hc : md_cursor T = nI cu) : ∃ T', fX8_passes_one T = some T' ∧ zSame T T' ∧ md_isKeeping T' = 1 ∧ md_kept T' = zpt (md_kept T) (md_one T) cu 12 ∧ md_cursor T' = nI (cu + 12) := by
  obtain ⟨T', e1, e2, e3, e4, e5⟩ := pkl_one cu hcu 12 0 FU T (by omega) (FU_big _ (by omega)) hk hc
  exact ⟨T', e1, e2, e3, funext e5, e4⟩
theorem pll_one (cu : Nat) (hcu : cu + 12 ≤ 400) : ∀ d i k (T : zMd), i + d = 12 → d < k → md_isKeeping T = 0 → md_cursor T = nI (cu + i) → ∃ T', fX8_passes_one_l2 k (nI i) T = some T' ∧ (md_number T' = md_number T ∧ md_kind T' = md_kind T ∧ md_figure T' = md_figure T ∧ md_other T' = md_other T ∧ md_stands T' = md_stands T ∧ md_uses T' = md_uses T ∧ md_earned T' = md_earned T ∧ md_houses T' = md_houses T ∧ md_sums T' = md_sums T ∧ md_falls T' = md_falls T) ∧ FR T T' ∧ md_isKeeping T' = 0 ∧ md_kept T' = md_kept T ∧ md_cursor T' = nI (cu + 12) ∧ ∀ j, md_one T' j = if i ≤ j ∧ j < 12 then md_kept T (cu + j) else md_one T j := by
  intro d
  induction d with
  | zero =>
    intro i k T hi hk hq hc
    obtain ⟨k, rfl⟩ : ∃ k', k = k' + 1 := ⟨k - 1, by omega⟩
    have e : i = 12 := by omega
    subst e
    refine ⟨T, ?_, ⟨rfl, rfl, rfl, rfl, rfl, rfl, rfl, rfl, rfl, rfl⟩, FR.rf, hq, rfl, hc, fun j => ?_⟩
    · rw [fX8_passes_one_l2, if_pos (by decide)]
    · rw [if_neg (by omega)]
  | succ d ih =>
    intro i k T hi hk hq hc
    obtain ⟨k, rfl⟩ : ∃ k', k = k' + 1 := ⟨k - 1, by omega⟩
    rw [fX8_passes_one_l2, if_neg (show ¬ (12 : Int32) ≤ nI i from nI_ge (b := 12) (by omega) (by omega)), hq, if_pos rfl, hc, ix_nI (by omega) (by omega), ix_nI (by omega) (by omega), nI_clamp (by omega), nI_clamp (by omega)]
    unfold fX8_passes_one_j42
    rw [ac_cursor_one, hc, nI_1, nI_1]
    obtain ⟨T', e1, ⟨x0, x1, x2, x3, x4, x5, x6, x7, x8, x9⟩, e3, e4, e5, e6, e7⟩ := ih (i + 1) k (md_set_cursor (md_set_one T (upd (md_one T) i (md_kept T (cu + i)))) (nI (cu + i + 1))) (by omega) (by omega) (by rw [ac_isKeeping_cursor, ac_isKeeping_one, hq]) (ac_cursor_cursor _ _)
    refine ⟨T', e1, ⟨x0.trans ((ac_number_cursor _ _).trans (ac_number_one _ _)), x1.trans ((ac_kind_cursor _ _).trans (ac_kind_one _ _)), x2.trans ((ac_figure_cursor _ _).trans (ac_figure_one _ _)), x3.trans ((ac_other_cursor _ _).trans (ac_other_one _ _)), x4.trans ((ac_stands_cursor _ _).trans (ac_stands_one _ _)), x5.trans ((ac_uses_cursor _ _).trans (ac_uses_one _ _)), x6.trans ((ac_earned_cursor _ _).trans (ac_earned_one _ _)), x7.trans ((ac_houses_cursor _ _).trans (ac_houses_one _ _)), x8.trans ((ac_sums_cursor _ _).trans (ac_sums_one _ _)), x9.trans ((ac_falls_cursor _ _).trans (ac_falls_one _ _))⟩, (af_one T _).tr ((af_cursor _ _).tr e3), e4, e5.trans ((ac_kept_cursor _ _).trans (ac_kept_one _ _)), e6, fun j => ?_⟩
    rw [e7 j, ac_kept_cursor, ac_kept_one, ac_one_cursor, ac_one_one, upd_at]
    by_cases q : j = i
    · rw [if_neg (by omega), if_pos q, if_pos (by omega), q]
    · rw [if_neg q]
      by_cases g : i + 1 ≤ j ∧ j < 12
      · rw [if_pos g, if_pos (by omega)]
      · rw [if_neg g, if_neg (by omega)]
theorem ple_one (T : zMd) (hk : md_isKeeping T = 0) (cu : Nat) (hcu : cu + 12 ≤ 400) (hc : md_cursor T = nI cu) : ∃ T', fX8_passes_one T = some T' ∧ (md_number T' = md_number T ∧ md_kind T' = md_kind T ∧ md_figure T' = md_figure T ∧ md_one T' = zget12 (md_kept T) (md_one T) cu 12 ∧ md_other T' = md_other T ∧ md_stands T' = md_stands T ∧ md_uses T' = md_uses T ∧ md_earned T' = md_earned T ∧ md_houses T' = md_houses T ∧ md_sums T' = md_sums T ∧ md_falls T' = md_falls T ∧ FR T T') ∧ md_isKeeping T' = 0 ∧ md_kept T' = md_kept T ∧ md_cursor T' = nI (cu + 12) := by
  obtain ⟨T', e1, ⟨x0, x1, x2, x3, x4, x5, x6, x7, x8, x9⟩, e3, e4, e5, e6, e7⟩ := pll_one cu hcu 12 0 FU T (by omega) (FU_big _ (by omega)) hk hc
  have ex : md_one T' = zget12 (md_kept T) (md_one T) cu 12 := by
    funext j
    rw [e7 j]
    unfold zget12
    by_cases g : j < 12
    · rw [if_pos ⟨Nat.zero_le _, g⟩, if_pos g]
    · rw [if_neg (by omega), if_neg g]
  exact ⟨T', e1, ⟨x0, x1, x2, ex, x3, x4, x5, x6, x7, x8, x9, e3⟩, e4, e5, e6⟩
theorem pkl_other (cu : Nat) (hcu : cu + 12 ≤ 400) : ∀ d i k (T : zMd), i + d = 12 → d < k → md_isKeeping T = 1 → md_cursor T = nI (cu + i) → ∃ T', fX8_passes_other_l2 k (nI i) T = some T' ∧ zSame T T' ∧ md_isKeeping T' = 1 ∧ md_cursor T' = nI (cu + 12) ∧ ∀ j, md_kept T' j = if cu + i ≤ j ∧ j < cu + 12 then md_other T (j - cu) else md_kept T j := by
  intro d
  induction d with
  | zero =>
    intro i k T hi hk hq hc
    obtain ⟨k, rfl⟩ : ∃ k', k = k' + 1 := ⟨k - 1, by omega⟩
    have e : i = 12 := by omega
    subst e
    refine ⟨T, ?_, ⟨rfl, rfl, rfl, rfl, rfl, rfl, rfl, rfl, rfl, rfl, rfl, FR.rf⟩, hq, hc, fun j => ?_⟩
    · rw [fX8_passes_other_l2, if_pos (by decide)]
    · rw [if_neg (by omega)]
  | succ d ih =>
    intro i k T hi hk hq hc
    obtain ⟨k, rfl⟩ : ∃ k', k = k' + 1 := ⟨k - 1, by omega⟩
    rw [fX8_passes_other_l2, if_neg (show ¬ (12 : Int32) ≤ nI i from nI_ge (b := 12) (by omega) (by omega)), hq, if_neg (by decide), ix_nI (by omega) (by omega), hc, ix_nI (by omega) (by omega), nI_clamp (by omega), nI_clamp (by omega)]
    unfold fX8_passes_other_j42
    rw [ac_cursor_kept, hc, nI_1, nI_1]
    obtain ⟨T', e1, e2, e3, e4, e5⟩ := ih (i + 1) k (md_set_cursor (md_set_kept T (upd (md_kept T) (cu + i) (md_other T i))) (nI (cu + i + 1))) (by omega) (by omega) (by rw [ac_isKeeping_cursor, ac_isKeeping_kept, hq]) (ac_cursor_cursor _ _)
    refine ⟨T', e1, (zs_kept T _).tr ((zs_cursor _ _).tr e2), e3, e4, fun j => ?_⟩
    rw [e5 j, ac_other_cursor, ac_other_kept, ac_kept_cursor, ac_kept_kept, upd_at]
    by_cases q : j = cu + i
    · rw [if_neg (by omega), if_pos q, if_pos (by omega), show j - cu = i from by omega]
    · rw [if_neg q]
      by_cases g : cu + (i + 1) ≤ j ∧ j < cu + 12
      · rw [if_pos g, if_pos (by omega)]
      · rw [if_neg g, if_neg (by omega)]
theorem pke_other (T : zMd) (hk : md_isKeeping T = 1) (cu : Nat) (hcu : cu + 12 ≤ 400) (hc : md_cursor T = nI cu) : ∃ T', fX8_passes_other T = some T' ∧ zSame T T' ∧ md_isKeeping T' = 1 ∧ md_kept T' = zpt (md_kept T) (md_other T) cu 12 ∧ md_cursor T' = nI (cu + 12) := by
  obtain ⟨T', e1, e2, e3, e4, e5⟩ := pkl_other cu hcu 12 0 FU T (by omega) (FU_big _ (by omega)) hk hc
  exact ⟨T', e1, e2, e3, funext e5, e4⟩
theorem pll_other (cu : Nat) (hcu : cu + 12 ≤ 400) : ∀ d i k (T : zMd), i + d = 12 → d < k → md_isKeeping T = 0 → md_cursor T = nI (cu + i) → ∃ T', fX8_passes_other_l2 k (nI i) T = some T' ∧ (md_number T' = md_number T ∧ md_kind T' = md_kind T ∧ md_figure T' = md_figure T ∧ md_one T' = md_one T ∧ md_stands T' = md_stands T ∧ md_uses T' = md_uses T ∧ md_earned T' = md_earned T ∧ md_houses T' = md_houses T ∧ md_sums T' = md_sums T ∧ md_falls T' = md_falls T) ∧ FR T T' ∧ md_isKeeping T' = 0 ∧ md_kept T' = md_kept T ∧ md_cursor T' = nI (cu + 12) ∧ ∀ j, md_other T' j = if i ≤ j ∧ j < 12 then md_kept T (cu + j) else md_other T j := by
  intro d
  induction d with
  | zero =>
    intro i k T hi hk hq hc
    obtain ⟨k, rfl⟩ : ∃ k', k = k' + 1 := ⟨k - 1, by omega⟩
    have e : i = 12 := by omega
    subst e
    refine ⟨T, ?_, ⟨rfl, rfl, rfl, rfl, rfl, rfl, rfl, rfl, rfl, rfl⟩, FR.rf, hq, rfl, hc, fun j => ?_⟩
    · rw [fX8_passes_other_l2, if_pos (by decide)]
    · rw [if_neg (by omega)]
  | succ d ih =>
    intro i k T hi hk hq hc
    obtain ⟨k, rfl⟩ : ∃ k', k = k' + 1 := ⟨k - 1, by omega⟩
    rw [fX8_passes_other_l2, if_neg (show ¬ (12 : Int32) ≤ nI i from nI_ge (b := 12) (by omega) (by omega)), hq, if_pos rfl, hc, ix_nI (by omega) (by omega), ix_nI (by omega) (by omega), nI_clamp (by omega), nI_clamp (by omega)]
    unfold fX8_passes_other_j42
    rw [ac_cursor_other, hc, nI_1, nI_1]
    obtain ⟨T', e1, ⟨x0, x1, x2, x3, x4, x5, x6, x7, x8, x9⟩, e3, e4, e5, e6, e7⟩ := ih (i + 1) k (md_set_cursor (md_set_other T (upd (md_other T) i (md_kept T (cu + i)))) (nI (cu + i + 1))) (by omega) (by omega) (by rw [ac_isKeeping_cursor, ac_isKeeping_other, hq]) (ac_cursor_cursor _ _)
    refine ⟨T', e1, ⟨x0.trans ((ac_number_cursor _ _).trans (ac_number_other _ _)), x1.trans ((ac_kind_cursor _ _).trans (ac_kind_other _ _)), x2.trans ((ac_figure_cursor _ _).trans (ac_figure_other _ _)), x3.trans ((ac_one_cursor _ _).trans (ac_one_other _ _)), x4.trans ((ac_stands_cursor _ _).trans (ac_stands_other _ _)), x5.trans ((ac_uses_cursor _ _).trans (ac_uses_other _ _)), x6.trans ((ac_earned_cursor _ _).trans (ac_earned_other _ _)), x7.trans ((ac_houses_cursor _ _).trans (ac_houses_other _ _)), x8.trans ((ac_sums_cursor _ _).trans (ac_sums_other _ _)), x9.trans ((ac_falls_cursor _ _).trans (ac_falls_other _ _))⟩, (af_other T _).tr ((af_cursor _ _).tr e3), e4, e5.trans ((ac_kept_cursor _ _).trans (ac_kept_other _ _)), e6, fun j => ?_⟩
    rw [e7 j, ac_kept_cursor, ac_kept_other, ac_other_cursor, ac_other_other, upd_at]
    by_cases q : j = i
    · rw [if_neg (by omega), if_pos q, if_pos (by omega), q]
    · rw [if_neg q]
      by_cases g : i + 1 ≤ j ∧ j < 12
      · rw [if_pos g, if_pos (by omega)]
      · rw [if_neg g, if_neg (by omega)]
theorem ple_other (T : zMd) (hk : md_isKeeping T = 0) (cu : Nat) (hcu : cu + 12 ≤ 400) (hc : md_cursor T = nI cu) : ∃ T', fX8_passes_other T = some T' ∧ (md_number T' = md_number T ∧ md_kind T' = md_kind T ∧ md_figure T' = md_figure T ∧ md_one T' = md_one T ∧ md_other T' = zget12 (md_kept T) (md_other T) cu 12 ∧ md_stands T' = md_stands T ∧ md_uses T' = md_uses T ∧ md_earned T' = md_earned T ∧ md_houses T' = md_houses T ∧ md_sums T' = md_sums T ∧ md_falls T' = md_falls T ∧ FR T T') ∧ md_isKeeping T' = 0 ∧ md_kept T' = md_kept T ∧ md_cursor T' = nI (cu + 12) := by
  obtain ⟨T', e1, ⟨x0, x1, x2, x3, x4, x5, x6, x7, x8, x9⟩, e3, e4, e5, e6, e7⟩ := pll_other cu hcu 12 0 FU T (by omega) (FU_big _ (by omega)) hk hc
  have ex : md_other T' = zget12 (md_kept T) (md_other T) cu 12 := by
    funext j
    rw [e7 j]
    unfold zget12
    by_cases g : j < 12
    · rw [if_pos ⟨Nat.zero_le _, g⟩, if_pos g]
    · rw [if_neg (by omega), if_neg g]
  exact ⟨T', e1, ⟨x0, x1, x2, x3, ex, x4, x5, x6, x7, x8, x9, e3⟩, e4, e5, e6⟩
theorem pkl_stands (cu : Nat) (hcu : cu + 12 ≤ 400) : ∀ d i k (T : zMd), i + d = 12 → d < k → md_isKeeping T = 1 → md_cursor T = nI (cu + i) → ∃ T', fX8_passes_stands_l2 k (nI i) T = some T' ∧ zSame T T' ∧ md_isKeeping T' = 1 ∧ md_cursor T' = nI (cu + 12) ∧ ∀ j, md_kept T' j = if cu + i ≤ j ∧ j < cu + 12 then md_stands T (j - cu) else md_kept T j := by
  intro d
  induction d with
  | zero =>
    intro i k T hi hk hq hc
    obtain ⟨k, rfl⟩ : ∃ k', k = k' + 1 := ⟨k - 1, by omega⟩
    have e : i = 12 := by omega
    subst e
    refine ⟨T, ?_, ⟨rfl, rfl, rfl, rfl, rfl, rfl, rfl, rfl, rfl, rfl, rfl, FR.rf⟩, hq, hc, fun j => ?_⟩
    · rw [fX8_passes_stands_l2, if_pos (by decide)]
    · rw [if_neg (by omega)]
  | succ d ih =>
    intro i k T hi hk hq hc
    obtain ⟨k, rfl⟩ : ∃ k', k = k' + 1 := ⟨k - 1, by omega⟩
    rw [fX8_passes_stands_l2, if_neg (show ¬ (12 : Int32) ≤ nI i from nI_ge (b := 12) (by omega) (by omega)), hq, if_neg (by decide), ix_nI (by omega) (by omega), hc, ix_nI (by omega) (by omega), nI_clamp (by omega), nI_clamp (by omega)]
    unfold fX8_passes_stands_j42
    rw [ac_cursor_kept, hc, nI_1, nI_1]
    obtain ⟨T', e1, e2, e3, e4, e5⟩ := ih (i + 1) k (md_set_cursor (md_set_kept T (upd (md_kept T) (cu + i) (md_stands T i))) (nI (cu + i + 1))) (by omega) (by omega) (by rw [ac_isKeeping_cursor, ac_isKeeping_kept, hq]) (ac_cursor_cursor _ _)
    refine ⟨T', e1, (zs_kept T _).tr ((zs_cursor _ _).tr e2), e3, e4, fun j => ?_⟩
    rw [e5 j, ac_stands_cursor, ac_stands_kept, ac_kept_cursor, ac_kept_kept, upd_at]
    by_cases q : j = cu + i
    · rw [if_neg (by omega), if_pos q, if_pos (by omega), show j - cu = i from by omega]
    · rw [if_neg q]
      by_cases g : cu + (i + 1) ≤ j ∧ j < cu + 12
      · rw [if_pos g, if_pos (by omega)]
      · rw [if_neg g, if_neg (by omega)]
theorem pke_stands (T : zMd) (hk : md_isKeeping T = 1) (cu : Nat) (hcu : cu + 12 ≤ 400) (hc : md_cursor T = nI cu) : ∃ T', fX8_passes_stands T = some T' ∧ zSame T T' ∧ md_isKeeping T' = 1 ∧ md_kept T' = zpt (md_kept T) (md_stands T) cu 12 ∧ md_cursor T' = nI (cu + 12) := by
  obtain ⟨T', e1, e2, e3, e4, e5⟩ := pkl_stands cu hcu 12 0 FU T (by omega) (FU_big _ (by omega)) hk hc
  exact ⟨T', e1, e2, e3, funext e5, e4⟩
theorem pll_stands (cu : Nat) (hcu : cu + 12 ≤ 400) : ∀ d i k (T : zMd), i + d = 12 → d < k → md_isKeeping T = 0 → md_cursor T = nI (cu + i) → ∃ T', fX8_passes_stands_l2 k (nI i) T = some T' ∧ (md_number T' = md_number T ∧ md_kind T' = md_kind T ∧ md_figure T' = md_figure T ∧ md_one T' = md_one T ∧ md_other T' = md_other T ∧ md_uses T' = md_uses T ∧ md_earned T' = md_earned T ∧ md_houses T' = md_houses T ∧ md_sums T' = md_sums T ∧ md_falls T' = md_falls T) ∧ FR T T' ∧ md_isKeeping T' = 0 ∧ md_kept T' = md_kept T ∧ md_cursor T' = nI (cu + 12) ∧ ∀ j, md_stands T' j = if i ≤ j ∧ j < 12 then md_kept T (cu + j) else md_stands T j := by
  intro d
  induction d with
  | zero =>
    intro i k T hi hk hq hc
    obtain ⟨k, rfl⟩ : ∃ k', k = k' + 1 := ⟨k - 1, by omega⟩
    have e : i = 12 := by omega
    subst e
    refine ⟨T, ?_, ⟨rfl, rfl, rfl, rfl, rfl, rfl, rfl, rfl, rfl, rfl⟩, FR.rf, hq, rfl, hc, fun j => ?_⟩
    · rw [fX8_passes_stands_l2, if_pos (by decide)]
    · rw [if_neg (by omega)]
  | succ d ih =>
    intro i k T hi hk hq hc
    obtain ⟨k, rfl⟩ : ∃ k', k = k' + 1 := ⟨k - 1, by omega⟩
    rw [fX8_passes_stands_l2, if_neg (show ¬ (12 : Int32) ≤ nI i from nI_ge (b := 12) (by omega) (by omega)), hq, if_pos rfl, hc, ix_nI (by omega) (by omega), ix_nI (by omega) (by omega), nI_clamp (by omega), nI_clamp (by omega)]
    unfold fX8_passes_stands_j42
    rw [ac_cursor_stands, hc, nI_1, nI_1]
    obtain ⟨T', e1, ⟨x0, x1, x2, x3, x4, x5, x6, x7, x8, x9⟩, e3, e4, e5, e6, e7⟩ := ih (i + 1) k (md_set_cursor (md_set_stands T (upd (md_stands T) i (md_kept T (cu + i)))) (nI (cu + i + 1))) (by omega) (by omega) (by rw [ac_isKeeping_cursor, ac_isKeeping_stands, hq]) (ac_cursor_cursor _ _)
    refine ⟨T', e1, ⟨x0.trans ((ac_number_cursor _ _).trans (ac_number_stands _ _)), x1.trans ((ac_kind_cursor _ _).trans (ac_kind_stands _ _)), x2.trans ((ac_figure_cursor _ _).trans (ac_figure_stands _ _)), x3.trans ((ac_one_cursor _ _).trans (ac_one_stands _ _)), x4.trans ((ac_other_cursor _ _).trans (ac_other_stands _ _)), x5.trans ((ac_uses_cursor _ _).trans (ac_uses_stands _ _)), x6.trans ((ac_earned_cursor _ _).trans (ac_earned_stands _ _)), x7.trans ((ac_houses_cursor _ _).trans (ac_houses_stands _ _)), x8.trans ((ac_sums_cursor _ _).trans (ac_sums_stands _ _)), x9.trans ((ac_falls_cursor _ _).trans (ac_falls_stands _ _))⟩, (af_stands T _).tr ((af_cursor _ _).tr e3), e4, e5.trans ((ac_kept_cursor _ _).trans (ac_kept_stands _ _)), e6, fun j => ?_⟩
    rw [e7 j, ac_kept_cursor, ac_kept_stands, ac_stands_cursor, ac_stands_stands, upd_at]
    by_cases q : j = i
    · rw [if_neg (by omega), if_pos q, if_pos (by omega), q]
    · rw [if_neg q]
      by_cases g : i + 1 ≤ j ∧ j < 12
      · rw [if_pos g, if_pos (by omega)]
      · rw [if_neg g, if_neg (by omega)]
theorem ple_stands (T : zMd) (hk : md_isKeeping T = 0) (cu : Nat) (hcu : cu + 12 ≤ 400) (hc : md_cursor T = nI cu) : ∃ T', fX8_passes_stands T = some T' ∧ (md_number T' = md_number T ∧ md_kind T' = md_kind T ∧ md_figure T' = md_figure T ∧ md_one T' = md_one T ∧ md_other T' = md_other T ∧ md_stands T' = zget12 (md_kept T) (md_stands T) cu 12 ∧ md_uses T' = md_uses T ∧ md_earned T' = md_earned T ∧ md_houses T' = md_houses T ∧ md_sums T' = md_sums T ∧ md_falls T' = md_falls T ∧ FR T T') ∧ md_isKeeping T' = 0 ∧ md_kept T' = md_kept T ∧ md_cursor T' = nI (cu + 12) := by
  obtain ⟨T', e1, ⟨x0, x1, x2, x3, x4, x5, x6, x7, x8, x9⟩, e3, e4, e5, e6, e7⟩ := pll_stands cu hcu 12 0 FU T (by omega) (FU_big _ (by omega)) hk hc
  have ex : md_stands T' = zget12 (md_kept T) (md_stands T) cu 12 := by
    funext j
    rw [e7 j]
    unfold zget12
    by_cases g : j < 12
    · rw [if_pos ⟨Nat.zero_le _, g⟩, if_pos g]
    · rw [if_neg (by omega), if_neg g]
  exact ⟨T', e1, ⟨x0, x1, x2, x3, x4, ex, x5, x6, x7, x8, x9, e3⟩, e4, e5, e6⟩
theorem pkl_uses (cu : Nat) (hcu : cu + 12 ≤ 400) : ∀ d i k (T : zMd), i + d = 12 → d < k → md_isKeeping T = 1 → md_cursor T = nI (cu + i) → ∃ T', fX8_passes_uses_l2 k (nI i) T = some T' ∧ zSame T T' ∧ md_isKeeping T' = 1 ∧ md_cursor T' = nI (cu + 12) ∧ ∀ j, md_kept T' j = if cu + i ≤ j ∧ j < cu + 12 then md_uses T (j - cu) else md_kept T j := by
  intro d
  induction d with
  | zero =>
    intro i k T hi hk hq hc
    obtain ⟨k, rfl⟩ : ∃ k', k = k' + 1 := ⟨k - 1, by omega⟩
    have e : i = 12 := by omega
    subst e
    refine ⟨T, ?_, ⟨rfl, rfl, rfl, rfl, rfl, rfl, rfl, rfl, rfl, rfl, rfl, FR.rf⟩, hq, hc, fun j => ?_⟩
    · rw [fX8_passes_uses_l2, if_pos (by decide)]
    · rw [if_neg (by omega)]
  | succ d ih =>
    intro i k T hi hk hq hc
    obtain ⟨k, rfl⟩ : ∃ k', k = k' + 1 := ⟨k - 1, by omega⟩
    rw [fX8_passes_uses_l2, if_neg (show ¬ (12 : Int32) ≤ nI i from nI_ge (b := 12) (by omega) (by omega)), hq, if_neg (by decide), ix_nI (by omega) (by omega), hc, ix_nI (by omega) (by omega), nI_clamp (by omega), nI_clamp (by omega)]
    unfold fX8_passes_uses_j42
    rw [ac_cursor_kept, hc, nI_1, nI_1]
    obtain ⟨T', e1, e2, e3, e4, e5⟩ := ih (i + 1) k (md_set_cursor (md_set_kept T (upd (md_kept T) (cu + i) (md_uses T i))) (nI (cu + i + 1))) (by omega) (by omega) (by rw [ac_isKeeping_cursor, ac_isKeeping_kept, hq]) (ac_cursor_cursor _ _)
    refine ⟨T', e1, (zs_kept T _).tr ((zs_cursor _ _).tr e2), e3, e4, fun j => ?_⟩
    rw [e5 j, ac_uses_cursor, ac_uses_kept, ac_kept_cursor, ac_kept_kept, upd_at]
    by_cases q : j = cu + i
    · rw [if_neg (by omega), if_pos q, if_pos (by omega), show j - cu = i from by omega]
    · rw [if_neg q]
      by_cases g : cu + (i + 1) ≤ j ∧ j < cu + 12
      · rw [if_pos g, if_pos (by omega)]
      · rw [if_neg g, if_neg (by omega)]
theorem pke_uses (T : zMd) (hk : md_isKeeping T = 1) (cu : Nat) (hcu : cu + 12 ≤ 400) (hc : md_cursor T = nI cu) : ∃ T', fX8_passes_uses T = some T' ∧ zSame T T' ∧ md_isKeeping T' = 1 ∧ md_kept T' = zpt (md_kept T) (md_uses T) cu 12 ∧ md_cursor T' = nI (cu + 12) := by
  obtain ⟨T', e1, e2, e3, e4, e5⟩ := pkl_uses cu hcu 12 0 FU T (by omega) (FU_big _ (by omega)) hk hc
  exact ⟨T', e1, e2, e3, funext e5, e4⟩
theorem pll_uses (cu : Nat) (hcu : cu + 12 ≤ 400) : ∀ d i k (T : zMd), i + d = 12 → d < k → md_isKeeping T = 0 → md_cursor T = nI (cu + i) → ∃ T', fX8_passes_uses_l2 k (nI i) T = some T' ∧ (md_number T' = md_number T ∧ md_kind T' = md_kind T ∧ md_figure T' = md_figure T ∧ md_one T' = md_one T ∧ md_other T' = md_other T ∧ md_stands T' = md_stands T ∧ md_earned T' = md_earned T ∧ md_houses T' = md_houses T ∧ md_sums T' = md_sums T ∧ md_falls T' = md_falls T) ∧ FR T T' ∧ md_isKeeping T' = 0 ∧ md_kept T' = md_kept T ∧ md_cursor T' = nI (cu + 12) ∧ ∀ j, md_uses T' j = if i ≤ j ∧ j < 12 then md_kept T (cu + j) else md_uses T j := by
  intro d
  induction d with
  | zero =>
    intro i k T hi hk hq hc
    obtain ⟨k, rfl⟩ : ∃ k', k = k' + 1 := ⟨k - 1, by omega⟩
    have e : i = 12 := by omega
    subst e
    refine ⟨T, ?_, ⟨rfl, rfl, rfl, rfl, rfl, rfl, rfl, rfl, rfl, rfl⟩, FR.rf, hq, rfl, hc, fun j => ?_⟩
    · rw [fX8_passes_uses_l2, if_pos (by decide)]
    · rw [if_neg (by omega)]
  | succ d ih =>
    intro i k T hi hk hq hc
    obtain ⟨k, rfl⟩ : ∃ k', k = k' + 1 := ⟨k - 1, by omega⟩
    rw [fX8_passes_uses_l2, if_neg (show ¬ (12 : Int32) ≤ nI i from nI_ge (b := 12) (by omega) (by omega)), hq, if_pos rfl, hc, ix_nI (by omega) (by omega), ix_nI (by omega) (by omega), nI_clamp (by omega), nI_clamp (by omega)]
    unfold fX8_passes_uses_j42
    rw [ac_cursor_uses, hc, nI_1, nI_1]
    obtain ⟨T', e1, ⟨x0, x1, x2, x3, x4, x5, x6, x7, x8, x9⟩, e3, e4, e5, e6, e7⟩ := ih (i + 1) k (md_set_cursor (md_set_uses T (upd (md_uses T) i (md_kept T (cu + i)))) (nI (cu + i + 1))) (by omega) (by omega) (by rw [ac_isKeeping_cursor, ac_isKeeping_uses, hq]) (ac_cursor_cursor _ _)
    refine ⟨T', e1, ⟨x0.trans ((ac_number_cursor _ _).trans (ac_number_uses _ _)), x1.trans ((ac_kind_cursor _ _).trans (ac_kind_uses _ _)), x2.trans ((ac_figure_cursor _ _).trans (ac_figure_uses _ _)), x3.trans ((ac_one_cursor _ _).trans (ac_one_uses _ _)), x4.trans ((ac_other_cursor _ _).trans (ac_other_uses _ _)), x5.trans ((ac_stands_cursor _ _).trans (ac_stands_uses _ _)), x6.trans ((ac_earned_cursor _ _).trans (ac_earned_uses _ _)), x7.trans ((ac_houses_cursor _ _).trans (ac_houses_uses _ _)), x8.trans ((ac_sums_cursor _ _).trans (ac_sums_uses _ _)), x9.trans ((ac_falls_cursor _ _).trans (ac_falls_uses _ _))⟩, (af_uses T _).tr ((af_cursor _ _).tr e3), e4, e5.trans ((ac_kept_cursor _ _).trans (ac_kept_uses _ _)), e6, fun j => ?_⟩
    rw [e7 j, ac_kept_cursor, ac_kept_uses, ac_uses_cursor, ac_uses_uses, upd_at]
    by_cases q : j = i
    · rw [if_neg (by omega), if_pos q, if_pos (by omega), q]
    · rw [if_neg q]
      by_cases g : i + 1 ≤ j ∧ j < 12
      · rw [if_pos g, if_pos (by omega)]
      · rw [if_neg g, if_neg (by omega)]
theorem ple_uses (T : zMd) (hk : md_isKeeping T = 0) (cu : Nat) (hcu : cu + 12 ≤ 400) (hc : md_cursor T = nI cu) : ∃ T', fX8_passes_uses T = some T' ∧ (md_number T' = md_number T ∧ md_kind T' = md_kind T ∧ md_figure T' = md_figure T ∧ md_one T' = md_one T ∧ md_other T' = md_other T ∧ md_stands T' = md_stands T ∧ md_uses T' = zget12 (md_kept T) (md_uses T) cu 12 ∧ md_earned T' = md_earned T ∧ md_houses T' = md_houses T ∧ md_sums T' = md_sums T ∧ md_falls T' = md_falls T ∧ FR T T') ∧ md_isKeeping T' = 0 ∧ md_kept T' = md_kept T ∧ md_cursor T' = nI (cu + 12) := by
  obtain ⟨T', e1, ⟨x0, x1, x2, x3, x4, x5, x6, x7, x8, x9⟩, e3, e4, e5, e6, e7⟩ := pll_uses cu hcu 12 0 FU T (by omega) (FU_big _ (by omega)) hk hc
  have ex : md_uses T' = zget12 (md_kept T) (md_uses T) cu 12 := by
    funext j
    rw [e7 j]
    unfold zget12
    by_cases g : j < 12
    · rw [if_pos ⟨Nat.zero_le _, g⟩, if_pos g]
    · rw [if_neg (by omega), if_neg g]
  exact ⟨T', e1, ⟨x0, x1, x2, x3, x4, x5, ex, x6, x7, x8, x9, e3⟩, e4, e5, e6⟩
theorem pkl_earned (cu : Nat) (hcu : cu + 12 ≤ 400) : ∀ d i k (T : zMd), i + d = 12 → d < k → md_isKeeping T = 1 → md_cursor T = nI (cu + i) → ∃ T', fX8_passes_earned_l2 k (nI i) T = some T' ∧ zSame T T' ∧ md_isKeeping T' = 1 ∧ md_cursor T' = nI (cu + 12) ∧ ∀ j, md_kept T' j = if cu + i ≤ j ∧ j < cu + 12 then md_earned T (j - cu) else md_kept T j := by
  intro d
  induction d with
  | zero =>
    intro i k T hi hk hq hc
    obtain ⟨k, rfl⟩ : ∃ k', k = k' + 1 := ⟨k - 1, by omega⟩
    have e : i = 12 := by omega
    subst e
    refine ⟨T, ?_, ⟨rfl, rfl, rfl, rfl, rfl, rfl, rfl, rfl, rfl, rfl, rfl, FR.rf⟩, hq, hc, fun j => ?_⟩
    · rw [fX8_passes_earned_l2, if_pos (by decide)]
    · rw [if_neg (by omega)]
  | succ d ih =>
    intro i k T hi hk hq hc
    obtain ⟨k, rfl⟩ : ∃ k', k = k' + 1 := ⟨k - 1, by omega⟩
    rw [fX8_passes_earned_l2, if_neg (show ¬ (12 : Int32) ≤ nI i from nI_ge (b := 12) (by omega) (by omega)), hq, if_neg (by decide), ix_nI (by omega) (by omega), hc, ix_nI (by omega) (by omega), nI_clamp (by omega), nI_clamp (by omega)]
    unfold fX8_passes_earned_j42
    rw [ac_cursor_kept, hc, nI_1, nI_1]
    obtain ⟨T', e1, e2, e3, e4, e5⟩ := ih (i + 1) k (md_set_cursor (md_set_kept T (upd (md_kept T) (cu + i) (md_earned T i))) (nI (cu + i + 1))) (by omega) (by omega) (by rw [ac_isKeeping_cursor, ac_isKeeping_kept, hq]) (ac_cursor_cursor _ _)
    refine ⟨T', e1, (zs_kept T _).tr ((zs_cursor _ _).tr e2), e3, e4, fun j => ?_⟩
    rw [e5 j, ac_earned_cursor, ac_earned_kept, ac_kept_cursor, ac_kept_kept, upd_at]
    by_cases q : j = cu + i
    · rw [if_neg (by omega), if_pos q, if_pos (by omega), show j - cu = i from by omega]
    · rw [if_neg q]
      by_cases g : cu + (i + 1) ≤ j ∧ j < cu + 12
      · rw [if_pos g, if_pos (by omega)]
      · rw [if_neg g, if_neg (by omega)]
theorem pke_earned (T : zMd) (hk : md_isKeeping T = 1) (cu : Nat) (hcu : cu + 12 ≤ 400) (hc : md_cursor T = nI cu) : ∃ T', fX8_passes_earned T = some T' ∧ zSame T T' ∧ md_isKeeping T' = 1 ∧ md_kept T' = zpt (md_kept T) (md_earned T) cu 12 ∧ md_cursor T' = nI (cu + 12) := by
  obtain ⟨T', e1, e2, e3, e4, e5⟩ := pkl_earned cu hcu 12 0 FU T (by omega) (FU_big _ (by omega)) hk hc
  exact ⟨T', e1, e2, e3, funext e5, e4⟩
theorem pll_earned (cu : Nat) (hcu : cu + 12 ≤ 400) : ∀ d i k (T : zMd), i + d = 12 → d < k → md_isKeeping T = 0 → md_cursor T = nI (cu + i) → ∃ T', fX8_passes_earned_l2 k (nI i) T = some T' ∧ (md_number T' = md_number T ∧ md_kind T' = md_kind T ∧ md_figure T' = md_figure T ∧ md_one T' = md_one T ∧ md_other T' = md_other T ∧ md_stands T' = md_stands T ∧ md_uses T' = md_uses T ∧ md_houses T' = md_houses T ∧ md_sums T' = md_sums T ∧ md_falls T' = md_falls T) ∧ FR T T' ∧ md_isKeeping T' = 0 ∧ md_kept T' = md_kept T ∧ md_cursor T' = nI (cu + 12) ∧ ∀ j, md_earned T' j = if i ≤ j ∧ j < 12 then md_kept T (cu + j) else md_earned T j := by
  intro d
  induction d with
  | zero =>
    intro i k T hi hk hq hc
    obtain ⟨k, rfl⟩ : ∃ k', k = k' + 1 := ⟨k - 1, by omega⟩
    have e : i = 12 := by omega
    subst e
    refine ⟨T, ?_, ⟨rfl, rfl, rfl, rfl, rfl, rfl, rfl, rfl, rfl, rfl⟩, FR.rf, hq, rfl, hc, fun j => ?_⟩
    · rw [fX8_passes_earned_l2, if_pos (by decide)]
    · rw [if_neg (by omega)]
  | succ d ih =>
    intro i k T hi hk hq hc
    obtain ⟨k, rfl⟩ : ∃ k', k = k' + 1 := ⟨k - 1, by omega⟩
    rw [fX8_passes_earned_l2, if_neg (show ¬ (12 : Int32) ≤ nI i from nI_ge (b := 12) (by omega) (by omega)), hq, if_pos rfl, hc, ix_nI (by omega) (by omega), ix_nI (by omega) (by omega), nI_clamp (by omega), nI_clamp (by omega)]
    unfold fX8_passes_earned_j42
    rw [ac_cursor_earned, hc, nI_1, nI_1]
    obtain ⟨T', e1, ⟨x0, x1, x2, x3, x4, x5, x6, x7, x8, x9⟩, e3, e4, e5, e6, e7⟩ := ih (i + 1) k (md_set_cursor (md_set_earned T (upd (md_earned T) i (md_kept T (cu + i)))) (nI (cu + i + 1))) (by omega) (by omega) (by rw [ac_isKeeping_cursor, ac_isKeeping_earned, hq]) (ac_cursor_cursor _ _)
    refine ⟨T', e1, ⟨x0.trans ((ac_number_cursor _ _).trans (ac_number_earned _ _)), x1.trans ((ac_kind_cursor _ _).trans (ac_kind_earned _ _)), x2.trans ((ac_figure_cursor _ _).trans (ac_figure_earned _ _)), x3.trans ((ac_one_cursor _ _).trans (ac_one_earned _ _)), x4.trans ((ac_other_cursor _ _).trans (ac_other_earned _ _)), x5.trans ((ac_stands_cursor _ _).trans (ac_stands_earned _ _)), x6.trans ((ac_uses_cursor _ _).trans (ac_uses_earned _ _)), x7.trans ((ac_houses_cursor _ _).trans (ac_houses_earned _ _)), x8.trans ((ac_sums_cursor _ _).trans (ac_sums_earned _ _)), x9.trans ((ac_falls_cursor _ _).trans (ac_falls_earned _ _))⟩, (af_earned T _).tr ((af_cursor _ _).tr e3), e4, e5.trans ((ac_kept_cursor _ _).trans (ac_kept_earned _ _)), e6, fun j => ?_⟩
    rw [e7 j, ac_kept_cursor, ac_kept_earned, ac_earned_cursor, ac_earned_earned, upd_at]
    by_cases q : j = i
    · rw [if_neg (by omega), if_pos q, if_pos (by omega), q]
    · rw [if_neg q]
      by_cases g : i + 1 ≤ j ∧ j < 12
      · rw [if_pos g, if_pos (by omega)]
      · rw [if_neg g, if_neg (by omega)]
theorem ple_earned (T : zMd) (hk : md_isKeeping T = 0) (cu : Nat) (hcu : cu + 12 ≤ 400) (hc : md_cursor T = nI cu) : ∃ T', fX8_passes_earned T = some T' ∧ (md_number T' = md_number T ∧ md_kind T' = md_kind T ∧ md_figure T' = md_figure T ∧ md_one T' = md_one T ∧ md_other T' = md_other T ∧ md_stands T' = md_stands T ∧ md_uses T' = md_uses T ∧ md_earned T' = zget12 (md_kept T) (md_earned T) cu 12 ∧ md_houses T' = md_houses T ∧ md_sums T' = md_sums T ∧ md_falls T' = md_falls T ∧ FR T T') ∧ md_isKeeping T' = 0 ∧ md_kept T' = md_kept T ∧ md_cursor T' = nI (cu + 12) := by
  obtain ⟨T', e1, ⟨x0, x1, x2, x3, x4, x5, x6, x7, x8, x9⟩, e3, e4, e5, e6, e7⟩ := pll_earned cu hcu 12 0 FU T (by omega) (FU_big _ (by omega)) hk hc
  have ex : md_earned T' = zget12 (md_kept T) (md_earned T) cu 12 := by
    funext j
    rw [e7 j]
    unfold zget12
    by_cases g : j < 12
    · rw [if_pos ⟨Nat.zero_le _, g⟩, if_pos g]
    · rw [if_neg (by omega), if_neg g]
  exact ⟨T', e1, ⟨x0, x1, x2, x3, x4, x5, x6, ex, x7, x8, x9, e3⟩, e4, e5, e6⟩
theorem pke_One (T : zMd) (hk : md_isKeeping T = 1) (cu : Nat) (hcu : cu < 400) (hc : md_cursor T = nI cu) (v : Int32) : ∃ T', fX8_passOne T v = some (v, T') ∧ zSame T T' ∧ md_isKeeping T' = 1 ∧ md_kept T' = upd (md_kept T) cu v ∧ md_cursor T' = nI (cu + 1) := by
  refine ⟨md_set_cursor (md_set_kept T (upd (md_kept T) cu v)) (nI (cu + 1)), ?_, (zs_kept T _).tr (zs_cursor _ _), by rw [ac_isKeeping_cursor, ac_isKeeping_kept, hk], by rw [ac_kept_cursor, ac_kept_kept], ac_cursor_cursor _ _⟩
  unfold fX8_passOne fX8_passOne_j20
  rw [hk, if_neg (by decide), if_neg (by decide), hc, ix_nI (by omega) (by omega), nI_clamp (by omega)]
  unfold fX8_passOne_j38
  rw [ac_cursor_kept, hc, nI_1]
theorem ple_One (T : zMd) (hk : md_isKeeping T = 0) (cu : Nat) (hcu : cu < 400) (hc : md_cursor T = nI cu) (v : Int32) : ∃ T', fX8_passOne T v = some (md_kept T cu, T') ∧ zSame T T' ∧ md_isKeeping T' = 0 ∧ md_kept T' = md_kept T ∧ md_cursor T' = nI (cu + 1) := by
  refine ⟨md_set_cursor T (nI (cu + 1)), ?_, zs_cursor _ _, by rw [ac_isKeeping_cursor, hk], ac_kept_cursor _ _, ac_cursor_cursor _ _⟩
  unfold fX8_passOne fX8_passOne_j20
  rw [hk, if_pos rfl, if_pos rfl, hc, ix_nI (by omega) (by omega), nI_clamp (by omega)]
  unfold fX8_passOne_j38
  rw [hc, nI_1]
theorem pAll_keep (T : zMd) (z : Nat) (hz : z < 3) : ∃ T', fX8_passesAll T (nI z) 1 = some T' ∧ md_kept T' = zkeep T (100 * z) ∧ zSame T T' := by
  have e0 : (100 : Int32) * nI z = nI (100 * z) := pk_mul 100 z
  obtain ⟨T0, e⟩ : ∃ T0, T0 = md_set_isKeeping (md_set_cursor T (nI (100 * z))) 1 := ⟨_, rfl⟩
  have k0 : md_isKeeping T0 = 1 := by rw [e]; rfl
  have c0 : md_cursor T0 = nI (100 * z) := by rw [e]; rfl
  have t0 : zSame T T0 := by rw [e]; exact ⟨rfl, rfl, rfl, rfl, rfl, rfl, rfl, rfl, rfl, rfl, rfl, ⟨rfl, rfl, rfl, rfl, rfl, rfl, rfl, rfl, rfl, rfl, rfl, rfl⟩⟩
  have q0 : md_kept T0 = md_kept T := by rw [e]; rfl
  obtain ⟨T1, a1, s1, k1, q1, c1⟩ := pke_number T0 k0 (100 * z) (by omega) c0
  rw [t0.1, q0] at q1
  have t1 := t0.tr s1
  obtain ⟨T2, a2, s2, k2, q2, c2⟩ := pke_kind T1 k1 (100 * z + 12) (by omega) c1
  rw [t1.2.1, q1] at q2
  have t2 := t1.tr s2
  obtain ⟨T3, a3, s3, k3, q3, c3⟩ := pke_figure T2 k2 (100 * z + 24) (by omega) c2
  rw [t2.2.2.1, q2] at q3
  have t3 := t2.tr s3
  obtain ⟨T4, a4, s4, k4, q4, c4⟩ := pke_one T3 k3 (100 * z + 36) (by omega) c3
  rw [t3.2.2.2.1, q3] at q4
  have t4 := t3.tr s4
  obtain ⟨T5, a5, s5, k5, q5, c5⟩ := pke_other T4 k4 (100 * z + 48) (by omega) c4
  rw [t4.2.2.2.2.1, q4] at q5
  have t5 := t4.tr s5
  obtain ⟨T6, a6, s6, k6, q6, c6⟩ := pke_stands T5 k5 (100 * z + 60) (by omega) c5
  rw [t5.2.2.2.2.2.1, q5] at q6
  have t6 := t5.tr s6
  obtain ⟨T7, a7, s7, k7, q7, c7⟩ := pke_uses T6 k6 (100 * z + 72) (by omega) c6
  rw [t6.2.2.2.2.2.2.1, q6] at q7
  have t7 := t6.tr s7
  obtain ⟨T8, a8, s8, k8, q8, c8⟩ := pke_earned T7 k7 (100 * z + 84) (by omega) c7
  rw [t7.2.2.2.2.2.2.2.1, q7] at q8
  have t8 := t7.tr s8
  obtain ⟨T9, a9, s9, k9, q9, c9⟩ := pke_One T8 k8 (100 * z + 96) (by omega) c8 (md_houses T8)
  rw [t8.2.2.2.2.2.2.2.2.1, q8] at q9
  have t9 := t8.tr s9
  obtain ⟨U9, e9⟩ : ∃ U9, U9 = md_set_houses T9 (md_houses T) := ⟨_, rfl⟩
  have t9' : zSame T U9 := by
    obtain ⟨n1, n2, n3, n4, n5, n6, n7, n8, n9, n10, n11, n12⟩ := t9
    rw [e9]; exact ⟨n1, n2, n3, n4, n5, n6, n7, n8, rfl, n10, n11, n12⟩
  have q9' : md_kept U9 = _ := Eq.trans (by rw [e9]; rfl) q9
  obtain ⟨T10, a10, s10, k10, q10, c10⟩ := pke_One U9 (by rw [e9]; exact k9) (100 * z + 97) (by omega) (by rw [e9]; exact c9) (md_sums T9)
  rw [t9.2.2.2.2.2.2.2.2.2.1, q9'] at q10
  have t10 := t9'.tr s10
  obtain ⟨U10, e10⟩ : ∃ U10, U10 = md_set_sums T10 (md_sums T) := ⟨_, rfl⟩
  have t10' : zSame T U10 := by
    obtain ⟨n1, n2, n3, n4, n5, n6, n7, n8, n9, n10, n11, n12⟩ := t10
    rw [e10]; exact ⟨n1, n2, n3, n4, n5, n6, n7, n8, n9, rfl, n11, n12⟩
  have q10' : md_kept U10 = _ := Eq.trans (by rw [e10]; rfl) q10
  obtain ⟨T11, a11, s11, k11, q11, c11⟩ := pke_One U10 (by rw [e10]; exact k10) (100 * z + 98) (by omega) (by rw [e10]; exact c10) (md_falls T10)
  rw [t10.2.2.2.2.2.2.2.2.2.2.1, q10'] at q11
  have t11 := t10'.tr s11
  refine ⟨md_set_falls T11 (md_falls T), ?_, q11, ?_⟩
  · unfold fX8_passesAll
    rw [if_pos (by decide), e0, ← e, a1]
    show (fX8_passes_kind T1).bind _ = _
    rw [a2]
    show (fX8_passes_figure T2).bind _ = _
    rw [a3]
    show (fX8_passes_one T3).bind _ = _
    rw [a4]
    show (fX8_passes_other T4).bind _ = _
    rw [a5]
    show (fX8_passes_stands T5).bind _ = _
    rw [a6]
    show (fX8_passes_uses T6).bind _ = _
    rw [a7]
    show (fX8_passes_earned T7).bind _ = _
    rw [a8]
    show (fX8_passOne T8 (md_houses T8)).bind _ = _
    rw [a9]
    show (fX8_passOne (md_set_houses T9 (md_houses T8)) (md_sums T9)).bind _ = _
    rw [t8.2.2.2.2.2.2.2.2.1, ← e9, a10]
    show (fX8_passOne (md_set_sums T10 (md_sums T9)) (md_falls T10)).bind _ = _
    rw [t9.2.2.2.2.2.2.2.2.2.1, ← e10, a11]
    show some (md_set_falls T11 (md_falls T10)) = _
    rw [t10.2.2.2.2.2.2.2.2.2.2.1]
  · obtain ⟨n1, n2, n3, n4, n5, n6, n7, n8, n9, n10, n11, n12⟩ := t11
    exact ⟨n1, n2, n3, n4, n5, n6, n7, n8, n9, n10, rfl, n12⟩
theorem pAll_load (T : zMd) (z : Nat) (hz : z < 3) : ∃ T', fX8_passesAll T (nI z) 0 = some T' ∧ md_kept T' = md_kept T ∧ SE (zload T (100 * z)) T' ∧ FR T T' := by
  have e0 : (100 : Int32) * nI z = nI (100 * z) := pk_mul 100 z
  obtain ⟨T0, e⟩ : ∃ T0, T0 = md_set_isKeeping (md_set_cursor T (nI (100 * z))) 0 := ⟨_, rfl⟩
  have k0 : md_isKeeping T0 = 0 := by rw [e]; rfl
  have c0 : md_cursor T0 = nI (100 * z) := by rw [e]; rfl
  have q0 : md_kept T0 = md_kept T := by rw [e]; rfl
  have f0 : FR T T0 := by rw [e]; exact ⟨rfl, rfl, rfl, rfl, rfl, rfl, rfl, rfl, rfl, rfl, rfl, rfl⟩
  have n0_1 : md_number T0 = md_number T := by rw [e]; rfl
  have n0_2 : md_kind T0 = md_kind T := by rw [e]; rfl
  have n0_3 : md_figure T0 = md_figure T := by rw [e]; rfl
  have n0_4 : md_one T0 = md_one T := by rw [e]; rfl
  have n0_5 : md_other T0 = md_other T := by rw [e]; rfl
  have n0_6 : md_stands T0 = md_stands T := by rw [e]; rfl
  have n0_7 : md_uses T0 = md_uses T := by rw [e]; rfl
  have n0_8 : md_earned T0 = md_earned T := by rw [e]; rfl
  have n0_9 : md_houses T0 = md_houses T := by rw [e]; rfl
  have n0_10 : md_sums T0 = md_sums T := by rw [e]; rfl
  have n0_11 : md_falls T0 = md_falls T := by rw [e]; rfl
  obtain ⟨T1, a1, ⟨n1_1, n1_2, n1_3, n1_4, n1_5, n1_6, n1_7, n1_8, n1_9, n1_10, n1_11, f1⟩, k1, q1, c1⟩ := ple_number T0 k0 (100 * z) (by omega) c0
  rw [q0] at q1
  have f1 := f0.tr f1
  rw [q0, n0_1] at n1_1
  rw [n0_2] at n1_2
  rw [n0_3] at n1_3
  rw [n0_4] at n1_4
  rw [n0_5] at n1_5
  rw [n0_6] at n1_6
  rw [n0_7] at n1_7
  rw [n0_8] at n1_8
  rw [n0_9] at n1_9
  rw [n0_10] at n1_10
  rw [n0_11] at n1_11
  obtain ⟨T2, a2, ⟨n2_1, n2_2, n2_3, n2_4, n2_5, n2_6, n2_7, n2_8, n2_9, n2_10, n2_11, f2⟩, k2, q2, c2⟩ := ple_kind T1 k1 (100 * z + 12) (by omega) c1
  rw [q1] at q2
  have f2 := f1.tr f2
  rw [n1_1] at n2_1
  rw [q1, n1_2] at n2_2
  rw [n1_3] at n2_3
  rw [n1_4] at n2_4
  rw [n1_5] at n2_5
  rw [n1_6] at n2_6
  rw [n1_7] at n2_7
  rw [n1_8] at n2_8
  rw [n1_9] at n2_9
  rw [n1_10] at n2_10
  rw [n1_11] at n2_11
  obtain ⟨T3, a3, ⟨n3_1, n3_2, n3_3, n3_4, n3_5, n3_6, n3_7, n3_8, n3_9, n3_10, n3_11, f3⟩, k3, q3, c3⟩ := ple_figure T2 k2 (100 * z + 24) (by omega) c2
  rw [q2] at q3
  have f3 := f2.tr f3
  rw [n2_1] at n3_1
  rw [n2_2] at n3_2
  rw [q2, n2_3] at n3_3
  rw [n2_4] at n3_4
  rw [n2_5] at n3_5
  rw [n2_6] at n3_6
  rw [n2_7] at n3_7
  rw [n2_8] at n3_8
  rw [n2_9] at n3_9
  rw [n2_10] at n3_10
  rw [n2_11] at n3_11
  obtain ⟨T4, a4, ⟨n4_1, n4_2, n4_3, n4_4, n4_5, n4_6, n4_7, n4_8, n4_9, n4_10, n4_11, f4⟩, k4, q4, c4⟩ := ple_one T3 k3 (100 * z + 36) (by omega) c3
  rw [q3] at q4
  have f4 := f3.tr f4
  rw [n3_1] at n4_1
  rw [n3_2] at n4_2
  rw [n3_3] at n4_3
  rw [q3, n3_4] at n4_4
  rw [n3_5] at n4_5
  rw [n3_6] at n4_6
  rw [n3_7] at n4_7
  rw [n3_8] at n4_8
  rw [n3_9] at n4_9
  rw [n3_10] at n4_10
  rw [n3_11] at n4_11
  obtain ⟨T5, a5, ⟨n5_1, n5_2, n5_3, n5_4, n5_5, n5_6, n5_7, n5_8, n5_9, n5_10, n5_11, f5⟩, k5, q5, c5⟩ := ple_other T4 k4 (100 * z + 48) (by omega) c4
  rw [q4] at q5
  have f5 := f4.tr f5
  rw [n4_1] at n5_1
  rw [n4_2] at n5_2
  rw [n4_3] at n5_3
  rw [n4_4] at n5_4
  rw [q4, n4_5] at n5_5
  rw [n4_6] at n5_6
  rw [n4_7] at n5_7
  rw [n4_8] at n5_8
  rw [n4_9] at n5_9
  rw [n4_10] at n5_10
  rw [n4_11] at n5_11
  obtain ⟨T6, a6, ⟨n6_1, n6_2, n6_3, n6_4, n6_5, n6_6, n6_7, n6_8, n6_9, n6_10, n6_11, f6⟩, k6, q6, c6⟩ := ple_stands T5 k5 (100 * z + 60) (by omega) c5
  rw [q5] at q6
  have f6 := f5.tr f6
  rw [n5_1] at n6_1
  rw [n5_2] at n6_2
  rw [n5_3] at n6_3
  rw [n5_4] at n6_4
  rw [n5_5] at n6_5
  rw [q5, n5_6] at n6_6
  rw [n5_7] at n6_7
  rw [n5_8] at n6_8
  rw [n5_9] at n6_9
  rw [n5_10] at n6_10
  rw [n5_11] at n6_11
  obtain ⟨T7, a7, ⟨n7_1, n7_2, n7_3, n7_4, n7_5, n7_6, n7_7, n7_8, n7_9, n7_10, n7_11, f7⟩, k7, q7, c7⟩ := ple_uses T6 k6 (100 * z + 72) (by omega) c6
  rw [q6] at q7
  have f7 := f6.tr f7
  rw [n6_1] at n7_1
  rw [n6_2] at n7_2
  rw [n6_3] at n7_3
  rw [n6_4] at n7_4
  rw [n6_5] at n7_5
  rw [n6_6] at n7_6
  rw [q6, n6_7] at n7_7
  rw [n6_8] at n7_8
  rw [n6_9] at n7_9
  rw [n6_10] at n7_10
  rw [n6_11] at n7_11
  obtain ⟨T8, a8, ⟨n8_1, n8_2, n8_3, n8_4, n8_5, n8_6, n8_7, n8_8, n8_9, n8_10, n8_11, f8⟩, k8, q8, c8⟩ := ple_earned T7 k7 (100 * z + 84) (by omega) c7
  rw [q7] at q8
  have f8 := f7.tr f8
  rw [n7_1] at n8_1
  rw [n7_2] at n8_2
  rw [n7_3] at n8_3
  rw [n7_4] at n8_4
  rw [n7_5] at n8_5
  rw [n7_6] at n8_6
  rw [n7_7] at n8_7
  rw [q7, n7_8] at n8_8
  rw [n7_9] at n8_9
  rw [n7_10] at n8_10
  rw [n7_11] at n8_11
  obtain ⟨T9, a9, ⟨n9_1, n9_2, n9_3, n9_4, n9_5, n9_6, n9_7, n9_8, n9_9, n9_10, n9_11, f9⟩, k9, q9, c9⟩ := ple_One T8 k8 (100 * z + 96) (by omega) c8 (md_houses T8)
  rw [q8] at q9 a9
  have f9 := f8.tr f9
  rw [n8_1] at n9_1
  rw [n8_2] at n9_2
  rw [n8_3] at n9_3
  rw [n8_4] at n9_4
  rw [n8_5] at n9_5
  rw [n8_6] at n9_6
  rw [n8_7] at n9_7
  rw [n8_8] at n9_8
  rw [n8_9] at n9_9
  rw [n8_10] at n9_10
  rw [n8_11] at n9_11
  obtain ⟨U9, e9⟩ : ∃ U9, U9 = md_set_houses T9 (md_kept T (100 * z + 96)) := ⟨_, rfl⟩
  obtain ⟨T10, a10, ⟨n10_1, n10_2, n10_3, n10_4, n10_5, n10_6, n10_7, n10_8, n10_9, n10_10, n10_11, f10⟩, k10, q10, c10⟩ := ple_One U9 (by rw [e9]; exact k9) (100 * z + 97) (by omega) (by rw [e9]; exact c9) (md_sums T9)
  have u9 : md_kept U9 = md_kept T := Eq.trans (by rw [e9]; rfl) q9
  rw [u9] at q10 a10
  have f10 := f9.tr (FR.tr (show FR T9 U9 from by rw [e9]; exact ⟨rfl, rfl, rfl, rfl, rfl, rfl, rfl, rfl, rfl, rfl, rfl, rfl⟩) f10)
  have n10_1 := n10_1.trans ((show md_number U9 = md_number T9 from by rw [e9]; rfl).trans n9_1)
  have n10_2 := n10_2.trans ((show md_kind U9 = md_kind T9 from by rw [e9]; rfl).trans n9_2)
  have n10_3 := n10_3.trans ((show md_figure U9 = md_figure T9 from by rw [e9]; rfl).trans n9_3)
  have n10_4 := n10_4.trans ((show md_one U9 = md_one T9 from by rw [e9]; rfl).trans n9_4)
  have n10_5 := n10_5.trans ((show md_other U9 = md_other T9 from by rw [e9]; rfl).trans n9_5)
  have n10_6 := n10_6.trans ((show md_stands U9 = md_stands T9 from by rw [e9]; rfl).trans n9_6)
  have n10_7 := n10_7.trans ((show md_uses U9 = md_uses T9 from by rw [e9]; rfl).trans n9_7)
  have n10_8 := n10_8.trans ((show md_earned U9 = md_earned T9 from by rw [e9]; rfl).trans n9_8)
  have n10_9 := n10_9.trans (show md_houses U9 = md_kept T (100 * z + 96) from by rw [e9]; rfl)
  have n10_10 := n10_10.trans ((show md_sums U9 = md_sums T9 from by rw [e9]; rfl).trans n9_10)
  have n10_11 := n10_11.trans ((show md_falls U9 = md_falls T9 from by rw [e9]; rfl).trans n9_11)
  obtain ⟨U10, e10⟩ : ∃ U10, U10 = md_set_sums T10 (md_kept T (100 * z + 97)) := ⟨_, rfl⟩
  obtain ⟨T11, a11, ⟨n11_1, n11_2, n11_3, n11_4, n11_5, n11_6, n11_7, n11_8, n11_9, n11_10, n11_11, f11⟩, k11, q11, c11⟩ := ple_One U10 (by rw [e10]; exact k10) (100 * z + 98) (by omega) (by rw [e10]; exact c10) (md_falls T10)
  have u10 : md_kept U10 = md_kept T := Eq.trans (by rw [e10]; rfl) q10
  rw [u10] at q11 a11
  have f11 := f10.tr (FR.tr (show FR T10 U10 from by rw [e10]; exact ⟨rfl, rfl, rfl, rfl, rfl, rfl, rfl, rfl, rfl, rfl, rfl, rfl⟩) f11)
  have n11_1 := n11_1.trans ((show md_number U10 = md_number T10 from by rw [e10]; rfl).trans n10_1)
  have n11_2 := n11_2.trans ((show md_kind U10 = md_kind T10 from by rw [e10]; rfl).trans n10_2)
  have n11_3 := n11_3.trans ((show md_figure U10 = md_figure T10 from by rw [e10]; rfl).trans n10_3)
  have n11_4 := n11_4.trans ((show md_one U10 = md_one T10 from by rw [e10]; rfl).trans n10_4)
  have n11_5 := n11_5.trans ((show md_other U10 = md_other T10 from by rw [e10]; rfl).trans n10_5)
  have n11_6 := n11_6.trans ((show md_stands U10 = md_stands T10 from by rw [e10]; rfl).trans n10_6)
  have n11_7 := n11_7.trans ((show md_uses U10 = md_uses T10 from by rw [e10]; rfl).trans n10_7)
  have n11_8 := n11_8.trans ((show md_earned U10 = md_earned T10 from by rw [e10]; rfl).trans n10_8)
  have n11_9 := n11_9.trans ((show md_houses U10 = md_houses T10 from by rw [e10]; rfl).trans n10_9)
  have n11_10 := n11_10.trans (show md_sums U10 = md_kept T (100 * z + 97) from by rw [e10]; rfl)
  have n11_11 := n11_11.trans ((show md_falls U10 = md_falls T10 from by rw [e10]; rfl).trans n10_11)
  refine ⟨md_set_falls T11 (md_kept T (100 * z + 98)), ?_, q11, ⟨fun j _ => ⟨congrFun n11_1 j, congrFun n11_2 j, congrFun n11_3 j, congrFun n11_4 j, congrFun n11_5 j, congrFun n11_6 j, congrFun n11_7 j, congrFun n11_8 j⟩, n11_9, n11_10, rfl⟩, f11⟩
  unfold fX8_passesAll
  rw [if_pos (by decide), e0, ← e, a1]
  show (fX8_passes_kind T1).bind _ = _
  rw [a2]
  show (fX8_passes_figure T2).bind _ = _
  rw [a3]
  show (fX8_passes_one T3).bind _ = _
  rw [a4]
  show (fX8_passes_other T4).bind _ = _
  rw [a5]
  show (fX8_passes_stands T5).bind _ = _
  rw [a6]
  show (fX8_passes_uses T6).bind _ = _
  rw [a7]
  show (fX8_passes_earned T7).bind _ = _
  rw [a8]
  show (fX8_passOne T8 (md_houses T8)).bind _ = _
  rw [a9]
  show (fX8_passOne (md_set_houses T9 (md_kept T (100 * z + 96))) (md_sums T9)).bind _ = _
  rw [← e9, a10]
  show (fX8_passOne (md_set_sums T10 (md_kept T (100 * z + 97))) (md_falls T10)).bind _ = _
  rw [← e10, a11]
  rfl
/-- keeping: what is said of it from here on -/
theorem keep_ok (T : zMd) (z : Nat) (hz : z < 3) : ∃ T', fX8_passesAll T (nI z) 1 = some T' ∧ SE T T' ∧ FR T T' ∧ SE T (zload T' (100 * z)) ∧ ∀ z2, z2 < 3 → z2 ≠ z → SE (zload T (100 * z2)) (zload T' (100 * z2)) := by
  obtain ⟨T', e1, e2, e3⟩ := pAll_keep T z hz
  refine ⟨T', e1, e3.se, e3.2.2.2.2.2.2.2.2.2.2.2, zload_keep e2, fun z2 h2 hne => zload_se (fun j h3 h4 => ?_)⟩
  rw [e2]
  exact zkeep_out T (100 * z) j (by omega)
theorem load_ok (T : zMd) (z : Nat) (hz : z < 3) : ∃ T', fX8_passesAll T (nI z) 0 = some T' ∧ SE (zload T (100 * z)) T' ∧ FR T T' ∧ ∀ cu, SE (zload T cu) (zload T' cu) := by
  obtain ⟨T', e1, e2, e3, e4⟩ := pAll_load T z hz
  exact ⟨T', e1, e3, e4, fun cu => zload_se (fun j _ _ => by rw [e2])⟩
end
section
/-! what falls with what -/
def zpop (w : Nat) : Nat → Nat
  | 0 => 0
  | n + 1 => zpop w n + (if w.testBit n then 1 else 0)
theorem z_bitCount' : ∀ qa, qa < 64 → ∀ qb, qb < 64 → fJ6_bitCount_0f7a4 (nI (64 * qa + qb)) = nI (zpop (64 * qa + qb) 31) := by decide +kernel
theorem z_bitCount : ∀ w, w < 4096 → fJ6_bitCount_0f7a4 (nI w) = nI (zpop w 31) := by
  intro w hw
  have t := z_bitCount' (w / 64) (by omega) (w % 64) (by omega)
  rw [show 64 * (w / 64) + w % 64 = w from by omega] at t
  exact t
theorem zpop_le (w : Nat) : ∀ n, zpop w n ≤ n := by
  intro n
  induction n with
  | zero => exact Nat.le_refl _
  | succ n ih =>
    rw [zpop]
    by_cases h : w.testBit n
    · rw [if_pos h]; omega
    · rw [if_neg h]; omega
theorem bits_l (w : Nat) (hw : w < 4096) : ∀ d i k, i + d = 31 → d < k → fX8_bits_l4 (nI w) k (nI (zpop w i)) (nI i) = some (nI (zpop w 31)) := by
  intro d
  induction d with
  | zero =>
    intro i k hi hk
    obtain ⟨k, rfl⟩ : ∃ k', k = k' + 1 := ⟨k - 1, by omega⟩
    have e : i = 31 := by omega
    subst e
    rw [fX8_bits_l4, if_pos (by decide)]
  | succ d ih =>
    intro i k hi hk
    obtain ⟨k, rfl⟩ : ∃ k', k = k' + 1 := ⟨k - 1, by omega⟩
    rw [fX8_bits_l4, if_neg (show ¬ (31 : Int32) ≤ nI i from nI_ge (b := 31) (by omega) (by omega)), z_bit (by omega) (by omega), nI_1]
    have e : nI (zpop w i) + zbit w i = nI (zpop w (i + 1)) := by
      rw [zpop]
      unfold zbit
      by_cases h : w.testBit i
      · rw [if_pos h, if_pos h, nI_1]
      · simp only [if_neg h]
        exact nI_add _ 0
    rw [e]
    exact ih (i + 1) k (by omega) (by omega)
theorem bits_eq {w : Nat} (hw : w < 4096) : fX8_bits (nI w) = some (nI (zpop w 31)) :=
  bits_l w hw 31 0 FU (by omega) (FU_big _ (by omega))
theorem z_orbit {w i : Nat} (hw : w < 4096) (hi : i < 12) : nI (w % 2 ^ i) ||| (zbit w i <<< (nI i &&& 31)) = nI (w % 2 ^ (i + 1)) := by
  have p2 : 2 ^ i < 2 ^ 12 := Nat.pow_lt_pow_right (by omega) (by omega)
  have p1 : 0 < 2 ^ i := Nat.pow_pos (by omega)
  have m1 : w % 2 ^ i < 2 ^ i := Nat.mod_lt _ p1
  have e : zbit w i <<< (nI i &&& 31) = nI (if w.testBit i then 2 ^ i else 0) := by
    unfold zbit
    by_cases h : w.testBit i
    · rw [if_pos h, if_pos h, z_one (by omega)]
    · rw [if_neg h, if_neg h, z_and31 i (by omega)]
      apply Int32.toBitVec_inj.mp
      apply BitVec.eq_of_toNat_eq
      rw [pk_shl (0 : Int32) (nI i) i (z_sm i (by omega)), pk_tn (by omega)]
      show 0 * 2 ^ i % 2 ^ 32 = 0
      rw [Nat.zero_mul, Nat.zero_mod]
  rw [e, z_or (by omega) (by by_cases h : w.testBit i <;> simp [h] <;> omega)]
  congr 1
  apply Nat.eq_of_testBit_eq
  intro j
  rw [Nat.testBit_or, Nat.testBit_mod_two_pow, Nat.testBit_mod_two_pow]
  by_cases h : w.testBit i
  · rw [if_pos h, Nat.testBit_two_pow]
    by_cases ej : j = i
    · subst ej; simp [h]
    · have n1 : ¬ i = j := fun q => ej q.symm
      have n2 : (j < i + 1) = (j < i) := by simp; omega
      simp [n1, n2]
  · rw [if_neg h, Nat.zero_testBit]
    by_cases ej : j = i
    · subst ej; simp [h]
    · have n2 : (j < i + 1) = (j < i) := by simp; omega
      simp [n2]
theorem standing_l {c w : Nat} {T : zMd} (hc : c ≤ 12) (hh : md_houses T = nI c) (hw : w < 2 ^ c) (hs : ∀ h, h < c → md_stands T h = zbit w h) : ∀ d i k, i + d = c → d < k → fX8_standing_l4 T k (nI (w % 2 ^ i)) (nI i) = some (nI w) := by
  have hw12 : w < 4096 := Nat.lt_of_lt_of_le hw (Nat.pow_le_pow_right (by omega) hc)
  intro d
  induction d with
  | zero =>
    intro i k hi hk
    obtain ⟨k, rfl⟩ : ∃ k', k = k' + 1 := ⟨k - 1, by omega⟩
    have e : i = c := by omega
    subst e
    rw [fX8_standing_l4, hh, if_pos (nI_le (by omega) (by omega)), Nat.mod_eq_of_lt hw]
  | succ d ih =>
    intro i k hi hk
    obtain ⟨k, rfl⟩ : ∃ k', k = k' + 1 := ⟨k - 1, by omega⟩
    rw [fX8_standing_l4, hh, if_neg (nI_ge (by omega) (by omega)), ix_nI (by omega) (by omega), nI_clamp (by omega), hs i (by omega), z_orbit hw12 (by omega), nI_1]
    exact ih (i + 1) k (by omega) (by omega)
theorem standing_eq {c w : Nat} {T : zMd} (hc : c ≤ 12) (hh : md_houses T = nI c) (hw : w < 2 ^ c) (hs : ∀ h, h < c → md_stands T h = zbit w h) : fX8_standing T = some (nI w) := by
  have := standing_l hc hh hw hs c 0 FU (by omega) (FU_big _ (by omega))
  rw [Nat.pow_zero, Nat.mod_one] at this
  exact this
/-- the houses below h looked at once, upwards -/
def zG (T : zMd) (x : Nat) : Nat → Nat
  | 0 => x
  | h + 1 => if h ≠ 0 ∧ (md_falls T = 1 ∨ md_kind T h = 5) ∧ ¬ ((zG T x h).testBit (md_one T h).toNatClampNeg = true ∧ (zG T x h).testBit (md_other T h).toNatClampNeg = true) then zclr (zG T x h) h else zG T x h
theorem zG_le (T : zMd) (x : Nat) : ∀ h, zG T x h ≤ x := by
  intro h
  induction h with
  | zero => exact Nat.le_refl _
  | succ h ih =>
    rw [zG]
    split
    · exact Nat.le_trans (zclr_le _ _) ih
    · exact ih
theorem zG_tb (T : zMd) (x : Nat) : ∀ h i, i < 32 → i ≠ h → (zG T x (h + 1)).testBit i = (zG T x h).testBit i := by
  intro h i hi hne
  rw [zG]
  split
  · rw [zclr_tb _ _ _ hi]
    have : ¬ h = i := fun q => hne q.symm
    simp [this]
  · rfl
theorem zG_low (T : zMd) (x : Nat) : ∀ h2 h i, i < 32 → i < h → h ≤ h2 → (zG T x h2).testBit i = (zG T x h).testBit i := by
  intro h2
  induction h2 with
  | zero => intro h i _ hi hh; omega
  | succ h2 ih =>
    intro h i h32 hi hh
    by_cases e : h = h2 + 1
    · subst e; rfl
    · rw [zG_tb T x h2 i h32 (by omega)]
      exact ih h i h32 hi (by omega)
theorem zG_sub (T : zMd) (x : Nat) : ∀ h i, i < 32 → (zG T x h).testBit i = true → x.testBit i = true := by
  intro h
  induction h with
  | zero => intro i _ q; exact q
  | succ h ih =>
    intro i hi q
    rw [zG] at q
    split at q
    · rw [zclr_tb _ _ _ hi] at q
      simp at q
      exact ih i hi q.1
    · exact ih i hi q
theorem zclr_not {w a : Nat} (hw : w < 2 ^ 31) (h : w.testBit a = false) : zclr w a = w := by
  apply Nat.eq_of_testBit_eq
  intro j
  by_cases hj : j < 32
  · rw [zclr_tb _ _ _ hj]
    by_cases e : a = j
    · subst e; simp [h]
    · simp [e]
  · unfold zclr
    rw [Nat.testBit_and]
    have : w.testBit j = false := Nat.testBit_lt_two_pow (Nat.lt_of_lt_of_le hw (Nat.pow_le_pow_right (by omega) (by omega)))
    simp [this]
section SRf
variable {c w : Nat} {S : zSt} {T : zMd}
/-- a house's two, as places -/
theorem SR.ab (h : SR c w S T) {j : Nat} (hj : j < c) (h0 : j ≠ 0) : ∃ a b, a < j ∧ b < j ∧ md_one T j = nI a ∧ md_other T j = nI b ∧ (md_one T j).toNatClampNeg = a ∧ (md_other T j).toNatClampNeg = b := by
  have hc := h.c
  rcases h.two j hj with ⟨e, -⟩ | ⟨a, b, ha, hb, ea, eb⟩
  · exact absurd e h0
  · exact ⟨a, b, ha, hb, ea, eb, by rw [ea]; exact nI_clamp (by omega), by rw [eb]; exact nI_clamp (by omega)⟩
theorem fallsWith_l (h : SR c w S T) {x : Nat} (hx : x < 4096) : ∀ d i k, i + d = c → 1 ≤ i → d < k → fX5_fallsWith_l23 S k (nI (zG T x i)) (nI i) = some (nI w &&& (nI (zG T x c) ^^^ (-1 : Int32))) := by
  have hc := h.c
  intro d
  induction d with
  | zero =>
    intro i k hi h1 hk
    obtain ⟨k, rfl⟩ : ∃ k', k = k' + 1 := ⟨k - 1, by omega⟩
    have e : i = c := by omega
    subst e
    rw [fX5_fallsWith_l23, h.came, if_pos (nI_le (by omega) (by omega)), h.st]
  | succ d ih =>
    intro i k hi h1 hk
    obtain ⟨k, rfl⟩ : ∃ k', k = k' + 1 := ⟨k - 1, by omega⟩
    have a := h.arr i (by omega)
    obtain ⟨p, q, hp, hq, ep, eq, fp, fq⟩ := h.ab (j := i) (by omega) (by omega)
    have hg := zG_le T x i
    have step : fX5_fallsWith_j54 S (nI (zG T x i)) (nI i) 1 (fX5_fallsWith_l23 S k) = fX5_fallsWith_l23 S k (nI (if (zG T x i).testBit p = true ∧ (zG T x i).testBit q = true then zG T x i else zclr (zG T x i) i)) (nI (i + 1)) := by
      unfold fX5_fallsWith_j54 fX5_fallsWith_j87
      rw [if_neg (by decide), ix_nI (by omega) (by omega), nI_clamp (by omega), a.2.2.2.1, a.2.2.2.2.1, ep, eq, isIn_nI (by omega) (by omega), isIn_nI (by omega) (by omega), z_clr (by omega) (by omega), nI_1]
      by_cases t1 : (zG T x i).testBit p = true
      · rw [if_neg (fun z => by rw [zbit1.mpr t1] at z; exact absurd z (by decide))]
        by_cases t2 : (zG T x i).testBit q = true
        · rw [if_neg (fun z => by rw [zbit1.mpr t2] at z; exact absurd z (by decide)), if_pos ⟨t1, t2⟩]
        · rw [if_pos (zbit0.mpr (by simpa using t2)), if_neg (fun z => t2 z.2)]
      · rw [if_pos (zbit0.mpr (by simpa using t1)), if_neg (fun z => t1 z.1)]
    have nx := ih (i + 1) k (by omega) (by omega) (by omega)
    have hz : zG T x (i + 1) = if md_falls T = 1 ∨ md_kind T i = 5 then (if (zG T x i).testBit p = true ∧ (zG T x i).testBit q = true then zG T x i else zclr (zG T x i) i) else zG T x i := by
      rw [zG, fp, fq]
      by_cases u : md_falls T = 1 ∨ md_kind T i = 5
      · rw [if_pos u]
        by_cases v : (zG T x i).testBit p = true ∧ (zG T x i).testBit q = true
        · rw [if_pos v, if_neg (fun z => z.2.2 v)]
        · rw [if_neg v, if_pos ⟨by omega, u, v⟩]
      · rw [if_neg u, if_neg (fun z => u z.2.1)]
    rw [fX5_fallsWith_l23, h.came, if_neg (nI_ge (by omega) (by omega)), h.falls]
    rw [hz] at nx
    by_cases f1 : md_falls T = 1
    · rw [if_pos f1]
      unfold fX5_fallsWith_j49
      rw [step]
      rw [if_pos (Or.inl f1)] at nx
      exact nx
    · rw [if_neg f1, ix_nI (by omega) (by omega), nI_clamp (by omega), a.1]
      by_cases f2 : md_kind T i = 5
      · rw [if_pos f2]
        unfold fX5_fallsWith_j49
        rw [step]
        rw [if_pos (Or.inr f2)] at nx
        exact nx
      · rw [if_neg f2]
        rw [if_neg (fun z => z.elim f1 f2)] at nx
        unfold fX5_fallsWith_j54
        rw [if_pos rfl, nI_1]
        exact nx
theorem fallsWith_in (h : SR c w S T) {j : Nat} (hj : j < c) (hs : w.testBit j = true) : fX5_fallsWith S (nI j) = some (nI w &&& (nI (zG T (zclr w j) c) ^^^ (-1 : Int32))) := by
  have hc := h.c
  have hw := h.w12
  have hl := zclr_le w j
  unfold fX5_fallsWith
  rw [stands_in h hj, zbit1.mpr hs, if_neg (by decide), h.st, z_clr (by omega) (by omega)]
  exact fallsWith_l h (x := zclr w j) (by omega) (c - 1) 1 FU (by have := h.c1; omega) (by omega) (FU_big _ (by omega))
/-- once through the houses in the reference -/
theorem burns_in (h : SR c w S T) (k9 : Int32 → zMd → Option zMd) {x : Nat} (hx : x < 4096) : ∀ d i k g Y, i + d = c → d < k → (g = 0 ∨ g = 1) → (∀ h, h < c → Y h = zbit (zG T x i) h) → ∃ g' Y', (g' = 0 ∨ g' = 1) ∧ (∀ h, h < c → Y' h = zbit (zG T x c) h) ∧ fX8_burns_l17 k9 k g (nI i) (md_set_stands T Y) = k9 g' (md_set_stands T Y') := by
  have hc := h.c
  intro d
  induction d with
  | zero =>
    intro i k g Y hi hk hg hY
    obtain ⟨k, rfl⟩ : ∃ k', k = k' + 1 := ⟨k - 1, by omega⟩
    have e : i = c := by omega
    subst e
    refine ⟨g, Y, hg, hY, ?_⟩
    rw [fX8_burns_l17]
    show (if md_houses T ≤ nI i then _ else _) = _
    rw [h.houses, if_pos (nI_le (by omega) (by omega))]
  | succ d ih =>
    intro i k g Y hi hk hg hY
    obtain ⟨k, rfl⟩ : ∃ k', k = k' + 1 := ⟨k - 1, by omega⟩
    have gl := zG_le T x i
    have fw : ∃ r : Int32, fX8_fallsWith (md_set_stands T Y) (nI i) = some r ∧ ((r = 0 ∧ zG T x (i + 1) = zG T x i) ∨ (r = 1 ∧ zG T x (i + 1) = zclr (zG T x i) i)) := by
      unfold fX8_fallsWith
      rw [ix_nI (by omega) (by omega), nI_clamp (by omega)]
      show ∃ r : Int32, (if Y i = 1 then if md_falls T = 1 then fX8_fallsWith_j28 (md_set_stands T Y) (nI i) else if md_kind T i = 5 then fX8_fallsWith_j28 (md_set_stands T Y) (nI i) else some 0 else some 0) = some r ∧ _
      rw [hY i (by omega)]
      by_cases b : (zG T x i).testBit i = true
      · rw [if_pos (zbit1.mpr b)]
        have j28 : ∃ r : Int32, fX8_fallsWith_j28 (md_set_stands T Y) (nI i) = some r ∧ ((r = 0 ∧ (i = 0 ∨ ((zG T x i).testBit (md_one T i).toNatClampNeg = true ∧ (zG T x i).testBit (md_other T i).toNatClampNeg = true))) ∨ (r = 1 ∧ i ≠ 0 ∧ ¬ ((zG T x i).testBit (md_one T i).toNatClampNeg = true ∧ (zG T x i).testBit (md_other T i).toNatClampNeg = true))) := by
          unfold fX8_fallsWith_j28
          rw [ix_nI (by omega) (by omega), nI_clamp (by omega)]
          show ∃ r : Int32, (fX8_hasFallen (md_set_stands T Y) (md_one T i)).bind _ = some r ∧ _
          rcases h.two i (by omega) with ⟨e0, e1, e2⟩ | ⟨p, q, hp, hq, ep, eq⟩
          · refine ⟨0, ?_, Or.inl ⟨rfl, Or.inl e0⟩⟩
            rw [e1]
            show (fX8_hasFallen (md_set_stands T Y) (md_other T i)).bind _ = _
            rw [e2]
            rfl
          · have hf : ∀ p, p < i → fX8_hasFallen (md_set_stands T Y) (nI p) = some (if (zG T x i).testBit p = true then 0 else 1) := by
              intro p hp
              unfold fX8_hasFallen
              rw [if_neg (nI_pos (by omega)), ix_nI (by omega) (by omega), nI_clamp (by omega)]
              show (if Y p = 0 then some (1 : Int32) else some 0) = _
              rw [hY p (by omega)]
              by_cases t : (zG T x i).testBit p = true
              · rw [if_pos t, zbit1.mpr t]; rfl
              · rw [if_neg t, zbit0.mpr (by simpa using t)]; rfl
            rw [ep, hf p hp, nI_clamp (by omega)]
            by_cases t1 : (zG T x i).testBit p = true
            · rw [if_pos t1]
              show ∃ r : Int32, (fX8_hasFallen (md_set_stands T Y) (md_other T i)).bind _ = some r ∧ _
              rw [eq, hf q hq, nI_clamp (by omega)]
              by_cases t2 : (zG T x i).testBit q = true
              · rw [if_pos t2]
                exact ⟨0, rfl, Or.inl ⟨rfl, Or.inr ⟨t1, t2⟩⟩⟩
              · rw [if_neg t2]
                exact ⟨1, rfl, Or.inr ⟨rfl, by omega, fun z => t2 z.2⟩⟩
            · rw [if_neg t1]
              exact ⟨1, rfl, Or.inr ⟨rfl, by omega, fun z => t1 z.1⟩⟩
        obtain ⟨r, er, hr⟩ := j28
        by_cases u : md_falls T = 1 ∨ md_kind T i = 5
        · refine ⟨r, ?_, ?_⟩
          · by_cases f1 : md_falls T = 1
            · rw [if_pos f1]; exact er
            · rw [if_neg f1, if_pos (u.resolve_left f1)]; exact er
          · rw [zG]
            rcases hr with ⟨r0, z⟩ | ⟨r1, z0, z⟩
            · refine Or.inl ⟨r0, if_neg (fun y => ?_)⟩
              rcases z with z | z
              · exact y.1 z
              · exact y.2.2 z
            · exact Or.inr ⟨r1, if_pos ⟨z0, u, z⟩⟩
        · refine ⟨0, ?_, Or.inl ⟨rfl, ?_⟩⟩
          · rw [if_neg (fun f => u (Or.inl f)), if_neg (fun f => u (Or.inr f))]
          · rw [zG, if_neg (fun y => u y.2.1)]
      · have b' : (zG T x i).testBit i = false := by simpa using b
        rw [zbit0.mpr b', if_neg (by decide)]
        refine ⟨0, rfl, Or.inl ⟨rfl, ?_⟩⟩
        rw [zG]
        split
        · exact zclr_not (by omega) b'
        · rfl
    obtain ⟨r, er, hr⟩ := fw
    rw [fX8_burns_l17]
    show ∃ g' Y', _ ∧ _ ∧ (if md_houses T ≤ nI i then _ else (fX8_fallsWith (md_set_stands T Y) (nI i)).bind _) = _
    rw [h.houses, if_neg (nI_ge (by omega) (by omega)), er, nI_1]
    rcases hr with ⟨rfl, ez⟩ | ⟨rfl, ez⟩
    · show ∃ g' Y', _ ∧ _ ∧ fX8_burns_l17 k9 k g (nI (i + 1)) (md_set_stands T Y) = _
      exact ih (i + 1) k g Y (by omega) (by omega) hg (by rw [ez]; exact hY)
    · show ∃ g' Y', _ ∧ _ ∧ ix 12 (nI i) (fX8_burns_l17 k9 k 1 (nI (i + 1)) (md_set_stands T (upd Y (nI i).toNatClampNeg 0))) = _
      rw [ix_nI (by omega) (by omega), nI_clamp (by omega)]
      refine ih (i + 1) k 1 (upd Y i 0) (by omega) (by omega) (Or.inr rfl) (fun j hj => ?_)
      rw [ez, zbit_clr _ _ _ (by omega), upd_at, hY j hj]
/-- a pass that finds nothing -/
theorem burns_ok (h : SR c w S T) (k9 : Int32 → zMd → Option zMd) {x : Nat} (hx : x < 4096) (Y : Nat → Int32) (hY : ∀ h, h < c → Y h = zbit (zG T x c) h) : ∀ d i k g, i + d = c → d < k → fX8_burns_l17 k9 k g (nI i) (md_set_stands T Y) = k9 g (md_set_stands T Y) := by
  have hc := h.c
  have gl := zG_le T x c
  intro d
  induction d with
  | zero =>
    intro i k g hi hk
    obtain ⟨k, rfl⟩ : ∃ k', k = k' + 1 := ⟨k - 1, by omega⟩
    have e : i = c := by omega
    subst e
    rw [fX8_burns_l17]
    show (if md_houses T ≤ nI i then _ else _) = _
    rw [h.houses, if_pos (nI_le (by omega) (by omega))]
  | succ d ih =>
    intro i k g hi hk
    obtain ⟨k, rfl⟩ : ∃ k', k = k' + 1 := ⟨k - 1, by omega⟩
    have fw : fX8_fallsWith (md_set_stands T Y) (nI i) = some 0 := by
      unfold fX8_fallsWith
      rw [ix_nI (by omega) (by omega), nI_clamp (by omega)]
      show (if Y i = 1 then if md_falls T = 1 then fX8_fallsWith_j28 (md_set_stands T Y) (nI i) else if md_kind T i = 5 then fX8_fallsWith_j28 (md_set_stands T Y) (nI i) else some 0 else some 0) = some 0
      rw [hY i (by omega)]
      by_cases b : (zG T x c).testBit i = true
      · rw [if_pos (zbit1.mpr b)]
        have j28 : (md_falls T = 1 ∨ md_kind T i = 5) → fX8_fallsWith_j28 (md_set_stands T Y) (nI i) = some 0 := by
          intro u
          unfold fX8_fallsWith_j28
          rw [ix_nI (by omega) (by omega), nI_clamp (by omega)]
          show (fX8_hasFallen (md_set_stands T Y) (md_one T i)).bind _ = _
          rcases h.two i (by omega) with ⟨e0, e1, e2⟩ | ⟨p, q, hp, hq, ep, eq⟩
          · rw [e1]
            show (fX8_hasFallen (md_set_stands T Y) (md_other T i)).bind _ = _
            rw [e2]
            rfl
          · have b2 : (zG T x (i + 1)).testBit i = true := by rw [← zG_low T x c (i + 1) i (by omega) (by omega) (by omega)]; exact b
            have two : (zG T x i).testBit p = true ∧ (zG T x i).testBit q = true := by
              rw [zG, ep, eq, nI_clamp (by omega), nI_clamp (by omega)] at b2
              by_cases v : (zG T x i).testBit p = true ∧ (zG T x i).testBit q = true
              · exact v
              · rw [if_pos ⟨by omega, u, v⟩, zclr_tb _ _ _ (by omega)] at b2
                simp at b2
            have hf : ∀ p, p < i → (zG T x i).testBit p = true → fX8_hasFallen (md_set_stands T Y) (nI p) = some 0 := by
              intro p hp t
              unfold fX8_hasFallen
              rw [if_neg (nI_pos (by omega)), ix_nI (by omega) (by omega), nI_clamp (by omega)]
              show (if Y p = 0 then some (1 : Int32) else some 0) = _
              rw [hY p (by omega), zbit1.mpr (by rw [zG_low T x c i p (by omega) hp (by omega)]; exact t)]
              rfl
            rw [ep, hf p hp two.1]
            show (fX8_hasFallen (md_set_stands T Y) (md_other T i)).bind _ = _
            rw [eq, hf q hq two.2]
            rfl
        by_cases f1 : md_falls T = 1
        · rw [if_pos f1]; exact j28 (Or.inl f1)
        · rw [if_neg f1]
          by_cases f2 : md_kind T i = 5
          · rw [if_pos f2]; exact j28 (Or.inr f2)
          · rw [if_neg f2]
      · rw [zbit0.mpr (by simpa using b), if_neg (by decide)]
    rw [fX8_burns_l17]
    show (if md_houses T ≤ nI i then _ else (fX8_fallsWith (md_set_stands T Y) (nI i)).bind _) = _
    rw [h.houses, if_neg (nI_ge (by omega) (by omega)), fw, nI_1]
    exact ih (i + 1) k g (by omega) (by omega)
theorem burns_eq (h : SR c w S T) {j : Nat} (hj : j < c) : ∃ Y, (∀ h, h < c → Y h = zbit (zG T (zclr w j) c) h) ∧ fX8_burns T (nI j) = some (md_set_stands T Y) := by
  have hc := h.c
  have hw := h.w12
  have hl := zclr_le w j
  have e1 : ∃ f, FU = f + 3 := ⟨FU - 3, by unfold FU; omega⟩
  obtain ⟨f, ef⟩ := e1
  have hf : 1000 < f := by have : FU = 1000000000000000000000000000000000000000000000000000000000000 := rfl; omega
  unfold fX8_burns
  rw [ix_nI (by omega) (by omega), nI_clamp (by omega)]
  have h0 : ∀ h, h < c → upd (md_stands T) j 0 h = zbit (zG T (zclr w j) 0) h := by
    intro i hi
    show _ = zbit (zclr w j) i
    rw [zbit_clr _ _ _ (by omega), upd_at, (h.arr i hi).2.2.2.2.2.2.2]
  obtain ⟨g', Y', hg', hY', e⟩ := burns_in h (fX8_burns_l9 (f + 2)) (x := zclr w j) (by omega) c 0 FU 0 _ (by omega) (FU_big _ (by omega)) (Or.inl rfl) h0
  refine ⟨Y', hY', ?_⟩
  have e2 : fX8_burns_l9 FU 1 (md_set_stands T (upd (md_stands T) j 0)) = fX8_burns_l17 (fX8_burns_l9 (f + 2)) FU 0 0 (md_set_stands T (upd (md_stands T) j 0)) := by
    conv => lhs; rw [ef]
    rw [fX8_burns_l9, if_neg (by decide)]
  rw [e2]
  refine Eq.trans e ?_
  rcases hg' with rfl | rfl
  · rw [fX8_burns_l9, if_pos rfl]
  · rw [fX8_burns_l9, if_neg (by decide)]
    have := burns_ok h (fX8_burns_l9 (f + 1)) (x := zclr w j) (by omega) Y' hY' c 0 FU 0 (by omega) (FU_big _ (by omega))
    refine Eq.trans this ?_
    rw [fX8_burns_l9, if_pos rfl]
end SRf
end
section
/-! the whole states: one relation; the plain calls -/
def RT (M : zMn) (T : zMd) : Prop :=
  (∃ c w, SR c w (mn_live M) T) ∧
  (mn_isKept M = md_hasImage T ∧ (md_hasImage T = 0 ∨ (md_hasImage T = 1 ∧ ∃ c w, SR c w (mn_kept M) (zload T 0)))) ∧
  (∃ k, k ≤ 64 ∧ lt_length (mn_letters M) = nI k ∧ md_taped T = nI k ∧ ∀ i, i < k → lt_all (mn_letters M) i = md_tape T i) ∧
  (∃ k, k ≤ 12 ∧ rw_length (mn_told M) = nI k ∧ md_rowMany T = nI k ∧ ∀ i, i < k → rw_all (mn_told M) i = md_row T i) ∧
  (∀ i, i < 7 → mn_refusals M i = md_refused T i) ∧
  ch_numbers (mn_chains M) 0 = 1
theorem SR.of {c w : Nat} {S : zSt} {T T' : zMd} (h : SR c w S T) (e : md_number T' = md_number T ∧ md_kind T' = md_kind T ∧ md_figure T' = md_figure T ∧ md_one T' = md_one T ∧ md_other T' = md_other T ∧ md_stands T' = md_stands T ∧ md_uses T' = md_uses T ∧ md_earned T' = md_earned T ∧ md_houses T' = md_houses T ∧ md_sums T' = md_sums T ∧ md_falls T' = md_falls T) : SR c w S T' := by
  obtain ⟨a1, a2, a3, a4, a5, a6, a7, a8, a9, a10, a11⟩ := e
  exact h.se ⟨fun j _ => ⟨by rw [a1], by rw [a2], by rw [a3], by rw [a4], by rw [a5], by rw [a6], by rw [a7], by rw [a8]⟩, a9, a10, a11⟩
theorem RT.of {M M' : zMn} {T T' : zMd} (h : RT M T) (m1 : mn_live M' = mn_live M) (m2 : mn_isKept M' = mn_isKept M) (m3 : mn_kept M' = mn_kept M) (m4 : mn_chains M' = mn_chains M)
    (e : md_number T' = md_number T ∧ md_kind T' = md_kind T ∧ md_figure T' = md_figure T ∧ md_one T' = md_one T ∧ md_other T' = md_other T ∧ md_stands T' = md_stands T ∧ md_uses T' = md_uses T ∧ md_earned T' = md_earned T ∧ md_houses T' = md_houses T ∧ md_sums T' = md_sums T ∧ md_falls T' = md_falls T) (ek : md_kept T' = md_kept T) (ei : md_hasImage T' = md_hasImage T)
    (h3 : ∃ k, k ≤ 64 ∧ lt_length (mn_letters M') = nI k ∧ md_taped T' = nI k ∧ ∀ i, i < k → lt_all (mn_letters M') i = md_tape T' i)
    (h4 : ∃ k, k ≤ 12 ∧ rw_length (mn_told M') = nI k ∧ md_rowMany T' = nI k ∧ ∀ i, i < k → rw_all (mn_told M') i = md_row T' i)
    (h5 : ∀ i, i < 7 → mn_refusals M' i = md_refused T' i) : RT M' T' := by
  obtain ⟨⟨c, w, g1⟩, ⟨g2, g3⟩, -, -, -, g6⟩ := h
  refine ⟨⟨c, w, ?_⟩, ⟨?_, ?_⟩, h3, h4, h5, ?_⟩
  · rw [m1]; exact g1.of e
  · rw [m2, ei]; exact g2
  · rw [ei, m3]
    rcases g3 with z | ⟨z, c', w', z2⟩
    · exact Or.inl z
    · exact Or.inr ⟨z, c', w', z2.se (zload_se (fun j _ _ => by rw [ek]))⟩
  · rw [m4]; exact g6
theorem refuse_ok {M : zMn} {T : zMd} (h : RT M T) (r : Int32) (k : Nat) (hk : k < 7) (e : -r = nI k) (e1 : ¬ 0 ≤ r) (e2 : ¬ r ≤ (-7 : Int32)) : ∃ M' T', fX7_refuse M r = some (r, M') ∧ fX8_no T r = some (r, T') ∧ RT M' T' := by
  obtain ⟨h1, h2, h3, h4, h5, h6⟩ := h
  refine ⟨mn_set_refusals M (upd (mn_refusals M) k (mn_refusals M k + 1)), md_set_refused T (upd (md_refused T) k (md_refused T k + 1)), ?_, ?_, ?_⟩
  · unfold fX7_refuse
    rw [if_neg e1, if_neg e2, e, ix_nI hk (by omega), nI_clamp (by omega)]
  · unfold fX8_no
    rw [e, ix_nI hk (by omega), nI_clamp (by omega)]
  · refine ⟨h1, h2, h3, h4, fun i hi => ?_, h6⟩
    show upd _ _ _ i = upd _ _ _ i
    rw [upd_at, upd_at, h5 i hi, h5 k hk]
theorem refuse_1 {M : zMn} {T : zMd} (h : RT M T) : ∃ M' T', fX7_refuse M (-1) = some (-1, M') ∧ fX8_no T (-1) = some (-1, T') ∧ RT M' T' := refuse_ok h (-1) 1 (by omega) (by decide) (by decide) (by decide)
theorem refuse_2 {M : zMn} {T : zMd} (h : RT M T) : ∃ M' T', fX7_refuse M (-2) = some (-2, M') ∧ fX8_no T (-2) = some (-2, T') ∧ RT M' T' := refuse_ok h (-2) 2 (by omega) (by decide) (by decide) (by decide)
theorem refuse_3 {M : zMn} {T : zMd} (h : RT M T) : ∃ M' T', fX7_refuse M (-3) = some (-3, M') ∧ fX8_no T (-3) = some (-3, T') ∧ RT M' T' := refuse_ok h (-3) 3 (by omega) (by decide) (by decide) (by decide)
theorem refuse_4 {M : zMn} {T : zMd} (h : RT M T) : ∃ M' T', fX7_refuse M (-4) = some (-4, M') ∧ fX8_no T (-4) = some (-4, T') ∧ RT M' T' := refuse_ok h (-4) 4 (by omega) (by decide) (by decide) (by decide)
theorem refuse_6 {M : zMn} {T : zMd} (h : RT M T) : ∃ M' T', fX7_refuse M (-6) = some (-6, M') ∧ fX8_no T (-6) = some (-6, T') ∧ RT M' T' := refuse_ok h (-6) 6 (by omega) (by decide) (by decide) (by decide)
/-- a bound: the refusal, or 0 -/
theorem bound_cases (x : Int32) (a b : Int32) : fX8_bound x a b = fX7_outside x a b := rfl
theorem outside_3 (x : Int32) (a b : Nat) (ha : a < 2 ^ 31) (hb : b < 2 ^ 31) : (fX7_outside x (nI a) (nI b) = -4) ∨ (fX7_outside x (nI a) (nI b) = -6) ∨ (fX7_outside x (nI a) (nI b) = 0 ∧ ∃ n, a ≤ n ∧ n ≤ b ∧ x = nI n) := by
  unfold fX7_outside
  by_cases h1 : nI a ≤ x
  · rw [if_pos h1]
    by_cases h2 : x ≤ nI b
    · rw [if_pos h2]
      refine Or.inr (Or.inr ⟨rfl, ?_⟩)
      have p1 := Int32.le_iff_toInt_le.mp h1
      have p2 := Int32.le_iff_toInt_le.mp h2
      rw [nI_toInt ha] at p1
      rw [nI_toInt hb] at p2
      refine ⟨x.toInt.toNat, by omega, by omega, ?_⟩
      apply Int32.toInt_inj.mp
      rw [nI_toInt (by omega)]
      omega
    · rw [if_neg h2]
      exact Or.inr (Or.inl rfl)
  · rw [if_neg h1]
    exact Or.inl rfl
theorem two_3 (x : Int32) : (fX7_isOneOfTwo x = 0 ∧ fX8_isIn x 0 1 = 0) ∨ (fX7_isOneOfTwo x = 1 ∧ fX8_isIn x 0 1 = 1 ∧ (x = 0 ∨ x = 1)) := by
  unfold fX7_isOneOfTwo fX8_isIn
  by_cases h0 : x = 0
  · subst h0; exact Or.inr ⟨by decide, by decide, Or.inl rfl⟩
  · by_cases h1 : x = 1
    · subst h1; exact Or.inr ⟨by decide, by decide, Or.inr rfl⟩
    · left
      refine ⟨by rw [if_neg h0, if_neg h1], ?_⟩
      by_cases h2 : x < 0
      · rw [if_pos h2]
      · rw [if_neg h2, if_pos]
        have a1 : x.toInt ≠ 0 := fun q => h0 (Int32.toInt_inj.mp q)
        have a2 : x.toInt ≠ 1 := fun q => h1 (Int32.toInt_inj.mp q)
        have a3 : ¬ x.toInt < 0 := fun q => h2 (Int32.lt_iff_toInt_lt.mpr q)
        rw [Int32.lt_iff_toInt_lt]
        show (1 : Int) < x.toInt
        omega
theorem sim_feed : zSim_feed RT := by
  intro M T p h
  have hr := h
  obtain ⟨h1, h2, ⟨k, hk, ek, ek2, hs⟩, h4, h5, h6⟩ := h
  unfold fX7_feed fX8_feed
  rw [ek2]
  rcases outside_3 p 0 255 (by omega) (by omega) with e | e | ⟨e, n, -, hn, rfl⟩
  · have e0 : ¬ (0 : Int32) ≤ p := by
      intro q
      have e' : fX7_outside p 0 255 = -4 := e
      unfold fX7_outside at e'
      rw [if_pos q] at e'
      by_cases q2 : p ≤ 255
      · rw [if_pos q2] at e'; exact absurd e' (by decide)
      · rw [if_neg q2] at e'; exact absurd e' (by decide)
    obtain ⟨M', T', a, b, c⟩ := refuse_4 hr
    refine ⟨-4, M', T', ?_, ?_, c⟩
    · rw [if_neg e0, a]; rfl
    · have e' : fX8_bound p 0 255 = -4 := e
      rw [e', if_neg (by decide)]
      unfold fX8_feed_j25
      rw [if_neg (by decide), b]; rfl
  · have e0 : (0 : Int32) ≤ p ∧ (255 : Int32) < p := by
      have e' : fX7_outside p 0 255 = -6 := e
      unfold fX7_outside at e'
      by_cases q : (0 : Int32) ≤ p
      · rw [if_pos q] at e'
        by_cases q2 : p ≤ 255
        · rw [if_pos q2] at e'; exact absurd e' (by decide)
        · exact ⟨q, Int32.not_le.mp q2⟩
      · rw [if_neg q] at e'; exact absurd e' (by decide)
    obtain ⟨M', T', a, b, c⟩ := refuse_6 hr
    refine ⟨-6, M', T', ?_, ?_, c⟩
    · rw [if_pos e0.1, if_pos e0.2]
      unfold fX7_feed_j28
      rw [a]; rfl
    · have e' : fX8_bound p 0 255 = -6 := e
      rw [e', if_neg (by decide)]
      unfold fX8_feed_j25
      rw [if_neg (by decide), b]; rfl
  · have e' : fX8_bound (nI n) 0 255 = 0 := e
    have g0 : (0 : Int32) ≤ nI n := nI_pos' (by omega)
    have g1 : ¬ (255 : Int32) < nI n := nI_nlt (b := n) (a := 255) hn (by omega)
    rw [if_pos g0, if_neg g1, e', if_pos rfl]
    by_cases q : k = 64
    · subst q
      have e6 : fX6_hasRoom_L (mn_letters M) = 0 := by
        unfold fX6_hasRoom_L
        rw [ek]; decide
      obtain ⟨M', T', a, b, c⟩ := refuse_6 hr
      refine ⟨-6, M', T', ?_, ?_, c⟩
      · rw [e6, if_pos rfl]
        unfold fX7_feed_j28
        rw [a]; rfl
      · rw [if_pos (by decide)]
        unfold fX8_feed_j25
        rw [if_neg (by decide), b]; rfl
    · have e6 : fX6_hasRoom_L (mn_letters M) = 1 := by
        unfold fX6_hasRoom_L
        rw [ek, if_neg (show ¬ (64 : Int32) ≤ nI k from nI_ge (b := 64) (by omega) (by omega))]
      have e7 : ¬ nI k = 64 := fun z => q ((nI_eq (b := 64) (by omega) (by omega)).mp z)
      refine ⟨nI (k + 1), mn_set_letters M (lt_set_length (lt_set_all (mn_letters M) (upd (lt_all (mn_letters M)) k (nI n))) (nI (k + 1))), md_set_taped (md_set_tape T (upd (md_tape T) k (nI n))) (nI (k + 1)), ?_, ?_, ?_⟩
      · rw [e6, if_neg (by decide)]
        unfold fX6_take_L
        rw [e6, if_neg (by decide), ek, ix_nI (by omega) (by omega), nI_clamp (by omega), nI_1]
        rfl
      · rw [if_neg e7]
        unfold fX8_feed_j25
        rw [if_pos rfl, ek2, ix_nI (by omega) (by omega), nI_clamp (by omega), nI_1]
      · refine RT.of hr rfl rfl rfl rfl ⟨rfl, rfl, rfl, rfl, rfl, rfl, rfl, rfl, rfl, rfl, rfl⟩ rfl rfl ⟨k + 1, by omega, rfl, rfl, fun i hi => ?_⟩ h4 h5
        show upd _ _ _ i = upd _ _ _ i
        rw [upd_at, upd_at]
        by_cases z : i = k
        · simp only [if_pos z]
        · rw [if_neg z, if_neg z, hs i (by omega)]
theorem sim_row : zSim_row RT := by
  intro M T p h
  have hr := h
  obtain ⟨h1, h2, h3, ⟨k, hk, ek, ek2, hs⟩, h5, h6⟩ := h
  unfold fX7_row fX8_row
  rw [ek2]
  have e0 : fX8_bound p 1 9999 = fX7_outside p 1 9999 := rfl
  rw [e0]
  rcases outside_3 p 1 9999 (by omega) (by omega) with e | e | ⟨e, n, hn1, hn, rfl⟩
  · have e' : fX7_outside p 1 9999 = -4 := e
    obtain ⟨M', T', a, b, c⟩ := refuse_4 hr
    refine ⟨-4, M', T', ?_, ?_, c⟩
    · rw [e', if_neg (by decide)]
      unfold fX7_row_j26
      rw [if_neg (by decide), a]; rfl
    · rw [e', if_neg (by decide)]
      unfold fX8_row_j25
      rw [if_neg (by decide), b]; rfl
  · have e' : fX7_outside p 1 9999 = -6 := e
    obtain ⟨M', T', a, b, c⟩ := refuse_6 hr
    refine ⟨-6, M', T', ?_, ?_, c⟩
    · rw [e', if_neg (by decide)]
      unfold fX7_row_j26
      rw [if_neg (by decide), a]; rfl
    · rw [e', if_neg (by decide)]
      unfold fX8_row_j25
      rw [if_neg (by decide), b]; rfl
  · have e' : fX7_outside (nI n) 1 9999 = 0 := e
    rw [e', if_pos rfl, if_pos rfl]
    by_cases q : k = 12
    · subst q
      have e6 : fX6_hasRoom_R (mn_told M) = 0 := by
        unfold fX6_hasRoom_R
        rw [ek]; decide
      obtain ⟨M', T', a, b, c⟩ := refuse_6 hr
      refine ⟨-6, M', T', ?_, ?_, c⟩
      · rw [e6, if_pos rfl]
        unfold fX7_row_j26
        rw [if_neg (by decide), a]; rfl
      · rw [if_pos (by decide)]
        unfold fX8_row_j25
        rw [if_neg (by decide), b]; rfl
    · have e6 : fX6_hasRoom_R (mn_told M) = 1 := by
        unfold fX6_hasRoom_R
        rw [ek, if_neg (show ¬ (12 : Int32) ≤ nI k from nI_ge (b := 12) (by omega) (by omega))]
      have e7 : ¬ nI k = 12 := fun z => q ((nI_eq (b := 12) (by omega) (by omega)).mp z)
      refine ⟨nI (k + 1), mn_set_told M (rw_set_length (rw_set_all (mn_told M) (upd (rw_all (mn_told M)) k (nI n))) (nI (k + 1))), md_set_rowMany (md_set_row T (upd (md_row T) k (nI n))) (nI (k + 1)), ?_, ?_, ?_⟩
      · rw [e6, if_neg (by decide)]
        unfold fX7_row_j26
        rw [if_pos rfl]
        unfold fX6_take_R
        rw [e6, if_neg (by decide), ek, ix_nI (by omega) (by omega), nI_clamp (by omega), nI_1]
        rfl
      · rw [if_neg e7]
        unfold fX8_row_j25
        rw [if_pos rfl, ek2, ix_nI (by omega) (by omega), nI_clamp (by omega), nI_1]
      · refine RT.of hr rfl rfl rfl rfl ⟨rfl, rfl, rfl, rfl, rfl, rfl, rfl, rfl, rfl, rfl, rfl⟩ rfl rfl h3 ⟨k + 1, by omega, rfl, rfl, fun i hi => ?_⟩ h5
        show upd _ _ _ i = upd _ _ _ i
        rw [upd_at, upd_at]
        by_cases z : i = k
        · simp only [if_pos z]
        · rw [if_neg z, if_neg z, hs i (by omega)]
theorem sim_house : zSim_house RT := by
  intro M T p q h
  have hr := h
  obtain ⟨⟨c, w, hs⟩, -⟩ := h
  have hc := hs.c
  unfold fX7_house fX8_house
  by_cases ho : p < 0 ∨ nI c ≤ p
  · obtain ⟨M', T', a, b, e⟩ := refuse_1 hr
    refine ⟨-1, M', T', ?_, ?_, e⟩
    · rw [has_out hs ho, if_pos rfl, a]; rfl
    · rw [isHouse_out hs ho]
      repeat rw [Option.bind_some]
      rw [if_pos (show (0 : Int32) = 0 from rfl), b]; rfl
  · obtain ⟨j, hj, rfl⟩ : ∃ j, j < c ∧ p = nI j := by
      rcases pk_ix p (n := c) (by omega) with z | z | z
      · exact absurd (Or.inl z) ho
      · exact absurd (Or.inr z) ho
      · exact z
    have a := hs.arr j hj
    rw [has_in hs hj, if_neg (by decide), isHouse_in hs hj]
    repeat rw [Option.bind_some]
    rw [if_neg (show ¬ (1 : Int32) = 0 from by decide)]
    unfold fX5_tell
    rw [has_in hs hj, if_neg (show ¬ (1 : Int32) = 0 from by decide)]
    have i12 : ∀ k : Option Int32, ix 12 (nI j) k = k := fun k => ix_nI (by omega) (by omega)
    have i12' : ∀ k : Option (Int32 × zMd), ix 12 (nI j) k = k := fun k => ix_nI (by omega) (by omega)
    have cl : (nI j).toNatClampNeg = j := nI_clamp (by omega)
    simp only [i12, i12', cl, hs.st, isIn_nI (show w < 2 ^ 31 from by have := hs.w12; omega) (show j < 12 from by omega)]
    by_cases e0 : q = 0
    · subst e0
      refine ⟨md_kind T j, M, T, ?_, ?_, hr⟩
      · rw [if_neg (by decide), if_pos (by decide), if_pos rfl, a.1]; rfl
      · rw [if_pos rfl]
    by_cases e1 : q = 1
    · subst e1
      refine ⟨md_figure T j, M, T, ?_, ?_, hr⟩
      · rw [if_neg (by decide), if_pos (by decide), if_neg (by decide), if_pos rfl, a.2.1]; rfl
      · rw [if_neg (by decide), if_pos rfl]
    by_cases e2 : q = 2
    · subst e2
      refine ⟨md_number T j, M, T, ?_, ?_, hr⟩
      · rw [if_neg (by decide), if_pos (by decide), if_neg (by decide), if_neg (by decide), if_pos rfl, a.2.2.1]; rfl
      · rw [if_neg (by decide), if_neg (by decide), if_pos rfl]
    by_cases e3 : q = 3
    · subst e3
      refine ⟨md_one T j, M, T, ?_, ?_, hr⟩
      · rw [if_neg (by decide), if_pos (by decide), if_neg (by decide), if_neg (by decide), if_neg (by decide), if_pos rfl, a.2.2.2.1]; rfl
      · rw [if_neg (by decide), if_neg (by decide), if_neg (by decide), if_pos rfl]
    by_cases e4 : q = 4
    · subst e4
      refine ⟨md_other T j, M, T, ?_, ?_, hr⟩
      · rw [if_neg (by decide), if_pos (by decide), if_neg (by decide), if_neg (by decide), if_neg (by decide), if_neg (by decide), if_pos rfl, a.2.2.2.2.1]; rfl
      · rw [if_neg (by decide), if_neg (by decide), if_neg (by decide), if_neg (by decide), if_pos rfl]
    by_cases e5 : q = 5
    · subst e5
      refine ⟨md_stands T j, M, T, ?_, ?_, hr⟩
      · rw [if_neg (by decide), if_pos (by decide), if_neg (by decide), if_neg (by decide), if_neg (by decide), if_neg (by decide), if_neg (by decide), if_pos rfl, a.2.2.2.2.2.2.2]
        rcases zbit01 w j with z | z
        · rw [z]; rfl
        · rw [z]; rfl
      · rw [if_neg (by decide), if_neg (by decide), if_neg (by decide), if_neg (by decide), if_neg (by decide), if_pos rfl]
    by_cases e6 : q = 6
    · subst e6
      refine ⟨md_uses T j, M, T, ?_, ?_, hr⟩
      · rw [if_neg (by decide), if_pos (by decide), if_neg (by decide), if_neg (by decide), if_neg (by decide), if_neg (by decide), if_neg (by decide), if_neg (by decide), if_pos rfl, a.2.2.2.2.2.1]; rfl
      · rw [if_neg (by decide), if_neg (by decide), if_neg (by decide), if_neg (by decide), if_neg (by decide), if_neg (by decide), if_pos rfl]
    by_cases e7 : q = 7
    · subst e7
      refine ⟨md_earned T j, M, T, ?_, ?_, hr⟩
      · rw [if_neg (by decide), if_pos (by decide), if_neg (by decide), if_neg (by decide), if_neg (by decide), if_neg (by decide), if_neg (by decide), if_neg (by decide), if_neg (by decide), if_pos rfl, a.2.2.2.2.2.2.1]; rfl
      · rw [if_neg (by decide), if_neg (by decide), if_neg (by decide), if_neg (by decide), if_neg (by decide), if_neg (by decide), if_neg (by decide), if_pos rfl]
    have n0 : q.toInt ≠ 0 := fun z => e0 (Int32.toInt_inj.mp z)
    have n1 : q.toInt ≠ 1 := fun z => e1 (Int32.toInt_inj.mp z)
    have n2 : q.toInt ≠ 2 := fun z => e2 (Int32.toInt_inj.mp z)
    have n3 : q.toInt ≠ 3 := fun z => e3 (Int32.toInt_inj.mp z)
    have n4 : q.toInt ≠ 4 := fun z => e4 (Int32.toInt_inj.mp z)
    have n5 : q.toInt ≠ 5 := fun z => e5 (Int32.toInt_inj.mp z)
    have n6 : q.toInt ≠ 6 := fun z => e6 (Int32.toInt_inj.mp z)
    have n7 : q.toInt ≠ 7 := fun z => e7 (Int32.toInt_inj.mp z)
    obtain ⟨M', T', x, y, z⟩ := refuse_2 hr
    refine ⟨-2, M', T', ?_, ?_, z⟩
    · by_cases g : q < 0
      · rw [if_pos g]
        unfold fX7_house_j27
        rw [x]; rfl
      · rw [if_neg g, if_neg]
        · unfold fX7_house_j27
          rw [x]; rfl
        · rw [Int32.le_iff_toInt_le]
          have g2 : ¬ q.toInt < 0 := fun t => g (Int32.lt_iff_toInt_lt.mpr t)
          show ¬ q.toInt ≤ (7 : Int)
          omega
    · rw [if_neg e0, if_neg e1, if_neg e2, if_neg e3, if_neg e4, if_neg e5, if_neg e6, if_neg e7, y]; rfl
theorem in_of {c : Nat} (hc : c ≤ 12) {p : Int32} (ho : ¬ (p < 0 ∨ nI c ≤ p)) : ∃ j, j < c ∧ p = nI j := by
  rcases pk_ix p (n := c) (by omega) with z | z | z
  · exact absurd (Or.inl z) ho
  · exact absurd (Or.inr z) ho
  · exact z
theorem z_tbN' (s n : Nat) : (s.testBit n = false) ∨ (s.testBit n = true) := by
  cases s.testBit n
  · exact Or.inl rfl
  · exact Or.inr rfl
theorem sim_may : zSim_may RT := by
  intro M T p q h
  have hr := h
  obtain ⟨⟨c, w, hs⟩, -⟩ := h
  have hc := hs.c
  have no1 : (fX7_may_j22 M, fX8_may_j16 p q T) = (fX7_may_j22 M, fX8_may_j16 p q T) := rfl
  have R1 : ∃ r M' T', fX7_may_j22 M = some (r, M') ∧ fX8_may_j16 p q T = some (r, T') ∧ RT M' T' := by
    obtain ⟨M', T', a, b, e⟩ := refuse_1 hr
    refine ⟨-1, M', T', ?_, ?_, e⟩
    · unfold fX7_may_j22; rw [a]; rfl
    · unfold fX8_may_j16 fX8_may_j42
      rw [if_neg (by decide), b]; rfl
  have R3 : ∃ r M' T', fX7_may_j50 M = some (r, M') ∧ fX8_may_j36 p q T = some (r, T') ∧ RT M' T' := by
    obtain ⟨M', T', a, b, e⟩ := refuse_3 hr
    refine ⟨-3, M', T', ?_, ?_, e⟩
    · unfold fX7_may_j50; rw [a]; rfl
    · unfold fX8_may_j36 fX8_may_j42
      rw [if_neg (by decide), b]; rfl
  unfold fX7_may fX8_may
  by_cases ho : p < 0 ∨ nI c ≤ p
  · rw [has_out hs ho, if_pos rfl, isHouse_out hs ho]
    exact R1
  obtain ⟨a, ha, rfl⟩ := in_of hc ho
  rw [has_in hs ha, if_neg (by decide), isHouse_in hs ha]
  repeat rw [Option.bind_some]
  rw [if_neg (show ¬ (1 : Int32) = 0 from by decide)]
  by_cases ho2 : q < 0 ∨ nI c ≤ q
  · rw [has_out hs ho2, if_pos rfl, isHouse_out hs ho2]
    exact R1
  obtain ⟨b, hb, rfl⟩ := in_of hc ho2
  rw [has_in hs hb, if_neg (by decide), isHouse_in hs hb, stands_in hs ha, stands_in hs hb, doesStand_in hs ha, doesStand_in hs hb]
  repeat rw [Option.bind_some]
  rw [if_neg (show ¬ (1 : Int32) = 0 from by decide)]
  by_cases sa : w.testBit a = true
  · have na : ¬ zbit w a = 0 := fun z => by rw [zbit1.mpr sa] at z; exact absurd z (by decide)
    by_cases sb : w.testBit b = true
    · have nb : ¬ zbit w b = 0 := fun z => by rw [zbit1.mpr sb] at z; exact absurd z (by decide)
      simp only [if_neg na, if_neg nb]
      obtain ⟨r, hr2, e1, e2, -⟩ := mayBe_std hs ha hb sa sb
      unfold fX8_may_j42
      rw [if_pos rfl, e1, e2]
      rcases hr2 with rfl | rfl
      · exact ⟨0, M, T, rfl, rfl, hr⟩
      · exact ⟨1, M, T, rfl, rfl, hr⟩
    · have nb : zbit w b = 0 := zbit0.mpr ((z_tbN' w b).resolve_right sb)
      simp only [if_neg na, if_pos nb]
      exact R3
  · have na : zbit w a = 0 := zbit0.mpr ((z_tbN' w a).resolve_right sa)
    simp only [if_pos na]
    exact R3
theorem sim_cost : zSim_cost RT := by
  intro M T p q h
  have hr := h
  obtain ⟨⟨c, w, hs⟩, -⟩ := h
  have hc := hs.c
  have R1 : ∃ r M' T', fX7_cost_j22 M = some (r, M') ∧ fX8_cost_j16 p q T = some (r, T') ∧ RT M' T' := by
    obtain ⟨M', T', a, b, e⟩ := refuse_1 hr
    refine ⟨-1, M', T', ?_, ?_, e⟩
    · unfold fX7_cost_j22; rw [a]; rfl
    · unfold fX8_cost_j16 fX8_cost_j35
      rw [if_neg (by decide), b]; rfl
  unfold fX7_cost fX8_cost
  by_cases ho : p < 0 ∨ nI c ≤ p
  · rw [has_out hs ho, if_pos rfl, isHouse_out hs ho]
    exact R1
  obtain ⟨a, ha, rfl⟩ := in_of hc ho
  rw [has_in hs ha, if_neg (by decide), isHouse_in hs ha]
  repeat rw [Option.bind_some]
  rw [if_neg (show ¬ (1 : Int32) = 0 from by decide)]
  by_cases ho2 : q < 0 ∨ nI c ≤ q
  · rw [has_out hs ho2, if_pos rfl, isHouse_out hs ho2]
    exact R1
  obtain ⟨b, hb, rfl⟩ := in_of hc ho2
  rw [has_in hs hb, if_neg (by decide), isHouse_in hs hb]
  repeat rw [Option.bind_some]
  obtain ⟨r, hr2, e1, e2, -⟩ := canBe_eq hs ha hb
  rw [if_neg (by decide), e1, e2]
  rcases hr2 with rfl | rfl
  · obtain ⟨M', T', x, y, z⟩ := refuse_3 hr
    refine ⟨-3, M', T', ?_, ?_, z⟩
    · repeat rw [Option.bind_some]
      rw [if_pos (show (0 : Int32) = 0 from rfl), x]; rfl
    · repeat rw [Option.bind_some]
      rw [if_pos (show (0 : Int32) = 0 from rfl)]
      unfold fX8_cost_j35
      rw [if_neg (by decide), y]; rfl
  · obtain ⟨fa, x1, x2⟩ := fee_eq hs ha
    obtain ⟨fb, y1, y2⟩ := fee_eq hs hb
    refine ⟨fa + fb, M, T, ?_, ?_, hr⟩
    · repeat rw [Option.bind_some]
      rw [if_neg (show ¬ (1 : Int32) = 0 from by decide), x1, y1]; rfl
    · repeat rw [Option.bind_some]
      rw [if_neg (show ¬ (1 : Int32) = 0 from by decide)]
      unfold fX8_cost_j35
      rw [if_pos rfl, x2, y2]; rfl
/-- the live street changes, all else stays -/
theorem RT.live {M : zMn} {T T' : zMd} (h : RT M T) {S' : zSt} {c w : Nat} (hs : SR c w S' T') (hf : FR T T') (hk : ∀ j, j < 99 → md_kept T' j = md_kept T j) : RT (mn_set_live M S') T' := by
  obtain ⟨h1, ⟨h2, h2'⟩, ⟨k, x1, x2, x3, x4⟩, ⟨k2, y1, y2, y3, y4⟩, h5, h6⟩ := h
  obtain ⟨f1, f2, f3, f4, f5, f6, f7, f8, f9, f10, f11, f12⟩ := hf
  refine ⟨⟨c, w, hs⟩, ⟨h2.trans f10.symm, ?_⟩, ⟨k, x1, x2, f6.trans x3, fun i hi => (x4 i hi).trans (by rw [f2])⟩, ⟨k2, y1, y2, f12.trans y3, fun i hi => (y4 i hi).trans (by rw [f11])⟩, fun i hi => (h5 i hi).trans (by rw [f1]), h6⟩
  rcases h2' with z | ⟨z, c', w', z2⟩
  · exact Or.inl (f10.trans z)
  · exact Or.inr ⟨f10.trans z, c', w', z2.se (zload_se (fun j _ hj => hk j (by omega)))⟩
end
section
/-! laws, new houses, fires -/
theorem j70_no {M : zMn} {v a b : Int32} (h : fX5_changeLaws (mn_live M) a b = (0, mn_live M)) : fX7_law_j70 v a b M = (fX7_refuse M (-2)).bind fun u3 => some (u3.1, u3.2) := by
  unfold fX7_law_j70
  rw [h]
  exact if_pos rfl
theorem j70_yes {M : zMn} {S' : zSt} {v a b : Int32} (h : fX5_changeLaws (mn_live M) a b = (1, S')) : fX7_law_j70 v a b M = some (v, mn_set_live M S') := by
  unfold fX7_law_j70
  rw [h]
  exact if_neg (show ¬ (1 : Int32) = 0 from by decide)
theorem l20_no {T : zMd} {v1 v2 t0 t1 t2 : Int32} (h : fX8_isIn t0 t1 t2 = 0) : fX8_law_j20 v1 v2 t0 t1 t2 T = fX8_law_j26 T := by
  unfold fX8_law_j20
  rw [if_pos h]
theorem l20_0 {T : zMd} {q : Int32} (h : fX8_isIn q 0 2 = 1) : fX8_law_j20 0 q q 0 2 T = some (md_sums T, md_set_sums T q) := by
  unfold fX8_law_j20 fX8_law_j48
  rw [h, if_neg (show ¬ (1 : Int32) = 0 from by decide), if_pos rfl, if_pos rfl]
theorem l20_1 {T : zMd} {q : Int32} (h : fX8_isIn q 0 1 = 1) : fX8_law_j20 1 q q 0 1 T = some (md_falls T, md_set_falls T q) := by
  unfold fX8_law_j20 fX8_law_j48
  rw [h, if_neg (show ¬ (1 : Int32) = 0 from by decide), if_neg (show ¬ (1 : Int32) = 0 from by decide), if_neg (show ¬ (1 : Int32) = 0 from by decide)]
theorem isIn_cs (q b : Int32) : ((q < 0 ∨ b < q) ∧ fX8_isIn q 0 b = 0) ∨ ((¬ q < 0 ∧ ¬ b < q) ∧ fX8_isIn q 0 b = 1) := by
  unfold fX8_isIn
  by_cases g : q < 0
  · rw [if_pos g]; exact Or.inl ⟨Or.inl g, rfl⟩
  · rw [if_neg g]
    by_cases g2 : b < q
    · rw [if_pos g2]; exact Or.inl ⟨Or.inr g2, rfl⟩
    · rw [if_neg g2]; exact Or.inr ⟨⟨g, g2⟩, rfl⟩
theorem cl_no {S : zSt} {a b : Int32} (h : (a < 0 ∨ (2 : Int32) < a) ∨ (b < 0 ∨ (1 : Int32) < b)) : fX5_changeLaws S a b = (0, S) := by
  unfold fX5_changeLaws
  by_cases g1 : a < 0
  · rw [if_pos g1]
  · rw [if_neg g1]
    by_cases g2 : (2 : Int32) < a
    · rw [if_pos g2]
    · rw [if_neg g2]
      by_cases g3 : b < 0
      · rw [if_pos g3]
      · rw [if_neg g3]
        rcases h with (z | z) | (z | z)
        · exact absurd z g1
        · exact absurd z g2
        · exact absurd z g3
        · rw [if_neg (Int32.not_le.mpr z)]
theorem cl_yes {S : zSt} {a b : Int32} (h : (¬ a < 0 ∧ ¬ (2 : Int32) < a) ∧ (¬ b < 0 ∧ ¬ (1 : Int32) < b)) : fX5_changeLaws S a b = (1, st_set_falls (st_set_sums S a) b) := by
  unfold fX5_changeLaws
  rw [if_neg h.1.1, if_neg h.1.2, if_neg h.2.1, if_pos (Int32.not_lt.mp h.2.2)]
theorem law3 {q : Int32} (h : ¬ q < 0 ∧ ¬ (2 : Int32) < q) : q = 0 ∨ q = 1 ∨ q = 2 := by
  have b1 : ¬ q.toInt < 0 := fun t => h.1 (Int32.lt_iff_toInt_lt.mpr t)
  have b2 : ¬ (2 : Int) < q.toInt := fun t => h.2 (Int32.lt_iff_toInt_lt.mpr t)
  rcases (show q.toInt = 0 ∨ q.toInt = 1 ∨ q.toInt = 2 by omega) with z | z | z
  · exact Or.inl (Int32.toInt_inj.mp z)
  · exact Or.inr (Or.inl (Int32.toInt_inj.mp z))
  · exact Or.inr (Or.inr (Int32.toInt_inj.mp z))
theorem law2 {q : Int32} (h : ¬ q < 0 ∧ ¬ (1 : Int32) < q) : q = 0 ∨ q = 1 := by
  have b1 : ¬ q.toInt < 0 := fun t => h.1 (Int32.lt_iff_toInt_lt.mpr t)
  have b2 : ¬ (1 : Int) < q.toInt := fun t => h.2 (Int32.lt_iff_toInt_lt.mpr t)
  rcases (show q.toInt = 0 ∨ q.toInt = 1 by omega) with z | z
  · exact Or.inl (Int32.toInt_inj.mp z)
  · exact Or.inr (Int32.toInt_inj.mp z)
theorem SR.laws {c w : Nat} {S : zSt} {T : zMd} (h : SR c w S T) {a b : Int32} (ha : a = 0 ∨ a = 1 ∨ a = 2) (hb : b = 0 ∨ b = 1) : SR c w (st_set_falls (st_set_sums S a) b) (md_set_falls (md_set_sums T a) b) := by
  obtain ⟨s1, s2, s3, s4, s5, s6, -, -, s9⟩ := h
  exact ⟨s1, s2, s3, s4, s5, s6, ⟨rfl, ha⟩, ⟨rfl, hb⟩, s9⟩
theorem sim_law : zSim_law RT := by
  intro M T p q h
  have hr := h
  obtain ⟨⟨c, w, hs⟩, -⟩ := h
  obtain ⟨s1, s2, s3, s4, s5, s6, ⟨s7, s7'⟩, ⟨s8, s8'⟩, s9⟩ := hs
  have hs : SR c w (mn_live M) T := ⟨s1, s2, s3, s4, s5, s6, ⟨s7, s7'⟩, ⟨s8, s8'⟩, s9⟩
  have R2 : ∃ r M' T', fX7_law_j9 M = some (r, M') ∧ fX8_law_j26 T = some (r, T') ∧ RT M' T' := by
    obtain ⟨M', T', a, b, e⟩ := refuse_2 hr
    refine ⟨-2, M', T', ?_, ?_, e⟩
    · unfold fX7_law_j9; rw [a]; rfl
    · unfold fX8_law_j26; rw [b]; rfl
  have R2' : ∃ r M' T', ((fX7_refuse M (-2)).bind fun u3 => some (u3.1, u3.2)) = some (r, M') ∧ fX8_law_j26 T = some (r, T') ∧ RT M' T' := by
    obtain ⟨M', T', a, b, e⟩ := refuse_2 hr
    refine ⟨-2, M', T', ?_, ?_, e⟩
    · rw [a]; rfl
    · unfold fX8_law_j26; rw [b]; rfl
  unfold fX7_law fX8_law
  rcases two_3 p with ⟨e1, e2⟩ | ⟨e1, e2, e3⟩
  · rw [e2, if_pos rfl]
    unfold fX8_isIn at e2
    by_cases g : p < 0
    · rw [if_pos g]; exact R2
    · rw [if_neg g] at e2 ⊢
      by_cases g2 : (1 : Int32) < p
      · rw [if_neg (Int32.not_le.mpr g2)]; exact R2
      · rw [if_neg g2] at e2; exact absurd e2 (by decide)
  · rw [e2, if_neg (show ¬ (1 : Int32) = 0 from by decide)]
    rcases e3 with rfl | rfl
    · have c1 : fX7_law_j37 0 q (fX5_sumsLaw (mn_live M)) M = fX7_law_j70 (fX5_sumsLaw (mn_live M)) q (fX5_fallsLaw (mn_live M)) M := by
        unfold fX7_law_j37 fX7_law_j53
        rw [if_pos rfl, if_pos rfl]
      rw [if_neg (show ¬ (0 : Int32) < 0 from by decide), if_pos (show (0 : Int32) ≤ 1 from by decide), if_pos rfl, c1]
      have ef : fX5_fallsLaw (mn_live M) = md_falls T := s8
      have es : fX5_sumsLaw (mn_live M) = md_sums T := s7
      have f0 : ¬ md_falls T < 0 ∧ ¬ (1 : Int32) < md_falls T := by rcases s8' with z | z <;> rw [z] <;> decide
      rw [ef, es, if_pos rfl]
      rcases isIn_cs q 2 with ⟨g, e⟩ | ⟨g, e⟩
      · rw [l20_no e, j70_no (cl_no (Or.inl g))]; exact R2'
      · rw [l20_0 e, j70_yes (cl_yes ⟨g, f0⟩)]
        have hl := hs.laws (law3 g) s8'
        exact ⟨_, _, _, rfl, rfl, hr.live hl ⟨rfl, rfl, rfl, rfl, rfl, rfl, rfl, rfl, rfl, rfl, rfl, rfl⟩ (fun _ _ => rfl)⟩
    · have c1 : fX7_law_j37 1 q (fX5_fallsLaw (mn_live M)) M = fX7_law_j70 (fX5_fallsLaw (mn_live M)) (fX5_sumsLaw (mn_live M)) q M := by
        unfold fX7_law_j37 fX7_law_j53
        rw [if_neg (show ¬ (1 : Int32) = 0 from by decide), if_neg (show ¬ (1 : Int32) = 0 from by decide)]
      rw [if_neg (show ¬ (1 : Int32) < 0 from by decide), if_pos (show (1 : Int32) ≤ 1 from by decide), if_neg (show ¬ (1 : Int32) = 0 from by decide), c1]
      have ef : fX5_fallsLaw (mn_live M) = md_falls T := s8
      have es : fX5_sumsLaw (mn_live M) = md_sums T := s7
      have f0 : ¬ md_sums T < 0 ∧ ¬ (2 : Int32) < md_sums T := by rcases s7' with z | z | z <;> rw [z] <;> decide
      rw [ef, es, if_neg (show ¬ (1 : Int32) = 0 from by decide)]
      rcases isIn_cs q 1 with ⟨g, e⟩ | ⟨g, e⟩
      · rw [l20_no e, j70_no (cl_no (Or.inr g))]; exact R2'
      · rw [l20_1 e, j70_yes (cl_yes ⟨f0, g⟩)]
        have hl := hs.laws s7' (law2 g)
        exact ⟨_, _, _, rfl, rfl, hr.live hl ⟨rfl, rfl, rfl, rfl, rfl, rfl, rfl, rfl, rfl, rfl, rfl, rfl⟩ (fun _ _ => rfl)⟩
theorem sim_add : zSim_add RT := by
  intro M T p q k f h
  have hr := h
  obtain ⟨⟨c, w, hs⟩, -⟩ := h
  have hc := hs.c
  have R1 : ∃ r M' T', fX7_add_j22 M = some (r, M') ∧ fX8_add_j16 p q k f T = some (r, T') ∧ RT M' T' := by
    obtain ⟨M', T', a, b, e⟩ := refuse_1 hr
    refine ⟨-1, M', T', ?_, ?_, e⟩
    · unfold fX7_add_j22; rw [a]; rfl
    · unfold fX8_add_j16 fX8_add_j42 fX8_add_j80
      rw [if_neg (by decide), if_neg (by decide), b]; rfl
  unfold fX7_add fX8_add
  by_cases ho : p < 0 ∨ nI c ≤ p
  · rw [has_out hs ho, if_pos rfl, isHouse_out hs ho]
    exact R1
  obtain ⟨a, ha, rfl⟩ := in_of hc ho
  rw [has_in hs ha, if_neg (by decide), isHouse_in hs ha]
  repeat rw [Option.bind_some]
  rw [if_neg (show ¬ (1 : Int32) = 0 from by decide)]
  by_cases ho2 : q < 0 ∨ nI c ≤ q
  · rw [has_out hs ho2, if_pos rfl, isHouse_out hs ho2]
    exact R1
  obtain ⟨b, hb, rfl⟩ := in_of hc ho2
  rw [has_in hs hb, if_neg (by decide), isHouse_in hs hb]
  repeat rw [Option.bind_some]
  rw [if_neg (show ¬ (1 : Int32) = 0 from by decide)]
  have ek : fX8_isIn k 0 5 = fX5_isKind k := rfl
  rw [ek]
  have k01 : fX5_isKind k = 0 ∨ fX5_isKind k = 1 := by
    unfold fX5_isKind
    by_cases g : k < 0
    · rw [if_pos g]; exact Or.inl rfl
    · rw [if_neg g]
      by_cases g2 : (5 : Int32) < k
      · rw [if_pos g2]; exact Or.inl rfl
      · rw [if_neg g2]; exact Or.inr rfl
  rcases k01 with hk | hk
  · rw [hk, if_pos rfl, if_pos rfl]
    obtain ⟨M', T', x, y, z⟩ := refuse_2 hr
    refine ⟨-2, M', T', ?_, ?_, z⟩
    · rw [x]; rfl
    · unfold fX8_add_j42 fX8_add_j80
      rw [if_neg (by decide), if_neg (by decide), y]; rfl
  rw [hk, if_neg (show ¬ (1 : Int32) = 0 from by decide), if_neg (show ¬ (1 : Int32) = 0 from by decide)]
  unfold fX8_bound
  by_cases g : (0 : Int32) ≤ f
  · simp only [if_pos g]
    by_cases g2 : f ≤ 9
    · simp only [if_pos g2]
      obtain ⟨r, hr2, e1, e2, e3⟩ := canBe_eq hs ha hb
      unfold fX8_add_j42
      rw [e1, e2, if_pos rfl]
      rcases hr2 with rfl | rfl
      · obtain ⟨M', T', x, y, z⟩ := refuse_3 hr
        refine ⟨-3, M', T', ?_, ?_, z⟩
        · repeat rw [Option.bind_some]
          rw [if_pos (show (0 : Int32) = 0 from rfl), x]; rfl
        · repeat rw [Option.bind_some]
          rw [if_pos (show (0 : Int32) = 0 from rfl)]
          unfold fX8_add_j78 fX8_add_j80
          rw [if_neg (by decide), y]; rfl
      · repeat rw [Option.bind_some]
        rw [if_neg (show ¬ (1 : Int32) = 0 from by decide), if_neg (by decide), hs.houses]
        by_cases h12 : c = 12
        · subst h12
          rw [if_pos (show nI 12 = 12 by decide)]
          have e6 : fX5_hasRoom (mn_live M) = 0 := by
            unfold fX5_hasRoom
            rw [hs.came]; decide
          have e7 : fX5_build (mn_live M) (nI a) (nI b) k f = some (0, mn_live M) := by
            unfold fX5_build
            rw [e6, if_pos rfl]
          rw [e7]
          obtain ⟨M', T', x, y, z⟩ := refuse_6 hr
          refine ⟨-6, M', T', ?_, ?_, z⟩
          · repeat rw [Option.bind_some]
            rw [if_pos (show (0 : Int32) = 0 from rfl)]
            show (fX7_refuse M (-6)).bind _ = _
            rw [x]; rfl
          · unfold fX8_add_j78 fX8_add_j80
            rw [if_neg (by decide), y]; rfl
        · rw [if_neg (show ¬ nI c = (12 : Int32) from fun z => h12 ((nI_eq (b := 12) (by omega) (by omega)).mp z))]
          obtain ⟨sa, sb, h9⟩ := e3 rfl
          obtain ⟨w', S', T', b1, b2, b3, b4, b5, -⟩ := build_eq hs (by omega) ha hb (f := f) hk e1 h9
          rw [b1]
          refine ⟨nI c, mn_set_live M S', T', ?_, ?_, hr.live b3 b4 (fun j _ => by rw [b5])⟩
          · repeat rw [Option.bind_some]
            rw [if_neg (show ¬ (1 : Int32) = 0 from by decide)]
            unfold fX5_cameCount
            rw [b3.came, nI_pred]
          · unfold fX8_add_j78 fX8_add_j80
            rw [if_pos rfl, b2]
            show some (md_houses T' - 1, T') = _
            rw [b3.houses, nI_pred]
    · simp only [if_neg g2]
      obtain ⟨M', T', x, y, z⟩ := refuse_6 hr
      refine ⟨-6, M', T', ?_, ?_, z⟩
      · rw [x]; rfl
      · unfold fX8_add_j42 fX8_add_j80
        rw [if_neg (by decide), if_neg (by decide), y]; rfl
  · simp only [if_neg g]
    obtain ⟨M', T', x, y, z⟩ := refuse_4 hr
    refine ⟨-4, M', T', ?_, ?_, z⟩
    · rw [x]; rfl
    · unfold fX8_add_j42 fX8_add_j80
      rw [if_neg (by decide), if_neg (by decide), y]; rfl
/-- bits that fall, counted -/
theorem zpop_sub {w x : Nat} (hx : ∀ i, i < 32 → x.testBit i = true → w.testBit i = true) : ∀ n, n ≤ 31 → zpop (w &&& (x ^^^ 4294967295)) n + zpop x n = zpop w n := by
  intro n
  induction n with
  | zero => intro _; rfl
  | succ n ih =>
    intro hn
    have := ih (by omega)
    rw [zpop, zpop, zpop, Nat.testBit_and, z_tb_not _ _ (by omega)]
    by_cases b : x.testBit n = true
    · have := hx n (by omega) b
      simp [b, this]; omega
    · by_cases b2 : w.testBit n = true
      · simp [b, b2]; omega
      · simp [b, b2]; omega
theorem z_rest {w x : Nat} (hw : w < 4096) (hx1 : x ≤ w) (hx : ∀ i, i < 32 → x.testBit i = true → w.testBit i = true) : w &&& ((w &&& (x ^^^ 4294967295)) ^^^ 4294967295) = x := by
  apply Nat.eq_of_testBit_eq
  intro j
  by_cases hj : j < 32
  · rw [Nat.testBit_and, z_tb_not _ _ hj, Nat.testBit_and, z_tb_not _ _ hj]
    by_cases b : x.testBit j = true
    · simp [b, hx j hj b]
    · by_cases b2 : w.testBit j = true
      · simp [b, b2]
      · simp [b, b2]
  · have e1 : w.testBit j = false := Nat.testBit_lt_two_pow (Nat.lt_of_lt_of_le hw (Nat.pow_le_pow_right (n := 2) (i := 12) (by omega) (by omega)))
    have e2 : x.testBit j = false := Nat.testBit_lt_two_pow (Nat.lt_of_le_of_lt hx1 (Nat.lt_of_lt_of_le hw (Nat.pow_le_pow_right (n := 2) (i := 12) (by omega) (by omega))))
    rw [Nat.testBit_and, e1, e2]
    rfl
theorem zG_w {T : zMd} {w j c : Nat} : zG T (zclr w j) c ≤ w ∧ ∀ i, i < 32 → (zG T (zclr w j) c).testBit i = true → w.testBit i = true := by
  refine ⟨Nat.le_trans (zG_le _ _ _) (zclr_le _ _), fun i hi q => ?_⟩
  have := zG_sub T (zclr w j) c i hi q
  rw [zclr_tb _ _ _ hi] at this
  simp at this
  exact this.1
theorem SR.fall {c w : Nat} {S : zSt} {T : zMd} (h : SR c w S T) {x : Nat} (hx : x ≤ w) {Y : Nat → Int32} (hY : ∀ h, h < c → Y h = zbit x h) : SR c x (st_set_standing S (nI x)) (md_set_stands T Y) := by
  obtain ⟨s1, s2, s3, s4, s5, s6, s7, s8, s9⟩ := h
  refine ⟨s1, by omega, s3, s4, rfl, fun j hj => ?_, s7, s8, s9⟩
  obtain ⟨a1, a2, a3, a4, a5, a6, a7, a8⟩ := s6 j hj
  exact ⟨a1, a2, a3, a4, a5, a6, a7, hY j hj⟩
theorem SR.hs {c w : Nat} {S : zSt} {T : zMd} (h : SR c w S T) : fX8_standing T = some (nI w) := standing_eq h.c h.houses h.w (fun j hj => (h.arr j hj).2.2.2.2.2.2.2)
theorem fire_in {c w : Nat} {S : zSt} {T : zMd} (h : SR c w S T) {j : Nat} (hj : j < c) (hs : w.testBit j = true) : fX5_fire S (nI j) = some (nI (zpop w 31) - nI (zpop (zG T (zclr w j) c) 31), st_set_standing S (nI (zG T (zclr w j) c))) := by
  have hw := h.w12
  obtain ⟨x1, x2⟩ := zG_w (T := T) (w := w) (j := j) (c := c)
  have fl : w &&& (zG T (zclr w j) c ^^^ 4294967295) ≤ w := Nat.and_le_left
  have ps := zpop_sub x2 31 (by omega)
  have b1 := zpop_le (zG T (zclr w j) c) 31
  unfold fX5_fire
  rw [fallsWith_in h hj hs, z_andnot (by omega) (by omega)]
  show some (fJ6_bitCount_0f7a4 _, st_set_standing S (st_standing S &&& _)) = _
  rw [z_bitCount _ (by omega), h.st, z_andnot (by omega) (by omega), z_rest hw x1 x2, pk_sub (by omega)]
  congr 2
  congr 1
  omega
theorem sim_burn : zSim_burn RT := by
  intro M T p h
  have hr := h
  obtain ⟨⟨c, w, hs⟩, -⟩ := h
  have hc := hs.c
  have hw := hs.w12
  unfold fX7_burn fX8_burn
  by_cases ho : p < 0 ∨ nI c ≤ p
  · rw [has_out hs ho, if_pos rfl, isHouse_out hs ho]
    obtain ⟨M', T', x, y, z⟩ := refuse_1 hr
    refine ⟨-1, M', T', ?_, ?_, z⟩
    · rw [x]; rfl
    · show fX8_burn_j26 p (-1) T = _
      unfold fX8_burn_j26
      rw [if_neg (by decide), y]; rfl
  obtain ⟨j, hj, rfl⟩ := in_of hc ho
  rw [has_in hs hj, if_neg (by decide), isHouse_in hs hj, stands_in hs hj]
  show ∃ r M' S', _ ∧ (fX8_doesStand T (nI j)).bind _ = _ ∧ _
  rw [doesStand_in hs hj]
  by_cases sj : w.testBit j = true
  · rw [zbit1.mpr sj, if_neg (by decide), fire_in hs hj sj]
    obtain ⟨Y, hY, eY⟩ := burns_eq hs hj
    obtain ⟨x1, x2⟩ := zG_w (T := T) (w := w) (j := j) (c := c)
    have s' := hs.fall x1 hY
    refine ⟨_, _, md_set_stands T Y, rfl, ?_, hr.live s' ⟨rfl, rfl, rfl, rfl, rfl, rfl, rfl, rfl, rfl, rfl, rfl, rfl⟩ (fun _ _ => rfl)⟩
    show fX8_burn_j26 (nI j) 0 T = _
    unfold fX8_burn_j26
    rw [if_pos rfl, hs.hs]
    rw [Option.bind_some]
    rw [bits_eq hw]
    rw [Option.bind_some]
    rw [eY]
    rw [Option.bind_some]
    rw [s'.hs]
    rw [Option.bind_some]
    rw [bits_eq (by omega)]
    rfl
  · rw [zbit0.mpr (by simpa using sj), if_pos rfl]
    obtain ⟨M', T', x, y, z⟩ := refuse_3 hr
    refine ⟨-3, M', T', ?_, ?_, z⟩
    · rw [x]; rfl
    · show fX8_burn_j26 (nI j) (-3) T = _
      unfold fX8_burn_j26
      rw [if_neg (by decide), y]; rfl
theorem hangsOn_eq {c w : Nat} {S : zSt} {T : zMd} (h : SR c w S T) {j : Nat} (hj : j < c) (hs : w.testBit j = true) : ∃ f T', f < 4096 ∧ fX5_fallsWith S (nI j) = some (nI f) ∧ fX8_hangsOn T (nI j) = some (nI f, T') ∧ SE T T' ∧ FR T T' ∧ SE (zload T 0) (zload T' 0) := by
  have hw := h.w12
  obtain ⟨T1, k1, k2, k3, k4, k5⟩ := keep_ok T 2 (by omega)
  have h1 := h.se k2
  obtain ⟨Y, hY, eY⟩ := burns_eq h1 hj
  obtain ⟨x1, x2⟩ := zG_w (T := T1) (w := w) (j := j) (c := c)
  have s' := h1.fall x1 hY
  obtain ⟨T5, l1, l2, l3, l4⟩ := load_ok (md_set_stands T1 Y) 2 (by omega)
  have fl : w &&& (zG T1 (zclr w j) c ^^^ 4294967295) ≤ w := Nat.and_le_left
  have se1 : SE (zload T1 200) (zload (md_set_stands T1 Y) 200) := zload_se (fun _ _ _ => rfl)
  have se0 : SE (zload T1 0) (zload (md_set_stands T1 Y) 0) := zload_se (fun _ _ _ => rfl)
  refine ⟨w &&& (zG T1 (zclr w j) c ^^^ 4294967295), T5, by omega, ?_, ?_, (k4.tr se1).tr l2, k3.tr (FR.tr ⟨rfl, rfl, rfl, rfl, rfl, rfl, rfl, rfl, rfl, rfl, rfl, rfl⟩ l3), ((k5 0 (by omega) (by omega)).tr se0).tr (l4 0)⟩
  · rw [fallsWith_in h1 hj hs, z_andnot (by omega) (by omega)]
  · unfold fX8_hangsOn
    rw [h.hs]
    rw [Option.bind_some]
    have k1' : fX8_passesAll T 2 1 = some T1 := k1
    rw [k1']
    rw [Option.bind_some]
    rw [eY]
    rw [Option.bind_some]
    rw [s'.hs]
    rw [Option.bind_some]
    have l1' : fX8_passesAll (md_set_stands T1 Y) 2 0 = some T5 := l1
    rw [l1']
    show some (nI w &&& (nI (zG T1 (zclr w j) c) ^^^ -1), T5) = _
    rw [z_andnot (by omega) (by omega)]
/-- the reference's scratch changes alone -/
theorem RT.same {M : zMn} {T T' : zMd} (h : RT M T) (hs : SE T T') (hf : FR T T') (hk : SE (zload T 0) (zload T' 0)) : RT M T' := by
  obtain ⟨⟨c, w, h1⟩, ⟨h2, h2'⟩, ⟨k, x1, x2, x3, x4⟩, ⟨k2, y1, y2, y3, y4⟩, h5, h6⟩ := h
  obtain ⟨f1, f2, f3, f4, f5, f6, f7, f8, f9, f10, f11, f12⟩ := hf
  refine ⟨⟨c, w, h1.se hs⟩, ⟨h2.trans f10.symm, ?_⟩, ⟨k, x1, x2, f6.trans x3, fun i hi => (x4 i hi).trans (by rw [f2])⟩, ⟨k2, y1, y2, f12.trans y3, fun i hi => (y4 i hi).trans (by rw [f11])⟩, fun i hi => (h5 i hi).trans (by rw [f1]), h6⟩
  rcases h2' with z | ⟨z, c', w', z2⟩
  · exact Or.inl (f10.trans z)
  · exact Or.inr ⟨f10.trans z, c', w', z2.se hk⟩
theorem sim_hangs : zSim_hangs RT := by
  intro M T p h
  have hr := h
  obtain ⟨⟨c, w, hs⟩, -⟩ := h
  have hc := hs.c
  unfold fX7_hangs fX8_hangs
  by_cases ho : p < 0 ∨ nI c ≤ p
  · rw [has_out hs ho, if_pos rfl, isHouse_out hs ho]
    obtain ⟨M', T', x, y, z⟩ := refuse_1 hr
    refine ⟨-1, M', T', ?_, ?_, z⟩
    · rw [x]; rfl
    · show fX8_hangs_j26 p (-1) T = _
      unfold fX8_hangs_j26
      rw [if_neg (by decide), y]; rfl
  obtain ⟨j, hj, rfl⟩ := in_of hc ho
  rw [has_in hs hj, if_neg (by decide), isHouse_in hs hj, stands_in hs hj]
  show ∃ r M' S', _ ∧ (fX8_doesStand T (nI j)).bind _ = _ ∧ _
  rw [doesStand_in hs hj]
  by_cases sj : w.testBit j = true
  · rw [zbit1.mpr sj, if_neg (by decide)]
    obtain ⟨f, T', hf, e1, e2, e3, e4, e5⟩ := hangsOn_eq hs hj sj
    rw [e1]
    refine ⟨nI f, M, T', rfl, ?_, hr.same e3 e4 e5⟩
    show fX8_hangs_j26 (nI j) 0 T = _
    unfold fX8_hangs_j26
    rw [if_pos rfl, e2]; rfl
  · rw [zbit0.mpr (by simpa using sj), if_pos rfl]
    obtain ⟨M', T', x, y, z⟩ := refuse_3 hr
    refine ⟨-3, M', T', ?_, ?_, z⟩
    · rw [x]; rfl
    · show fX8_hangs_j26 (nI j) (-3) T = _
      unfold fX8_hangs_j26
      rw [if_neg (by decide), y]; rfl
theorem save_l {M : zMn} {c w : Nat} : ∀ d i k v1 v2 (T : zMd), i + d = c → d < k → RT M T → SR c w (mn_live M) T → ∃ r T', fX7_save_l7 M k v1 v2 (nI i) = some r ∧ fX8_save_l7 k v1 v2 (nI i) T = some (r, T') ∧ RT M T' := by
  intro d
  induction d with
  | zero =>
    intro i k v1 v2 T hi hk hr hs
    have hc := hs.c
    obtain ⟨k, rfl⟩ : ∃ k', k = k' + 1 := ⟨k - 1, by omega⟩
    refine ⟨v1, T, ?_, ?_, hr⟩
    · rw [fX7_save_l7]
      unfold fX5_cameCount
      rw [hs.came, if_pos (nI_le (by omega) (by omega))]
    · rw [fX8_save_l7, hs.houses, if_pos (nI_le (by omega) (by omega))]
  | succ d ih =>
    intro i k v1 v2 T hi hk hr hs
    have hc := hs.c
    have hw := hs.w12
    obtain ⟨k, rfl⟩ : ∃ k', k = k' + 1 := ⟨k - 1, by omega⟩
    have a := (hs.arr i (by omega)).2.2.2.2.2.2.2
    have step : ∀ (n : Int32) (T2 : zMd), RT M T2 → SR c w (mn_live M) T2 → ∃ r T', fX7_save_j44 M v1 v2 (nI i) n (fX7_save_l7 M k) = some r ∧ fX8_save_j37 v1 v2 (nI i) n T2 (fX8_save_l7 k) = some (r, T') ∧ RT M T' := by
      intro n T2 hr2 hs2
      unfold fX7_save_j44 fX8_save_j37
      rw [nI_1]
      by_cases g : n ≤ v2
      · rw [if_pos g, if_neg (Int32.not_lt.mpr g)]
        exact ih (i + 1) k v1 v2 T2 (by omega) (by omega) hr2 hs2
      · rw [if_neg g, if_pos (Int32.not_le.mp g)]
        exact ih (i + 1) k (nI i) n T2 (by omega) (by omega) hr2 hs2
    rw [fX7_save_l7, fX8_save_l7]
    unfold fX5_cameCount
    rw [hs.came, hs.houses, if_neg (nI_ge (by omega) (by omega)), if_neg (nI_ge (by omega) (by omega)), stands_in hs (j := i) (by omega), ix_nI (by omega) (by omega), nI_clamp (by omega), a]
    by_cases b : w.testBit i = true
    · rw [zbit1.mpr b, if_neg (by decide), if_pos rfl]
      obtain ⟨f, T', hf, e1, e2, e3, e4, e5⟩ := hangsOn_eq hs (j := i) (by omega) b
      rw [e1, e2]
      simp only [Option.bind_some]
      rw [bits_eq hf, z_bitCount f hf]
      exact step (nI (zpop f 31)) T' (hr.same e3 e4 e5) (hs.se e3)
    · rw [zbit0.mpr (by simpa using b), if_pos rfl, if_neg (by decide)]
      exact step 0 T hr hs
theorem sim_save : zSim_save RT := by
  intro M T h
  have hr := h
  obtain ⟨⟨c, w, hs⟩, -⟩ := h
  have hc := hs.c
  obtain ⟨r, T', e1, e2, e3⟩ := save_l (M := M) c 0 FU (-9) 0 T (by omega) (FU_big _ (by omega)) hr hs
  exact ⟨r, M, T', e1, e2, e3⟩
end
section
/-! images, counts, seeds, more -/
theorem RT.live2 {M : zMn} {T T' : zMd} (h : RT M T) {S' : zSt} {c w : Nat} (hs : SR c w S' T') (hf : FR T T') (hk : SE (zload T 0) (zload T' 0)) : RT (mn_set_live M S') T' := by
  obtain ⟨h1, ⟨h2, h2'⟩, ⟨k, x1, x2, x3, x4⟩, ⟨k2, y1, y2, y3, y4⟩, h5, h6⟩ := h
  obtain ⟨f1, f2, f3, f4, f5, f6, f7, f8, f9, f10, f11, f12⟩ := hf
  refine ⟨⟨c, w, hs⟩, ⟨h2.trans f10.symm, ?_⟩, ⟨k, x1, x2, f6.trans x3, fun i hi => (x4 i hi).trans (by rw [f2])⟩, ⟨k2, y1, y2, f12.trans y3, fun i hi => (y4 i hi).trans (by rw [f11])⟩, fun i hi => (h5 i hi).trans (by rw [f1]), h6⟩
  rcases h2' with z | ⟨z, c', w', z2⟩
  · exact Or.inl (f10.trans z)
  · exact Or.inr ⟨f10.trans z, c', w', z2.se hk⟩
theorem cpy12 (f g : Nat → Int32) {j : Nat} (h : j < 12) : va_cpy f g (0 : Int32).toNatClampNeg (0 : Int32).toNatClampNeg (12 : Int32).toNatClampNeg j = f j := by
  show va_cpy f g 0 0 12 j = f j
  rw [pk_cpy_in (by omega) (by omega)]
  congr 1
  omega
theorem SR.become {c w : Nat} {S : zSt} {T : zMd} (h : SR c w S T) (S0 : zSt) : SR c w (fX5_become S0 S) T := by
  obtain ⟨s1, s2, s3, s4, s5, s6, s7, s8, s9⟩ := h
  refine ⟨s1, s2, s3, s4, s5, fun j hj => ?_, s7, s8, s9⟩
  obtain ⟨a1, a2, a3, a4, a5, a6, a7, a8⟩ := s6 j hj
  have h12 : j < 12 := by omega
  exact ⟨(cpy12 _ _ h12).trans a1, (cpy12 _ _ h12).trans a2, (cpy12 _ _ h12).trans a3, (cpy12 _ _ h12).trans a4, (cpy12 _ _ h12).trans a5, (cpy12 _ _ h12).trans a6, (cpy12 _ _ h12).trans a7, a8⟩
theorem sim_image : zSim_image RT := by
  intro M T h
  have hr := h
  obtain ⟨⟨c, w, hs⟩, h2, ⟨k, x1, x2, x3, x4⟩, ⟨k2, y1, y2, y3, y4⟩, h5, h6⟩ := h
  obtain ⟨T', k1, k3, k4, k5, k6⟩ := keep_ok (md_set_hasImage T 1) 0 (by omega)
  have hs1 : SR c w (mn_live M) (md_set_hasImage T 1) := hs
  obtain ⟨f1, f2, f3, f4, f5, f6, f7, f8, f9, f10, f11, f12⟩ := k4
  refine ⟨nI c, mn_set_isKept (mn_set_kept M (fX5_become (mn_kept M) (mn_live M))) 1, T', ?_, ?_, ?_⟩
  · unfold fX7_image fX5_cameCount
    rw [hs.came]
  · unfold fX8_image
    have k1' : fX8_passesAll (md_set_hasImage T 1) 0 1 = some T' := k1
    rw [k1']
    show some (md_houses T', T') = _
    rw [(hs1.se k3).houses]
  · refine ⟨⟨c, w, hs1.se k3⟩, ⟨f10.symm, Or.inr ⟨f10, c, w, ?_⟩⟩, ⟨k, x1, x2, f6.trans x3, fun i hi => (x4 i hi).trans (by rw [f2]; rfl)⟩, ⟨k2, y1, y2, f12.trans y3, fun i hi => (y4 i hi).trans (by rw [f11]; rfl)⟩, fun i hi => (h5 i hi).trans (by rw [f1]; rfl), h6⟩
    exact (hs1.become (mn_kept M)).se k5
theorem sim_restore : zSim_restore RT := by
  intro M T h
  have hr := h
  obtain ⟨h1, ⟨h2, h2'⟩, -⟩ := h
  unfold fX7_restore fX8_restore
  rw [h2]
  rcases h2' with z | ⟨z, c, w, hs⟩
  · simp only [if_pos z]
    obtain ⟨M', T', x, y, e⟩ := refuse_3 hr
    exact ⟨-3, M', T', by rw [x]; rfl, by rw [y]; rfl, e⟩
  · have n0 : ¬ md_hasImage T = 0 := by rw [z]; decide
    simp only [if_neg n0]
    obtain ⟨T', l1, l2, l3, l4⟩ := load_ok T 0 (by omega)
    have l1' : fX8_passesAll T 0 0 = some T' := l1
    have hs' : SR c w (fX5_become (mn_live M) (mn_kept M)) T' := (hs.become (mn_live M)).se l2
    refine ⟨nI c, _, T', ?_, ?_, hr.live2 hs' l3 (l4 0)⟩
    · unfold fX5_cameCount
      rw [hs'.came]
    · rw [l1']
      show some (md_houses T', T') = _
      rw [hs'.houses]
theorem sim_count : zSim_count RT := by
  intro M T p h
  have hr := h
  obtain ⟨⟨c, w, hs⟩, h2, ⟨k, x1, x2, x3, x4⟩, ⟨k2, y1, y2, y3, y4⟩, h5, h6⟩ := h
  have fin : ∀ r, fX7_count M p = some r → fX8_count T p = some r → ∃ (r : Int32) (M' : zMn) (S' : zMd), fX7_count M p = some r ∧ fX8_count T p = some r ∧ RT M T := fun r a b => ⟨r, M, T, a, b, hr⟩
  by_cases hin : ∃ n, 11 ≤ n ∧ n ≤ 16 ∧ p = nI n
  · obtain ⟨n, n1, n2, rfl⟩ := hin
    have e1 : nI n - 10 = nI (n - 10) := pk_sub (b := 10) (by omega)
    refine fin (md_refused T (n - 10)) ?_ ?_
    · unfold fX7_count
      rw [if_neg (show ¬ nI n ≤ (10 : Int32) from nI_ge (a := 10) (by omega) (by omega)), if_neg (show ¬ (17 : Int32) ≤ nI n from nI_ge (b := 17) (by omega) (by omega)), e1, ix_nI (by omega) (by omega), nI_clamp (by omega), h5 _ (by omega)]
    · unfold fX8_count fX8_isIn
      rw [if_neg (show ¬ nI n < (11 : Int32) from nI_nlt (b := 11) (by omega) (by omega)), if_neg (show ¬ (16 : Int32) < nI n from nI_nlt (a := 16) (by omega) (by omega)), if_neg (by decide), e1, ix_nI (by omega) (by omega), nI_clamp (by omega)]
  · have c7 : fX7_count M p = fX7_count_j22 M p := by
      unfold fX7_count
      by_cases g : p ≤ 10
      · rw [if_pos g]
      · rw [if_neg g]
        by_cases g2 : (17 : Int32) ≤ p
        · rw [if_pos g2]
        · exfalso
          apply hin
          have p1 : ¬ p.toInt ≤ (10 : Int) := fun t => g (Int32.le_iff_toInt_le.mpr t)
          have p2 : ¬ (17 : Int) ≤ p.toInt := fun t => g2 (Int32.le_iff_toInt_le.mpr t)
          refine ⟨p.toInt.toNat, by omega, by omega, Int32.toInt_inj.mp ?_⟩
          rw [nI_toInt (by omega)]
          omega
    have c8 : fX8_isIn p 11 16 = 0 := by
      unfold fX8_isIn
      by_cases g : p < 11
      · rw [if_pos g]
      · rw [if_neg g]
        by_cases g2 : (16 : Int32) < p
        · rw [if_pos g2]
        · exfalso
          apply hin
          have p1 : ¬ p.toInt < (11 : Int) := fun t => g (Int32.lt_iff_toInt_lt.mpr t)
          have p2 : ¬ (16 : Int) < p.toInt := fun t => g2 (Int32.lt_iff_toInt_lt.mpr t)
          refine ⟨p.toInt.toNat, by omega, by omega, Int32.toInt_inj.mp ?_⟩
          rw [nI_toInt (by omega)]
          omega
    rw [c7] at fin ⊢
    unfold fX8_count at fin ⊢
    rw [c8, if_pos rfl] at fin ⊢
    unfold fX7_count_j22 at fin ⊢
    by_cases e0 : p = 0
    · simp only [if_pos e0] at fin ⊢
      exact fin (nI c) (by unfold fX5_cameCount; rw [hs.came]) (by rw [hs.houses])
    simp only [if_neg e0] at fin ⊢
    by_cases e1 : p = 1
    · simp only [if_pos e1] at fin ⊢
      refine fin (nI (zpop w 31)) (by unfold fX5_standingCount; rw [hs.st, z_bitCount w hs.w12]) ?_
      rw [hs.hs]
      rw [Option.bind_some]
      rw [bits_eq hs.w12]; rfl
    simp only [if_neg e1] at fin ⊢
    by_cases e2 : p = 2
    · simp only [if_pos e2] at fin ⊢
      obtain ⟨r, a, b⟩ := greatest_eq hs
      exact fin r (by rw [a]; rfl) (by rw [b]; rfl)
    simp only [if_neg e2] at fin ⊢
    by_cases e3 : p = 3
    · simp only [if_pos e3] at fin ⊢
      exact fin (md_sums T) (by unfold fX5_sumsLaw; rw [hs.sums]) rfl
    simp only [if_neg e3] at fin ⊢
    by_cases e4 : p = 4
    · simp only [if_pos e4] at fin ⊢
      exact fin (md_falls T) (by unfold fX5_fallsLaw; rw [hs.falls]) rfl
    simp only [if_neg e4] at fin ⊢
    by_cases e5 : p = 5
    · simp only [if_pos e5] at fin ⊢
      obtain ⟨r, a, b⟩ := allEarned_eq hs
      exact fin r (by rw [a]; rfl) (by rw [b]; rfl)
    simp only [if_neg e5] at fin ⊢
    by_cases e6 : p = 6
    · simp only [if_pos e6] at fin ⊢
      exact fin (nI k) (by unfold fX6_howMany_L; rw [x2]) (by rw [x3])
    simp only [if_neg e6] at fin ⊢
    by_cases e7 : p = 7
    · simp only [if_pos e7] at fin ⊢
      exact fin (nI k2) (by unfold fX6_howMany_R; rw [y2]) (by rw [y3])
    simp only [if_neg e7] at fin ⊢
    exact fin (-9) rfl rfl
theorem sim_far : zSim_far RT := by
  intro M T p h
  unfold fX7_far fX8_far
  have e0 : fX8_bound p 1 12 = fX7_outside p 1 12 := rfl
  rw [e0]
  rcases outside_3 p 1 12 (by omega) (by omega) with e | e | ⟨e, -⟩
  · have e' : fX7_outside p 1 12 = -4 := e
    rw [e', if_neg (by decide), if_neg (by decide)]
    obtain ⟨M', T', x, y, z⟩ := refuse_4 h
    exact ⟨-4, M', T', by rw [x]; rfl, by rw [y]; rfl, z⟩
  · have e' : fX7_outside p 1 12 = -6 := e
    rw [e', if_neg (by decide), if_neg (by decide)]
    obtain ⟨M', T', x, y, z⟩ := refuse_6 h
    exact ⟨-6, M', T', by rw [x]; rfl, by rw [y]; rfl, z⟩
  · have e' : fX7_outside p 1 12 = 0 := e
    rw [e', if_pos rfl, if_pos rfl]
    exact ⟨_, M, T, rfl, rfl, h⟩
/-- the same bits of chance -/
theorem draw_eq (x : Int32) {c : Nat} (h1 : 1 ≤ c) (h2 : c ≤ 12) : ∃ j, j < c ∧ fX7_draw x (nI c) = some (nI j) ∧ (x &&& 2147483647) / 65536 - (x &&& 2147483647) / 65536 / nI c * nI c = nI j := by
  have e1 : x &&& 2147483647 = nI (x.toBitVec.toNat % 2 ^ 31) := pk_and x 31 (by decide)
  have hm : x.toBitVec.toNat % 2 ^ 31 < 2 ^ 31 := Nat.mod_lt _ (by omega)
  have e2 : ((nI (x.toBitVec.toNat % 2 ^ 31)).toUInt32 >>> ((16 : Int32).toUInt32 &&& Int32.toUInt32 31)).toInt32 = nI (x.toBitVec.toNat % 2 ^ 31 / 2 ^ 16) := pk_ushrN (by omega) 16 16 (by decide)
  have e3 : nI (x.toBitVec.toNat % 2 ^ 31) / 65536 = nI (x.toBitVec.toNat % 2 ^ 31 / 65536) := pk_div (d := 65536) hm (by omega) (by omega)
  have hd : x.toBitVec.toNat % 2 ^ 31 / 65536 < 2 ^ 31 := Nat.lt_of_le_of_lt (Nat.div_le_self _ _) hm
  have e4 := pk_rem (a := x.toBitVec.toNat % 2 ^ 31 / 65536) (d := c) hd (by omega) (by omega)
  refine ⟨x.toBitVec.toNat % 2 ^ 31 / 65536 % c, Nat.mod_lt _ (by omega), ?_, ?_⟩
  · unfold fX7_draw
    rw [if_pos (show (1 : Int32) ≤ nI c from nI_le (a := 1) h1 (by omega)), if_neg (nI_ne0 (by omega) (by omega)), e1, e2]
    exact congrArg some e4
  · rw [e1, e3]
    exact e4
theorem lots_lots (T : zMd) (a b : Int32) : md_set_lots (md_set_lots T a) b = md_set_lots T b := rfl
theorem build_0 {c w : Nat} {S : zSt} {T : zMd} (h : SR c w S T) {a b : Nat} (ha : a < c) (hb : b < c) : ∃ (c' w' : Nat) (S' : zSt) (T' : zMd) (r : Int32), fX5_build S (nI a) (nI b) 0 0 = some (r, S') ∧ ((fX8_canBe T (nI a) (nI b)).bind fun u3 => if u3 = 0 then some T else if (12 : Int32) ≤ md_houses T then some T else (fX8_builds T (nI a) (nI b) 0 0).bind fun u6 => some u6) = some T' ∧ SR c' w' S' T' ∧ FR T T' ∧ md_kept T' = md_kept T ∧ md_lots T' = md_lots T := by
  have hc := h.c
  obtain ⟨r, hr, e1, e2, e3⟩ := canBe_eq h ha hb
  rw [e2]
  by_cases h12 : c = 12
  · subst h12
    have e6 : fX5_hasRoom S = 0 := by
      unfold fX5_hasRoom
      rw [h.came]; decide
    refine ⟨12, w, S, T, 0, ?_, ?_, h, FR.rf, rfl, rfl⟩
    · unfold fX5_build
      rw [e6, if_pos rfl]
    · show (if r = 0 then some T else if (12 : Int32) ≤ md_houses T then some T else _) = _
      by_cases g : r = 0
      · rw [if_pos g]
      · rw [if_neg g, h.houses, if_pos (by decide)]
  · rcases hr with rfl | rfl
    · refine ⟨c, w, S, T, 0, ?_, rfl, h, FR.rf, rfl, rfl⟩
      have e6 : fX5_hasRoom S = 1 := by
        unfold fX5_hasRoom
        rw [h.came, if_neg (show ¬ (12 : Int32) ≤ nI c from nI_ge (b := 12) (by omega) (by omega))]
      unfold fX5_build
      rw [e6, if_neg (by decide), if_neg (by decide), e1]
      rfl
    · obtain ⟨sa, sb, h9⟩ := e3 rfl
      obtain ⟨w', S', T', b1, b2, b3, b4, b5, b6⟩ := build_eq h (by omega) ha hb (k := 0) (f := 0) (by decide) e1 h9
      refine ⟨c + 1, w', S', T', 1, b1, ?_, b3, b4, b5, b6⟩
      show (if (1 : Int32) = 0 then some T else if (12 : Int32) ≤ md_houses T then some T else _) = _
      rw [if_neg (by decide), h.houses, if_neg (show ¬ (12 : Int32) ≤ nI c from nI_ge (b := 12) (by omega) (by omega)), b2]
      rfl
/-- what seeds answers behind the last of its tries -/
def zSeedEnd (v3 : Int32) (T : zMd) : Option (Int32 × zMd) := if v3 = 0 then ((fX8_standing T).bind fun u5 => (fX8_bits u5).bind fun u6 => fX8_seeds_j83 u6 T) else ((fX8_greatest T).bind fun u4 => fX8_seeds_j83 u4 T)
theorem seeds_l (N : Nat) (hN : N < 2 ^ 30) (v3 : Int32) : ∀ d i k (S : zSt) (T : zMd) (c w : Nat), i + d = N → d < k → SR c w S T → ∃ (c' w' : Nat) (S' : zSt) (T' : zMd), fX7_sow_l5 (nI N) k (md_lots T) (nI i) S = some S' ∧ fX8_seeds_l49 (nI N) v3 k (nI i) T = zSeedEnd v3 T' ∧ SR c' w' S' T' ∧ FR T T' ∧ md_kept T' = md_kept T := by
  intro d
  induction d with
  | zero =>
    intro i k S T c w hi hk hs
    obtain ⟨k, rfl⟩ : ∃ k', k = k' + 1 := ⟨k - 1, by omega⟩
    refine ⟨c, w, S, T, ?_, ?_, hs, FR.rf, rfl⟩
    · rw [fX7_sow_l5, if_pos (nI_le (by omega) (by omega))]
    · rw [fX8_seeds_l49, if_pos (nI_le (by omega) (by omega))]; rfl
  | succ d ih =>
    intro i k S T c w hi hk hs
    obtain ⟨k, rfl⟩ : ∃ k', k = k' + 1 := ⟨k - 1, by omega⟩
    obtain ⟨z1, ez1⟩ : ∃ z1, z1 = md_lots T * 1103515245 + 12345 := ⟨_, rfl⟩
    obtain ⟨z2, ez2⟩ : ∃ z2, z2 = z1 * 1103515245 + 12345 := ⟨_, rfl⟩
    obtain ⟨a, ha, a1, a2⟩ := draw_eq z1 hs.c1 hs.c
    obtain ⟨b, hb, b1, b2⟩ := draw_eq z2 hs.c1 hs.c
    have nh : ¬ nI c = 0 := nI_ne0 (by have := hs.c1; omega) (by have := hs.c; omega)
    have hs2 : SR c w S (md_set_lots T z2) := hs
    obtain ⟨c', w', S', T', r, p1, p2, p3, p4, p5, p6⟩ := build_0 hs2 ha hb
    have p6' : md_lots T' = z2 := p6
    obtain ⟨c2, w2, S2, T2, q1, q2, q3, q4, q5⟩ := ih (i + 1) k S' T' c' w' (by omega) (by omega) p3
    refine ⟨c2, w2, S2, T2, ?_, ?_, q3, FR.tr p4 q4, q5.trans p5⟩
    · rw [fX7_sow_l5, if_neg (nI_ge (by omega) (by omega))]
      unfold fX7_nextSeed fX5_cameCount
      rw [hs.came, ← ez1, ← ez2, a1, nI_1]
      rw [Option.bind_some]
      rw [b1]
      rw [Option.bind_some]
      rw [p1]
      rw [p6'] at q1
      exact q1
    · rw [fX8_seeds_l49, if_neg (nI_ge (by omega) (by omega))]
      have hd1 : fX8_draw T (nI c) = some (nI a, md_set_lots T z1) := by
        unfold fX8_draw
        rw [if_neg nh, ← ez1, a2]
      have hl : md_lots (md_set_lots T z1) = z1 := rfl
      have hd2 : fX8_draw (md_set_lots T z1) (nI c) = some (nI b, md_set_lots T z2) := by
        unfold fX8_draw
        rw [if_neg nh, hl, ← ez2, b2, lots_lots]
      have hh : md_houses (md_set_lots T z1) = nI c := hs.houses
      have e : fX8_buildsByLot T = some T' := by
        unfold fX8_buildsByLot
        rw [hs.houses, hd1]
        rw [Option.bind_some]
        show ((fX8_draw (md_set_lots T z1) (md_houses (md_set_lots T z1))).bind _) = _
        rw [hh, hd2]
        rw [Option.bind_some]
        exact p2
      rw [e, nI_1]
      exact q2
theorem sim_seeds : zSim_seeds RT := by
  intro M T n z q h
  have hr := h
  obtain ⟨⟨c, w, hs⟩, -⟩ := h
  unfold fX7_seeds fX8_seeds
  have R : ∀ t : Int32, (t = -2 ∨ t = -4 ∨ t = -6) → ∃ r M' T', fX7_seeds_j19 n z q t M = some (r, M') ∧ fX8_seeds_j21 n z q t T = some (r, T') ∧ RT M' T' := by
    intro t ht
    unfold fX7_seeds_j19 fX8_seeds_j21
    rcases ht with rfl | rfl | rfl
    · rw [if_neg (by decide), if_neg (by decide)]
      obtain ⟨M', T', x, y, e⟩ := refuse_2 hr
      exact ⟨-2, M', T', by rw [x]; rfl, by rw [y]; rfl, e⟩
    · rw [if_neg (by decide), if_neg (by decide)]
      obtain ⟨M', T', x, y, e⟩ := refuse_4 hr
      exact ⟨-4, M', T', by rw [x]; rfl, by rw [y]; rfl, e⟩
    · rw [if_neg (by decide), if_neg (by decide)]
      obtain ⟨M', T', x, y, e⟩ := refuse_6 hr
      exact ⟨-6, M', T', by rw [x]; rfl, by rw [y]; rfl, e⟩
  have e0 : fX8_bound n 1 40 = fX7_outside n 1 40 := rfl
  rcases two_3 q with ⟨t1, t2⟩ | ⟨t1, t2, t3⟩
  · rw [t1, t2, if_pos rfl, if_pos rfl]
    exact R (-2) (Or.inl rfl)
  rw [t1, t2, if_neg (by decide), if_neg (by decide), e0]
  rcases outside_3 n 1 40 (by omega) (by omega) with e | e | ⟨e, N, hN1, hN2, rfl⟩
  · have e' : fX7_outside n 1 40 = -4 := e
    rw [e']; exact R (-4) (Or.inr (Or.inl rfl))
  · have e' : fX7_outside n 1 40 = -6 := e
    rw [e']; exact R (-6) (Or.inr (Or.inr rfl))
  have e' : fX7_outside (nI N) 1 40 = 0 := e
  rw [e']
  unfold fX7_seeds_j19 fX8_seeds_j21
  rw [if_pos (show (0 : Int32) = 0 from rfl), if_pos (show (0 : Int32) = 0 from rfl)]
  obtain ⟨T1, k1, k2, k3, k4, k5⟩ := keep_ok T 2 (by omega)
  have k1' : fX8_passesAll T 2 1 = some T1 := k1
  rw [k1']
  have hs1 : SR c w (fX5_become (mn_mind M) (mn_live M)) (md_set_lots T1 z) := (hs.se k2).become (mn_mind M)
  obtain ⟨c', w', S', T', q1, q2, q3, q4, q5⟩ := seeds_l N (by omega) q N 0 FU _ _ c w (by omega) (FU_big _ (by omega)) hs1
  have q1' : fX7_sow (fX5_become (mn_mind M) (mn_live M)) (nI N) z = some S' := q1
  obtain ⟨T5, l1, l2, l3, l4⟩ := load_ok T' 2 (by omega)
  have l1' : fX8_passesAll T' 2 0 = some T5 := l1
  have sk : ∀ cu, SE (zload T1 cu) (zload T' cu) := fun cu => zload_se (fun j _ _ => by rw [q5]; rfl)
  have rt : RT M T5 := hr.same ((k4.tr (sk 200)).tr l2) ((k3.tr (FR.tr ⟨rfl, rfl, rfl, rfl, rfl, rfl, rfl, rfl, rfl, rfl, rfl, rfl⟩ q4)).tr l3) (((k5 0 (by omega) (by omega)).tr (sk 0)).tr (l4 0))
  have q2' : fX8_seeds_l49 (nI N) q FU 0 (md_set_lots T1 z) = zSeedEnd q T' := q2
  rw [q1']
  repeat rw [Option.bind_some]
  rw [q2']
  have j83 : ∀ v : Int32, fX8_seeds_j83 v T' = some (v, T5) := by
    intro v
    unfold fX8_seeds_j83
    rw [l1']
    rw [Option.bind_some]
  unfold zSeedEnd
  by_cases g : q = 0
  · simp only [if_pos g]
    refine ⟨nI (zpop w' 31), mn_set_mind M S', T5, ?_, ?_, rt⟩
    · unfold fX5_standingCount
      rw [q3.st, z_bitCount _ q3.w12]
    · rw [q3.hs]
      rw [Option.bind_some]
      rw [bits_eq q3.w12]
      rw [Option.bind_some]
      exact j83 _
  · simp only [if_neg g]
    obtain ⟨r, g1, g2⟩ := greatest_eq q3
    refine ⟨r, mn_set_mind M S', T5, ?_, ?_, rt⟩
    · rw [g1]; rfl
    · rw [g2]
      rw [Option.bind_some]
      exact j83 _
end
section
/-! one more, two more -/
theorem RT.mind {M : zMn} {T : zMd} (h : RT M T) (S : zSt) : RT (mn_set_mind M S) T := h
theorem more_in (n : Int32) {c w : Nat} (hc12 : c < 12) (a : Nat) (ha : a < c) (K1 : Int32 → zMn → Option (Int32 × zMn)) (K2 : Int32 → Int32 → zMd → Option (Int32 × zMd))
    (h1 : ∀ T, K2 1 (nI (a + 1)) T = some (1, T))
    (h0 : ∀ M T, RT M T → SR c w (mn_live M) T → ∃ (r : Int32) (M' : zMn) (T' : zMd), (r = 0 ∨ r = 1) ∧ K1 (nI (a + 1)) M = some (r, M') ∧ K2 0 (nI (a + 1)) T = some (r, T') ∧ RT M' T') :
    ∀ d i k (M : zMn) (T : zMd), i + d = c → d + 1 < k → RT M T → SR c w (mn_live M) T → ∃ (r : Int32) (M' : zMn) (T' : zMd), (r = 0 ∨ r = 1) ∧ fX7_comesNextButOne_l15 n (nI a) K1 k (nI i) M = some (r, M') ∧ fX8_comesToIn2_l30 n (nI c) (nI a) K2 k 0 (nI i) T = some (r, T') ∧ RT M' T' := by
  intro d
  induction d with
  | zero =>
    intro i k M T hi hk hr hs
    obtain ⟨k, rfl⟩ : ∃ k', k = k' + 1 := ⟨k - 1, by omega⟩
    obtain ⟨r, M', T', q0, q1, q2, q3⟩ := h0 M T hr hs
    refine ⟨r, M', T', q0, ?_, ?_, q3⟩
    · rw [fX7_comesNextButOne_l15]
      unfold fX5_cameCount
      rw [hs.came, if_pos (nI_le (by omega) (by omega)), nI_1]
      exact q1
    · rw [fX8_comesToIn2_l30, if_pos (nI_le (by omega) (by omega)), nI_1]
      exact q2
  | succ d ih =>
    intro i k M T hi hk hr hs
    obtain ⟨k, rfl⟩ : ∃ k', k = k' + 1 := ⟨k - 1, by omega⟩
    have hsb := hs.become (mn_mind M)
    obtain ⟨r, hr01, e1, e2, e3⟩ := canBe_eq hsb ha (b := i) (by omega)
    have e6 : fX5_hasRoom (fX5_become (mn_mind M) (mn_live M)) = 1 := by
      unfold fX5_hasRoom
      rw [hsb.came, if_neg (show ¬ (12 : Int32) ≤ nI c from nI_ge (b := 12) (by omega) (by omega))]
    rw [fX7_comesNextButOne_l15, fX8_comesToIn2_l30]
    unfold fX5_cameCount
    rw [hs.came, if_neg (nI_ge (by omega) (by omega)), if_neg (nI_ge (by omega) (by omega)), if_pos rfl, e2, nI_1]
    rcases hr01 with rfl | rfl
    · have eb : fX5_build (fX5_become (mn_mind M) (mn_live M)) (nI a) (nI i) 0 0 = some (0, fX5_become (mn_mind M) (mn_live M)) := by
        unfold fX5_build
        rw [e6, if_neg (by decide), if_neg (by decide), e1]
        rfl
      rw [eb]
      exact ih (i + 1) k (mn_set_mind M (fX5_become (mn_mind M) (mn_live M))) T (by omega) (by omega) hr hs
    · obtain ⟨sa, sb, h9⟩ := e3 rfl
      obtain ⟨T1, k1, k2, k3, k4, k5⟩ := keep_ok T 2 (by omega)
      have k1' : fX8_passesAll T 2 1 = some T1 := k1
      have h9' : ∃ n, 1 ≤ n ∧ n ≤ 9999 ∧ md_number T1 a + md_number T1 i = nI n := by
        rw [(k2.1 a (by omega)).1, (k2.1 i (by omega)).1]
        exact h9
      obtain ⟨w', S', T2, b1, b2, b3, b4, b5, -⟩ := build_eq (hsb.se k2) hc12 ha (b := i) (by omega) (k := 0) (f := 0) (by decide) e1 h9'
      obtain ⟨r2, hr2, g1, g2⟩ := comesNext_eq b3 n
      obtain ⟨T5, l1, l2, l3, l4⟩ := load_ok T2 2 (by omega)
      have l1' : fX8_passesAll T2 2 0 = some T5 := l1
      have sk : ∀ cu, SE (zload T1 cu) (zload T2 cu) := fun cu => zload_se (fun j _ _ => by rw [b5])
      have seT : SE T T5 := (k4.tr (sk 200)).tr l2
      have rt : RT M T5 := hr.same seT ((k3.tr b4).tr l3) (((k5 0 (by omega) (by omega)).tr (sk 0)).tr (l4 0))
      rw [b1]
      repeat rw [Option.bind_some]
      rw [if_neg (show ¬ (1 : Int32) = 0 from by decide), if_neg (by decide), g1, k1']
      repeat rw [Option.bind_some]
      rw [b2]
      repeat rw [Option.bind_some]
      rw [g2]
      repeat rw [Option.bind_some]
      rw [l1']
      repeat rw [Option.bind_some]
      rcases hr2 with rfl | rfl
      · exact ih (i + 1) k (mn_set_mind M S') T5 (by omega) (by omega) rt (hs.se seT)
      · refine ⟨1, mn_set_mind M S', T5, Or.inr rfl, rfl, ?_, rt⟩
        show fX8_comesToIn2_l30 n (nI c) (nI a) K2 k 1 (nI (i + 1)) T5 = _
        obtain ⟨k, rfl⟩ : ∃ k', k = k' + 1 := ⟨k - 1, by omega⟩
        rw [fX8_comesToIn2_l30]
        by_cases g : nI c ≤ nI (i + 1)
        · rw [if_pos g, nI_1]; exact h1 T5
        · rw [if_neg g, if_neg (by decide), nI_1]; exact h1 T5
theorem more_1 (n : Int32) (c a k : Nat) (T : zMd) : fX8_comesToIn2_l10 n (nI c) (k + 1) 1 (nI a) T = some (1, T) := by
  rw [fX8_comesToIn2_l10]
  by_cases g : nI c ≤ nI a
  · rw [if_pos g]; rfl
  · rw [if_neg g]
    by_cases g2 : (12 : Int32) ≤ nI c
    · rw [if_pos g2]; rfl
    · rw [if_neg g2, if_neg (by decide)]; rfl
theorem more_out (n : Int32) {c w : Nat} (hc12 : c < 12) : ∀ d i k (M : zMn) (T : zMd), i + d = c → d + 1 < k → RT M T → SR c w (mn_live M) T → ∃ (r : Int32) (M' : zMn) (T' : zMd), (r = 0 ∨ r = 1) ∧ fX7_comesNextButOne_l2 n k (nI i) M = some (r, M') ∧ fX8_comesToIn2_l10 n (nI c) k 0 (nI i) T = some (r, T') ∧ RT M' T' := by
  intro d
  induction d with
  | zero =>
    intro i k M T hi hk hr hs
    obtain ⟨k, rfl⟩ : ∃ k', k = k' + 1 := ⟨k - 1, by omega⟩
    refine ⟨0, M, T, Or.inl rfl, ?_, ?_, hr⟩
    · rw [fX7_comesNextButOne_l2]
      unfold fX5_cameCount
      rw [hs.came, if_pos (nI_le (by omega) (by omega))]
    · rw [fX8_comesToIn2_l10, if_pos (nI_le (by omega) (by omega))]; rfl
  | succ d ih =>
    intro i k M T hi hk hr hs
    obtain ⟨k, rfl⟩ : ∃ k', k = k' + 1 := ⟨k - 1, by omega⟩
    rw [fX7_comesNextButOne_l2, fX8_comesToIn2_l10]
    unfold fX5_cameCount
    rw [hs.came, if_neg (nI_ge (by omega) (by omega)), if_neg (nI_ge (by omega) (by omega)), if_neg (show ¬ (12 : Int32) ≤ nI c from nI_ge (b := 12) hc12 (by omega)), if_pos rfl]
    obtain ⟨k', rfl⟩ : ∃ k', k = k' + 1 := ⟨k - 1, by omega⟩
    exact more_in n hc12 i (by omega) _ _ (fun T => more_1 n c (i + 1) k' T) (fun M2 T2 hr2 hs2 => ih (i + 1) (k' + 1) M2 T2 (by omega) (by omega) hr2 hs2) (c - i) i FU M T (by omega) (FU_big _ (by omega)) hr hs
/-- with twelve houses none comes -/
theorem more_12_in (n a : Int32) {w : Nat} (K1 : Int32 → zMn → Option (Int32 × zMn)) (T : zMd) (h0 : ∀ M, RT M T → SR 12 w (mn_live M) T → ∃ (M' : zMn), K1 (a + 1) M = some (0, M') ∧ RT M' T) : ∀ d i k (M : zMn), i + d = 12 → d < k → RT M T → SR 12 w (mn_live M) T → ∃ (M' : zMn), fX7_comesNextButOne_l15 n a K1 k (nI i) M = some (0, M') ∧ RT M' T := by
  intro d
  induction d with
  | zero =>
    intro i k M hi hk hr hs
    obtain ⟨k, rfl⟩ : ∃ k', k = k' + 1 := ⟨k - 1, by omega⟩
    rw [fX7_comesNextButOne_l15]
    unfold fX5_cameCount
    rw [hs.came, if_pos (nI_le (by omega) (by omega))]
    exact h0 M hr hs
  | succ d ih =>
    intro i k M hi hk hr hs
    obtain ⟨k, rfl⟩ : ∃ k', k = k' + 1 := ⟨k - 1, by omega⟩
    have e6 : fX5_hasRoom (fX5_become (mn_mind M) (mn_live M)) = 0 := by
      unfold fX5_hasRoom
      rw [(hs.become (mn_mind M)).came]; decide
    have eb : fX5_build (fX5_become (mn_mind M) (mn_live M)) a (nI i) 0 0 = some (0, fX5_become (mn_mind M) (mn_live M)) := by
      unfold fX5_build
      rw [e6, if_pos rfl]
    rw [fX7_comesNextButOne_l15]
    unfold fX5_cameCount
    rw [hs.came, if_neg (nI_ge (by omega) (by omega)), eb, nI_1]
    exact ih (i + 1) k (mn_set_mind M (fX5_become (mn_mind M) (mn_live M))) (by omega) (by omega) hr hs
theorem more_12_out (n : Int32) {w : Nat} (T : zMd) : ∀ d i k (M : zMn), i + d = 12 → d < k → RT M T → SR 12 w (mn_live M) T → ∃ (M' : zMn), fX7_comesNextButOne_l2 n k (nI i) M = some (0, M') ∧ RT M' T := by
  intro d
  induction d with
  | zero =>
    intro i k M hi hk hr hs
    obtain ⟨k, rfl⟩ : ∃ k', k = k' + 1 := ⟨k - 1, by omega⟩
    refine ⟨M, ?_, hr⟩
    rw [fX7_comesNextButOne_l2]
    unfold fX5_cameCount
    rw [hs.came, if_pos (nI_le (by omega) (by omega))]
  | succ d ih =>
    intro i k M hi hk hr hs
    obtain ⟨k, rfl⟩ : ∃ k', k = k' + 1 := ⟨k - 1, by omega⟩
    rw [fX7_comesNextButOne_l2]
    unfold fX5_cameCount
    rw [hs.came, if_neg (nI_ge (by omega) (by omega))]
    refine more_12_in n (nI i) _ T (fun M2 hr2 hs2 => ?_) (12 - i) i FU M (by omega) (FU_big _ (by omega)) hr hs
    rw [nI_1]
    exact ih (i + 1) k M2 (by omega) (by omega) hr2 hs2
theorem sim_more : zSim_more RT := by
  intro M T p h
  have hr := h
  obtain ⟨⟨c, w, hs⟩, -⟩ := h
  have hc := hs.c
  unfold fX7_more fX8_more
  have e0 : fX8_bound p 1 300 = fX7_outside p 1 300 := rfl
  rw [e0]
  rcases outside_3 p 1 300 (by omega) (by omega) with e | e | ⟨e, -⟩
  · have e' : fX7_outside p 1 300 = -4 := e
    rw [e', if_neg (by decide), if_neg (by decide)]
    obtain ⟨M', T', x, y, z⟩ := refuse_4 hr
    exact ⟨-4, M', T', by rw [x]; rfl, by rw [y]; rfl, z⟩
  · have e' : fX7_outside p 1 300 = -6 := e
    rw [e', if_neg (by decide), if_neg (by decide)]
    obtain ⟨M', T', x, y, z⟩ := refuse_6 hr
    exact ⟨-6, M', T', by rw [x]; rfl, by rw [y]; rfl, z⟩
  have e' : fX7_outside p 1 300 = 0 := e
  rw [e', if_pos rfl, if_pos rfl]
  obtain ⟨r, r01, a1, a2⟩ := isThere_eq hs p
  rw [a1, a2]
  rcases r01 with rfl | rfl
  · obtain ⟨r, r01, b1, b2⟩ := comesNext_eq hs p
    show ∃ r M' S', ((fX5_comesNext (mn_live M) p).bind _) = some (r, M') ∧ ((fX8_comesToIn1 T p).bind _) = some (r, S') ∧ _
    rw [b1, b2]
    rcases r01 with rfl | rfl
    · show ∃ r M' S', ((fX7_comesNextButOne M p).bind _) = some (r, M') ∧ ((fX8_comesToIn2 T p).bind _) = some (r, S') ∧ _
      by_cases h12 : c = 12
      · subst h12
        obtain ⟨M', q1, q2⟩ := more_12_out p T 12 0 FU M (by omega) (FU_big _ (by omega)) hr hs
        have q1' : fX7_comesNextButOne M p = some (0, M') := q1
        have q3 : fX8_comesToIn2 T p = some (0, T) := by
          unfold fX8_comesToIn2
          show fX8_comesToIn2_l10 p (md_houses T) (FU - 1 + 1) 0 0 T = _
          rw [fX8_comesToIn2_l10, hs.houses, if_neg (show ¬ nI 12 ≤ (0 : Int32) by decide), if_pos (show (12 : Int32) ≤ nI 12 by decide)]
          rfl
        rw [q1', q3]
        exact ⟨-9, M', T, rfl, rfl, q2⟩
      · obtain ⟨r, M', T', r01, q1, q2, q3⟩ := more_out p (c := c) (w := w) (by omega) c 0 FU M T (by omega) (FU_big _ (by omega)) hr hs
        have q1' : fX7_comesNextButOne M p = some (r, M') := q1
        have q2' : fX8_comesToIn2 T p = some (r, T') := by
          unfold fX8_comesToIn2
          rw [hs.houses]
          exact q2
        rw [q1', q2']
        rcases r01 with rfl | rfl
        · exact ⟨-9, M', T', rfl, rfl, q3⟩
        · exact ⟨2, M', T', rfl, rfl, q3⟩
    · exact ⟨1, M, T, rfl, rfl, hr⟩
  · exact ⟨0, M, T, rfl, rfl, hr⟩
end
section
/-! the reference's own scratch cells -/
theorem RT.scr {M : zMn} {T T' : zMd} (h : RT M T) (e : md_number T' = md_number T ∧ md_kind T' = md_kind T ∧ md_figure T' = md_figure T ∧ md_one T' = md_one T ∧ md_other T' = md_other T ∧ md_stands T' = md_stands T ∧ md_uses T' = md_uses T ∧ md_earned T' = md_earned T ∧ md_houses T' = md_houses T ∧ md_sums T' = md_sums T ∧ md_falls T' = md_falls T) (ek : md_kept T' = md_kept T) (ei : md_hasImage T' = md_hasImage T)
    (e2 : md_taped T' = md_taped T ∧ md_tape T' = md_tape T ∧ md_rowMany T' = md_rowMany T ∧ md_row T' = md_row T ∧ md_refused T' = md_refused T) : RT M T' := by
  have hr := h
  obtain ⟨-, -, ⟨k, x1, x2, x3, x4⟩, ⟨k2, y1, y2, y3, y4⟩, h5, -⟩ := h
  obtain ⟨f1, f2, f3, f4, f5⟩ := e2
  refine RT.of hr rfl rfl rfl rfl e ek ei ⟨k, x1, x2, f1.trans x3, fun i hi => (x4 i hi).trans (by rw [f2])⟩ ⟨k2, y1, y2, f3.trans y3, fun i hi => (y4 i hi).trans (by rw [f4])⟩ (fun i hi => (h5 i hi).trans (by rw [f5]))
theorem RT.byF {M : zMn} {T : zMd} (h : RT M T) (F : Nat → Int32) : RT M (md_set_byFactors T F) :=
  h.scr ⟨rfl, rfl, rfl, rfl, rfl, rfl, rfl, rfl, rfl, rfl, rfl⟩ rfl rfl ⟨rfl, rfl, rfl, rfl, rfl⟩
theorem RT.ways {M : zMn} {T : zMd} (h : RT M T) (F : Nat → Int32) : RT M (md_set_ways T F) :=
  h.scr ⟨rfl, rfl, rfl, rfl, rfl, rfl, rfl, rfl, rfl, rfl, rfl⟩ rfl rfl ⟨rfl, rfl, rfl, rfl, rfl⟩
theorem RT.wins {M : zMn} {T : zMd} (h : RT M T) (F : Nat → Int32) : RT M (md_set_wins T F) :=
  h.scr ⟨rfl, rfl, rfl, rfl, rfl, rfl, rfl, rfl, rfl, rfl, rfl⟩ rfl rfl ⟨rfl, rfl, rfl, rfl, rfl⟩
theorem RT.wanted {M : zMn} {T : zMd} (h : RT M T) (F : Int32) : RT M (md_set_wanted T F) :=
  h.scr ⟨rfl, rfl, rfl, rfl, rfl, rfl, rfl, rfl, rfl, rfl, rfl⟩ rfl rfl ⟨rfl, rfl, rfl, rfl, rfl⟩
theorem RT.goal {M : zMn} {T : zMd} (h : RT M T) (F : Int32) : RT M (md_set_goal T F) :=
  h.scr ⟨rfl, rfl, rfl, rfl, rfl, rfl, rfl, rfl, rfl, rfl, rfl⟩ rfl rfl ⟨rfl, rfl, rfl, rfl, rfl⟩
theorem RT.tried {M : zMn} {T : zMd} (h : RT M T) (F : Nat → Int32) : RT M (md_set_tried T F) :=
  h.scr ⟨rfl, rfl, rfl, rfl, rfl, rfl, rfl, rfl, rfl, rfl, rfl⟩ rfl rfl ⟨rfl, rfl, rfl, rfl, rfl⟩
theorem RT.comings {M : zMn} {T : zMd} (h : RT M T) (F : Nat → Int32) : RT (mn_set_comings M F) T := by
  have hr := h
  obtain ⟨-, -, h3, h4, h5, -⟩ := h
  exact RT.of hr rfl rfl rfl rfl ⟨rfl, rfl, rfl, rfl, rfl, rfl, rfl, rfl, rfl, rfl, rfl⟩ rfl rfl h3 h4 h5
theorem RT.builders {M : zMn} {T : zMd} (h : RT M T) (F : Nat → Int32) : RT (mn_set_builders M F) T := by
  have hr := h
  obtain ⟨-, -, h3, h4, h5, -⟩ := h
  exact RT.of hr rfl rfl rfl rfl ⟨rfl, rfl, rfl, rfl, rfl, rfl, rfl, rfl, rfl, rfl, rfl⟩ rfl rfl h3 h4 h5
end
section
/-! a search: what it answers when one hits, and when none does; the row that is judged -/
theorem zscan {α : Type} (g : Nat → Int32 → Option α) (p : Nat) (hit : Nat → Prop) (a b : Option α) (hend : ∀ n, g (n + 1) (nI p) = a)
    (hstep : ∀ n i, i < p → (hit i ∧ g (n + 1) (nI i) = b) ∨ (¬ hit i ∧ g (n + 1) (nI i) = g n (nI (i + 1)))) :
    ∀ d i k, i + d = p → d < k → ((∃ j, i ≤ j ∧ j < p ∧ hit j) ∧ g k (nI i) = b) ∨ ((∀ j, i ≤ j → j < p → ¬ hit j) ∧ g k (nI i) = a) := by
  intro d
  induction d with
  | zero =>
    intro i k hi hk
    obtain ⟨k', rfl⟩ : ∃ k', k = k' + 1 := ⟨k - 1, by omega⟩
    have e : i = p := by omega
    rw [e]
    exact Or.inr ⟨fun j h1 h2 => absurd h2 (by omega), hend k'⟩
  | succ d ih =>
    intro i k hi hk
    obtain ⟨k', rfl⟩ : ∃ k', k = k' + 1 := ⟨k - 1, by omega⟩
    rcases hstep k' i (by omega) with ⟨h1, h2⟩ | ⟨h1, h2⟩
    · exact Or.inl ⟨⟨i, Nat.le_refl _, by omega, h1⟩, h2⟩
    · rw [h2]
      rcases ih (i + 1) k' (by omega) (by omega) with ⟨⟨j, x1, x2, x3⟩, x4⟩ | ⟨x1, x2⟩
      · exact Or.inl ⟨⟨j, by omega, x2, x3⟩, x4⟩
      · refine Or.inr ⟨fun j y1 y2 => ?_, x2⟩
        by_cases q : j = i
        · rw [q]; exact h1
        · exact x1 j (by omega) y2
theorem FU_1 : ∃ n, FU = n + 1 := ⟨FU - 1, by unfold FU; omega⟩
section JG
variable {S : zRw} {T : zMd} {k : Nat}
theorem toldR (hk : k ≤ 12) (h : rw_length S = nI k) {i : Nat} (hi : i < k) : fX6_toldAt_R S (nI i) = some (rw_all S i) := by
  unfold fX6_toldAt_R
  rw [if_neg (nI_pos (by omega)), h, if_neg (nI_ge hi (by omega)), ix_nI (by omega) (by omega), nI_clamp (by omega)]
theorem isNew_eq (hk : k ≤ 12) (h : rw_length S = nI k) {p : Nat} (hp : p < k) : ((∃ i, i < p ∧ rw_all S i = rw_all S p) ∧ fX4_isNew S (nI p) = some 0) ∨ ((∀ i, i < p → ¬ rw_all S i = rw_all S p) ∧ fX4_isNew S (nI p) = some 1) := by
  rcases zscan (fun n v => fX4_isNew_l2 S (nI p) n v) p (fun i => rw_all S i = rw_all S p) (some 1) (some 0)
    (fun n => by
      show fX4_isNew_l2 S (nI p) (n + 1) (nI p) = some 1
      rw [fX4_isNew_l2, if_pos (nI_le (by omega) (by omega))])
    (fun n i hi => by
      show _ ∨ _ ∧ fX4_isNew_l2 S (nI p) (n + 1) (nI i) = fX4_isNew_l2 S (nI p) n (nI (i + 1))
      by_cases q : rw_all S i = rw_all S p
      · refine Or.inl ⟨q, ?_⟩
        show fX4_isNew_l2 S (nI p) (n + 1) (nI i) = some 0
        rw [fX4_isNew_l2, if_neg (nI_ge hi (by omega)), toldR hk h (by omega), toldR hk h hp]
        repeat rw [Option.bind_some]
        rw [if_pos q]
      · refine Or.inr ⟨q, ?_⟩
        rw [fX4_isNew_l2, if_neg (nI_ge hi (by omega)), toldR hk h (by omega), toldR hk h hp]
        repeat rw [Option.bind_some]
        rw [if_neg q, nI_1]) p 0 FU (by omega) (FU_big _ (by omega)) with ⟨⟨j, -, x2, x3⟩, x4⟩ | ⟨x1, x2⟩
  · exact Or.inl ⟨⟨j, x2, x3⟩, x4⟩
  · exact Or.inr ⟨fun i hi => x1 i (by omega) hi, x2⟩
theorem isSumR_in (hk : k ≤ 12) (h : rw_length S = nI k) {p i : Nat} (hp : p < k) (hi : i ≤ p) (K : Int32 → Option Int32) : ((∃ j, i ≤ j ∧ j < p ∧ rw_all S i + rw_all S j = rw_all S p) ∧ fX4_isSum_l9 S (nI p) (nI i) K FU (nI i) = some 1) ∨ ((∀ j, i ≤ j → j < p → ¬ rw_all S i + rw_all S j = rw_all S p) ∧ fX4_isSum_l9 S (nI p) (nI i) K FU (nI i) = K (nI (i + 1))) :=
  zscan (fun n v => fX4_isSum_l9 S (nI p) (nI i) K n v) p (fun j => rw_all S i + rw_all S j = rw_all S p) (K (nI (i + 1))) (some 1)
    (fun n => by
      show fX4_isSum_l9 S (nI p) (nI i) K (n + 1) (nI p) = _
      rw [fX4_isSum_l9, if_pos (nI_le (by omega) (by omega)), nI_1])
    (fun n j hj => by
      show _ ∨ _ ∧ fX4_isSum_l9 S (nI p) (nI i) K (n + 1) (nI j) = fX4_isSum_l9 S (nI p) (nI i) K n (nI (j + 1))
      by_cases q : rw_all S i + rw_all S j = rw_all S p
      · refine Or.inl ⟨q, ?_⟩
        show fX4_isSum_l9 S (nI p) (nI i) K (n + 1) (nI j) = some 1
        rw [fX4_isSum_l9, if_neg (nI_ge hj (by omega)), toldR hk h (by omega), toldR hk h (by omega), toldR hk h hp]
        repeat rw [Option.bind_some]
        rw [if_pos q]
      · refine Or.inr ⟨q, ?_⟩
        rw [fX4_isSum_l9, if_neg (nI_ge hj (by omega)), toldR hk h (by omega), toldR hk h (by omega), toldR hk h hp]
        repeat rw [Option.bind_some]
        rw [if_neg q, nI_1]) (p - i) i FU (by omega) (FU_big _ (by omega))
theorem isSumR_eq (hk : k ≤ 12) (h : rw_length S = nI k) {p : Nat} (hp : p < k) : ((∃ i j, i ≤ j ∧ j < p ∧ rw_all S i + rw_all S j = rw_all S p) ∧ fX4_isSum S (nI p) = some 1) ∨ ((∀ i j, i ≤ j → j < p → ¬ rw_all S i + rw_all S j = rw_all S p) ∧ fX4_isSum S (nI p) = some 0) := by
  rcases zscan (fun n v => fX4_isSum_l2 S (nI p) n v) p (fun i => ∃ j, i ≤ j ∧ j < p ∧ rw_all S i + rw_all S j = rw_all S p) (some 0) (some 1)
    (fun n => by
      show fX4_isSum_l2 S (nI p) (n + 1) (nI p) = some 0
      rw [fX4_isSum_l2, if_pos (nI_le (by omega) (by omega))])
    (fun n i hi => by
      show _ ∧ fX4_isSum_l2 S (nI p) (n + 1) (nI i) = some 1 ∨ _ ∧ fX4_isSum_l2 S (nI p) (n + 1) (nI i) = fX4_isSum_l2 S (nI p) n (nI (i + 1))
      rw [fX4_isSum_l2, if_neg (nI_ge hi (by omega))]
      rcases isSumR_in hk h hp (i := i) (by omega) (fX4_isSum_l2 S (nI p) n) with ⟨x1, x2⟩ | ⟨x1, x2⟩
      · exact Or.inl ⟨x1, x2⟩
      · exact Or.inr ⟨fun ⟨j, y1, y2, y3⟩ => x1 j y1 y2 y3, x2⟩) p 0 FU (by omega) (FU_big _ (by omega)) with ⟨⟨i, -, -, j, x1, x2, x3⟩, x4⟩ | ⟨x1, x2⟩
  · exact Or.inl ⟨⟨i, j, x1, x2, x3⟩, x4⟩
  · exact Or.inr ⟨fun i j y1 y2 y3 => x1 i (by omega) (by omega) ⟨j, y1, y2, y3⟩, x2⟩
theorem isWell_in {p i : Nat} (hp : p < 12) (hi : i < p) (K : Int32 → Int32 → Option Int32) : ∀ d j n (v : Int32), j + d = p → d < n → (v = 0 ∨ v = 1) →
    ((v = 1 ∨ ∃ l, j ≤ l ∧ l < p ∧ md_row T i + md_row T l = md_row T p) ∧ fX8_isWell_l47 T (nI p) (nI i) K n v (nI j) = K 1 (nI (i + 1))) ∨ ((v = 0 ∧ ∀ l, j ≤ l → l < p → ¬ md_row T i + md_row T l = md_row T p) ∧ fX8_isWell_l47 T (nI p) (nI i) K n v (nI j) = K 0 (nI (i + 1))) := by
  intro d
  induction d with
  | zero =>
    intro j n v hj hn hv
    obtain ⟨n, rfl⟩ : ∃ k', n = k' + 1 := ⟨n - 1, by omega⟩
    rw [fX8_isWell_l47, if_pos (nI_le (by omega) (by omega)), nI_1]
    rcases hv with rfl | rfl
    · exact Or.inr ⟨⟨rfl, fun l h1 h2 => absurd h2 (by omega)⟩, rfl⟩
    · exact Or.inl ⟨Or.inl rfl, rfl⟩
  | succ d ih =>
    intro j n v hj hn hv
    obtain ⟨n, rfl⟩ : ∃ k', n = k' + 1 := ⟨n - 1, by omega⟩
    rw [fX8_isWell_l47, if_neg (nI_ge (by omega) (by omega)), ix_nI (by omega) (by omega), ix_nI (by omega) (by omega), ix_nI (by omega) (by omega), nI_clamp (by omega), nI_clamp (by omega), nI_clamp (by omega), nI_1]
    by_cases q : md_row T i + md_row T j = md_row T p
    · rw [if_pos q]
      have e : v ||| (1 : Int32) = 1 := by rcases hv with rfl | rfl <;> rfl
      rw [e]
      rcases ih (j + 1) n 1 (by omega) (by omega) (Or.inr rfl) with ⟨-, x2⟩ | ⟨⟨x1, -⟩, -⟩
      · exact Or.inl ⟨Or.inr ⟨j, Nat.le_refl _, by omega, q⟩, x2⟩
      · exact absurd x1 (by decide)
    · rw [if_neg q]
      have e : v ||| (0 : Int32) = v := by rcases hv with rfl | rfl <;> rfl
      rw [e]
      rcases ih (j + 1) n v (by omega) (by omega) hv with ⟨x1, x2⟩ | ⟨⟨x0, x1⟩, x2⟩
      · refine Or.inl ⟨?_, x2⟩
        rcases x1 with z | ⟨l, y1, y2, y3⟩
        · exact Or.inl z
        · exact Or.inr ⟨l, by omega, y2, y3⟩
      · refine Or.inr ⟨⟨x0, fun l y1 y2 => ?_⟩, x2⟩
        by_cases z : l = j
        · rw [z]; exact q
        · exact x1 l (by omega) y2
theorem isWell_out {p : Nat} (hp : p < 12) : ∀ d i n (v : Int32), i + d = p → d < n → (v = 0 ∨ v = 1) →
    (((∀ l, i ≤ l → l < p → ¬ md_row T l = md_row T p) ∧ (v = 1 ∨ ∃ l m, i ≤ l ∧ l ≤ m ∧ m < p ∧ md_row T l + md_row T m = md_row T p)) ∧ fX8_isWell_l22 T (nI p) n v (nI i) = some 1) ∨
    (¬ ((∀ l, i ≤ l → l < p → ¬ md_row T l = md_row T p) ∧ (v = 1 ∨ ∃ l m, i ≤ l ∧ l ≤ m ∧ m < p ∧ md_row T l + md_row T m = md_row T p)) ∧ fX8_isWell_l22 T (nI p) n v (nI i) = some 0) := by
  intro d
  induction d with
  | zero =>
    intro i n v hi hn hv
    obtain ⟨n, rfl⟩ : ∃ k', n = k' + 1 := ⟨n - 1, by omega⟩
    rw [fX8_isWell_l22, if_pos (nI_le (by omega) (by omega))]
    rcases hv with rfl | rfl
    · refine Or.inr ⟨fun ⟨_, z⟩ => ?_, rfl⟩
      rcases z with z | ⟨l, m, y1, y2, y3, _⟩
      · exact absurd z (by decide)
      · omega
    · exact Or.inl ⟨⟨fun l h1 h2 => absurd h2 (by omega), Or.inl rfl⟩, rfl⟩
  | succ d ih =>
    intro i n v hi hn hv
    obtain ⟨n, rfl⟩ : ∃ k', n = k' + 1 := ⟨n - 1, by omega⟩
    rw [fX8_isWell_l22, if_neg (nI_ge (by omega) (by omega)), ix_nI (by omega) (by omega), ix_nI (by omega) (by omega), nI_clamp (by omega), nI_clamp (by omega)]
    by_cases q : md_row T i = md_row T p
    · rw [if_pos q]
      exact Or.inr ⟨fun ⟨z, _⟩ => z i (by omega) (by omega) q, rfl⟩
    · rw [if_neg q]
      have H : ∀ u : Int32, (u = 0 ∨ u = 1) → (u = 1 ↔ (v = 1 ∨ ∃ l, i ≤ l ∧ l < p ∧ md_row T i + md_row T l = md_row T p)) → fX8_isWell_l47 T (nI p) (nI i) (fX8_isWell_l22 T (nI p) n) FU v (nI i) = fX8_isWell_l22 T (nI p) n u (nI (i + 1)) →
        (((∀ l, i ≤ l → l < p → ¬ md_row T l = md_row T p) ∧ (v = 1 ∨ ∃ l m, i ≤ l ∧ l ≤ m ∧ m < p ∧ md_row T l + md_row T m = md_row T p)) ∧ fX8_isWell_l47 T (nI p) (nI i) (fX8_isWell_l22 T (nI p) n) FU v (nI i) = some 1) ∨
        (¬ ((∀ l, i ≤ l → l < p → ¬ md_row T l = md_row T p) ∧ (v = 1 ∨ ∃ l m, i ≤ l ∧ l ≤ m ∧ m < p ∧ md_row T l + md_row T m = md_row T p)) ∧ fX8_isWell_l47 T (nI p) (nI i) (fX8_isWell_l22 T (nI p) n) FU v (nI i) = some 0) := by
        intro u hu hiff he
        rw [he]
        rcases ih (i + 1) n u (by omega) (by omega) hu with ⟨⟨x1, x2⟩, x3⟩ | ⟨x1, x3⟩
        · refine Or.inl ⟨⟨fun l h1 h2 => ?_, ?_⟩, x3⟩
          · by_cases z : l = i
            · rw [z]; exact q
            · exact x1 l (by omega) h2
          · rcases x2 with z | ⟨l, m, y1, y2, y3, y4⟩
            · rcases hiff.mp z with z | ⟨l, y1, y2, y3⟩
              · exact Or.inl z
              · exact Or.inr ⟨i, l, by omega, y1, y2, y3⟩
            · exact Or.inr ⟨l, m, by omega, y2, y3, y4⟩
        · refine Or.inr ⟨fun ⟨z1, z2⟩ => x1 ⟨fun l h1 h2 => z1 l (by omega) h2, ?_⟩, x3⟩
          rcases z2 with z | ⟨l, m, y1, y2, y3, y4⟩
          · exact Or.inl (hiff.mpr (Or.inl z))
          · by_cases z : l = i
            · subst z
              exact Or.inl (hiff.mpr (Or.inr ⟨m, y2, y3, y4⟩))
            · exact Or.inr ⟨l, m, by omega, y2, y3, y4⟩
      rcases isWell_in (T := T) hp (i := i) (by omega) (fX8_isWell_l22 T (nI p) n) (p - i) i FU v (by omega) (FU_big _ (by omega)) hv with ⟨x1, x2⟩ | ⟨⟨x0, x1⟩, x2⟩
      · exact H 1 (Or.inr rfl) ⟨fun _ => x1, fun _ => rfl⟩ x2
      · refine H 0 (Or.inl rfl) ⟨fun z => absurd z (by decide), fun z => ?_⟩ x2
        rcases z with z | ⟨l, y1, y2, y3⟩
        · rw [x0] at z; exact absurd z (by decide)
        · exact absurd y3 (x1 l y1 y2)
def zWell (a : Nat → Int32) (p : Nat) : Prop := (p = 0 ∧ a 0 = 1) ∨ (0 < p ∧ (∀ i, i < p → ¬ a i = a p) ∧ ∃ i j, i ≤ j ∧ j < p ∧ a i + a j = a p)
theorem isWell_eq {p : Nat} (hp : p < 12) : (zWell (md_row T) p ∧ fX8_isWell T (nI p) = some 1) ∨ (¬ zWell (md_row T) p ∧ fX8_isWell T (nI p) = some 0) := by
  by_cases q : p = 0
  · subst q
    unfold fX8_isWell
    rw [if_pos (show nI 0 = (0 : Int32) from rfl), show ix 12 (0 : Int32) = @ix Int32 12 (nI 0) from rfl, ix_nI (by omega) (by omega), show ((0 : Int32)).toNatClampNeg = 0 from rfl]
    by_cases e : md_row T 0 = 1
    · rw [if_pos e]
      refine Or.inl ⟨Or.inl ⟨rfl, e⟩, ?_⟩
      unfold fX8_isWell_j19
      rcases isWell_out (T := T) hp 0 0 FU 1 (by omega) (FU_big _ (by omega)) (Or.inr rfl) with ⟨-, x⟩ | ⟨x, -⟩
      · exact x
      · exact absurd ⟨fun l h1 h2 => absurd h2 (by omega), Or.inl rfl⟩ x
    · rw [if_neg e]
      refine Or.inr ⟨fun z => ?_, ?_⟩
      · rcases z with ⟨_, z⟩ | ⟨z, _⟩
        · exact e z
        · omega
      · unfold fX8_isWell_j18 fX8_isWell_j19
        rcases isWell_out (T := T) hp 0 0 FU 0 (by omega) (FU_big _ (by omega)) (Or.inl rfl) with ⟨⟨_, x⟩, _⟩ | ⟨_, x⟩
        · rcases x with x | ⟨l, m, y1, y2, y3, _⟩
          · exact absurd x (by decide)
          · omega
        · exact x
  · unfold fX8_isWell
    rw [if_neg (nI_ne0 (by omega) (by omega))]
    unfold fX8_isWell_j18 fX8_isWell_j19
    rcases isWell_out (T := T) hp p 0 FU 0 (by omega) (FU_big _ (by omega)) (Or.inl rfl) with ⟨⟨x1, x2⟩, x3⟩ | ⟨x1, x3⟩
    · refine Or.inl ⟨Or.inr ⟨by omega, fun i hi => x1 i (by omega) hi, ?_⟩, x3⟩
      rcases x2 with x2 | ⟨l, m, y1, y2, y3, y4⟩
      · exact absurd x2 (by decide)
      · exact ⟨l, m, y2, y3, y4⟩
    · refine Or.inr ⟨fun z => x1 ?_, x3⟩
      rcases z with ⟨z, _⟩ | ⟨_, z1, l, m, y2, y3, y4⟩
      · omega
      · exact ⟨fun i _ hi => z1 i hi, Or.inr ⟨l, m, by omega, y2, y3, y4⟩⟩
theorem firstWrong_l (hk : k ≤ 12) (h : rw_length S = nI k) (hs : ∀ i, i < k → rw_all S i = md_row T i) : ∀ d i n, i + d = k → d < n → ∃ r, fX4_firstWrong_l2 S n (nI i) = some r ∧ fX8_judge_l12 (nI k) T n (nI i) = some (r, T) := by
  intro d
  induction d with
  | zero =>
    intro i n hi hn
    obtain ⟨n, rfl⟩ : ∃ k', n = k' + 1 := ⟨n - 1, by omega⟩
    refine ⟨-9, ?_, ?_⟩
    · rw [fX4_firstWrong_l2, show fX6_howMany_R S = nI k from h, if_pos (nI_le (by omega) (by omega))]
    · rw [fX8_judge_l12, if_pos (nI_le (by omega) (by omega))]
  | succ d ih =>
    intro i n hi hn
    obtain ⟨n, rfl⟩ : ∃ k', n = k' + 1 := ⟨n - 1, by omega⟩
    obtain ⟨r, e1, e2⟩ := ih (i + 1) n (by omega) (by omega)
    have gw : fX4_firstWrong_j52 S (nI i) 0 (fX4_firstWrong_l2 S n) = some (nI i) := by
      unfold fX4_firstWrong_j52
      rw [if_pos rfl]
    have go : fX4_firstWrong_j52 S (nI i) 1 (fX4_firstWrong_l2 S n) = some r := by
      unfold fX4_firstWrong_j52
      rw [if_neg (by decide), nI_1, e1]
    have hz : (zWell (md_row T) i ∧ fX4_firstWrong_l2 S (n + 1) (nI i) = some r) ∨ (¬ zWell (md_row T) i ∧ fX4_firstWrong_l2 S (n + 1) (nI i) = some (nI i)) := by
      rw [fX4_firstWrong_l2, show fX6_howMany_R S = nI k from h, if_neg (nI_ge (by omega) (by omega))]
      by_cases q : i = 0
      · subst q
        rw [if_pos (show nI 0 = (0 : Int32) from rfl), show fX6_toldAt_R S (0 : Int32) = fX6_toldAt_R S (nI 0) from rfl, toldR hk h (by omega), hs 0 (by omega)]
        repeat rw [Option.bind_some]
        by_cases e : md_row T 0 = 1
        · rw [if_pos e]
          exact Or.inl ⟨Or.inl ⟨rfl, e⟩, go⟩
        · rw [if_neg e]
          refine Or.inr ⟨fun z => ?_, gw⟩
          rcases z with ⟨_, z⟩ | ⟨z, _⟩
          · exact e z
          · omega
      · rw [if_neg (nI_ne0 (by omega) (by omega))]
        unfold fX4_firstWrong_j51
        rcases isNew_eq hk h (p := i) (by omega) with ⟨⟨j, x1, x2⟩, x3⟩ | ⟨x1, x3⟩
        · rw [x3]
          repeat rw [Option.bind_some]
          rw [if_pos (show (0 : Int32) = 0 from rfl)]
          refine Or.inr ⟨fun z => ?_, gw⟩
          rcases z with ⟨z, _⟩ | ⟨_, z, _⟩
          · exact q z
          · exact z j x1 (by rw [← hs j (by omega), ← hs i (by omega)]; exact x2)
        · rw [x3]
          repeat rw [Option.bind_some]
          rw [if_neg (show ¬ (1 : Int32) = 0 from by decide)]
          rcases isSumR_eq hk h (p := i) (by omega) with ⟨⟨j, l, y1, y2, y3⟩, y4⟩ | ⟨y1, y4⟩
          · rw [y4]
            repeat rw [Option.bind_some]
            rw [if_neg (show ¬ (1 : Int32) = 0 from by decide)]
            refine Or.inl ⟨Or.inr ⟨by omega, fun m hm => ?_, j, l, y1, y2, ?_⟩, go⟩
            · rw [← hs m (by omega), ← hs i (by omega)]; exact x1 m hm
            · rw [← hs j (by omega), ← hs l (by omega), ← hs i (by omega)]; exact y3
          · rw [y4]
            repeat rw [Option.bind_some]
            rw [if_pos (show (0 : Int32) = 0 from rfl)]
            refine Or.inr ⟨fun z => ?_, gw⟩
            rcases z with ⟨z, _⟩ | ⟨_, _, j, l, z1, z2, z3⟩
            · exact q z
            · exact y1 j l z1 z2 (by rw [hs j (by omega), hs l (by omega), hs i (by omega)]; exact z3)
    have hm : fX8_judge_l12 (nI k) T (n + 1) (nI i) = (fX8_isWell T (nI i)).bind fun u2 => if u2 = 0 then some (nI i, T) else fX8_judge_l12 (nI k) T n (nI i + 1) := by
      rw [fX8_judge_l12, if_neg (nI_ge (by omega) (by omega))]
    rcases isWell_eq (T := T) (p := i) (by omega) with ⟨x1, x2⟩ | ⟨x1, x2⟩
    · rcases hz with ⟨_, y⟩ | ⟨y, _⟩
      · refine ⟨r, y, ?_⟩
        rw [hm, x2]
        repeat rw [Option.bind_some]
        rw [if_neg (show ¬ (1 : Int32) = 0 from by decide), nI_1, e2]
      · exact absurd x1 y
    · rcases hz with ⟨y, _⟩ | ⟨_, y⟩
      · exact absurd y x1
      · refine ⟨nI i, y, ?_⟩
        rw [hm, x2]
        repeat rw [Option.bind_some]
        rw [if_pos (show (0 : Int32) = 0 from rfl)]
end JG
theorem sim_judge : zSim_judge RT := by
  intro M T h
  have hr := h
  obtain ⟨h1, h2, h3, ⟨k, hk, ek, ek2, hs⟩, h5, h6⟩ := h
  obtain ⟨r, e1, e2⟩ := firstWrong_l (S := mn_told M) (T := md_set_rowMany T 0) hk ek hs k 0 FU (by omega) (FU_big _ (by omega))
  refine ⟨r, mn_set_told M (fX6_forget_R (mn_told M)), md_set_rowMany T 0, ?_, ?_, RT.of hr rfl rfl rfl rfl ⟨rfl, rfl, rfl, rfl, rfl, rfl, rfl, rfl, rfl, rfl, rfl⟩ rfl rfl h3 ⟨0, by omega, rfl, rfl, fun i hi => absurd hi (by omega)⟩ h5⟩
  · unfold fX7_judge fX4_firstWrong
    rw [show (0 : Int32) = nI 0 from rfl, e1]; rfl
  · unfold fX8_judge
    rw [ek2]
    exact e2
end
section
/-! a way to a number: by halves, by factors -/
theorem z_halves : ∀ n, n < 301 → 1 ≤ n → fX8_halves (nI n) = some (fX0_byHalves (nI n)) := by decide +kernel
def zBF (n : Nat) : Nat := [0, 1, 2, 3, 3, 4, 4, 5, 4, 5, 5, 6, 5, 6, 6, 6, 5, 6, 6, 7, 6, 7, 7, 8, 6, 7, 7, 7, 7, 8, 7, 8, 6, 8, 7, 8, 7, 8, 8, 8, 7, 8, 8, 9, 8, 8, 9, 10, 7, 9, 8, 8, 8, 9, 8, 9, 8, 9, 9, 10, 8, 9, 9, 9, 7, 9, 9, 10, 8, 10, 9, 10, 8, 9, 9, 9, 9, 10, 9, 10, 8, 9, 9, 10, 9, 9, 10, 10, 9, 10, 9, 10, 10, 10, 11, 10, 8, 9, 10, 10, 9, 10, 9, 10, 9, 10, 10, 11, 9, 10, 10, 10, 9, 10, 10, 11, 10, 10, 11, 10, 9, 11, 10, 10, 10, 10, 10, 11, 8, 11, 10, 11, 10, 11, 11, 10, 9, 10, 11, 12, 10, 12, 11, 11, 9, 11, 10, 11, 10, 11, 10, 11, 10, 10, 11, 11, 10, 11, 11, 11, 9, 12, 10, 11, 10, 11, 11, 12, 10, 11, 10, 11, 11, 12, 11, 11, 10, 12, 11, 12, 10, 11, 11, 11, 11, 11, 11, 11, 12, 11, 11, 12, 9, 10, 10, 11, 11, 12, 11, 12, 10, 12, 11, 12, 10, 11, 11, 12, 10, 12, 11, 12, 11, 12, 12, 12, 10, 12, 11, 11, 11, 11, 11, 12, 10, 11, 11, 12, 11, 12, 12, 12, 11, 12, 11, 13, 12, 12, 11, 12, 10, 11, 12, 11, 11, 12, 11, 12, 11, 12, 11, 12, 11, 13, 12, 11, 9, 10, 12, 12, 11, 12, 12, 13, 11, 12, 12, 12, 12, 13, 11, 12, 10, 12, 11, 12, 12, 13, 13, 12, 11, 12, 13, 14, 12, 12, 12, 12, 10, 11, 12, 11, 11, 12, 12, 13, 11, 12, 12, 13, 11].getD n 0
def zLF (n : Nat) : Nat := [0, 0, 2, 3, 2, 5, 2, 7, 2, 3, 2, 11, 2, 13, 2, 3, 2, 17, 2, 19, 2, 3, 2, 23, 2, 5, 2, 3, 2, 29, 2, 31, 2, 3, 2, 5, 2, 37, 2, 3, 2, 41, 2, 43, 2, 3, 2, 47, 2, 7, 2, 3, 2, 53, 2, 5, 2, 3, 2, 59, 2, 61, 2, 3, 2, 5, 2, 67, 2, 3, 2, 71, 2, 73, 2, 3, 2, 7, 2, 79, 2, 3, 2, 83, 2, 5, 2, 3, 2, 89, 2, 7, 2, 3, 2, 5, 2, 97, 2, 3, 2, 101, 2, 103, 2, 3, 2, 107, 2, 109, 2, 3, 2, 113, 2, 5, 2, 3, 2, 7, 2, 11, 2, 3, 2, 5, 2, 127, 2, 3, 2, 131, 2, 7, 2, 3, 2, 137, 2, 139, 2, 3, 2, 11, 2, 5, 2, 3, 2, 149, 2, 151, 2, 3, 2, 5, 2, 157, 2, 3, 2, 7, 2, 163, 2, 3, 2, 167, 2, 13, 2, 3, 2, 173, 2, 5, 2, 3, 2, 179, 2, 181, 2, 3, 2, 5, 2, 11, 2, 3, 2, 191, 2, 193, 2, 3, 2, 197, 2, 199, 2, 3, 2, 7, 2, 5, 2, 3, 2, 11, 2, 211, 2, 3, 2, 5, 2, 7, 2, 3, 2, 13, 2, 223, 2, 3, 2, 227, 2, 229, 2, 3, 2, 233, 2, 5, 2, 3, 2, 239, 2, 241, 2, 3, 2, 5, 2, 13, 2, 3, 2, 251, 2, 11, 2, 3, 2, 257, 2, 7, 2, 3, 2, 263, 2, 5, 2, 3, 2, 269, 2, 271, 2, 3, 2, 5, 2, 277, 2, 3, 2, 281, 2, 283, 2, 3, 2, 7, 2, 17, 2, 3, 2, 293, 2, 5, 2, 3, 2, 13, 2].getD n 0
theorem z_split : ∀ n, n < 301 → 1 ≤ n → fX0_splitDown 44 (nI n) 0 = some (nI (zBF n)) := by decide +kernel
theorem z_lf : ∀ n, n < 301 → 2 ≤ n → fX8_leastFactor (nI n) = some (nI (zLF n)) ∧ 2 ≤ zLF n ∧ zLF n ≤ n := by decide +kernel
theorem z_bf : ∀ n, n < 301 → 2 ≤ n → (zLF n = n → zBF n = zBF (n - 1) + 1) ∧ (zLF n ≠ n → 1 ≤ n / zLF n ∧ n / zLF n < n ∧ 1 ≤ zBF (zLF n) ∧ zBF n = zBF (zLF n) + zBF (n / zLF n) - 1) := by decide +kernel
theorem factors_l {v : Nat} (hv : v ≤ 300) (hv1 : 1 ≤ v) : ∀ d i n (T : zMd), i + d = v + 1 → 2 ≤ i → d < n → (∀ m, 1 ≤ m → m < i → md_byFactors T m = nI (zBF m)) →
    ∃ F, fX8_factors_l9 (nI v) n (nI i) T = some (nI (zBF v), md_set_byFactors T F) := by
  intro d
  induction d with
  | zero =>
    intro i n T hi h2 hn hB
    obtain ⟨n, rfl⟩ : ∃ k', n = k' + 1 := ⟨n - 1, by omega⟩
    refine ⟨md_byFactors T, ?_⟩
    rw [fX8_factors_l9, if_pos (nI_lt (by omega) (by omega)), ix_nI (by omega) (by omega), nI_clamp (by omega), hB v hv1 (by omega)]
    rfl
  | succ d ih =>
    intro i n T hi h2 hn hB
    obtain ⟨n, rfl⟩ : ∃ k', n = k' + 1 := ⟨n - 1, by omega⟩
    obtain ⟨l1, l2, l3⟩ := z_lf i (by omega) h2
    obtain ⟨b1, b2⟩ := z_bf i (by omega) h2
    rw [fX8_factors_l9, if_neg (nI_nlt (by omega) (by omega)), l1]
    repeat rw [Option.bind_some]
    have step : ∀ x, x = nI (zBF i) → ∃ F, fX8_factors_j59 (nI v) (nI i) (nI i) x T (fX8_factors_l9 (nI v) n) = some (nI (zBF v), md_set_byFactors T F) := by
      intro x hx
      unfold fX8_factors_j59
      rw [ix_nI (by omega) (by omega), nI_clamp (by omega), nI_1, hx]
      obtain ⟨F, e⟩ := ih (i + 1) n (md_set_byFactors T (upd (md_byFactors T) i (nI (zBF i)))) (by omega) (by omega) (by omega) (fun m h1 h2 => by
        show upd _ _ _ m = _
        rw [upd_at]
        by_cases q : m = i
        · rw [if_pos q, q]
        · rw [if_neg q]; exact hB m h1 (by omega))
      exact ⟨F, e⟩
    by_cases q : zLF i = i
    · rw [if_pos (by rw [q])]
      have e1 : nI i - 1 = nI (i - 1) := by
        have := nI_pred (i - 1)
        rwa [show i - 1 + 1 = i from by omega] at this
      rw [e1, ix_nI (by omega) (by omega), nI_clamp (by omega), hB (i - 1) (by omega) (by omega)]
      exact step _ (by rw [nI_1, b1 q])
    · obtain ⟨c1, c2, c3, c4⟩ := b2 q
      rw [if_neg (fun z => q ((nI_eq (by omega) (by omega)).mp z)), ix_nI (by omega) (by omega), if_neg (nI_ne0 (by omega) (by omega)), pk_div (by omega) (by omega) (by omega), ix_nI (by omega) (by omega), nI_clamp (by omega), nI_clamp (by omega), hB (zLF i) (by omega) (by omega), hB (i / zLF i) c1 (by omega)]
      refine step _ ?_
      rw [nI_add, show (1 : Int32) = nI 1 from rfl, pk_sub (by omega), c4]
theorem sim_way : zSim_way RT := by
  intro M T p q h
  have hr := h
  unfold fX7_way fX8_way
  have R : ∀ t : Int32, (t = -2 ∨ t = -4 ∨ t = -6) → ∃ r M' T', fX7_way_j20 p q t M = some (r, M') ∧ fX8_way_j22 p q t T = some (r, T') ∧ RT M' T' := by
    intro t ht
    unfold fX7_way_j20 fX8_way_j22
    rcases ht with rfl | rfl | rfl
    · rw [if_neg (by decide), if_neg (by decide)]
      obtain ⟨M', T', x, y, e⟩ := refuse_2 hr
      exact ⟨-2, M', T', by rw [x]; rfl, by rw [y]; rfl, e⟩
    · rw [if_neg (by decide), if_neg (by decide)]
      obtain ⟨M', T', x, y, e⟩ := refuse_4 hr
      exact ⟨-4, M', T', by rw [x]; rfl, by rw [y]; rfl, e⟩
    · rw [if_neg (by decide), if_neg (by decide)]
      obtain ⟨M', T', x, y, e⟩ := refuse_6 hr
      exact ⟨-6, M', T', by rw [x]; rfl, by rw [y]; rfl, e⟩
  have e0 : fX8_bound p 1 300 = fX7_outside p 1 300 := rfl
  rcases two_3 q with ⟨t1, t2⟩ | ⟨t1, t2, t3⟩
  · rw [t1, t2, if_pos rfl, if_pos rfl]
    exact R (-2) (Or.inl rfl)
  rw [t1, t2, if_neg (by decide), if_neg (by decide), e0]
  rcases outside_3 p 1 300 (by omega) (by omega) with e | e | ⟨e, N, hN1, hN2, rfl⟩
  · have e' : fX7_outside p 1 300 = -4 := e
    rw [e']; exact R (-4) (Or.inr (Or.inl rfl))
  · have e' : fX7_outside p 1 300 = -6 := e
    rw [e']; exact R (-6) (Or.inr (Or.inr rfl))
  have e' : fX7_outside (nI N) 1 300 = 0 := e
  rw [e']
  unfold fX7_way_j20 fX8_way_j22
  simp only [if_pos rfl]
  by_cases g : q = 0
  · simp only [if_pos g]
    refine ⟨fX0_byHalves (nI N), M, T, rfl, ?_, hr⟩
    rw [z_halves N (by omega) hN1]; rfl
  · simp only [if_neg g]
    obtain ⟨F, f1⟩ := factors_l hN2 hN1 (N - 1) 2 FU (md_set_byFactors T (upd (md_byFactors T) 1 1)) (by omega) (by omega) (FU_big _ (by omega)) (fun m h1 h2 => by
      have e : m = 1 := by omega
      subst e; rfl)
    have f1' : fX8_factors_l9 (nI N) FU 2 (md_set_byFactors T (upd (md_byFactors T) (1 : Int32).toNatClampNeg 1)) = some (nI (zBF N), md_set_byFactors T F) := f1
    refine ⟨nI (zBF N), M, md_set_byFactors T F, ?_, ?_, hr.byF F⟩
    · unfold fX0_byFactors
      rw [z_split N (by omega) hN1]; rfl
    · unfold fX8_factors
      rw [f1', show (ix 301 (1 : Int32) (some (nI (zBF N), md_set_byFactors T F))) = some (nI (zBF N), md_set_byFactors T F) from ix_nI (n := 301) (j := 1) (by omega) (by omega)]
      rfl
end
section
/-! two who build by turns -/
def zNew (s n : Nat) : Prop := s.testBit n = false ∧ ∃ i, 1 ≤ i ∧ 2 * i ≤ n ∧ s.testBit i = true ∧ s.testBit (n - i) = true
def zWon (p : Nat) (f : Nat → Int32) (s : Nat) : Prop := zNew s p ∨ ∃ i, 2 ≤ i ∧ i < p ∧ zNew s i ∧ f (s ||| 2 ^ i) = 0
theorem z_tbN (s n : Nat) : (s.testBit n = false) ∨ (s.testBit n = true) := by
  cases s.testBit n
  · exact Or.inl rfl
  · exact Or.inr rfl
theorem z_or_add' : ∀ i, i < 12 → ∀ qa, qa < 64 → ∀ qb, qb < 64 → (64 * qa + qb).testBit i = false → (64 * qa + qb) ||| 2 ^ i = (64 * qa + qb) + 2 ^ i := by decide +kernel
theorem z_or_add : ∀ i, i < 12 → ∀ s, s < 4096 → s.testBit i = false → s ||| 2 ^ i = s + 2 ^ i := by
  intro i hi s hw
  have t := z_or_add' i hi (s / 64) (by omega) (s % 64) (by omega)
  rw [show 64 * (s / 64) + s % 64 = s from by omega] at t
  exact t
theorem zWon_congr {p : Nat} {f g : Nat → Int32} {s : Nat} (h : ∀ i, 2 ≤ i → i < p → s.testBit i = false → f (s ||| 2 ^ i) = g (s ||| 2 ^ i)) : zWon p f s ↔ zWon p g s := by
  constructor
  · rintro (z | ⟨i, h1, h2, h3, h4⟩)
    · exact Or.inl z
    · exact Or.inr ⟨i, h1, h2, h3, by rw [← h i h1 h2 h3.1]; exact h4⟩
  · rintro (z | ⟨i, h1, h2, h3, h4⟩)
    · exact Or.inl z
    · exact Or.inr ⟨i, h1, h2, h3, by rw [h i h1 h2 h3.1]; exact h4⟩
theorem has8 {w h : Nat} (hw : w < 2 ^ 31) (hh : h < 32) : fX8_has (nI w) (nI h) = zbit w h := by
  unfold fX8_has
  rw [z_bit hw hh]
  rcases zbit01 w h with e | e
  · rw [e]; rfl
  · rw [e]; rfl
theorem isSumIn_eq (T : zMd) {s n : Nat} (hs : s < 4096) (hn : n ≤ 12) : ((∃ i, 1 ≤ i ∧ 2 * i ≤ n ∧ s.testBit i = true ∧ s.testBit (n - i) = true) ∧ fX8_isSumIn T (nI s) (nI n) = some 1) ∨ ((¬ ∃ i, 1 ≤ i ∧ 2 * i ≤ n ∧ s.testBit i = true ∧ s.testBit (n - i) = true) ∧ fX8_isSumIn T (nI s) (nI n) = some 0) := by
  rcases zscan (fun k v => fX8_isSumIn_l2 T (nI s) (nI n) k v) (n / 2 + 1) (fun i => s.testBit i = true ∧ s.testBit (n - i) = true) (some 0) (some 1)
    (fun k => by
      show fX8_isSumIn_l2 T (nI s) (nI n) (k + 1) (nI (n / 2 + 1)) = some 0
      rw [fX8_isSumIn_l2, show (2 : Int32) = nI 2 from rfl, pk_mul, if_pos (nI_lt (by omega) (by omega))])
    (fun k i hi => by
      show _ ∧ fX8_isSumIn_l2 T (nI s) (nI n) (k + 1) (nI i) = some 1 ∨ _ ∧ fX8_isSumIn_l2 T (nI s) (nI n) (k + 1) (nI i) = fX8_isSumIn_l2 T (nI s) (nI n) k (nI (i + 1))
      rw [fX8_isSumIn_l2, show (2 : Int32) = nI 2 from rfl, pk_mul, if_neg (nI_nlt (by omega) (by omega)), has8 (by omega) (by omega), pk_sub (by omega), has8 (by omega) (by omega), nI_1]
      rcases z_tbN s i with e | e
      · rw [if_pos (zbit0.mpr e)]
        exact Or.inr ⟨fun z => (by have z1 := z.1; rw [e] at z1; exact absurd z1 (by decide)), rfl⟩
      · rw [if_neg (fun z => by rw [zbit1.mpr e] at z; exact absurd z (by decide))]
        rcases z_tbN s (n - i) with g | g
        · rw [if_pos (zbit0.mpr g)]
          exact Or.inr ⟨fun z => (by have z1 := z.2; rw [g] at z1; exact absurd z1 (by decide)), rfl⟩
        · rw [if_neg (fun z => by rw [zbit1.mpr g] at z; exact absurd z (by decide))]
          exact Or.inl ⟨⟨e, g⟩, rfl⟩) (n / 2) 1 FU (by omega) (FU_big _ (by omega)) with ⟨⟨j, x1, x2, x3, x4⟩, x5⟩ | ⟨x1, x2⟩
  · exact Or.inl ⟨⟨j, x1, by omega, x3, x4⟩, x5⟩
  · exact Or.inr ⟨fun ⟨i, y1, y2, y3, y4⟩ => x1 i y1 (by omega) ⟨y3, y4⟩, x2⟩
theorem doesWin_eq (T : zMd) {s p : Nat} (hp2 : 2 ≤ p) (hp : p ≤ 12) (hs : s < 2 ^ p) (hs' : s < 4096) : (zWon p (md_wins T) s ∧ fX8_doesWin T (nI s) (nI p) = some 1) ∨ (¬ zWon p (md_wins T) s ∧ fX8_doesWin T (nI s) (nI p) = some 0) := by
  rcases zscan (fun k v => fX8_doesWin_l2 T (nI s) (nI p) k v) (p + 1) (fun i => zNew s i ∧ (i = p ∨ md_wins T (s ||| 2 ^ i) = 0)) (some 0) (some 1)
    (fun k => by
      show fX8_doesWin_l2 T (nI s) (nI p) (k + 1) (nI (p + 1)) = some 0
      rw [fX8_doesWin_l2, if_pos (nI_lt (by omega) (by omega))])
    (fun k i hi => by
      show _ ∧ fX8_doesWin_l2 T (nI s) (nI p) (k + 1) (nI i) = some 1 ∨ _ ∧ fX8_doesWin_l2 T (nI s) (nI p) (k + 1) (nI i) = fX8_doesWin_l2 T (nI s) (nI p) k (nI (i + 1))
      rw [fX8_doesWin_l2, if_neg (nI_nlt (by omega) (by omega)), has8 (by omega) (by omega), nI_1]
      rcases z_tbN s i with e | e
      · rw [if_pos (zbit0.mpr e)]
        rcases isSumIn_eq T hs' (n := i) (by omega) with ⟨x1, x2⟩ | ⟨x1, x2⟩
        · rw [x2]
          repeat rw [Option.bind_some]
          rw [if_neg (show ¬ (1 : Int32) = 0 from by decide)]
          by_cases q : i = p
          · rw [if_pos (by rw [q])]
            exact Or.inl ⟨⟨⟨e, x1⟩, Or.inl q⟩, rfl⟩
          · rw [if_neg (fun z => q ((nI_eq (by omega) (by omega)).mp z))]
            have hl : s ||| 2 ^ i < 2 ^ 12 := Nat.or_lt_two_pow (by omega) (Nat.pow_lt_pow_right (by omega) (by omega))
            rw [z_one (by omega), z_or (by omega) (by have := Nat.right_le_or (n := s) (m := 2 ^ i); omega), ix_nI (by omega) (by omega), nI_clamp (by omega)]
            by_cases g : md_wins T (s ||| 2 ^ i) = 0
            · rw [if_pos g]
              exact Or.inl ⟨⟨⟨e, x1⟩, Or.inr g⟩, rfl⟩
            · rw [if_neg g]
              exact Or.inr ⟨fun z => z.2.elim q g, rfl⟩
        · rw [x2]
          repeat rw [Option.bind_some]
          rw [if_pos (show (0 : Int32) = 0 from rfl)]
          exact Or.inr ⟨fun z => x1 z.1.2, rfl⟩
      · rw [if_neg (fun z => by rw [zbit1.mpr e] at z; exact absurd z (by decide))]
        exact Or.inr ⟨fun z => (by have z1 := z.1.1; rw [e] at z1; exact absurd z1 (by decide)), rfl⟩) (p - 1) 2 FU (by omega) (FU_big _ (by omega)) with ⟨⟨j, x1, x2, x3, x4⟩, x5⟩ | ⟨x1, x2⟩
  · refine Or.inl ⟨?_, x5⟩
    by_cases q : j = p
    · rw [q] at x3; exact Or.inl x3
    · exact Or.inr ⟨j, x1, by omega, x3, x4.resolve_left q⟩
  · refine Or.inr ⟨fun z => ?_, x2⟩
    rcases z with z | ⟨i, y1, y2, y3, y4⟩
    · exact x1 p (by omega) (by omega) ⟨z, Or.inl rfl⟩
    · exact x1 i y1 (by omega) ⟨y3, Or.inr y4⟩
def zGoodM (p : Nat) (W : Nat → Int32) (s : Nat) : Prop := s.testBit 1 = true → (zWon p W s ∧ W s = 1) ∨ (¬ zWon p W s ∧ W s = 0)
theorem zGoodM_upd {p : Nat} (hp : p ≤ 12) {W : Nat → Int32} {s j : Nat} {x : Int32} (hs : s < 4096) (hj : j < s) (h : zGoodM p W s) : zGoodM p (upd W j x) s := by
  intro hb
  have e : zWon p W s ↔ zWon p (upd W j x) s := zWon_congr (fun i h1 h2 h3 => by
    rw [upd_at, if_neg]
    have := Nat.left_le_or (n := s) (m := 2 ^ i)
    omega)
  have e2 : upd W j x s = W s := by rw [upd_at, if_neg (by omega)]
  rw [e2, ← e]
  exact h hb
theorem game_m {p : Nat} (hp2 : 2 ≤ p) (hp : p ≤ 12) (hP : 2 ^ p ≤ 4096) : ∀ j f (T : zMd), j < 2 ^ p → j < f → (∀ s, j < s → s < 2 ^ p → zGoodM p (md_wins T) s) → ∃ W, fX8_game_l24 (nI p) f (nI j) T = some (W 2, md_set_wins T W) ∧ ∀ s, 2 ≤ s → s < 2 ^ p → zGoodM p W s := by
  intro j
  induction j with
  | zero =>
    intro f T hj hf hG
    obtain ⟨f, rfl⟩ : ∃ k', f = k' + 1 := ⟨f - 1, by omega⟩
    refine ⟨md_wins T, ?_, fun s h1 h2 => hG s (by omega) h2⟩
    rw [fX8_game_l24, if_pos (show nI 0 < (2 : Int32) from by decide), show ix 8192 (2 : Int32) (some (md_wins T (2 : Int32).toNatClampNeg, T)) = some (md_wins T (2 : Int32).toNatClampNeg, T) from ix_nI (n := 8192) (j := 2) (by omega) (by omega)]
    rfl
  | succ j ih =>
    intro f T hj hf hG
    obtain ⟨f, rfl⟩ : ∃ k', f = k' + 1 := ⟨f - 1, by omega⟩
    by_cases q : j = 0
    · subst q
      refine ⟨md_wins T, ?_, fun s h1 h2 => hG s (by omega) h2⟩
      rw [fX8_game_l24, if_pos (show nI (0 + 1) < (2 : Int32) from by decide), show ix 8192 (2 : Int32) (some (md_wins T (2 : Int32).toNatClampNeg, T)) = some (md_wins T (2 : Int32).toNatClampNeg, T) from ix_nI (n := 8192) (j := 2) (by omega) (by omega)]
      rfl
    · have step : ∀ x, (∀ y, (y = x) → zGoodM p (upd (md_wins T) (j + 1) y) (j + 1)) → ∃ W, fX8_game_j56 (nI p) (nI (j + 1)) (nI (j + 1)) x T (fX8_game_l24 (nI p) f) = some (W 2, md_set_wins T W) ∧ ∀ s, 2 ≤ s → s < 2 ^ p → zGoodM p W s := by
        intro x hx
        unfold fX8_game_j56
        rw [ix_nI (by omega) (by omega), nI_clamp (by omega), pk_m1]
        obtain ⟨W, e1, e2⟩ := ih f (md_set_wins T (upd (md_wins T) (j + 1) x)) (by omega) (by omega) (fun s h1 h2 => by
          by_cases z : s = j + 1
          · rw [z]; exact hx x rfl
          · exact zGoodM_upd hp (by omega) (by omega) (hG s (by omega) h2))
        exact ⟨W, e1, e2⟩
      have same : ∀ y, zWon p (md_wins T) (j + 1) ↔ zWon p (upd (md_wins T) (j + 1) y) (j + 1) := fun y => zWon_congr (fun i h1 h2 h3 => by
        rw [upd_at, if_neg]
        rw [z_or_add i (by omega) (j + 1) (by omega) h3]
        have := Nat.two_pow_pos i
        omega)
      rw [fX8_game_l24, if_neg (show ¬ nI (j + 1) < (2 : Int32) from nI_nlt (a := j + 1) (b := 2) (by omega) (by omega)), show (1 : Int32) = nI 1 from rfl, has8 (by omega) (by omega)]
      rcases z_tbN (j + 1) 1 with e | e
      · rw [if_pos (zbit0.mpr e)]
        unfold fX8_game_j55
        exact step 0 (fun y _ z => by rw [e] at z; exact absurd z (by decide))
      · rw [if_neg (fun z => by rw [zbit1.mpr e] at z; exact absurd z (by decide))]
        rcases doesWin_eq T hp2 hp hj (by omega) with ⟨x1, x2⟩ | ⟨x1, x2⟩
        · rw [x2]
          repeat rw [Option.bind_some]
          rw [if_neg (show ¬ (1 : Int32) = 0 from by decide)]
          exact step (nI 1) (fun y hy _ => Or.inl ⟨(same y).mp x1, by rw [upd_at, if_pos rfl, hy]; rfl⟩)
        · rw [x2]
          repeat rw [Option.bind_some]
          rw [if_pos (show (0 : Int32) = 0 from rfl)]
          unfold fX8_game_j55
          exact step 0 (fun y hy _ => Or.inr ⟨fun z => x1 ((same y).mpr z), by rw [upd_at, if_pos rfl, hy]⟩)
theorem sumsOf_l {s p : Nat} (hs : s < 4096) (hp : p ≤ 12) : ∀ d i k u, i + d = p → 1 ≤ i → d < k → u < 2 ^ 24 → (∀ n, u.testBit n = true ↔ ∃ j, 1 ≤ j ∧ j < i ∧ j ≤ n ∧ s.testBit j = true ∧ s.testBit (n - j) = true) →
    ∃ u', fX1_sumsOf_l4 (nI s) (nI p) k (nI u) (nI i) = some (nI u') ∧ u' < 2 ^ 24 ∧ ∀ n, u'.testBit n = true ↔ ∃ j, 1 ≤ j ∧ j < p ∧ j ≤ n ∧ s.testBit j = true ∧ s.testBit (n - j) = true := by
  intro d
  induction d with
  | zero =>
    intro i k u hi h1 hk hu hc
    obtain ⟨k, rfl⟩ : ∃ k', k = k' + 1 := ⟨k - 1, by omega⟩
    have e : i = p := by omega
    subst e
    refine ⟨u, ?_, hu, hc⟩
    rw [fX1_sumsOf_l4, if_pos (nI_le (by omega) (by omega))]
  | succ d ih =>
    intro i k u hi h1 hk hu hc
    obtain ⟨k, rfl⟩ : ∃ k', k = k' + 1 := ⟨k - 1, by omega⟩
    rw [fX1_sumsOf_l4, if_neg (nI_ge (by omega) (by omega)), z_bit (by omega) (by omega), nI_1]
    rcases z_tbN s i with e | e
    · rw [if_neg (fun z => by rw [zbit0.mpr e] at z; exact absurd z (by decide))]
      refine ih (i + 1) k u (by omega) (by omega) (by omega) hu (fun n => (hc n).trans ?_)
      constructor
      · rintro ⟨j, a1, a2, a3, a4, a5⟩
        exact ⟨j, a1, by omega, a3, a4, a5⟩
      · rintro ⟨j, a1, a2, a3, a4, a5⟩
        refine ⟨j, a1, ?_, a3, a4, a5⟩
        by_cases z : j = i
        · rw [z, e] at a4; exact absurd a4 (by decide)
        · omega
    · have hm : s * 2 ^ i < 2 ^ 24 := by
        have h2 : 2 ^ i ≤ 2 ^ 12 := Nat.pow_le_pow_right (by omega) (by omega)
        have h3 : s * 2 ^ i ≤ s * 2 ^ 12 := Nat.mul_le_mul_left s h2
        omega
      rw [if_pos (zbit1.mpr e), z_and31 i (by omega), pk_shlN (nI i) i (z_sm i (by omega)) (by omega), z_or (by omega) (by omega)]
      refine ih (i + 1) k (u ||| s * 2 ^ i) (by omega) (by omega) (by omega) (Nat.or_lt_two_pow hu hm) (fun n => ?_)
      rw [Nat.testBit_or, ← Nat.shiftLeft_eq, Nat.testBit_shiftLeft, Bool.or_eq_true, Bool.and_eq_true, decide_eq_true_eq, hc n]
      constructor
      · rintro (⟨j, a1, a2, a3, a4, a5⟩ | ⟨a1, a2⟩)
        · exact ⟨j, a1, by omega, a3, a4, a5⟩
        · exact ⟨i, h1, by omega, a1, e, a2⟩
      · rintro ⟨j, a1, a2, a3, a4, a5⟩
        by_cases z : j = i
        · subst z
          exact Or.inr ⟨a3, a5⟩
        · exact Or.inl ⟨j, a1, by omega, a3, a4, a5⟩
theorem isWon_eq (S : zGm) {s p : Nat} (hp2 : 2 ≤ p) (hp : p ≤ 12) (hs : s < 2 ^ p) (hs' : s < 4096) (h0 : s.testBit 0 = false) : (zWon p (fun t => gm_wins S (t / 4)) s ∧ fX1_isWon S (nI s) (nI p) = some 1) ∨ (¬ zWon p (fun t => gm_wins S (t / 4)) s ∧ fX1_isWon S (nI s) (nI p) = some 0) := by
  obtain ⟨u, e1, hu, hc⟩ := sumsOf_l hs' hp (p - 1) 1 FU 0 (by omega) (by omega) (FU_big _ (by omega)) (by omega) (fun n => by
    rw [Nat.zero_testBit]
    exact ⟨fun z => absurd z (by decide), fun ⟨j, a1, a2, _⟩ => by omega⟩)
  have e1' : fX1_sumsOf (nI s) (nI p) = some (nI u) := e1
  have hn : u &&& (s ^^^ 4294967295) < 2 ^ 31 := by
    have := Nat.and_le_left (n := u) (m := s ^^^ 4294967295)
    omega
  have tb : ∀ m, m ≤ p → ((u &&& (s ^^^ 4294967295)).testBit m = true ↔ zNew s m) := by
    intro m hm
    rw [Nat.testBit_and, z_tb_not s m (by omega), Bool.and_eq_true, hc m]
    constructor
    · rintro ⟨⟨j, a1, a2, a3, a4, a5⟩, a6⟩
      have g : s.testBit m = false := by
        rcases z_tbN s m with z | z
        · exact z
        · rw [z] at a6; exact absurd a6 (by decide)
      refine ⟨g, ?_⟩
      have hm0 : m - j ≠ 0 := fun z => by rw [z, h0] at a5; exact absurd a5 (by decide)
      by_cases z : 2 * j ≤ m
      · exact ⟨j, a1, z, a4, a5⟩
      · exact ⟨m - j, by omega, by omega, a5, by rw [show m - (m - j) = j from by omega]; exact a4⟩
    · rintro ⟨g, j, a1, a2, a3, a4⟩
      exact ⟨⟨j, a1, by omega, by omega, a3, a4⟩, by rw [g]; rfl⟩
  unfold fX1_isWon
  rw [e1']
  repeat rw [Option.bind_some]
  rw [z_andnot (by omega) (by omega), z_bit hn (by omega)]
  by_cases q : zNew s p
  · rw [if_pos (zbit1.mpr ((tb p (by omega)).mpr q))]
    exact Or.inl ⟨Or.inl q, rfl⟩
  · rw [if_neg (fun z => q ((tb p (by omega)).mp (zbit1.mp z)))]
    rcases zscan (fun k v => fX1_isWon_l24 S (nI s) (nI p) (nI (u &&& (s ^^^ 4294967295))) k v) p (fun i => zNew s i ∧ gm_wins S ((s ||| 2 ^ i) / 4) = 0) (some 0) (some 1)
      (fun k => by
        show fX1_isWon_l24 S (nI s) (nI p) (nI (u &&& (s ^^^ 4294967295))) (k + 1) (nI p) = some 0
        rw [fX1_isWon_l24, if_pos (nI_le (by omega) (by omega))])
      (fun k i hi => by
        show _ ∧ fX1_isWon_l24 S (nI s) (nI p) (nI (u &&& (s ^^^ 4294967295))) (k + 1) (nI i) = some 1 ∨ _ ∧ fX1_isWon_l24 S (nI s) (nI p) (nI (u &&& (s ^^^ 4294967295))) (k + 1) (nI i) = fX1_isWon_l24 S (nI s) (nI p) (nI (u &&& (s ^^^ 4294967295))) k (nI (i + 1))
        rw [fX1_isWon_l24, if_neg (nI_ge hi (by omega)), z_bit hn (by omega), nI_1]
        by_cases g : zNew s i
        · have hl : s ||| 2 ^ i < 2 ^ 12 := Nat.or_lt_two_pow (by omega) (Nat.pow_lt_pow_right (by omega) (by omega))
          have hr := Nat.right_le_or (n := s) (m := 2 ^ i)
          rw [if_pos (zbit1.mpr ((tb i (by omega)).mpr g)), z_one (by omega), z_or (by omega) (by omega), show (2 : Int32) = nI 2 from rfl, z_shr (by omega) (by omega), if_neg (show ¬ (1024 : Int32) ≤ nI ((s ||| 2 ^ i) / 2 ^ 2) from nI_ge (b := 1024) (by omega) (by omega)), ix_nI (by omega) (by omega), nI_clamp (by omega)]
          by_cases z : gm_wins S ((s ||| 2 ^ i) / 4) = 0
          · rw [if_pos z]
            exact Or.inl ⟨⟨g, z⟩, rfl⟩
          · rw [if_neg z]
            exact Or.inr ⟨fun y => z y.2, rfl⟩
        · rw [if_neg (fun z => g ((tb i (by omega)).mp (zbit1.mp z)))]
          exact Or.inr ⟨fun y => g y.1, rfl⟩) (p - 2) 2 FU (by omega) (FU_big _ (by omega)) with ⟨⟨j, x1, x2, x3, x4⟩, x5⟩ | ⟨x1, x2⟩
    · exact Or.inl ⟨Or.inr ⟨j, x1, x2, x3, x4⟩, x5⟩
    · refine Or.inr ⟨fun z => ?_, x2⟩
      rcases z with z | ⟨i, y1, y2, y3, y4⟩
      · exact q z
      · exact x1 i y1 y2 ⟨y3, y4⟩
def zGoodC (p : Nat) (C : Nat → Int32) (v : Nat) : Prop := (zWon p (fun t => C (t / 4)) (4 * v + 2) ∧ C v = 1) ∨ (¬ zWon p (fun t => C (t / 4)) (4 * v + 2) ∧ C v = 0)
theorem z_42_0 (v : Nat) : (4 * v + 2).testBit 0 = false := by
  rw [Nat.testBit_eq_decide_div_mod_eq]
  exact decide_eq_false (by omega)
theorem z_42_1 (v : Nat) : (4 * v + 2).testBit 1 = true := by
  rw [Nat.testBit_eq_decide_div_mod_eq]
  exact decide_eq_true (by omega)
theorem z_42_q {v i : Nat} (hv : 4 * v + 2 < 4096) (h2 : 2 ≤ i) (hi : i < 12) (h : (4 * v + 2).testBit i = false) : ((4 * v + 2) ||| 2 ^ i) = 4 * (v + 2 ^ (i - 2)) + 2 ∧ ((4 * v + 2) ||| 2 ^ i) / 4 = v + 2 ^ (i - 2) := by
  have e : ((4 * v + 2) ||| 2 ^ i) = 4 * (v + 2 ^ (i - 2)) + 2 := by
    rw [z_or_add i hi _ hv h]
    have e2 : 2 ^ i = 4 * 2 ^ (i - 2) := by
      rw [show (4 : Nat) = 2 ^ 2 from rfl, ← Nat.pow_add, show 2 + (i - 2) = i from by omega]
    omega
  exact ⟨e, by omega⟩
theorem zGoodC_upd {p : Nat} (hp : p ≤ 12) {C : Nat → Int32} {v j : Nat} {x : Int32} (hv : 4 * v + 2 < 4096) (hj : j < v) (h : zGoodC p C v) : zGoodC p (upd C j x) v := by
  have e : zWon p (fun t => C (t / 4)) (4 * v + 2) ↔ zWon p (fun t => upd C j x (t / 4)) (4 * v + 2) := zWon_congr (fun i h1 h2 h3 => by
    obtain ⟨-, g⟩ := z_42_q hv h1 (by omega) h3
    show C _ = upd C j x _
    have := Nat.two_pow_pos (i - 2)
    rw [g, upd_at, if_neg (by omega)])
  have e2 : upd C j x v = C v := by rw [upd_at, if_neg (by omega)]
  unfold zGoodC
  rw [e2, ← e]
  exact h
theorem game_c {p : Nat} (hp2 : 2 ≤ p) (hp : p ≤ 12) (hP : 4 * 2 ^ (p - 2) = 2 ^ p) (hP2 : 2 ^ p ≤ 4096) : ∀ j f (S : zGm), j ≤ 2 ^ (p - 2) → j < f → (∀ v, j ≤ v → v < 2 ^ (p - 2) → zGoodC p (gm_wins S) v) → ∃ C, fX1_isWonByFirst_l21 (nI p) f (nI j + (-1)) S = some (C 0, gm_set_wins S C) ∧ ∀ v, v < 2 ^ (p - 2) → zGoodC p C v := by
  intro j
  induction j with
  | zero =>
    intro f S hj hf hG
    obtain ⟨f, rfl⟩ : ∃ k', f = k' + 1 := ⟨f - 1, by omega⟩
    refine ⟨gm_wins S, ?_, fun v h2 => hG v (by omega) h2⟩
    have e : gm_wins S 0 &&& 1 = gm_wins S 0 := by
      rcases hG 0 (by omega) (Nat.two_pow_pos _) with ⟨-, z⟩ | ⟨-, z⟩
      · rw [z]; rfl
      · rw [z]; rfl
    have e' : (gm_wins S (0 : Int32).toNatClampNeg &&& 1 = gm_wins S (0 : Int32).toNatClampNeg) := e
    rw [fX1_isWonByFirst_l21, if_pos (show nI 0 + (-1) < (0 : Int32) from by decide), if_pos e']
    exact (ix_nI (n := 1024) (j := 0) (by omega) (by omega)).trans rfl
  | succ j ih =>
    intro f S hj hf hG
    obtain ⟨f, rfl⟩ : ∃ k', f = k' + 1 := ⟨f - 1, by omega⟩
    have same : ∀ y, zWon p (fun t => gm_wins S (t / 4)) (4 * j + 2) ↔ zWon p (fun t => upd (gm_wins S) j y (t / 4)) (4 * j + 2) := fun y => zWon_congr (fun i h1 h2 h3 => by
      obtain ⟨-, g⟩ := z_42_q (v := j) (by omega) h1 (by omega) h3
      show gm_wins S _ = upd (gm_wins S) j y _
      have := Nat.two_pow_pos (i - 2)
      rw [g, upd_at, if_neg (by omega)])
    have em : (nI j <<< ((2 : Int32) &&& 31)) ||| (2 : Int32) = nI (4 * j + 2) := by
      rw [show (2 : Int32) &&& 31 = nI 2 from by decide, pk_shlN (nI 2) 2 (by decide) (by omega), show (2 : Int32) = nI 2 from rfl, z_or (by omega) (by omega)]
      congr 1
      rw [Nat.mul_comm, ← Nat.two_pow_add_eq_or_of_lt (b := 2) (i := 2) (by omega) j]
    have step : ∀ x, zGoodC p (upd (gm_wins S) j x) j → ∃ C, fX1_isWonByFirst_l21 (nI p) f (nI j + (-1)) (gm_set_wins S (upd (gm_wins S) j x)) = some (C 0, gm_set_wins S C) ∧ ∀ v, v < 2 ^ (p - 2) → zGoodC p C v := by
      intro x hx
      obtain ⟨C, e1, e2⟩ := ih f (gm_set_wins S (upd (gm_wins S) j x)) (by omega) (by omega) (fun v h1 h2 => by
        by_cases z : v = j
        · rw [z]; exact hx
        · exact zGoodC_upd hp (by omega) (by omega) (hG v (by omega) h2))
      exact ⟨C, e1, e2⟩
    rw [fX1_isWonByFirst_l21, pk_m1, if_neg (nI_pos (by omega)), em]
    rcases isWon_eq S hp2 hp (s := 4 * j + 2) (by omega) (by omega) (z_42_0 j) with ⟨x1, x2⟩ | ⟨x1, x2⟩
    · rw [x2]
      show ∃ C, ix 1024 (nI j) _ = _ ∧ _
      rw [ix_nI (by omega) (by omega), nI_clamp (by omega)]
      exact step _ (Or.inl ⟨(same _).mp x1, by rw [upd_at, if_pos rfl]; rfl⟩)
    · rw [x2]
      show ∃ C, ix 1024 (nI j) _ = _ ∧ _
      rw [ix_nI (by omega) (by omega), nI_clamp (by omega)]
      exact step _ (Or.inr ⟨fun z => x1 ((same _).mpr z), by rw [upd_at, if_pos rfl]; rfl⟩)
theorem game_same {p : Nat} (hp2 : 2 ≤ p) (hp : p ≤ 12) (hP : 4 * 2 ^ (p - 2) = 2 ^ p) (hP2 : 2 ^ p ≤ 4096) {C W : Nat → Int32} (hC : ∀ v, v < 2 ^ (p - 2) → zGoodC p C v) (hW : ∀ s, 2 ≤ s → s < 2 ^ p → zGoodM p W s) : ∀ d v, v < 2 ^ (p - 2) → 2 ^ (p - 2) ≤ v + d → C v = W (4 * v + 2) := by
  intro d
  induction d with
  | zero => intro v h1 h2; omega
  | succ d ih =>
    intro v h1 h2
    have e : zWon p (fun t => C (t / 4)) (4 * v + 2) ↔ zWon p W (4 * v + 2) := zWon_congr (fun i g1 g2 g3 => by
      obtain ⟨a, b⟩ := z_42_q (v := v) (by omega) g1 (by omega) g3
      show C _ = W _
      have hl : (4 * v + 2) ||| 2 ^ i < 2 ^ p := Nat.or_lt_two_pow (by omega) (Nat.pow_lt_pow_right (by omega) g2)
      have := Nat.two_pow_pos (i - 2)
      rw [b, a]
      exact ih _ (by omega) (by omega))
    rcases hC v h1 with ⟨x1, x2⟩ | ⟨x1, x2⟩
    · rcases hW (4 * v + 2) (by omega) (by omega) (z_42_1 v) with ⟨y1, y2⟩ | ⟨y1, y2⟩
      · rw [x2, y2]
      · exact absurd (e.mp x1) y1
    · rcases hW (4 * v + 2) (by omega) (by omega) (z_42_1 v) with ⟨y1, y2⟩ | ⟨y1, y2⟩
      · exact absurd (e.mpr y1) x1
      · rw [x2, y2]
theorem sim_game : zSim_game RT := by
  intro M T p h
  have hr := h
  unfold fX7_game fX8_game
  have e0 : fX8_bound p 2 12 = fX7_outside p 2 12 := rfl
  rw [e0]
  rcases outside_3 p 2 12 (by omega) (by omega) with e | e | ⟨e, N, hN1, hN2, rfl⟩
  · have e' : fX7_outside p 2 12 = -4 := e
    rw [e', if_neg (by decide), if_neg (by decide)]
    obtain ⟨M', T', x, y, z⟩ := refuse_4 h
    exact ⟨-4, M', T', by rw [x]; rfl, by rw [y]; rfl, z⟩
  · have e' : fX7_outside p 2 12 = -6 := e
    rw [e', if_neg (by decide), if_neg (by decide)]
    obtain ⟨M', T', x, y, z⟩ := refuse_6 h
    exact ⟨-6, M', T', by rw [x]; rfl, by rw [y]; rfl, z⟩
  · have e' : fX7_outside (nI N) 2 12 = 0 := e
    rw [e', if_pos rfl, if_pos rfl]
    have hP : 4 * 2 ^ (N - 2) = 2 ^ N := by
      rw [show (4 : Nat) = 2 ^ 2 from rfl, ← Nat.pow_add, show 2 + (N - 2) = N from by omega]
    have hP2 : 2 ^ N ≤ 4096 := Nat.le_trans (Nat.pow_le_pow_right (by omega) hN2) (show 2 ^ 12 ≤ 4096 from by decide)
    have hP3 := Nat.two_pow_pos (N - 2)
    obtain ⟨C, c1, c2⟩ := game_c hN1 hN2 hP hP2 (2 ^ (N - 2)) FU (mn_builders M) (Nat.le_refl _) (FU_big _ (by omega)) (fun v h1 h2 => absurd h2 (by omega))
    obtain ⟨W, w1, w2⟩ := game_m hN1 hN2 hP2 (2 ^ N - 1) FU T (by omega) (FU_big _ (by omega)) (fun s h1 h2 => absurd h2 (by omega))
    have cw : C 0 = W 2 := game_same hN1 hN2 hP hP2 c2 w2 (2 ^ (N - 2)) 0 (by omega) (by omega)
    have ec : fX1_isWonByFirst (mn_builders M) (nI N) = some (C 0, gm_set_wins (mn_builders M) C) := by
      unfold fX1_isWonByFirst
      rw [if_neg (show ¬ nI N < (2 : Int32) from nI_nlt (a := N) (b := 2) hN1 (by omega)), if_pos (show nI N ≤ (12 : Int32) from nI_le (b := 12) hN2 (by omega)), show (2 : Int32) = nI 2 from rfl, pk_sub hN1, z_one (by omega), Int32.sub_eq_add_neg]
      exact c1
    have em : fX8_game_l24 (nI N) FU (((1 : Int32) <<< (nI N &&& 31)) - 1) T = some (W 2, md_set_wins T W) := by
      rw [z_one (by omega), show (1 : Int32) = nI 1 from rfl, pk_sub (by omega)]
      exact w1
    rw [ec, em]
    refine ⟨W 2, mn_set_builders M (gm_set_wins (mn_builders M) C), md_set_wins T W, ?_, ?_, (hr.wins W).builders C⟩
    · repeat rw [Option.bind_some]
      rcases c2 0 (by omega) with ⟨-, z⟩ | ⟨-, z⟩
      · rw [z, if_neg (show ¬ (1 : Int32) = 0 from by decide), ← cw, z]
      · rw [z, if_pos (show (0 : Int32) = 0 from rfl), ← cw, z]
    · rfl
end
section
/-! in how many orders: the sums over subsets, forward and backward -/
def zS (f : Nat → Nat) : Nat → Nat
  | 0 => 0
  | n + 1 => zS f n + f n
theorem zS_congr {f g : Nat → Nat} : ∀ n, (∀ i, i < n → f i = g i) → zS f n = zS g n := by
  intro n
  induction n with
  | zero => intro _; rfl
  | succ n ih =>
    intro h
    show zS f n + f n = zS g n + g n
    rw [ih (fun i hi => h i (by omega)), h n (by omega)]
theorem zS_one {f g : Nat → Nat} {a : Nat} : ∀ n, (∀ i, i < n → i ≠ a → f i = g i) → a < n → zS g n + f a = zS f n + g a := by
  intro n
  induction n with
  | zero => intro _ h; omega
  | succ n ih =>
    intro h ha
    show zS g n + g n + f a = zS f n + f n + g a
    by_cases q : n = a
    · subst q
      rw [zS_congr (f := g) (g := f) n (fun i hi => (h i (by omega) (by omega)).symm)]
      omega
    · have := ih (fun i hi => h i (by omega)) (by omega)
      have := h n (by omega) q
      omega
theorem zS_ext {f : Nat → Nat} {a : Nat} : ∀ n, (∀ i, a ≤ i → i < n → f i = 0) → a ≤ n → zS f n = zS f a := by
  intro n
  induction n with
  | zero => intro _ h; rw [show a = 0 from by omega]
  | succ n ih =>
    intro h ha
    by_cases q : a = n + 1
    · rw [q]
    · show zS f n + f n = _
      rw [ih (fun i h1 h2 => h i h1 (by omega)) (by omega), h n (by omega) (by omega)]; rfl
theorem zS_le (s M : Nat) {f : Nat → Nat} : ∀ n, (∀ i, i < n → f i ≤ if s.testBit i = true then M else 0) → zS f n ≤ M * zS (fun i => if s.testBit i = true then 1 else 0) n := by
  intro n
  induction n with
  | zero => intro _; exact Nat.zero_le _
  | succ n ih =>
    intro h
    have h1 := ih (fun i hi => h i (by omega))
    have h2 := h n (by omega)
    show zS f n + f n ≤ M * (zS (fun i => if s.testBit i = true then 1 else 0) n + if s.testBit n = true then 1 else 0)
    rw [Nat.mul_add]
    by_cases q : s.testBit n = true
    · rw [if_pos q] at h2 ⊢; omega
    · rw [if_neg q] at h2 ⊢; omega
def zpc (s : Nat) : Nat := zS (fun i => if s.testBit i = true then 1 else 0) 12
theorem zpc_le (s : Nat) : zpc s ≤ 12 := by
  have h : ∀ n, zS (fun i => if s.testBit i = true then 1 else 0) n ≤ n := by
    intro n
    induction n with
    | zero => exact Nat.le_refl _
    | succ n ih =>
      show zS (fun i => if s.testBit i = true then 1 else 0) n + (if s.testBit n = true then 1 else 0) ≤ n + 1
      by_cases q : s.testBit n = true
      · rw [if_pos q]; omega
      · rw [if_neg q]; omega
  exact h 12
theorem zpc_clr {s h : Nat} (hh : h < 12) (hb : s.testBit h = true) : zpc s = zpc (zclr s h) + 1 := by
  have := zS_one (f := fun i => if (zclr s h).testBit i = true then 1 else 0) (g := fun i => if s.testBit i = true then 1 else 0) (a := h) 12 (fun i hi hn => by
    show (if (zclr s h).testBit i = true then 1 else 0) = if s.testBit i = true then 1 else 0
    rw [zclr_tb s h i (by omega), decide_eq_false (fun z => hn z.symm), Bool.not_false, Bool.and_true]) hh
  have e1 : (if (zclr s h).testBit h = true then 1 else 0) = 0 := by
    rw [if_neg]
    rw [zclr_tb s h h (by omega), decide_eq_true rfl, Bool.not_true, Bool.and_false]
    decide
  have e2 : (if s.testBit h = true then 1 else 0) = 1 := if_pos hb
  have t : zpc s + (if (zclr s h).testBit h = true then 1 else 0) = zpc (zclr s h) + (if s.testBit h = true then 1 else 0) := this
  rw [e1, e2] at t
  exact t
theorem z_bits12' : ∀ i, i < 12 → ∀ qa, qa < 64 → ∀ qb, qb < 64 → ((64 * qa + qb).testBit i = false → zclr ((64 * qa + qb) ||| 2 ^ i) i = (64 * qa + qb)) ∧ ((64 * qa + qb).testBit i = true → zclr (64 * qa + qb) i ||| 2 ^ i = (64 * qa + qb) ∧ zclr (64 * qa + qb) i < (64 * qa + qb)) := by decide +kernel
theorem z_bits12 : ∀ i, i < 12 → ∀ m, m < 4096 → (m.testBit i = false → zclr (m ||| 2 ^ i) i = m) ∧ (m.testBit i = true → zclr m i ||| 2 ^ i = m ∧ zclr m i < m) := by
  intro i hi m hw
  have t := z_bits12' i hi (m / 64) (by omega) (m % 64) (by omega)
  rw [show 64 * (m / 64) + m % 64 = m from by omega] at t
  exact t
theorem z_12 {s i : Nat} (hs : s < 4096) (hi : 12 ≤ i) : s.testBit i = false := Nat.testBit_lt_two_pow (Nat.lt_of_lt_of_le hs (Nat.le_trans (show 4096 ≤ 2 ^ 12 from by decide) (Nat.pow_le_pow_right (by omega) hi)))
theorem zpc_0 {s : Nat} (hs : s < 4096) (h : zpc s = 0) : s = 0 := by
  have H : ∀ n, zS (fun i => if s.testBit i = true then 1 else 0) n = 0 → ∀ i, i < n → s.testBit i = false := by
    intro n
    induction n with
    | zero => intro _ i hi; omega
    | succ n ih =>
      intro h i hi
      have h' : zS (fun i => if s.testBit i = true then 1 else 0) n + (if s.testBit n = true then 1 else 0) = 0 := h
      by_cases q : i = n
      · subst q
        rcases z_tbN s i with z | z
        · exact z
        · rw [if_pos z] at h'; omega
      · exact ih (by omega) i (by omega)
  apply Nat.eq_of_testBit_eq
  intro i
  rw [Nat.zero_testBit]
  by_cases q : i < 12
  · exact H 12 h i q
  · exact z_12 hs (by omega)
def zfac : Nat → Nat
  | 0 => 1
  | n + 1 => zfac n * (n + 1)
theorem zfac_le : ∀ n, n < 13 → zfac n ≤ 479001600 := by decide
def zFo (nd : Nat → Nat) : Nat → Nat → Nat
  | 0, _ => 1
  | k + 1, s => zS (fun h => if s.testBit h = true ∧ nd h &&& (zclr s h ^^^ 4294967295) = 0 then zFo nd k (zclr s h) else 0) 12
def zFF (nd : Nat → Nat) (s : Nat) : Nat := zFo nd (zpc s) s
theorem zFF_0 (nd : Nat → Nat) : zFF nd 0 = 1 := by
  unfold zFF
  rw [show zpc 0 = 0 from by decide]; rfl
theorem zFF_rec (nd : Nat → Nat) {s : Nat} (hs : s < 4096) (h0 : s ≠ 0) : zFF nd s = zS (fun h => if s.testBit h = true ∧ nd h &&& (zclr s h ^^^ 4294967295) = 0 then zFF nd (zclr s h) else 0) 12 := by
  obtain ⟨k, hk⟩ : ∃ k, zpc s = k + 1 := ⟨zpc s - 1, by
    have : zpc s ≠ 0 := fun z => h0 (zpc_0 hs z)
    omega⟩
  unfold zFF
  rw [hk]
  show zS (fun h => if s.testBit h = true ∧ nd h &&& (zclr s h ^^^ 4294967295) = 0 then zFo nd k (zclr s h) else 0) 12 = _
  apply zS_congr
  intro i hi
  show (if _ then zFo nd k (zclr s i) else 0) = if _ then zFo nd (zpc (zclr s i)) (zclr s i) else 0
  by_cases q : s.testBit i = true ∧ nd i &&& (zclr s i ^^^ 4294967295) = 0
  · simp only [if_pos q]
    have := zpc_clr hi q.1
    rw [show zpc (zclr s i) = k from by omega]
  · simp only [if_neg q]
theorem zFo_le (nd : Nat → Nat) : ∀ k s, zpc s = k → zFo nd k s ≤ zfac k := by
  intro k
  induction k with
  | zero => intro s _; exact Nat.le_refl _
  | succ k ih =>
    intro s hs
    show zS (fun h => if s.testBit h = true ∧ nd h &&& (zclr s h ^^^ 4294967295) = 0 then zFo nd k (zclr s h) else 0) 12 ≤ zfac k * (k + 1)
    have := zS_le s (zfac k) (f := fun h => if s.testBit h = true ∧ nd h &&& (zclr s h ^^^ 4294967295) = 0 then zFo nd k (zclr s h) else 0) 12 (fun i hi => by
      show (if _ then zFo nd k (zclr s i) else 0) ≤ _
      by_cases q : s.testBit i = true ∧ nd i &&& (zclr s i ^^^ 4294967295) = 0
      · rw [if_pos q, if_pos q.1]
        have := zpc_clr hi q.1
        exact ih _ (by omega)
      · rw [if_neg q]; exact Nat.zero_le _)
    have e : zS (fun i => if s.testBit i = true then 1 else 0) 12 = k + 1 := hs
    rw [e] at this
    exact this
theorem zFF_le (nd : Nat → Nat) (s : Nat) : zFF nd s ≤ 479001600 := Nat.le_trans (zFo_le nd _ s rfl) (zfac_le _ (by have := zpc_le s; omega))
/-- s lies in w -/
def zsub (s w : Nat) : Prop := ∀ i, i < 12 → s.testBit i = true → w.testBit i = true
theorem zsub_le {s w : Nat} (hs : s < 4096) (h : zsub s w) : s ≤ w := by
  have e : s &&& w = s := by
    apply Nat.eq_of_testBit_eq
    intro i
    rw [Nat.testBit_and]
    by_cases q : i < 12
    · rcases z_tbN s i with z | z
      · rw [z]; rfl
      · rw [z, h i q z]; rfl
    · rw [z_12 hs (by omega)]; rfl
  rw [← e]
  exact Nat.and_le_right
theorem zsub_iff {s w : Nat} (hs : s < 4096) : (s &&& (w ^^^ 4294967295)) = 0 ↔ zsub s w := by
  constructor
  · intro h i hi hb
    have e : (s &&& (w ^^^ 4294967295)).testBit i = false := by rw [h, Nat.zero_testBit]
    rw [Nat.testBit_and, z_tb_not w i (by omega), hb, Bool.true_and] at e
    rcases z_tbN w i with z | z
    · rw [z] at e; exact absurd e (by decide)
    · exact z
  · intro h
    apply Nat.eq_of_testBit_eq
    intro i
    rw [Nat.testBit_and, Nat.zero_testBit]
    by_cases q : i < 12
    · rw [z_tb_not w i (by omega)]
      rcases z_tbN s i with z | z
      · rw [z]; rfl
      · rw [z, h i q z]; rfl
    · rw [z_12 hs (by omega)]; rfl
theorem zsub_clr {s w i : Nat} (h : zsub s w) : zsub (zclr s i) w := by
  intro j hj hb
  rw [zclr_tb s i j (by omega), Bool.and_eq_true] at hb
  exact h j hj hb.1
def zND (T : zMd) (w h : Nat) : Nat := if md_one T h < 0 then 0 else (2 ^ (md_one T h).toNatClampNeg ||| 2 ^ (md_other T h).toNatClampNeg) &&& w
section ORs
variable {c w : Nat} {S : zSt} {T : zMd}
theorem bitOf_in (h : SR c w S T) {a : Nat} (ha : a < c) : fX5_bitOf S (nI a) = nI (2 ^ a &&& w) := by
  have hc := h.c
  unfold fX5_bitOf
  rw [stands_in h ha]
  have e : 2 ^ a &&& w = if w.testBit a = true then 2 ^ a else 0 := by
    apply Nat.eq_of_testBit_eq
    intro i
    rw [Nat.testBit_and, Nat.testBit_two_pow]
    by_cases q : a = i
    · subst q
      rcases z_tbN w a with z | z
      · rw [if_neg (by rw [z]; decide), z, Nat.zero_testBit, Bool.and_false]
      · rw [if_pos z, z, Nat.testBit_two_pow, decide_eq_true rfl]; rfl
    · rw [decide_eq_false q, Bool.false_and]
      by_cases z : w.testBit a = true
      · rw [if_pos z, Nat.testBit_two_pow, decide_eq_false q]
      · rw [if_neg z, Nat.zero_testBit]
  rw [e]
  rcases z_tbN w a with z | z
  · rw [if_pos (zbit0.mpr z), if_neg (by rw [z]; decide)]; rfl
  · rw [if_neg (fun y => by rw [zbit1.mpr z] at y; exact absurd y (by decide)), if_pos z, z_one (by omega)]
theorem needs_eq (h : SR c w S T) {j : Nat} (hj : j < c) : fX5_aheadOf S (nI j) = some (nI (zND T w j)) ∧ fX8_needs T (nI j) = some (nI (zND T w j)) ∧ zND T w j < 4096 := by
  have hc := h.c
  have hw := h.w12
  have a := h.arr j hj
  have hst := standing_eq hc h.houses h.w (fun i hi => (h.arr i hi).2.2.2.2.2.2.2)
  have e1 : fX5_aheadOf S (nI j) = some (fX5_bitOf S (md_one T j) ||| fX5_bitOf S (md_other T j)) := by
    unfold fX5_aheadOf
    rw [has_in h hj, if_neg (by decide), ix_nI (by omega) (by omega), nI_clamp (by omega), a.2.2.2.1, a.2.2.2.2.1]
  rw [e1]
  unfold fX8_needs fX8_needs_j31
  rw [ix_nI (by omega) (by omega), nI_clamp (by omega), hst]
  unfold zND
  rcases h.two j hj with ⟨-, t1, t2⟩ | ⟨x, y, hx, hy, t1, t2⟩
  · have hb : fX5_bitOf S (-4) = 0 := by
      unfold fX5_bitOf
      rw [stands_out h (Or.inl (by decide)), if_pos rfl]
    rw [t1, t2, hb, if_pos (show (-4 : Int32) < 0 from by decide), if_pos (show (-4 : Int32) < 0 from by decide)]
    refine ⟨rfl, ?_, by omega⟩
    show some ((0 : Int32) &&& nI w) = some (nI 0)
    rw [show (0 : Int32) = nI 0 from rfl, z_andN (by omega) (by omega), Nat.zero_and]
  · have b1 : 2 ^ x < 2 ^ 12 := Nat.pow_lt_pow_right (by omega) (by omega)
    have b2 : 2 ^ y < 2 ^ 12 := Nat.pow_lt_pow_right (by omega) (by omega)
    have b3 : 2 ^ x ||| 2 ^ y < 2 ^ 12 := Nat.or_lt_two_pow b1 b2
    have l1 := Nat.and_le_right (n := 2 ^ x) (m := w)
    have l2 := Nat.and_le_right (n := 2 ^ y) (m := w)
    have l3 := Nat.and_le_right (n := 2 ^ x ||| 2 ^ y) (m := w)
    rw [t1, t2, nI_clamp (by omega), nI_clamp (by omega), bitOf_in h (by omega), bitOf_in h (by omega), if_neg (nI_pos (by omega)), if_neg (nI_pos (by omega)), z_or (by omega) (by omega), z_one (by omega), z_one (by omega)]
    refine ⟨?_, ?_, by omega⟩
    · congr 2
      apply Nat.eq_of_testBit_eq
      intro i
      rw [Nat.testBit_or, Nat.testBit_and, Nat.testBit_and, Nat.testBit_and, Nat.testBit_or]
      cases (2 ^ x).testBit i <;> cases (2 ^ y).testBit i <;> cases w.testBit i <;> rfl
    · show some (((0 : Int32) ||| (nI (2 ^ x) ||| nI (2 ^ y))) &&& nI w) = _
      rw [z_or (by omega) (by omega), show (0 : Int32) = nI 0 from rfl, z_or (by omega) (by omega), Nat.zero_or, z_andN (by omega) (by omega)]
/-- the reference's sum at m -/
def zgm (nd : Nat → Nat) (m h : Nat) : Nat := if m.testBit h = true ∧ nd h &&& (zclr m h ^^^ 4294967295) = 0 then zFF nd (zclr m h) else 0
theorem orders_in (h : SR c w S T) {nd : Nat → Nat} (hnd : zND T w = nd) {m : Nat} (hm : m < 2 ^ c) (hsub : zsub m w) (hF : ∀ s, s < m → zsub s w → md_ways T s = nI (zFF nd s)) (K : Int32 → zMd → Option (Int32 × zMd)) :
    ∀ d i k (U : Nat → Int32), i + d = c → d < k → (∀ s, s ≠ m → U s = md_ways T s) → U m = nI (zS (zgm nd m) i) → ∃ U', fX8_orders_l44 (nI w) (nI m) K k (nI i) (md_set_ways T U) = K (nI (m + 1)) (md_set_ways T U') ∧ (∀ s, s ≠ m → U' s = md_ways T s) ∧ U' m = nI (zS (zgm nd m) c) := by
  have hc := h.c
  have hP : 2 ^ c ≤ 4096 := Nat.le_trans (Nat.pow_le_pow_right (by omega) hc) (show 2 ^ 12 ≤ 4096 from by decide)
  intro d
  induction d with
  | zero =>
    intro i k U hi hk h1 h2
    obtain ⟨k, rfl⟩ : ∃ k', k = k' + 1 := ⟨k - 1, by omega⟩
    have e : i = c := by omega
    subst e
    refine ⟨U, ?_, h1, h2⟩
    rw [fX8_orders_l44, show md_houses (md_set_ways T U) = nI i from h.houses, if_pos (nI_le (by omega) (by omega)), nI_1]
  | succ d ih =>
    intro i k U hi hk h1 h2
    obtain ⟨k, rfl⟩ : ∃ k', k = k' + 1 := ⟨k - 1, by omega⟩
    have hs' : SR c w S (md_set_ways T U) := h
    obtain ⟨-, n2, n3⟩ := needs_eq hs' (j := i) (by omega)
    have hnd' : zND (md_set_ways T U) w i = nd i := by rw [← hnd]; rfl
    rw [hnd'] at n2 n3
    have hz : zS (zgm nd m) (i + 1) = zS (zgm nd m) i + zgm nd m i := rfl
    rw [fX8_orders_l44, show md_houses (md_set_ways T U) = nI c from h.houses, if_neg (nI_ge (by omega) (by omega)), has8 (by omega) (by omega), nI_1, n2]
    have skip : ¬ (m.testBit i = true ∧ nd i &&& (zclr m i ^^^ 4294967295) = 0) → ∃ U', fX8_orders_l44 (nI w) (nI m) K k (nI (i + 1)) (md_set_ways T U) = K (nI (m + 1)) (md_set_ways T U') ∧ (∀ s, s ≠ m → U' s = md_ways T s) ∧ U' m = nI (zS (zgm nd m) c) := by
      intro q
      refine ih (i + 1) k U (by omega) (by omega) h1 ?_
      rw [hz, h2]
      unfold zgm
      rw [if_neg q]; rfl
    rcases z_tbN m i with e | e
    · rw [if_pos (zbit0.mpr e)]
      exact skip (fun z => by rw [e] at z; exact absurd z.1 (by decide))
    · have hcl := zclr_le m i
      rw [if_neg (fun z => by rw [zbit1.mpr e] at z; exact absurd z (by decide))]
      repeat rw [Option.bind_some]
      rw [z_clr (by omega) (by omega), z_andnot (by omega) (by omega)]
      have hle := Nat.and_le_left (n := nd i) (m := zclr m i ^^^ 4294967295)
      by_cases q : nd i &&& (zclr m i ^^^ 4294967295) = 0
      · have hlt := ((z_bits12 i (by omega) m (by omega)).2 e).2
        rw [q, if_pos (show nI 0 = 0 from rfl), ix_nI (by omega) (by omega), ix_nI (by omega) (by omega), nI_clamp (by omega), nI_clamp (by omega)]
        refine ih (i + 1) k (upd U m (U m + U (zclr m i))) (by omega) (by omega) (fun s hsm => by rw [upd_at, if_neg hsm]; exact h1 s hsm) ?_
        rw [upd_at, if_pos rfl, h2, h1 _ (by omega), hF _ hlt (zsub_clr hsub), nI_add, hz]
        congr 2
        unfold zgm
        rw [if_pos ⟨e, q⟩]
      · rw [if_neg (show ¬ nI (nd i &&& (zclr m i ^^^ 4294967295)) = (0 : Int32) from fun z => q ((nI_eq (a := nd i &&& (zclr m i ^^^ 4294967295)) (b := 0) (by omega) (by omega)).mp z))]
        exact skip (fun z => q z.2)
theorem orders_out (hc0 : c ≤ 12) {nd : Nat → Nat} : ∀ d m f (T : zMd), m + d = 2 ^ c → 1 ≤ m → d < f → SR c w S T → zND T w = nd → (∀ s, s < m → zsub s w → md_ways T s = nI (zFF nd s)) → ∃ U, fX8_orders_l14 (nI w) f (nI m) T = some (nI (zFF nd w), md_set_ways T U) := by
  have hP : 2 ^ c ≤ 4096 := Nat.le_trans (Nat.pow_le_pow_right (by omega) hc0) (show 2 ^ 12 ≤ 4096 from by decide)
  intro d
  induction d with
  | zero =>
    intro m f T hm h1 hf h hnd hF
    obtain ⟨f, rfl⟩ : ∃ k', f = k' + 1 := ⟨f - 1, by omega⟩
    have hw := h.w
    refine ⟨md_ways T, ?_⟩
    rw [fX8_orders_l14, h.houses, z_one (by omega), if_pos (nI_le (by omega) (by omega)), ix_nI (by omega) (by omega), nI_clamp (by omega), hF w (by omega) (fun i _ z => z)]
    rfl
  | succ d ih =>
    intro m f T hm h1 hf h hnd hF
    obtain ⟨f, rfl⟩ : ∃ k', f = k' + 1 := ⟨f - 1, by omega⟩
    have hw := h.w
    have hw12 := h.w12
    rw [fX8_orders_l14, h.houses, z_one (by omega), if_neg (nI_ge (by omega) (by omega)), ix_nI (by omega) (by omega), nI_clamp (by omega), z_andnot (by omega) (by omega)]
    have hle := Nat.and_le_left (n := m) (m := w ^^^ 4294967295)
    by_cases q : zsub m w
    · rw [(zsub_iff (by omega)).mpr q, if_pos (show nI 0 = 0 from rfl)]
      obtain ⟨U', u1, u2, u3⟩ := orders_in h hnd (m := m) (by omega) q hF (fX8_orders_l14 (nI w) f) c 0 FU (upd (md_ways T) m 0) (by omega) (FU_big _ (by omega)) (fun s hs => by rw [upd_at, if_neg hs]) (by rw [upd_at, if_pos rfl]; rfl)
      have u1' : fX8_orders_l44 (nI w) (nI m) (fX8_orders_l14 (nI w) f) FU 0 (md_set_ways T (upd (md_ways T) m 0)) = fX8_orders_l14 (nI w) f (nI (m + 1)) (md_set_ways T U') := u1
      rw [u1']
      obtain ⟨U2, e⟩ := ih (m + 1) f (md_set_ways T U') (by omega) (by omega) (by omega) h (by rw [← hnd]; rfl) (fun s hs hsub => by
        show U' s = _
        by_cases z : s = m
        · subst z
          rw [u3, zFF_rec nd (by omega) (by omega)]
          congr 1
          refine (zS_ext (f := zgm nd s) (a := c) 12 (fun i g1 g2 => ?_) (by omega)).symm
          unfold zgm
          rw [if_neg]
          intro z
          have := Nat.testBit_lt_two_pow (x := s) (i := i) (Nat.lt_of_lt_of_le (show s < 2 ^ c from by omega) (Nat.pow_le_pow_right (by omega) g1))
          rw [this] at z
          exact absurd z.1 (by decide)
        · rw [u2 s z]
          exact hF s (by omega) hsub)
      exact ⟨U2, e⟩
    · rw [if_neg (show ¬ nI (m &&& (w ^^^ 4294967295)) = (0 : Int32) from fun z => q ((zsub_iff (by omega)).mp ((nI_eq (a := m &&& (w ^^^ 4294967295)) (b := 0) (by omega) (by omega)).mp z))), nI_1]
      obtain ⟨U2, e⟩ := ih (m + 1) f (md_set_ways T (upd (md_ways T) m 0)) (by omega) (by omega) (by omega) h (by rw [← hnd]; rfl) (fun s hs hsub => by
        show upd (md_ways T) m 0 s = _
        have z : s ≠ m := fun z => q (z ▸ hsub)
        rw [upd_at, if_neg z]
        exact hF s (by omega) hsub)
      exact ⟨U2, e⟩
end ORs
/-- the class's partial sums -/
def zTm (nd : Nat → Nat) (s m v h : Nat) : Nat := if (s.testBit h = true ∧ nd h &&& (zclr s h ^^^ 4294967295) = 0) ∧ (zclr s h < m ∨ (zclr s h = m ∧ h < v)) then zFF nd (zclr s h) else 0
def zGo (nd : Nat → Nat) (m v s : Nat) : Nat := (if s = 0 then 1 else 0) + zS (zTm nd s m v) 12
theorem zGo_self (nd : Nat → Nat) {m : Nat} (hm : m < 4096) (v : Nat) : zGo nd m v m = zFF nd m := by
  unfold zGo
  by_cases q : m = 0
  · subst q
    rw [if_pos rfl, zFF_0, zS_ext (a := 0) 12 (fun i _ hi => by
      unfold zTm
      rw [if_neg]
      intro z
      rw [Nat.zero_testBit] at z
      exact absurd z.1.1 (by decide)) (by omega)]
    rfl
  · rw [if_neg q, zFF_rec nd hm q, Nat.zero_add]
    apply zS_congr
    intro i hi
    unfold zTm
    by_cases g : m.testBit i = true ∧ nd i &&& (zclr m i ^^^ 4294967295) = 0
    · have hlt := ((z_bits12 i hi m hm).2 g.1).2
      rw [if_pos ⟨g, Or.inl hlt⟩, if_pos g]
    · rw [if_neg (fun z => g z.1), if_neg g]
theorem zGo_same {nd : Nat → Nat} {m v s : Nat} (h : ¬ (s.testBit v = true ∧ zclr s v = m ∧ nd v &&& (m ^^^ 4294967295) = 0)) : zGo nd m (v + 1) s = zGo nd m v s := by
  unfold zGo
  congr 1
  apply zS_congr
  intro i hi
  unfold zTm
  by_cases q : (s.testBit i = true ∧ nd i &&& (zclr s i ^^^ 4294967295) = 0) ∧ (zclr s i < m ∨ (zclr s i = m ∧ i < v))
  · rw [if_pos q, if_pos ⟨q.1, q.2.imp id (fun z => ⟨z.1, by omega⟩)⟩]
  · rw [if_neg q, if_neg]
    rintro ⟨a, b | ⟨b1, b2⟩⟩
    · exact q ⟨a, Or.inl b⟩
    · by_cases e : i = v
      · subst e
        exact h ⟨a.1, b1, b1 ▸ a.2⟩
      · exact q ⟨a, Or.inr ⟨b1, by omega⟩⟩
theorem zGo_hit {nd : Nat → Nat} {m v : Nat} (hm : m < 4096) (hv : v < 12) (hb : m.testBit v = false) (hn : nd v &&& (m ^^^ 4294967295) = 0) : zGo nd m (v + 1) (m ||| 2 ^ v) = zGo nd m v (m ||| 2 ^ v) + zFF nd m := by
  have hc := (z_bits12 v hv m hm).1 hb
  have ht : (m ||| 2 ^ v).testBit v = true := by
    rw [Nat.testBit_or, Nat.testBit_two_pow, decide_eq_true rfl, Bool.or_true]
  have := zS_one (f := zTm nd (m ||| 2 ^ v) m v) (g := zTm nd (m ||| 2 ^ v) m (v + 1)) (a := v) 12 (fun i hi hne => by
    unfold zTm
    by_cases q : ((m ||| 2 ^ v).testBit i = true ∧ nd i &&& (zclr (m ||| 2 ^ v) i ^^^ 4294967295) = 0) ∧ (zclr (m ||| 2 ^ v) i < m ∨ (zclr (m ||| 2 ^ v) i = m ∧ i < v))
    · rw [if_pos q, if_pos ⟨q.1, q.2.imp id (fun z => ⟨z.1, by omega⟩)⟩]
    · rw [if_neg q, if_neg]
      rintro ⟨a, b | ⟨b1, b2⟩⟩
      · exact q ⟨a, Or.inl b⟩
      · exact q ⟨a, Or.inr ⟨b1, by omega⟩⟩) hv
  have e1 : zTm nd (m ||| 2 ^ v) m v v = 0 := by
    unfold zTm
    rw [if_neg]
    rw [hc]
    rintro ⟨_, b | ⟨_, b⟩⟩ <;> omega
  have e2 : zTm nd (m ||| 2 ^ v) m (v + 1) v = zFF nd m := by
    unfold zTm
    rw [hc, if_pos ⟨⟨ht, hn⟩, Or.inr ⟨rfl, by omega⟩⟩]
  rw [e1, e2] at this
  unfold zGo
  omega
theorem zGo_next (nd : Nat → Nat) (m s : Nat) : zGo nd m 12 s = zGo nd (m + 1) 0 s := by
  unfold zGo
  congr 1
  apply zS_congr
  intro i hi
  unfold zTm
  by_cases q : (s.testBit i = true ∧ nd i &&& (zclr s i ^^^ 4294967295) = 0) ∧ (zclr s i < m ∨ (zclr s i = m ∧ i < 12))
  · rw [if_pos q, if_pos ⟨q.1, Or.inl (by rcases q.2 with z | ⟨z, _⟩ <;> omega)⟩]
  · rw [if_neg q, if_neg]
    rintro ⟨a, b | ⟨_, b⟩⟩
    · refine q ⟨a, ?_⟩
      by_cases e : zclr s i < m
      · exact Or.inl e
      · exact Or.inr ⟨by omega, hi⟩
    · omega
theorem zGo_skip {nd : Nat → Nat} {m s : Nat} (h : ∀ i, i < 12 → s.testBit i = true → zclr s i = m → zFF nd m = 0) : zGo nd m 0 s = zGo nd (m + 1) 0 s := by
  unfold zGo
  congr 1
  apply zS_congr
  intro i hi
  unfold zTm
  by_cases q : (s.testBit i = true ∧ nd i &&& (zclr s i ^^^ 4294967295) = 0) ∧ (zclr s i < m ∨ (zclr s i = m ∧ i < 0))
  · rw [if_pos q, if_pos ⟨q.1, Or.inl (by rcases q.2 with z | ⟨_, z⟩ <;> omega)⟩]
  · rw [if_neg q]
    by_cases g : (s.testBit i = true ∧ nd i &&& (zclr s i ^^^ 4294967295) = 0) ∧ (zclr s i < m + 1 ∨ (zclr s i = m + 1 ∧ i < 0))
    · rw [if_pos g]
      have e : zclr s i = m := by
        rcases g.2 with z | ⟨_, z⟩
        · by_cases y : zclr s i < m
          · exact absurd ⟨g.1, Or.inl y⟩ q
          · omega
        · omega
      rw [e, h i hi g.1.1 e]
    · rw [if_neg g]
section ORc
variable {c w : Nat} {S : zSt} {T : zMd}
def zInv (nd : Nat → Nat) (w m v : Nat) (O : zOr) : Prop := (∀ s, s ≤ w → zsub s w → or_ways O s = nI (zGo nd m v s)) ∧ ∀ s, s ≤ w → ¬ zsub s w → or_ways O s = 0
theorem next_in (h : SR c w S T) {nd : Nat → Nat} (hnd : zND T w = nd) {m : Nat} (hm : m < w) (hsub : zsub m w) : ∀ d i k (O : zOr), i + d = 12 → d < k → zInv nd w m i O → ∃ O', fX3_letNextCome_l10 S (nI m) (nI (w &&& (m ^^^ 4294967295))) k (nI i) O = some O' ∧ zInv nd w m 12 O' := by
  have hc := h.c
  have hw := h.w12
  have hl := Nat.and_le_left (n := w) (m := m ^^^ 4294967295)
  intro d
  induction d with
  | zero =>
    intro i k O hi hk hI
    obtain ⟨k, rfl⟩ : ∃ k', k = k' + 1 := ⟨k - 1, by omega⟩
    have e : i = 12 := by omega
    subst e
    refine ⟨O, ?_, hI⟩
    rw [fX3_letNextCome_l10, if_pos (show (12 : Int32) ≤ nI 12 from by decide)]
  | succ d ih =>
    intro i k O hi hk hI
    obtain ⟨k, rfl⟩ : ∃ k', k = k' + 1 := ⟨k - 1, by omega⟩
    have j0 : fX3_letNextCome_j46 S (nI m) (nI (w &&& (m ^^^ 4294967295))) (nI i) 0 O (fX3_letNextCome_l10 S (nI m) (nI (w &&& (m ^^^ 4294967295))) k) = fX3_letNextCome_l10 S (nI m) (nI (w &&& (m ^^^ 4294967295))) k (nI (i + 1)) O := by
      unfold fX3_letNextCome_j46
      rw [if_pos rfl, nI_1]
    have skip : ¬ (w.testBit i = true ∧ m.testBit i = false ∧ nd i &&& (m ^^^ 4294967295) = 0) → ∃ O', fX3_letNextCome_l10 S (nI m) (nI (w &&& (m ^^^ 4294967295))) k (nI (i + 1)) O = some O' ∧ zInv nd w m 12 O' := by
      intro q
      refine ih (i + 1) k O (by omega) (by omega) ⟨fun s h1 h2 => ?_, hI.2⟩
      rw [hI.1 s h1 h2, zGo_same]
      rintro ⟨a, b, e⟩
      refine q ⟨h2 i (by omega) a, ?_, e⟩
      rw [← b, zclr_tb s i i (by omega), decide_eq_true rfl, Bool.not_true, Bool.and_false]
    have tbr : (w &&& (m ^^^ 4294967295)).testBit i = (w.testBit i && !m.testBit i) := by
      rw [Nat.testBit_and, z_tb_not m i (by omega)]
    rw [fX3_letNextCome_l10, if_neg (show ¬ (12 : Int32) ≤ nI i from nI_ge (b := 12) (by omega) (by omega)), z_bit (by omega) (by omega)]
    unfold fX3_letNextCome_j45
    rw [j0]
    rcases z_tbN (w &&& (m ^^^ 4294967295)) i with e | e
    · rw [if_neg (fun z => by rw [zbit0.mpr e] at z; exact absurd z (by decide))]
      refine skip (fun z => ?_)
      rw [tbr, z.1, z.2.1] at e
      exact absurd e (by decide)
    · rw [if_pos (zbit1.mpr e)]
      rw [tbr, Bool.and_eq_true] at e
      have hwi := e.1
      have hmi : m.testBit i = false := by
        rcases z_tbN m i with z | z
        · exact z
        · rw [z] at e; exact absurd e.2 (by decide)
      have hic : i < c := by
        by_cases z : i < c
        · exact z
        · have := Nat.testBit_lt_two_pow (x := w) (i := i) (Nat.lt_of_lt_of_le h.w (Nat.pow_le_pow_right (by omega) (by omega)))
          rw [this] at hwi
          exact absurd hwi (by decide)
      obtain ⟨n1, -, n3⟩ := needs_eq h hic
      rw [hnd] at n1 n3
      rw [n1]
      repeat rw [Option.bind_some]
      rw [z_andnot (by omega) (by omega)]
      have hle := Nat.and_le_left (n := nd i) (m := m ^^^ 4294967295)
      by_cases q : nd i &&& (m ^^^ 4294967295) = 0
      · have ht : zsub (m ||| 2 ^ i) w := by
          intro j hj hb
          rw [Nat.testBit_or, Nat.testBit_two_pow, Bool.or_eq_true, decide_eq_true_eq] at hb
          rcases hb with z | z
          · exact hsub j hj z
          · rw [← z]; exact hwi
        have ht2 : m ||| 2 ^ i < 2 ^ 12 := Nat.or_lt_two_pow (by omega) (Nat.pow_lt_pow_right (by omega) (by omega))
        have ht3 := zsub_le (by omega) ht
        have ht4 := Nat.right_le_or (n := m) (m := 2 ^ i)
        rw [q, if_pos (show nI 0 = 0 from rfl)]
        unfold fX3_letNextCome_j46
        rw [if_neg (by decide), z_one (by omega), z_or (by omega) (by omega), if_neg (show ¬ (4096 : Int32) ≤ nI (m ||| 2 ^ i) from nI_ge (b := 4096) (by omega) (by omega)), ix_nI (by omega) (by omega), ix_nI (by omega) (by omega), nI_clamp (by omega), nI_clamp (by omega), nI_1]
        refine ih (i + 1) k _ (by omega) (by omega) ⟨fun s h1 h2 => ?_, fun s h1 h2 => ?_⟩
        · show upd (or_ways O) (m ||| 2 ^ i) (or_ways O (m ||| 2 ^ i) + or_ways O m) s = _
          rw [upd_at]
          by_cases z : s = m ||| 2 ^ i
          · rw [if_pos z, z, hI.1 _ ht3 ht, hI.1 m (by omega) hsub, zGo_self nd (by omega), nI_add, zGo_hit (by omega) (by omega) hmi q]
          · rw [if_neg z, hI.1 s h1 h2, zGo_same]
            rintro ⟨a, b, _⟩
            have := ((z_bits12 i (by omega) s (by omega)).2 a).1
            rw [b] at this
            exact z this.symm
        · show upd (or_ways O) (m ||| 2 ^ i) (or_ways O (m ||| 2 ^ i) + or_ways O m) s = _
          rw [upd_at, if_neg (show ¬ s = m ||| 2 ^ i from fun z => h2 (by rw [z]; exact ht))]
          exact hI.2 s h1 h2
      · rw [if_neg (show ¬ nI (nd i &&& (m ^^^ 4294967295)) = (0 : Int32) from fun z => q ((nI_eq (a := nd i &&& (m ^^^ 4294967295)) (b := 0) (by omega) (by omega)).mp z))]
        exact skip (fun z => q z.2.2)
theorem next_out (h : SR c w S T) {nd : Nat → Nat} (hnd : zND T w = nd) : ∀ d m k (O : zOr), m + d = w → d < k → zInv nd w m 0 O → ∃ O', fX3_of_l42 S (nI w) k (nI m) O = some (nI (zFF nd w), O') := by
  have hw := h.w12
  intro d
  induction d with
  | zero =>
    intro m k O hm hk hI
    obtain ⟨k, rfl⟩ : ∃ k', k = k' + 1 := ⟨k - 1, by omega⟩
    have e : m = w := by omega
    subst e
    refine ⟨O, ?_⟩
    rw [fX3_of_l42, if_pos (nI_le (by omega) (by omega)), ix_nI (by omega) (by omega), nI_clamp (by omega), hI.1 m (by omega) (fun i _ z => z), zGo_self nd (by omega)]
  | succ d ih =>
    intro m k O hm hk hI
    obtain ⟨k, rfl⟩ : ∃ k', k = k' + 1 := ⟨k - 1, by omega⟩
    rw [fX3_of_l42, if_neg (nI_ge (by omega) (by omega)), ix_nI (by omega) (by omega), nI_clamp (by omega), nI_1]
    by_cases q : zsub m w
    · rw [hI.1 m (by omega) q, zGo_self nd (by omega)]
      have hle := zFF_le nd m
      by_cases g : zFF nd m = 0
      · rw [g, if_pos (show nI 0 ≤ 0 from by decide)]
        exact ih (m + 1) k O (by omega) (by omega) ⟨fun s h1 h2 => by rw [hI.1 s h1 h2, zGo_skip (fun _ _ _ _ => g)], hI.2⟩
      · rw [if_neg (nI_nle (by omega) (by omega))]
        obtain ⟨O', e1, e2⟩ := next_in h hnd (by omega) q 12 0 FU O (by omega) (FU_big _ (by omega)) hI
        have e1' : fX3_letNextCome O S (nI m) (nI w) = some O' := by
          unfold fX3_letNextCome
          rw [z_andnot (by omega) (by omega)]
          exact e1
        rw [e1']
        exact ih (m + 1) k O' (by omega) (by omega) ⟨fun s h1 h2 => by rw [e2.1 s h1 h2, zGo_next], e2.2⟩
    · rw [hI.2 m (by omega) q, if_pos (show (0 : Int32) ≤ 0 from by decide)]
      exact ih (m + 1) k O (by omega) (by omega) ⟨fun s h1 h2 => by
        rw [hI.1 s h1 h2, zGo_skip]
        intro i _ _ hz
        exact absurd (hz ▸ zsub_clr h2) q, hI.2⟩
theorem zero_l (S : zSt) {w : Nat} (hw : w < 4096) : ∀ d i k (O : zOr), i + d = w + 1 → d < k → (∀ s, s < i → or_ways O s = 0) → ∃ O', fX3_of_l15 S (nI w) k (nI i) O = fX3_of_l42 S (nI w) FU 0 O' ∧ or_ways O' 0 = 1 ∧ ∀ s, 1 ≤ s → s ≤ w → or_ways O' s = 0 := by
  intro d
  induction d with
  | zero =>
    intro i k O hi hk h0
    obtain ⟨k, rfl⟩ : ∃ k', k = k' + 1 := ⟨k - 1, by omega⟩
    refine ⟨or_set_ways O (upd (or_ways O) 0 1), ?_, rfl, fun s h1 h2 => ?_⟩
    · rw [fX3_of_l15, if_pos (nI_lt (by omega) (by omega))]
      exact ix_nI (n := 4096) (j := 0) (by omega) (by omega)
    · show upd (or_ways O) 0 1 s = 0
      rw [upd_at, if_neg (by omega)]
      exact h0 s (by omega)
  | succ d ih =>
    intro i k O hi hk h0
    obtain ⟨k, rfl⟩ : ∃ k', k = k' + 1 := ⟨k - 1, by omega⟩
    rw [fX3_of_l15, if_neg (nI_nlt (by omega) (by omega)), ix_nI (by omega) (by omega), nI_clamp (by omega), nI_1]
    exact ih (i + 1) k _ (by omega) (by omega) (fun s hs => by
      show upd (or_ways O) i 0 s = 0
      rw [upd_at]
      by_cases z : s = i
      · rw [if_pos z]
      · rw [if_neg z]; exact h0 s (by omega))
end ORc
theorem inv0 {nd : Nat → Nat} {w : Nat} (hw : w < 4096) {O1 : zOr} (z2 : or_ways O1 0 = 1) (z3 : ∀ s, 1 ≤ s → s ≤ w → or_ways O1 s = 0) : zInv nd w 0 0 O1 := ⟨fun s h1 h2 => by
    by_cases q : s = 0
    · subst q
      rw [z2, zGo_self _ (by omega), zFF_0]; rfl
    · rw [z3 s (by omega) h1]
      unfold zGo
      rw [if_neg q, zS_ext (a := 0) 12 (fun i _ hi => by
        unfold zTm
        rw [if_neg]
        rintro ⟨_, b | ⟨_, b⟩⟩ <;> omega) (by omega)]
      rfl, fun s h1 h2 => by
    by_cases q : s = 0
    · subst q
      exact absurd (fun i _ z => by rw [Nat.zero_testBit] at z; exact absurd z (by decide)) h2
    · exact z3 s (by omega) h1⟩
theorem ord_c {c w : Nat} {S : zSt} {T : zMd} (hs : SR c w S T) (O : zOr) : ∃ O2, fX3_of O S = some (nI (zFF (zND T w) w), O2) := by
  have hc := hs.c
  have hw := hs.w12
  obtain ⟨O1, z1, z2, z3⟩ := zero_l S hw (w + 1) 0 FU O (by omega) (FU_big _ (by omega)) (fun s hs => absurd hs (by omega))
  obtain ⟨O2, o1⟩ := next_out hs (nd := zND T w) rfl w 0 FU O1 (by omega) (FU_big _ (by omega)) (inv0 hw z2 z3)
  refine ⟨O2, ?_⟩
  unfold fX3_of fX5_standingBits
  rw [hs.st, show (4096 : Int32) - 1 = 4095 from by decide, pk_andN (by omega) 12 (by decide), Nat.mod_eq_of_lt (by omega)]
  exact z1.trans o1
theorem ord_m {c w : Nat} {S : zSt} {T : zMd} (hs : SR c w S T) : ∃ U, fX8_orders T = some (nI (zFF (zND T w) w), md_set_ways T U) := by
  have hc := hs.c
  have hw := hs.w12
  have hp : 2 ^ c ≤ 2 ^ 12 := Nat.pow_le_pow_right (by omega) hc
  obtain ⟨U, u1⟩ := orders_out (S := S) hc (nd := zND T w) (2 ^ c - 1) 1 FU (md_set_ways T (upd (md_ways T) 0 1)) (by have := Nat.two_pow_pos c; omega) (by omega) (FU_big _ (by omega)) hs rfl (fun s h1 _ => by
    have e : s = 0 := by omega
    subst e
    show upd (md_ways T) 0 1 0 = _
    rw [upd_at, if_pos rfl, zFF_0]; rfl)
  refine ⟨U, ?_⟩
  unfold fX8_orders
  rw [hs.hs]
  rw [Option.bind_some]
  exact (ix_nI (n := 4096) (j := 0) (by omega) (by omega)).trans u1
theorem sim_orders : zSim_orders RT := by
  intro M T h
  have hr := h
  obtain ⟨⟨c, w, hs⟩, -⟩ := h
  obtain ⟨O2, e1⟩ := ord_c hs (mn_comings M)
  obtain ⟨U, e2⟩ := ord_m hs
  refine ⟨nI (zFF (zND T w) w), mn_set_comings M O2, md_set_ways T U, ?_, e2, (hr.ways U).comings O2⟩
  unfold fX7_orders
  rw [e1]
  rw [Option.bind_some]
end
section
section
/-! chains: what one is, and which comes first -/
def zSm (e : Nat → Nat) (p x : Nat) : Prop := ∃ j k, j ≤ k ∧ k < p ∧ e j + e k = x
def zVal (e : Nat → Nat) (p : Nat) : Prop := e 0 = 1 ∧ ∀ i, 1 ≤ i → i < p → e (i - 1) < e i ∧ zSm e i (e i)
def zBy (e : Nat → Nat) (p y : Nat) : Prop := ∀ i, 1 ≤ i → i < p → y ≤ e (i - 1) ∨ e i ≤ y
def zCn (goal y n : Nat) (e : Nat → Nat) : Prop := zVal e n ∧ zBy e n y ∧ e (n - 1) = goal
def zAg (e b : Nat → Nat) (p : Nat) : Prop := ∀ i, i < p → e i = b i
theorem zVal.lt {e : Nat → Nat} {p : Nat} (h : zVal e p) : ∀ d i, i + (d + 1) < p → e i < e (i + (d + 1)) := by
  intro d
  induction d with
  | zero =>
    intro i hi
    have := (h.2 (i + 1) (by omega) hi).1
    rwa [Nat.add_sub_cancel] at this
  | succ d ih =>
    intro i hi
    have h1 := ih i (by omega)
    have h2 := (h.2 (i + (d + 1) + 1) (by omega) (by omega)).1
    rw [Nat.add_sub_cancel] at h2
    show e i < e (i + (d + 1) + 1)
    omega
theorem zVal.mono {e : Nat → Nat} {p : Nat} (h : zVal e p) {i j : Nat} (hij : i ≤ j) (hj : j < p) : e i ≤ e j := by
  by_cases q : i = j
  · rw [q]; exact Nat.le_refl _
  · have := h.lt (j - i - 1) i (by omega)
    rw [show i + (j - i - 1 + 1) = j from by omega] at this
    omega
theorem zVal.mono' {e : Nat → Nat} {p : Nat} (h : zVal e p) {i j : Nat} (hij : i < j) (hj : j < p) : e i < e j := by
  have := h.lt (j - i - 1) i (by omega)
  rwa [show i + (j - i - 1 + 1) = j from by omega] at this
theorem zVal.cut {e : Nat → Nat} {p q : Nat} (h : zVal e p) (hq : q ≤ p) : zVal e q := ⟨h.1, fun i h1 h2 => h.2 i h1 (by omega)⟩
theorem zVal.dbl {e : Nat → Nat} {p i : Nat} (h : zVal e p) (h1 : 1 ≤ i) (hi : i < p) : e i ≤ 2 * e (i - 1) := by
  obtain ⟨-, j, k, x1, x2, x3⟩ := h.2 i h1 hi
  have a := h.mono (i := j) (j := i - 1) (by omega) (by omega)
  have b := h.mono (i := k) (j := i - 1) (by omega) (by omega)
  omega
theorem zVal.grow {e : Nat → Nat} {p : Nat} (h : zVal e p) : ∀ d i, i + d < p → e (i + d) ≤ e i * 2 ^ d := by
  intro d
  induction d with
  | zero => intro i _; simp
  | succ d ih =>
    intro i hi
    have a := ih i (by omega)
    have b := h.dbl (i := i + d + 1) (by omega) hi
    rw [Nat.add_sub_cancel] at b
    show e (i + d + 1) ≤ _
    rw [Nat.pow_succ, ← Nat.mul_assoc]
    omega
theorem zVal.pow {e : Nat → Nat} {p i : Nat} (h : zVal e p) (hi : i < p) : e i ≤ 2 ^ i := by
  have := h.grow i 0 (by omega)
  rw [Nat.zero_add, h.1, Nat.one_mul] at this
  exact this
theorem zVal.one {e : Nat → Nat} {p i : Nat} (h : zVal e p) (hi : i < p) : 1 ≤ e i := by
  have := h.mono (Nat.zero_le i) hi
  rw [h.1] at this
  exact this
theorem zVal.ag {e b : Nat → Nat} {p : Nat} (h : zVal e p) (hp : 1 ≤ p) (g : zAg e b p) : zVal b p := by
  refine ⟨by rw [← g 0 (by omega)]; exact h.1, fun i h1 h2 => ?_⟩
  obtain ⟨x, j, k, y1, y2, y3⟩ := h.2 i h1 h2
  rw [← g i h2, ← g (i - 1) (by omega)]
  exact ⟨x, j, k, y1, y2, by rw [← g j (by omega), ← g k (by omega)]; exact y3⟩
theorem zSm.ag {e b : Nat → Nat} {p x : Nat} (g : zAg e b p) (h : zSm e p x) : zSm b p x := by
  obtain ⟨j, k, y1, y2, y3⟩ := h
  exact ⟨j, k, y1, y2, by rw [← g j (by omega), ← g k (by omega)]; exact y3⟩
def zput1 (e : Nat → Nat) (p x : Nat) : Nat → Nat := fun i => if i = p then x else e i
theorem zput1_ag (e : Nat → Nat) (p x : Nat) : zAg e (zput1 e p x) p := fun i hi => by
  unfold zput1
  rw [if_neg (by omega)]
theorem zput1_at (e : Nat → Nat) (p x : Nat) : zput1 e p x p = x := if_pos rfl
theorem zVal.put {e : Nat → Nat} {p x : Nat} (h : zVal e p) (hp : 1 ≤ p) (hx : e (p - 1) < x) (hs : zSm e p x) : zVal (zput1 e p x) (p + 1) := by
  have g := zput1_ag e p x
  have h' := h.ag hp g
  refine ⟨h'.1, fun i h1 h2 => ?_⟩
  by_cases q : i = p
  · subst q
    rw [zput1_at, ← g (i - 1) (by omega)]
    exact ⟨hx, hs.ag g⟩
  · exact h'.2 i h1 (by omega)
theorem zBy.put {e : Nat → Nat} {p x y : Nat} (h : zBy e p y) (hx : y ≤ e (p - 1) ∨ x ≤ y) : zBy (zput1 e p x) (p + 1) y := by
  have g := zput1_ag e p x
  intro i h1 h2
  by_cases q : i = p
  · subst q
    rw [zput1_at, ← g (i - 1) (by omega)]
    exact hx
  · rw [← g i (by omega), ← g (i - 1) (by omega)]
    exact h i h1 (by omega)
/-! is it a sum: the class from both ends, the reference pair by pair -/
theorem isSumC_l {a : Nat → Int32} {e : Nat → Nat} {p x : Nat} (hp : p ≤ 12) (ha : ∀ i, i < p → a i = nI (e i)) (he : ∀ i j, i < j → j < p → e i < e j) (hb : ∀ i, i < p → e i ≤ 10000) (hx : x ≤ 10000) : ∀ d l h f, h ≤ l + d → d < f → h ≤ p → l ≤ p → (∀ j k, j ≤ k → k < p → e j + e k = x → l ≤ j ∧ k < h) →
    (zSm e p x ∧ fX0_isSum_l12 a (nI x) f (nI l) (nI h + (-1)) = some 1) ∨ (¬ zSm e p x ∧ fX0_isSum_l12 a (nI x) f (nI l) (nI h + (-1)) = some 0) := by
  have stop : ∀ l h f, h ≤ l → h ≤ p → l ≤ p → (∀ j k, j ≤ k → k < p → e j + e k = x → l ≤ j ∧ k < h) → (zSm e p x ∧ fX0_isSum_l12 a (nI x) (f + 1) (nI l) (nI h + (-1)) = some 1) ∨ (¬ zSm e p x ∧ fX0_isSum_l12 a (nI x) (f + 1) (nI l) (nI h + (-1)) = some 0) := by
    intro l h f h1 h2 h3 hI
    refine Or.inr ⟨fun ⟨j, k, x1, x2, x3⟩ => ?_, ?_⟩
    · have := hI j k x1 x2 x3
      omega
    · rw [fX0_isSum_l12, if_pos]
      by_cases q : h = 0
      · subst q
        rw [Int32.lt_iff_toInt_lt, show (nI 0 + (-1) : Int32).toInt = -1 from by decide, nI_toInt (by omega)]
        omega
      · obtain ⟨h', rfl⟩ : ∃ h', h = h' + 1 := ⟨h - 1, by omega⟩
        rw [pk_m1]
        exact nI_lt (by omega) (by omega)
  intro d
  induction d with
  | zero =>
    intro l h f h1 hf h2 h3 hI
    obtain ⟨f, rfl⟩ : ∃ k', f = k' + 1 := ⟨f - 1, by omega⟩
    exact stop l h f (by omega) h2 h3 hI
  | succ d ih =>
    intro l h f h1 hf h2 h3 hI
    obtain ⟨f, rfl⟩ : ∃ k', f = k' + 1 := ⟨f - 1, by omega⟩
    by_cases q : h ≤ l
    · exact stop l h f q h2 h3 hI
    · obtain ⟨h', rfl⟩ : ∃ h', h = h' + 1 := ⟨h - 1, by omega⟩
      have b1 := hb l (by omega)
      have b2 := hb h' (by omega)
      rw [fX0_isSum_l12, pk_m1, if_neg (nI_nlt (by omega) (by omega)), ix_nI (by omega) (by omega), ix_nI (by omega) (by omega), nI_clamp (by omega), nI_clamp (by omega), ha l (by omega), ha h' (by omega), nI_add]
      by_cases g : e l + e h' = x
      · rw [if_pos (by rw [g])]
        exact Or.inl ⟨⟨l, h', by omega, by omega, g⟩, rfl⟩
      · rw [if_neg (fun z => g ((nI_eq (by omega) (by omega)).mp z))]
        by_cases z : x ≤ e l + e h'
        · rw [if_pos (nI_le z (by omega))]
          refine ih l h' f (by omega) (by omega) (by omega) h3 (fun j k y1 y2 y3 => ?_)
          obtain ⟨w1, w2⟩ := hI j k y1 y2 y3
          refine ⟨w1, ?_⟩
          by_cases v : k = h'
          · subst v
            have : e l ≤ e j := by
              by_cases u : l = j
              · rw [u]; exact Nat.le_refl _
              · exact Nat.le_of_lt (he l j (by omega) (by omega))
            omega
          · omega
        · rw [if_neg (nI_ge (by omega) (by omega)), nI_1]
          have := ih (l + 1) (h' + 1) f (by omega) (by omega) h2 (by omega) (fun j k y1 y2 y3 => by
            obtain ⟨w1, w2⟩ := hI j k y1 y2 y3
            refine ⟨?_, w2⟩
            by_cases v : j = l
            · subst v
              have : e k ≤ e h' := by
                by_cases u : k = h'
                · rw [u]; exact Nat.le_refl _
                · exact Nat.le_of_lt (he k h' (by omega) (by omega))
              omega
            · omega)
          rw [pk_m1] at this
          exact this
theorem isSumC {a : Nat → Int32} {e : Nat → Nat} {p x : Nat} (hp : p ≤ 12) (ha : ∀ i, i < p → a i = nI (e i)) (he : ∀ i j, i < j → j < p → e i < e j) (hb : ∀ i, i < p → e i ≤ 10000) (hx : x ≤ 10000) : (zSm e p x ∧ fX0_isSum a (nI p) (nI x) = some 1) ∨ (¬ zSm e p x ∧ fX0_isSum a (nI p) (nI x) = some 0) := by
  unfold fX0_isSum
  rw [if_neg (show ¬ (12 : Int32) < nI p from nI_nlt (a := 12) hp (by omega)), Int32.sub_eq_add_neg]
  exact isSumC_l hp ha he hb hx p 0 p FU (by omega) (FU_big _ (by omega)) (Nat.le_refl _) (by omega) (fun j k _ y2 _ => ⟨Nat.zero_le _, y2⟩)
theorem isSumM_in (T : zMd) {e : Nat → Nat} {p x i : Nat} (hp : p ≤ 12) (hi : i < p) (ha : ∀ i, i < p → md_tried T i = nI (e i)) (hb : ∀ i, i < p → e i ≤ 10000) (hx : x ≤ 10000) (K : Int32 → Option Int32) : ((∃ j, i ≤ j ∧ j < p ∧ e i + e j = x) ∧ fX8_isSum_l10 T (nI x) (nI p) (nI i) K FU (nI i) = some 1) ∨ ((∀ j, i ≤ j → j < p → ¬ e i + e j = x) ∧ fX8_isSum_l10 T (nI x) (nI p) (nI i) K FU (nI i) = K (nI (i + 1))) :=
  zscan (fun n v => fX8_isSum_l10 T (nI x) (nI p) (nI i) K n v) p (fun j => e i + e j = x) (K (nI (i + 1))) (some 1)
    (fun n => by
      show fX8_isSum_l10 T (nI x) (nI p) (nI i) K (n + 1) (nI p) = _
      rw [fX8_isSum_l10, if_pos (nI_le (by omega) (by omega)), nI_1])
    (fun n j hj => by
      show _ ∧ fX8_isSum_l10 T (nI x) (nI p) (nI i) K (n + 1) (nI j) = some 1 ∨ _ ∧ fX8_isSum_l10 T (nI x) (nI p) (nI i) K (n + 1) (nI j) = fX8_isSum_l10 T (nI x) (nI p) (nI i) K n (nI (j + 1))
      have b1 := hb i hi
      have b2 := hb j hj
      rw [fX8_isSum_l10, if_neg (nI_ge hj (by omega)), ix_nI (by omega) (by omega), ix_nI (by omega) (by omega), nI_clamp (by omega), nI_clamp (by omega), ha i hi, ha j hj, nI_add, nI_1]
      by_cases q : e i + e j = x
      · rw [if_pos (by rw [q])]
        exact Or.inl ⟨q, rfl⟩
      · rw [if_neg (fun z => q ((nI_eq (by omega) (by omega)).mp z))]
        exact Or.inr ⟨q, rfl⟩) (p - i) i FU (by omega) (FU_big _ (by omega))
theorem isSumM (T : zMd) {e : Nat → Nat} {p x : Nat} (hp : p ≤ 12) (ha : ∀ i, i < p → md_tried T i = nI (e i)) (hb : ∀ i, i < p → e i ≤ 10000) (hx : x ≤ 10000) : (zSm e p x ∧ fX8_isSum T (nI x) (nI p) = some 1) ∨ (¬ zSm e p x ∧ fX8_isSum T (nI x) (nI p) = some 0) := by
  rcases zscan (fun n v => fX8_isSum_l2 T (nI x) (nI p) n v) p (fun i => ∃ j, i ≤ j ∧ j < p ∧ e i + e j = x) (some 0) (some 1)
    (fun n => by
      show fX8_isSum_l2 T (nI x) (nI p) (n + 1) (nI p) = some 0
      rw [fX8_isSum_l2, if_pos (nI_le (by omega) (by omega))])
    (fun n i hi => by
      show _ ∧ fX8_isSum_l2 T (nI x) (nI p) (n + 1) (nI i) = some 1 ∨ _ ∧ fX8_isSum_l2 T (nI x) (nI p) (n + 1) (nI i) = fX8_isSum_l2 T (nI x) (nI p) n (nI (i + 1))
      rw [fX8_isSum_l2, if_neg (nI_ge hi (by omega))]
      rcases isSumM_in T hp hi ha hb hx (fX8_isSum_l2 T (nI x) (nI p) n) with ⟨x1, x2⟩ | ⟨x1, x2⟩
      · exact Or.inl ⟨x1, x2⟩
      · exact Or.inr ⟨fun ⟨j, y1, y2, y3⟩ => x1 j y1 y2 y3, x2⟩) p 0 FU (by omega) (FU_big _ (by omega)) with ⟨⟨i, -, -, j, x1, x2, x3⟩, x4⟩ | ⟨x1, x2⟩
  · exact Or.inl ⟨⟨i, j, x1, x2, x3⟩, x4⟩
  · exact Or.inr ⟨fun ⟨i, j, y1, y2, y3⟩ => x1 i (by omega) (by omega) ⟨j, y1, y2, y3⟩, x2⟩
/-! the search: what both do -/
noncomputable def zIf {β : Type} (P : Prop) (a b : β) : β := @ite β P (Classical.propDecidable P) a b
theorem zIf_pos {β : Type} {P : Prop} (h : P) (a b : β) : zIf P a b = a := by
  unfold zIf
  exact if_pos h
theorem zIf_neg {β : Type} {P : Prop} (h : ¬ P) (a b : β) : zIf P a b = b := by
  unfold zIf
  exact if_neg h
def zScn {β : Type} (f : Nat → Option β) : Nat → Nat → Option β
  | 0, _ => none
  | k + 1, x => match f x with
    | some b => some b
    | none => zScn f k (x + 1)
theorem zScn_hit {β : Type} {f : Nat → Option β} {b : β} : ∀ k x j, x ≤ j → j < x + k → f j = some b → (∀ i, x ≤ i → i < j → f i = none) → zScn f k x = some b := by
  intro k
  induction k with
  | zero => intro x j h1 h2; omega
  | succ k ih =>
    intro x j h1 h2 h3 h4
    rw [zScn]
    by_cases q : x = j
    · rw [q, h3]
    · rw [h4 x (Nat.le_refl _) (by omega)]
      exact ih (x + 1) j (by omega) (by omega) h3 (fun i y1 y2 => h4 i (by omega) y2)
theorem zScn_no {β : Type} {f : Nat → Option β} : ∀ k x, (∀ i, x ≤ i → i < x + k → f i = none) → zScn f k x = none := by
  intro k
  induction k with
  | zero => intro x _; rfl
  | succ k ih =>
    intro x h
    rw [zScn, h x (Nat.le_refl _) (by omega)]
    exact ih (x + 1) (fun i y1 y2 => h i (by omega) (by omega))
theorem zScn_ne {β : Type} {f : Nat → Option β} {j : Nat} (h : f j ≠ none) : ∀ k x, x ≤ j → j < x + k → zScn f k x ≠ none := by
  intro k
  induction k with
  | zero => intro x h1 h2; omega
  | succ k ih =>
    intro x h1 h2
    rw [zScn]
    cases e : f x with
    | some b => intro z; cases z
    | none =>
      by_cases q : x = j
      · rw [q] at e; exact absurd e h
      · exact ih (x + 1) (by omega) (by omega)
/-- whether x may be the next behind the first p -/
def zCand (goal y n : Nat) (e : Nat → Nat) (p x : Nat) : Prop := e (p - 1) < x ∧ x ≤ 2 * e (p - 1) ∧ x ≤ goal ∧ zSm e p x ∧ goal ≤ x * 2 ^ (n - 1 - p) ∧ (y ≤ e (p - 1) ∨ x ≤ y)
noncomputable def zSr (goal y n : Nat) : Nat → (Nat → Nat) → Nat → Option (Nat → Nat)
  | 0, e, p => zIf (e (p - 1) = goal) (some e) none
  | d + 1, e, p => zScn (fun x => zIf (zCand goal y n e p x) (zSr goal y n d (zput1 e p x) (p + 1)) none) (goal - e (p - 1)) (e (p - 1) + 1)
noncomputable def zFd (goal y n : Nat) : Option (Nat → Nat) := zSr goal y n (n - 1) (fun _ => 1) 1
theorem zSr_full {goal y n : Nat} {c : Nat → Nat} (hc : zCn goal y n c) : ∀ d p e, p + d = n → 1 ≤ p → zAg c e p → zSr goal y n d e p ≠ none := by
  obtain ⟨hv, hb, hg⟩ := hc
  intro d
  induction d with
  | zero =>
    intro p e hp h1 ha
    rw [zSr, zIf_pos (by rw [← ha (p - 1) (by omega), ← hg, show p = n from by omega])]
    intro z; cases z
  | succ d ih =>
    intro p e hp h1 ha
    have e1 := ha (p - 1) (by omega)
    have v1 := hv.2 p h1 (by omega)
    have v2 := hv.dbl (i := p) h1 (by omega)
    have v3 := hv.mono (i := p) (j := n - 1) (by omega) (by omega)
    have v4 := hv.grow (n - 1 - p) p (by omega)
    have v5 := hb p h1 (by omega)
    rw [show p + (n - 1 - p) = n - 1 from by omega, hg] at v4
    rw [hg] at v3
    have hcd : zCand goal y n e p (c p) := ⟨by rw [← e1]; exact v1.1, by rw [← e1]; exact v2, v3, v1.2.ag ha, v4, by rw [← e1]; exact v5⟩
    rw [zSr]
    refine zScn_ne (j := c p) ?_ _ _ hcd.1 (by have := hcd.1; omega)
    show zIf _ _ _ ≠ none
    rw [zIf_pos hcd]
    refine ih (p + 1) _ (by omega) (by omega) (fun i hi => ?_)
    by_cases q : i = p
    · rw [q, zput1_at]
    · rw [← zput1_ag e p (c p) i (by omega)]
      exact ha i (by omega)
theorem zFd_full {goal y n : Nat} {c : Nat → Nat} (h1 : 1 ≤ n) (hc : zCn goal y n c) : zFd goal y n ≠ none :=
  zSr_full hc (n - 1) 1 _ (by omega) (Nat.le_refl _) (fun i hi => by
    rw [show i = 0 from by omega]; exact hc.1.1)
/-! the class -/
theorem leastUseful_eq {l k g : Nat} (hl : l ≤ 1000) (hk : k ≤ 20) (hg : g ≤ 1000) : ∃ L, fX0_leastUseful (nI l) (nI k) (nI g) = nI L ∧ L ≤ 2000 ∧ ∀ x, L ≤ x ↔ (l < x ∧ g ≤ x * 2 ^ k) := by
  have p0 := Nat.two_pow_pos k
  have p1 : 2 ^ k ≤ 2 ^ 20 := Nat.pow_le_pow_right (by omega) hk
  have e1 : nI g + nI (2 ^ k) - 1 = nI (g + 2 ^ k - 1) := by rw [nI_add]; exact pk_sub (b := 1) (by omega)
  have e2 : nI (g + 2 ^ k - 1) >>> (nI k &&& 31) = nI ((g + 2 ^ k - 1) / 2 ^ k) := z_shr (by omega) (by omega)
  have hq : ∀ x, (g + 2 ^ k - 1) / 2 ^ k ≤ x ↔ g ≤ x * 2 ^ k := fun x => by
    rw [← Nat.lt_succ_iff, Nat.div_lt_iff_lt_mul p0, Nat.succ_mul]
    omega
  have hq1 : (g + 2 ^ k - 1) / 2 ^ k ≤ g := (hq g).mpr (Nat.le_mul_of_pos_right _ p0)
  unfold fX0_leastUseful
  rw [z_one (by omega), e1, e2, nI_1]
  by_cases q : l + 1 < (g + 2 ^ k - 1) / 2 ^ k
  · rw [if_pos (nI_lt q (by omega))]
    refine ⟨_, rfl, by omega, fun x => ?_⟩
    rw [← hq x]
    omega
  · rw [if_neg (nI_nlt (by omega) (by omega))]
    refine ⟨_, rfl, by omega, fun x => ?_⟩
    rw [← hq x]
    omega
theorem upd_pre {a : Nat → Int32} {e : Nat → Nat} {p x : Nat} (h : ∀ i, i < p → a i = nI (e i)) : ∀ i, i < p + 1 → upd a p (nI x) i = nI (zput1 e p x i) := fun i hi => by
  rw [upd_at]
  unfold zput1
  by_cases q : i = p
  · rw [if_pos q, if_pos q]
  · rw [if_neg q, if_neg q]
    exact h i (by omega)
theorem reach_l {goal y n bn : Nat} (hn : n ≤ 12) (hg : goal ≤ 100) (hy1 : 1 ≤ bn) (hyg : bn ≤ goal) (hB : ∀ l x, 1 ≤ l → x ≤ goal → ((y ≤ l ∨ x ≤ y) ↔ x ≤ if bn ≤ l then goal else bn)) (hNE : ∀ m c, 1 ≤ m → m < n → ¬ zCn goal y m c) :
    ∀ d p D e (a : Nat → Int32), p + d = n → 1 ≤ p → d < D → (∀ i, i < p → a i = nI (e i)) → zVal e p → zBy e p y → (∀ i, i < p → e i ≤ goal) →
      (∃ b a', zSr goal y n d e p = some b ∧ fX0_reaches D a (nI p) (nI n) (nI bn) (nI goal) = some (1, a') ∧ ∀ i, i < n → a' i = nI (b i)) ∨ (∃ a', zSr goal y n d e p = none ∧ fX0_reaches D a (nI p) (nI n) (nI bn) (nI goal) = some (0, a') ∧ ∀ i, i < p → a' i = nI (e i)) := by
  intro d
  induction d with
  | zero =>
    intro p D e a hp h1 hD ha hv hb hm
    obtain ⟨D, rfl⟩ : ∃ k', D = k' + 1 := ⟨D - 1, by omega⟩
    have e1 : nI p - 1 = nI (p - 1) := pk_sub (b := 1) h1
    have m1 := hm (p - 1) (by omega)
    rw [fX0_reaches, zSr]
    unfold fX0_reaches_e
    rw [if_neg (show ¬ nI p < (1 : Int32) from nI_nlt (b := 1) h1 (by omega)), if_pos (show nI p ≤ (12 : Int32) from nI_le (b := 12) (by omega) (by omega)), e1, ix_nI (by omega) (by omega), nI_clamp (by omega), ha _ (by omega)]
    by_cases q : e (p - 1) = goal
    · rw [if_pos (by rw [q]), zIf_pos q]
      exact Or.inl ⟨e, a, rfl, rfl, fun i hi => ha i (by omega)⟩
    · rw [if_neg (fun z => q ((nI_eq (by omega) (by omega)).mp z)), zIf_neg q, if_pos (nI_le (by omega) (by omega))]
      exact Or.inr ⟨a, rfl, rfl, ha⟩
  | succ d ih =>
    intro p D e a hp h1 hD ha hv hb hm
    obtain ⟨D, rfl⟩ : ∃ k', D = k' + 1 := ⟨D - 1, by omega⟩
    have e1 : nI p - 1 = nI (p - 1) := pk_sub (b := 1) h1
    have m1 := hm (p - 1) (by omega)
    have l1 := hv.one (i := p - 1) (by omega)
    have q : ¬ e (p - 1) = goal := fun q => hNE p e h1 (by omega) ⟨hv, hb, q⟩
    have ek : nI n - nI p - 1 = nI (n - 1 - p) := by
      rw [pk_sub (by omega), show n - 1 - p = n - p - 1 from by omega]
      exact pk_sub (b := 1) (by omega)
    obtain ⟨L, eL, hL2, hL⟩ := leastUseful_eq (l := e (p - 1)) (k := n - 1 - p) (g := goal) (by omega) (by omega) (by omega)
    obtain ⟨tb, etb⟩ : ∃ tb, tb = if bn ≤ e (p - 1) then goal else bn := ⟨_, rfl⟩
    have htb : tb ≤ goal := by rw [etb]; split <;> omega
    obtain ⟨B, eB⟩ : ∃ B, B = if tb < 2 * e (p - 1) then tb else 2 * e (p - 1) := ⟨_, rfl⟩
    have hBl : B ≤ tb ∧ B ≤ 2 * e (p - 1) ∧ (∀ x, x ≤ tb → x ≤ 2 * e (p - 1) → x ≤ B) := by
      rw [eB]
      by_cases z : tb < 2 * e (p - 1)
      · rw [if_pos z]; exact ⟨by omega, by omega, fun x _ _ => by omega⟩
      · rw [if_neg z]; exact ⟨by omega, by omega, fun x _ _ => by omega⟩
    have hj : fX0_reaches_e (fX0_reaches D) a (nI p) (nI n) (nI bn) (nI goal) = fX0_reaches_l77 (fX0_reaches D) (nI p) (nI n) (nI bn) (nI goal) (nI B) FU (nI L) a := by
      have h58 : fX0_reaches_j58 (fX0_reaches D) (nI p) (nI n) (nI bn) (nI goal) (nI (e (p - 1))) (2 * nI (e (p - 1))) (nI tb) a = fX0_reaches_l77 (fX0_reaches D) (nI p) (nI n) (nI bn) (nI goal) (nI B) FU (nI L) a := by
        unfold fX0_reaches_j58
        rw [ek, eL, show (2 : Int32) * nI (e (p - 1)) = nI (2 * e (p - 1)) from pk_mul 2 _]
        by_cases z : tb < 2 * e (p - 1)
        · rw [if_pos (nI_lt z (by omega)), eB, if_pos z]
        · rw [if_neg (nI_nlt (by omega) (by omega)), eB, if_neg z]
      unfold fX0_reaches_e
      rw [if_neg (show ¬ nI p < (1 : Int32) from nI_nlt (b := 1) h1 (by omega)), if_pos (show nI p ≤ (12 : Int32) from nI_le (b := 12) (by omega) (by omega)), e1, ix_nI (by omega) (by omega), nI_clamp (by omega), ha _ (by omega), if_neg (fun z => q ((nI_eq (by omega) (by omega)).mp z)), if_neg (nI_ge (by omega) (by omega)), if_pos (show nI p < (12 : Int32) from nI_lt (b := 12) (by omega) (by omega))]
      by_cases z : bn ≤ e (p - 1)
      · rw [if_pos (nI_le z (by omega))]
        rw [if_pos z] at etb
        rw [← etb]
        rw [etb] at h58 ⊢
        exact h58
      · rw [if_neg (nI_ge (by omega) (by omega))]
        rw [if_neg z] at etb
        rw [etb] at h58
        exact h58
    have hcd : ∀ x, (L ≤ x ∧ x ≤ B ∧ zSm e p x) ↔ zCand goal y n e p x := fun x => by
      constructor
      · intro ⟨x1, x2, x3⟩
        have := (hL x).mp x1
        exact ⟨this.1, by omega, by omega, x3, this.2, (hB _ x l1 (by omega)).mpr (by rw [← etb]; omega)⟩
      · intro ⟨x1, x2, x3, x4, x5, x6⟩
        have := (hB _ x l1 x3).mp x6
        rw [← etb] at this
        exact ⟨(hL x).mpr ⟨x1, x5⟩, hBl.2.2 x this x2, x4⟩
    have scan : ∀ k x f (S : Nat → Int32), B + 1 - x = k → k < f → L ≤ x → x ≤ 3000 → (∀ i, i < p → S i = nI (e i)) →
        (∃ j b a', x ≤ j ∧ j ≤ B ∧ zIf (zCand goal y n e p j) (zSr goal y n d (zput1 e p j) (p + 1)) none = some b ∧ (∀ i, x ≤ i → i < j → zIf (zCand goal y n e p i) (zSr goal y n d (zput1 e p i) (p + 1)) none = none) ∧ fX0_reaches_l77 (fX0_reaches D) (nI p) (nI n) (nI bn) (nI goal) (nI B) f (nI x) S = some (1, a') ∧ ∀ i, i < n → a' i = nI (b i)) ∨
        ((∀ j, x ≤ j → j ≤ B → zIf (zCand goal y n e p j) (zSr goal y n d (zput1 e p j) (p + 1)) none = none) ∧ ∃ a', fX0_reaches_l77 (fX0_reaches D) (nI p) (nI n) (nI bn) (nI goal) (nI B) f (nI x) S = some (0, a') ∧ ∀ i, i < p → a' i = nI (e i)) := by
      intro k
      induction k with
      | zero =>
        intro x f S hk hf hx hx2 hS
        obtain ⟨f, rfl⟩ : ∃ k', f = k' + 1 := ⟨f - 1, by omega⟩
        refine Or.inr ⟨fun j j1 j2 => by omega, S, ?_, hS⟩
        rw [fX0_reaches_l77, if_pos (nI_lt (by omega) (by omega))]
      | succ k ihk =>
        intro x f S hk hf hx hx2 hS
        obtain ⟨f, rfl⟩ : ∃ k', f = k' + 1 := ⟨f - 1, by omega⟩
        have go : zIf (zCand goal y n e p x) (zSr goal y n d (zput1 e p x) (p + 1)) none = none → ∀ S' : Nat → Int32, (∀ i, i < p → S' i = nI (e i)) → fX0_reaches_l77 (fX0_reaches D) (nI p) (nI n) (nI bn) (nI goal) (nI B) (f + 1) (nI x) S = fX0_reaches_l77 (fX0_reaches D) (nI p) (nI n) (nI bn) (nI goal) (nI B) f (nI (x + 1)) S' →
            (∃ j b a', x ≤ j ∧ j ≤ B ∧ zIf (zCand goal y n e p j) (zSr goal y n d (zput1 e p j) (p + 1)) none = some b ∧ (∀ i, x ≤ i → i < j → zIf (zCand goal y n e p i) (zSr goal y n d (zput1 e p i) (p + 1)) none = none) ∧ fX0_reaches_l77 (fX0_reaches D) (nI p) (nI n) (nI bn) (nI goal) (nI B) (f + 1) (nI x) S = some (1, a') ∧ ∀ i, i < n → a' i = nI (b i)) ∨
            ((∀ j, x ≤ j → j ≤ B → zIf (zCand goal y n e p j) (zSr goal y n d (zput1 e p j) (p + 1)) none = none) ∧ ∃ a', fX0_reaches_l77 (fX0_reaches D) (nI p) (nI n) (nI bn) (nI goal) (nI B) (f + 1) (nI x) S = some (0, a') ∧ ∀ i, i < p → a' i = nI (e i)) := by
          intro h0 S' hS' hE
          rw [hE]
          rcases ihk (x + 1) f S' (by omega) (by omega) (by omega) (by omega) hS' with ⟨j, b, a', j1, j2, j3, j4, j5, j6⟩ | ⟨j1, a', j2, j3⟩
          · refine Or.inl ⟨j, b, a', by omega, j2, j3, fun i i1 i2 => ?_, j5, j6⟩
            by_cases z : i = x
            · rw [z]; exact h0
            · exact j4 i (by omega) i2
          · refine Or.inr ⟨fun i i1 i2 => ?_, a', j2, j3⟩
            by_cases z : i = x
            · rw [z]; exact h0
            · exact j1 i (by omega) i2
        rcases isSumC (p := p) (x := x) (by omega) hS (fun i j h1 h2 => hv.mono' h1 h2) (fun i hi => by have := hm i hi; omega) (by omega) with ⟨s1, s2⟩ | ⟨s1, s2⟩
        · have hc := (hcd x).mp ⟨hx, by omega, s1⟩
          have hw := hv.put h1 hc.1 hc.2.2.2.1
          have hb' : zBy (zput1 e p x) (p + 1) y := hb.put hc.2.2.2.2.2
          have hm' : ∀ i, i < p + 1 → zput1 e p x i ≤ goal := fun i hi => by
            unfold zput1
            by_cases z : i = p
            · rw [if_pos z]; exact hc.2.2.1
            · rw [if_neg z]; exact hm i (by omega)
          have step : fX0_reaches_l77 (fX0_reaches D) (nI p) (nI n) (nI bn) (nI goal) (nI B) (f + 1) (nI x) S = (fX0_reaches D (upd S p (nI x)) (nI (p + 1)) (nI n) (nI bn) (nI goal)).bind fun u5 => if u5.1 = 0 then fX0_reaches_l77 (fX0_reaches D) (nI p) (nI n) (nI bn) (nI goal) (nI B) f (nI (x + 1)) u5.2 else some (1, u5.2) := by
            rw [fX0_reaches_l77, if_neg (nI_nlt (by omega) (by omega)), s2]
            rw [Option.bind_some]
            rw [if_neg (show ¬ (1 : Int32) = 0 from by decide), ix_nI (by omega) (by omega), nI_clamp (by omega), nI_1, nI_1]
          rcases ih (p + 1) D (zput1 e p x) (upd S p (nI x)) (by omega) (by omega) (by omega) (upd_pre hS) hw hb' hm' with ⟨b, a', r1, r2, r3⟩ | ⟨a', r1, r2, r3⟩
          · refine Or.inl ⟨x, b, a', Nat.le_refl _, by omega, by rw [zIf_pos hc, r1], fun i i1 i2 => by omega, ?_, r3⟩
            rw [step, r2]
            rw [Option.bind_some]
            rw [if_neg (show ¬ (1 : Int32) = 0 from by decide)]
          · refine go (by rw [zIf_pos hc, r1]) a' (fun i hi => ?_) ?_
            · rw [r3 i (by omega), zput1_ag e p x i hi]
            · rw [step, r2]
              rw [Option.bind_some]
              rw [if_pos (show (0 : Int32) = 0 from rfl)]
        · refine go (zIf_neg (fun z => s1 z.2.2.2.1) _ _) S hS ?_
          rw [fX0_reaches_l77, if_neg (nI_nlt (by omega) (by omega)), s2]
          rw [Option.bind_some]
          rw [if_pos (show (0 : Int32) = 0 from rfl), nI_1]
    have out : ∀ j, (j < L ∨ B < j) → zIf (zCand goal y n e p j) (zSr goal y n d (zput1 e p j) (p + 1)) none = none := fun j hj => zIf_neg (fun z => by
      have := (hcd j).mpr z
      omega) _ _
    have hr : fX0_reaches (D + 1) a (nI p) (nI n) (nI bn) (nI goal) = fX0_reaches_l77 (fX0_reaches D) (nI p) (nI n) (nI bn) (nI goal) (nI B) FU (nI L) a := by
      rw [fX0_reaches]
      exact hj
    rcases scan (B + 1 - L) L FU a rfl (FU_big _ (by omega)) (Nat.le_refl _) (by omega) ha with ⟨j, b, a', j1, j2, j3, j4, j5, j6⟩ | ⟨j1, a', j2, j3⟩
    · refine Or.inl ⟨b, a', ?_, hr.trans j5, j6⟩
      rw [zSr]
      have hc : zCand goal y n e p j := by
        by_cases z : zCand goal y n e p j
        · exact z
        · rw [zIf_neg z] at j3; cases j3
      refine zScn_hit _ _ j hc.1 (by have := hc.1; have := hc.2.2.1; omega) j3 (fun i i1 i2 => ?_)
      by_cases z : i < L
      · exact out i (Or.inl z)
      · exact j4 i (by omega) i2
    · refine Or.inr ⟨a', ?_, hr.trans j2, j3⟩
      rw [zSr]
      refine zScn_no _ _ (fun i i1 i2 => ?_)
      show zIf _ _ _ = none
      by_cases z : i < L
      · exact out i (Or.inl z)
      · by_cases z2 : B < i
        · exact out i (Or.inr z2)
        · exact j1 i (by omega) (by omega)
/-! the reference -/
theorem tr_tr (T : zMd) (F G : Nat → Int32) : md_set_tried (md_set_tried T F) G = md_set_tried T G := rfl
theorem tr_at (T : zMd) (F : Nat → Int32) : md_tried (md_set_tried T F) = F := rfl
theorem tr_goal (T : zMd) (F : Nat → Int32) : md_goal (md_set_tried T F) = md_goal T := rfl
theorem tr_wanted (T : zMd) (F : Nat → Int32) : md_wanted (md_set_tried T F) = md_wanted T := rfl
theorem canReach_l (T : zMd) {goal l : Nat} (hG : md_goal T = nI goal) (hg : goal ≤ 100) (hl : l ≤ 100) : ∀ d k x f, k + d = l → d < f → x ≤ 200 → (goal ≤ x * 2 ^ d ∧ fX8_canReach_l5 T (nI l) f (nI x) (nI k) = some 1) ∨ (¬ goal ≤ x * 2 ^ d ∧ fX8_canReach_l5 T (nI l) f (nI x) (nI k) = some 0) := by
  intro d
  induction d with
  | zero =>
    intro k x f hk hf hx
    obtain ⟨f, rfl⟩ : ∃ k', f = k' + 1 := ⟨f - 1, by omega⟩
    rw [fX8_canReach_l5, if_pos (nI_le (by omega) (by omega))]
    unfold fX8_canReach_j29
    rw [hG, Nat.pow_zero, Nat.mul_one]
    by_cases q : x < goal
    · rw [if_pos (nI_lt q (by omega))]
      exact Or.inr ⟨by omega, rfl⟩
    · rw [if_neg (nI_nlt (by omega) (by omega))]
      exact Or.inl ⟨by omega, rfl⟩
  | succ d ih =>
    intro k x f hk hf hx
    obtain ⟨f, rfl⟩ : ∃ k', f = k' + 1 := ⟨f - 1, by omega⟩
    have p0 := Nat.two_pow_pos (d + 1)
    rw [fX8_canReach_l5, if_neg (nI_ge (by omega) (by omega)), hG]
    by_cases q : goal ≤ x
    · rw [if_pos (nI_le q (by omega))]
      unfold fX8_canReach_j29
      rw [hG, if_neg (nI_nlt q (by omega))]
      exact Or.inl ⟨Nat.le_trans q (Nat.le_mul_of_pos_right _ p0), rfl⟩
    · have := ih (k + 1) (x * 2) f (by omega) (by omega) (by omega)
      rw [if_neg (nI_ge (by omega) (by omega)), nI_1, show nI x * (2 : Int32) = nI (x * 2) from pk_mul x 2, Nat.pow_succ, Nat.mul_comm (2 ^ d) 2, ← Nat.mul_assoc]
      exact this
theorem goesOn_eq (T : zMd) {goal y n p x : Nat} {e : Nat → Nat} (hG : md_goal T = nI goal) (hW : md_wanted T = nI y) (hg : goal ≤ 100) (hy : y ≤ 1000) (hn : n ≤ 12) (h1 : 1 ≤ p) (hp : p < n) (ha : ∀ i, i < p → md_tried T i = nI (e i)) (hm : ∀ i, i < p → e i ≤ goal) (hx1 : e (p - 1) < x) (hx2 : x ≤ 2 * e (p - 1)) (hx3 : x ≤ goal) :
    (zCand goal y n e p x ∧ fX8_goesOn T (nI x) (nI p) (nI n) = some 1) ∨ (¬ zCand goal y n e p x ∧ fX8_goesOn T (nI x) (nI p) (nI n) = some 0) := by
  have e1 : nI p - 1 = nI (p - 1) := pk_sub (b := 1) h1
  have e2 : nI n - 1 - nI p = nI (n - 1 - p) := by
    rw [show nI n - 1 = nI (n - 1) from pk_sub (b := 1) (by omega)]
    exact pk_sub (by omega)
  have m1 := hm (p - 1) (by omega)
  unfold fX8_goesOn
  rcases isSumM T (p := p) (x := x) (by omega) ha (fun i hi => by have := hm i hi; omega) (by omega) with ⟨s1, s2⟩ | ⟨s1, s2⟩
  · rw [s2]
    rw [Option.bind_some]
    rw [if_neg (show ¬ (1 : Int32) = 0 from by decide), e2]
    have hr : (goal ≤ x * 2 ^ (n - 1 - p) ∧ fX8_canReach T (nI x) (nI (n - 1 - p)) = some 1) ∨ (¬ goal ≤ x * 2 ^ (n - 1 - p) ∧ fX8_canReach T (nI x) (nI (n - 1 - p)) = some 0) :=
      canReach_l T hG hg (by omega) (n - 1 - p) 0 x FU (by omega) (FU_big _ (by omega)) (by omega)
    rcases hr with ⟨r1, r2⟩ | ⟨r1, r2⟩
    · rw [r2]
      rw [Option.bind_some]
      rw [if_neg (show ¬ (1 : Int32) = 0 from by decide), e1, ix_nI (by omega) (by omega), nI_clamp (by omega), ha _ (by omega), hW]
      by_cases q : y ≤ e (p - 1)
      · rw [if_pos (nI_le q (by omega))]
        exact Or.inl ⟨⟨hx1, hx2, hx3, s1, r1, Or.inl q⟩, rfl⟩
      · rw [if_neg (nI_ge (by omega) (by omega))]
        by_cases q2 : y < x
        · rw [if_pos (nI_lt q2 (by omega))]
          refine Or.inr ⟨fun z => ?_, rfl⟩
          have := z.2.2.2.2.2
          omega
        · rw [if_neg (nI_nlt (by omega) (by omega))]
          exact Or.inl ⟨⟨hx1, hx2, hx3, s1, r1, Or.inr (by omega)⟩, rfl⟩
    · rw [r2]
      rw [Option.bind_some]
      rw [if_pos (show (0 : Int32) = 0 from rfl)]
      exact Or.inr ⟨fun z => r1 z.2.2.2.2.1, rfl⟩
  · rw [s2]
    rw [Option.bind_some]
    rw [if_pos (show (0 : Int32) = 0 from rfl)]
    exact Or.inr ⟨fun z => s1 z.2.2.2.1, rfl⟩
section NT
variable {T : zMd} {goal y n p : Nat} {e : Nat → Nat}
theorem next_l (hG : md_goal T = nI goal) (hW : md_wanted T = nI y) (hg : goal ≤ 100) (hy : y ≤ 1000) (hn : n ≤ 12) (h1 : 1 ≤ p) (hp : p < n) (ha : ∀ i, i < p → md_tried T i = nI (e i)) (hm : ∀ i, i < p → e i ≤ goal) {B : Nat} (hB1 : B ≤ 2 * e (p - 1)) (hB2 : B ≤ goal) (hB3 : ∀ x, x ≤ 2 * e (p - 1) → x ≤ goal → x ≤ B) :
    ∀ d x f, B + 1 - x = d → d < f → e (p - 1) < x → x ≤ 300 → (∃ j, x ≤ j ∧ zCand goal y n e p j ∧ (∀ i, x ≤ i → i < j → ¬ zCand goal y n e p i) ∧ fX8_nextTry_l41 T (nI p) (nI n) (nI B) f (nI x) = some (nI j)) ∨ ((∀ j, x ≤ j → ¬ zCand goal y n e p j) ∧ fX8_nextTry_l41 T (nI p) (nI n) (nI B) f (nI x) = some (nI (goal + 1))) := by
  intro d
  induction d with
  | zero =>
    intro x f hd hf hx hx2
    obtain ⟨f, rfl⟩ : ∃ k', f = k' + 1 := ⟨f - 1, by omega⟩
    refine Or.inr ⟨fun j hj z => ?_, ?_⟩
    · have := hB3 j z.2.1 z.2.2.1
      omega
    · rw [fX8_nextTry_l41, if_pos (nI_lt (by omega) (by omega))]
      unfold fX8_nextTry_j65
      rw [if_pos (nI_lt (by omega) (by omega)), hG, nI_1]
  | succ d ih =>
    intro x f hd hf hx hx2
    obtain ⟨f, rfl⟩ : ∃ k', f = k' + 1 := ⟨f - 1, by omega⟩
    rw [fX8_nextTry_l41, if_neg (nI_nlt (by omega) (by omega))]
    rcases goesOn_eq T hG hW hg hy hn h1 hp ha hm hx (by omega) (by omega) with ⟨s1, s2⟩ | ⟨s1, s2⟩
    · rw [s2]
      rw [Option.bind_some]
      rw [if_neg (show ¬ (1 : Int32) = 0 from by decide)]
      unfold fX8_nextTry_j65
      rw [if_neg (nI_nlt (by omega) (by omega))]
      exact Or.inl ⟨x, Nat.le_refl _, s1, fun i i1 i2 => by omega, rfl⟩
    · rw [s2]
      rw [Option.bind_some]
      rw [if_pos (show (0 : Int32) = 0 from rfl), nI_1]
      rcases ih (x + 1) f (by omega) (by omega) (by omega) (by omega) with ⟨j, j1, j2, j3, j4⟩ | ⟨j1, j2⟩
      · refine Or.inl ⟨j, by omega, j2, fun i i1 i2 => ?_, j4⟩
        by_cases q : i = x
        · rw [q]; exact s1
        · exact j3 i (by omega) i2
      · refine Or.inr ⟨fun i i1 => ?_, j2⟩
        by_cases q : i = x
        · rw [q]; exact s1
        · exact j1 i (by omega)
theorem nextTry_eq (hG : md_goal T = nI goal) (hW : md_wanted T = nI y) (hg : goal ≤ 100) (hy : y ≤ 1000) (hn : n ≤ 12) (h1 : 1 ≤ p) (hp : p < n) (ha : ∀ i, i < p → md_tried T i = nI (e i)) (hm : ∀ i, i < p → e i ≤ goal) {v : Nat} (hv : e (p - 1) ≤ v) (hv2 : v ≤ goal) :
    (∃ j, v < j ∧ zCand goal y n e p j ∧ (∀ i, v < i → i < j → ¬ zCand goal y n e p i) ∧ fX8_nextTry T (nI v) (nI p) (nI n) = some (nI j)) ∨ ((∀ j, v < j → ¬ zCand goal y n e p j) ∧ fX8_nextTry T (nI v) (nI p) (nI n) = some (nI (goal + 1))) := by
  have e1 : nI p - 1 = nI (p - 1) := pk_sub (b := 1) h1
  have m1 := hm (p - 1) (by omega)
  unfold fX8_nextTry
  rw [e1, ix_nI (by omega) (by omega), nI_clamp (by omega), ha _ (by omega), hG, show (2 : Int32) * nI (e (p - 1)) = nI (2 * e (p - 1)) from pk_mul 2 _, nI_1]
  unfold fX8_nextTry_j39
  by_cases q : goal ≤ 2 * e (p - 1)
  · rw [if_pos (nI_le q (by omega))]
    exact next_l hG hW hg hy hn h1 hp ha hm (B := goal) q (Nat.le_refl _) (fun x _ h => h) _ (v + 1) FU rfl (FU_big _ (by omega)) (by omega) (by omega)
  · rw [if_neg (nI_ge (by omega) (by omega))]
    exact next_l hG hW hg hy hn h1 hp ha hm (B := 2 * e (p - 1)) (Nat.le_refl _) (by omega) (fun x h _ => h) _ (v + 1) FU rfl (FU_big _ (by omega)) (by omega) (by omega)
end NT
def zD : Nat → Nat
  | 0 => 0
  | d + 1 => 1 + 100 * (1 + zD d)
def zAF (T : zMd) (goal n p x : Nat) (F : Nat → Int32) (f : Nat) : Option (Int32 × zMd) :=
  if nI p = nI n - 1 then (if nI x = nI goal then some (1, md_set_tried T (upd F p (nI x))) else fX8_findsChain_l35 (nI n) f (nI p) (md_set_tried T (upd F p (nI x)))) else fX8_findsChain_l35 (nI n) f (nI (p + 1)) (md_set_tried T (upd (upd F p (nI x)) (p + 1) (nI x)))
theorem l35_step {T : zMd} {goal n p x v : Nat} {F : Nat → Int32} (hG : md_goal T = nI goal) (hg : goal ≤ 100) (hx : x ≤ goal) (h1 : 1 ≤ p) (hp : p < n) (hn : n ≤ 12) (hF : F p = nI v) (hN : fX8_nextTry (md_set_tried T F) (nI v) (nI p) (nI n) = some (nI x)) (f : Nat) : fX8_findsChain_l35 (nI n) (f + 1) (nI p) (md_set_tried T F) = zAF T goal n p x F f := by
  have hu : upd F p (nI x) p = nI x := by rw [upd_at, if_pos rfl]
  rw [fX8_findsChain_l35, if_neg (nI_nle h1 (by omega)), ix_nI (by omega) (by omega), nI_clamp (by omega), tr_at, hF, hN]
  rw [Option.bind_some]
  rw [hu, tr_goal, hG, if_pos (nI_le hx (by omega)), tr_tr, nI_1, nI_pred, ix_nI (by omega) (by omega), ix_nI (by omega) (by omega), nI_clamp (by omega), nI_clamp (by omega), hu, tr_tr]
  rfl
theorem l35_end {T : zMd} {goal n p v : Nat} {F : Nat → Int32} (hG : md_goal T = nI goal) (hg : goal ≤ 100) (h1 : 1 ≤ p) (hp : p < n) (hn : n ≤ 12) (hF : F p = nI v) (hN : fX8_nextTry (md_set_tried T F) (nI v) (nI p) (nI n) = some (nI (goal + 1))) (f : Nat) : fX8_findsChain_l35 (nI n) (f + 1) (nI p) (md_set_tried T F) = fX8_findsChain_l35 (nI n) f (nI (p - 1)) (md_set_tried T (upd F p (nI (goal + 1)))) := by
  have hu : upd F p (nI (goal + 1)) p = nI (goal + 1) := by rw [upd_at, if_pos rfl]
  have hd : nI p + (-1) = nI (p - 1) := by
    obtain ⟨p, rfl⟩ : ∃ k', p = k' + 1 := ⟨p - 1, by omega⟩
    exact pk_m1 p
  rw [fX8_findsChain_l35, if_neg (nI_nle h1 (by omega)), ix_nI (by omega) (by omega), nI_clamp (by omega), tr_at, hF, hN]
  rw [Option.bind_some]
  rw [hu, tr_goal, hG, if_neg (nI_ge (by omega) (by omega)), tr_tr, hd]
section LP
variable {T : zMd} {goal y n p d : Nat} {e : Nat → Nat}
theorem loop_in (hG : md_goal T = nI goal) (hW : md_wanted T = nI y) (hg : goal ≤ 100) (hy : y ≤ 1000) (hn : n ≤ 12) (h1 : 1 ≤ p) (hp : p < n) (hm : ∀ i, i < p → e i ≤ goal)
    (hD : ∀ x (F : Nat → Int32), zCand goal y n e p x → (∀ i, i < p → F i = nI (e i)) → (∃ b F' c, zSr goal y n d (zput1 e p x) (p + 1) = some b ∧ c ≤ zD d ∧ (∀ f, zAF T goal n p x F (f + c) = some (1, md_set_tried T F')) ∧ ∀ i, i < n → F' i = nI (b i)) ∨ (zSr goal y n d (zput1 e p x) (p + 1) = none ∧ ∃ F' c, c ≤ zD d ∧ (∀ i, i < p + 1 → F' i = nI (zput1 e p x i)) ∧ ∀ f, zAF T goal n p x F (f + c) = fX8_findsChain_l35 (nI n) f (nI p) (md_set_tried T F'))) :
    ∀ m v (F : Nat → Int32), goal - v ≤ m → v ≤ goal → e (p - 1) ≤ v → (∀ i, i < p → F i = nI (e i)) → F p = nI v →
      (∃ x b F' c, v < x ∧ x ≤ goal ∧ zIf (zCand goal y n e p x) (zSr goal y n d (zput1 e p x) (p + 1)) none = some b ∧ (∀ i, v < i → i < x → zIf (zCand goal y n e p i) (zSr goal y n d (zput1 e p i) (p + 1)) none = none) ∧ c ≤ 1 + m * (1 + zD d) ∧ (∀ f, fX8_findsChain_l35 (nI n) (f + c) (nI p) (md_set_tried T F) = some (1, md_set_tried T F')) ∧ ∀ i, i < n → F' i = nI (b i)) ∨
      ((∀ x, v < x → zIf (zCand goal y n e p x) (zSr goal y n d (zput1 e p x) (p + 1)) none = none) ∧ ∃ F' c, c ≤ 1 + m * (1 + zD d) ∧ (∀ i, i < p → F' i = nI (e i)) ∧ ∀ f, fX8_findsChain_l35 (nI n) (f + c) (nI p) (md_set_tried T F) = fX8_findsChain_l35 (nI n) f (nI (p - 1)) (md_set_tried T F')) := by
  have stop : ∀ m v (F : Nat → Int32), v ≤ goal → (∀ i, i < p → F i = nI (e i)) → F p = nI v → (∀ j, v < j → ¬ zCand goal y n e p j) → fX8_nextTry (md_set_tried T F) (nI v) (nI p) (nI n) = some (nI (goal + 1)) → ((∀ x, v < x → zIf (zCand goal y n e p x) (zSr goal y n d (zput1 e p x) (p + 1)) none = none) ∧ ∃ F' c, c ≤ 1 + m * (1 + zD d) ∧ (∀ i, i < p → F' i = nI (e i)) ∧ ∀ f, fX8_findsChain_l35 (nI n) (f + c) (nI p) (md_set_tried T F) = fX8_findsChain_l35 (nI n) f (nI (p - 1)) (md_set_tried T F')) := by
    intro m v F hv hF hFp hc hN
    refine ⟨fun x hx => zIf_neg (hc x hx) _ _, upd F p (nI (goal + 1)), 1, by omega, fun i hi => ?_, fun f => l35_end hG hg h1 hp hn hFp hN f⟩
    rw [upd_at, if_neg (by omega)]
    exact hF i hi
  intro m
  induction m with
  | zero =>
    intro v F hm1 hv hev hF hFp
    rcases nextTry_eq (T := md_set_tried T F) hG hW hg hy hn h1 hp hF hm hev hv with ⟨j, j1, j2, -, -⟩ | ⟨j1, j2⟩
    · have := j2.2.2.1
      omega
    · exact Or.inr (stop 0 v F hv hF hFp j1 j2)
  | succ m ih =>
    intro v F hm1 hv hev hF hFp
    rcases nextTry_eq (T := md_set_tried T F) hG hW hg hy hn h1 hp hF hm hev hv with ⟨j, j1, j2, j3, j4⟩ | ⟨j1, j2⟩
    · have jg := j2.2.2.1
      have hmul : (m + 1) * (1 + zD d) = m * (1 + zD d) + (1 + zD d) := Nat.succ_mul _ _
      have hst := l35_step hG hg jg h1 hp hn hFp j4
      rcases hD j F j2 hF with ⟨b, F', c, c1, c2, c3, c4⟩ | ⟨c1, F', c, c2, c3, c4⟩
      · refine Or.inl ⟨j, b, F', c + 1, j1, jg, by rw [zIf_pos j2, c1], fun i i1 i2 => zIf_neg (j3 i i1 i2) _ _, by omega, fun f => ?_, c4⟩
        rw [← Nat.add_assoc, hst, c3]
      · have hF' : ∀ i, i < p → F' i = nI (e i) := fun i hi => by rw [c3 i (by omega), ← zput1_ag e p j i hi]
        have hFp' : F' p = nI j := by rw [c3 p (by omega), zput1_at]
        have hj0 : zIf (zCand goal y n e p j) (zSr goal y n d (zput1 e p j) (p + 1)) none = none := by rw [zIf_pos j2, c1]
        have hbelow : ∀ i, v < i → i ≤ j → zIf (zCand goal y n e p i) (zSr goal y n d (zput1 e p i) (p + 1)) none = none := fun i i1 i2 => by
          by_cases q : i = j
          · rw [q]; exact hj0
          · exact zIf_neg (j3 i i1 (by omega)) _ _
        rcases ih j F' (by omega) jg (by omega) hF' hFp' with ⟨x, b, F2, c', x1, x2, x3, x4, x5, x6, x7⟩ | ⟨x1, F2, c', x2, x3, x4⟩
        · refine Or.inl ⟨x, b, F2, c' + c + 1, by omega, x2, x3, fun i i1 i2 => ?_, by omega, fun f => ?_, x7⟩
          · by_cases q : i ≤ j
            · exact hbelow i i1 q
            · exact x4 i (by omega) i2
          · rw [← Nat.add_assoc, ← Nat.add_assoc, hst, c4, x6]
        · refine Or.inr ⟨fun i i1 => ?_, F2, c' + c + 1, by omega, x3, fun f => ?_⟩
          · by_cases q : i ≤ j
            · exact hbelow i i1 q
            · exact x1 i (by omega)
          · rw [← Nat.add_assoc, ← Nat.add_assoc, hst, c4, x4]
    · exact Or.inr (stop (m + 1) v F hv hF hFp j1 j2)
end LP
theorem loop_l {T : zMd} {goal y n : Nat} (hG : md_goal T = nI goal) (hW : md_wanted T = nI y) (hg : goal ≤ 100) (hy : y ≤ 1000) (hn : n ≤ 12) :
    ∀ d p (e : Nat → Nat), p + d + 1 = n → 1 ≤ p → (∀ i, i < p → e i ≤ goal) → ∀ x (F : Nat → Int32), zCand goal y n e p x → (∀ i, i < p → F i = nI (e i)) → (∃ b F' c, zSr goal y n d (zput1 e p x) (p + 1) = some b ∧ c ≤ zD d ∧ (∀ f, zAF T goal n p x F (f + c) = some (1, md_set_tried T F')) ∧ ∀ i, i < n → F' i = nI (b i)) ∨ (zSr goal y n d (zput1 e p x) (p + 1) = none ∧ ∃ F' c, c ≤ zD d ∧ (∀ i, i < p + 1 → F' i = nI (zput1 e p x i)) ∧ ∀ f, zAF T goal n p x F (f + c) = fX8_findsChain_l35 (nI n) f (nI p) (md_set_tried T F')) := by
  intro d
  induction d with
  | zero =>
    intro p e hp h1 hm x F hc hF
    have e1 : nI p = nI n - 1 := by
      rw [← hp]
      exact (nI_pred p).symm
    have hx := hc.2.2.1
    rw [zSr, show p + 1 - 1 = p from by omega, zput1_at]
    unfold zAF
    by_cases q : x = goal
    · rw [zIf_pos q]
      refine Or.inl ⟨_, upd F p (nI x), 0, rfl, Nat.le_refl _, fun f => ?_, fun i hi => upd_pre hF i (by omega)⟩
      rw [if_pos e1, if_pos (by rw [q])]
    · rw [zIf_neg q]
      refine Or.inr ⟨rfl, upd F p (nI x), 0, Nat.le_refl _, upd_pre hF, fun f => ?_⟩
      rw [if_pos e1, if_neg (fun z => q ((nI_eq (by omega) (by omega)).mp z))]
      rfl
  | succ d ih =>
    intro p e hp h1 hm x F hc hF
    have hx := hc.2.2.1
    have ne1 : ¬ nI p = nI n - 1 := by
      rw [show nI n - 1 = nI (n - 1) from pk_sub (b := 1) (by omega)]
      exact fun z => by have := (nI_eq (by omega) (by omega)).mp z; omega
    have hm' : ∀ i, i < p + 1 → zput1 e p x i ≤ goal := fun i hi => by
      unfold zput1
      by_cases z : i = p
      · rw [if_pos z]; exact hx
      · rw [if_neg z]; exact hm i (by omega)
    have hF2 : ∀ i, i < p + 1 → upd (upd F p (nI x)) (p + 1) (nI x) i = nI (zput1 e p x i) := fun i hi => by
      rw [upd_at, if_neg (by omega)]
      exact upd_pre hF i hi
    have hat : zput1 e p x (p + 1 - 1) = x := by rw [show p + 1 - 1 = p from by omega, zput1_at]
    have hmul : (goal - x) * (1 + zD d) ≤ 100 * (1 + zD d) := Nat.mul_le_mul_right _ (by omega)
    rw [zSr, hat]
    unfold zAF
    rcases loop_in (d := d) hG hW hg hy hn (p := p + 1) (by omega) (by omega) hm' (ih (p + 1) (zput1 e p x) (by omega) (by omega) hm') (goal - x) x (upd (upd F p (nI x)) (p + 1) (nI x)) (Nat.le_refl _) hx (by rw [hat]; exact Nat.le_refl _) hF2 (by rw [upd_at, if_pos rfl]) with ⟨x', b, F', c, x1, x2, x3, x4, x5, x6, x7⟩ | ⟨x1, F', c, x2, x3, x4⟩
    · refine Or.inl ⟨b, F', c, zScn_hit _ _ x' (by omega) (by omega) x3 (fun i i1 i2 => x4 i (by omega) i2), by rw [zD]; omega, fun f => ?_, x7⟩
      rw [if_neg ne1, x6]
    · refine Or.inr ⟨zScn_no _ _ (fun i i1 i2 => x1 i (by omega)), F', c, by rw [zD]; omega, x3, fun f => ?_⟩
      rw [if_neg ne1, x4]
      rfl
theorem zD_le : ∀ d, d ≤ 11 → zD d ≤ zD 11 := by decide +kernel
theorem zD_FU : 100 * (1 + zD 11) + 10 < FU := Nat.le_of_ble_eq_true rfl
theorem finds_eq (T : zMd) {goal y n : Nat} (hG : md_goal T = nI goal) (hW : md_wanted T = nI y) (h1g : 1 ≤ goal) (hg : goal ≤ 100) (hy : y ≤ 1000) (h1 : 1 ≤ n) (hn : n ≤ 12) :
    (∃ b F', zFd goal y n = some b ∧ fX8_findsChain T (nI n) = some (1, md_set_tried T F') ∧ ∀ i, i < n → F' i = nI (b i)) ∨ (zFd goal y n = none ∧ ∃ F', fX8_findsChain T (nI n) = some (0, md_set_tried T F')) := by
  unfold fX8_findsChain
  rw [show ∀ k : Option (Int32 × zMd), ix 16 (0 : Int32) k = k from fun k => ix_nI (n := 16) (j := 0) (by omega) (by omega), show ∀ k : Option (Int32 × zMd), ix 16 (1 : Int32) k = k from fun k => ix_nI (n := 16) (j := 1) (by omega) (by omega), hG]
  by_cases q : n = 1
  · subst q
    have hF : ∀ i, i < 1 → upd (md_tried T) (0 : Int32).toNatClampNeg 1 i = nI ((fun _ => 1) i) := fun i hi => by
      rw [show i = 0 from by omega]; rfl
    rw [if_pos (show nI 1 = (1 : Int32) from rfl)]
    have hz : zFd goal y 1 = zIf (1 = goal) (some (fun _ => 1)) none := by
      unfold zFd
      rw [zSr]
    rw [hz]
    by_cases g : goal = 1
    · rw [zIf_pos g.symm, if_pos (show nI goal = (1 : Int32) from by rw [g]; rfl)]
      exact Or.inl ⟨_, _, rfl, rfl, hF⟩
    · rw [zIf_neg (fun z => g z.symm), if_neg (show ¬ nI goal = (1 : Int32) from fun z => g ((nI_eq (b := 1) (by omega) (by omega)).mp z))]
      exact Or.inr ⟨rfl, _, rfl⟩
  · rw [if_neg (show ¬ nI n = (1 : Int32) from fun z => q ((nI_eq (b := 1) (by omega) (by omega)).mp z)), tr_tr]
    obtain ⟨d, hd⟩ : ∃ d, n = d + 2 := ⟨n - 2, by omega⟩
    obtain ⟨F0, eF0⟩ : ∃ F0, F0 = upd (upd (md_tried T) (0 : Int32).toNatClampNeg 1) (1 : Int32).toNatClampNeg 1 := ⟨_, rfl⟩
    have f0 : ∀ i, i < 1 → F0 i = nI ((fun _ => 1) i) := fun i hi => by
      rw [show i = 0 from by omega, eF0]; rfl
    have f1 : F0 1 = nI 1 := by rw [eF0]; rfl
    rw [← eF0]
    have hz : zFd goal y n = zScn (fun x => zIf (zCand goal y n (fun _ => 1) 1 x) (zSr goal y n d (zput1 (fun _ => 1) 1 x) (1 + 1)) none) (goal - 1) 2 := by
      unfold zFd
      rw [show n - 1 = d + 1 from by omega, zSr]
    have hb := zD_le d (by omega)
    have hbF := zD_FU
    have hmul : (goal - 1) * (1 + zD d) ≤ 100 * (1 + zD 11) := Nat.mul_le_mul (by omega) (by omega)
    rw [hz]
    rcases loop_in (d := d) hG hW hg hy hn (p := 1) (e := fun _ => 1) (Nat.le_refl _) (by omega) (fun i hi => h1g) (loop_l hG hW hg hy hn d 1 _ (by omega) (Nat.le_refl _) (fun i hi => h1g)) (goal - 1) 1 F0 (Nat.le_refl _) h1g (Nat.le_refl _) f0 f1 with ⟨x', b, F', c, x1, x2, x3, x4, x5, x6, x7⟩ | ⟨x1, F', c, x2, x3, x4⟩
    · refine Or.inl ⟨b, F', zScn_hit _ _ x' (by omega) (by omega) x3 (fun i i1 i2 => x4 i (by omega) i2), ?_, x7⟩
      have := x6 (FU - c)
      rw [show FU - c + c = FU from by omega] at this
      exact this
    · refine Or.inr ⟨zScn_no _ _ (fun i i1 i2 => x1 i (by omega)), F', ?_⟩
      have := x4 (FU - c - 1 + 1)
      rw [show FU - c - 1 + 1 + c = FU from by omega] at this
      refine Eq.trans this ?_
      rw [fX8_findsChain_l35, if_pos (show nI (1 - 1) ≤ (0 : Int32) from by decide)]

end
section
/-! what a search finds is a chain -/
theorem zScn_some {β : Type} {f : Nat → Option β} {b : β} : ∀ k x, zScn f k x = some b → ∃ j, x ≤ j ∧ j < x + k ∧ f j = some b := by
  intro k
  induction k with
  | zero => intro x h; cases h
  | succ k ih =>
    intro x h
    rw [zScn] at h
    cases e : f x with
    | some c =>
      rw [e] at h
      exact ⟨x, Nat.le_refl _, by omega, e.trans h⟩
    | none =>
      rw [e] at h
      obtain ⟨j, j1, j2, j3⟩ := ih (x + 1) h
      exact ⟨j, by omega, by omega, j3⟩
theorem zSr_ok {goal y n : Nat} : ∀ d p e b, p + d = n → 1 ≤ p → zVal e p → zBy e p y → zSr goal y n d e p = some b → zCn goal y n b ∧ ∀ i, i < p → b i = e i := by
  intro d
  induction d with
  | zero =>
    intro p e b hp h1 hv hb h
    rw [zSr] at h
    by_cases q : e (p - 1) = goal
    · rw [zIf_pos q] at h
      cases h
      rw [show n = p from by omega]
      exact ⟨⟨hv, hb, q⟩, fun i _ => rfl⟩
    · rw [zIf_neg q] at h; cases h
  | succ d ih =>
    intro p e b hp h1 hv hb h
    rw [zSr] at h
    obtain ⟨x, -, -, h2⟩ := zScn_some _ _ h
    by_cases q : zCand goal y n e p x
    · have h3 : zSr goal y n d (zput1 e p x) (p + 1) = some b := by
        have h2' : zIf (zCand goal y n e p x) (zSr goal y n d (zput1 e p x) (p + 1)) none = some b := h2
        rw [zIf_pos q] at h2'
        exact h2'
      obtain ⟨a1, a2⟩ := ih (p + 1) _ b (by omega) (by omega) (hv.put h1 q.1 q.2.2.2.1) (hb.put q.2.2.2.2.2) h3
      refine ⟨a1, fun i hi => ?_⟩
      rw [a2 i (by omega), ← zput1_ag e p x i hi]
    · have h2' : zIf (zCand goal y n e p x) (zSr goal y n d (zput1 e p x) (p + 1)) none = some b := h2
      rw [zIf_neg q] at h2'; cases h2'
theorem zVal_one : zVal (fun _ => 1) 1 := ⟨rfl, fun i h1 h2 => by omega⟩
theorem zBy_one (y : Nat) : zBy (fun _ => 1) 1 y := fun i h1 h2 => by omega
theorem zFd_ok {goal y n : Nat} {b : Nat → Nat} (h1 : 1 ≤ n) (h : zFd goal y n = some b) : zCn goal y n b :=
  (zSr_ok (n - 1) 1 _ b (by omega) (Nat.le_refl _) zVal_one (zBy_one y) h).1
/-! the shortest -/
theorem short_c {goal y bn N : Nat} {b : Nat → Nat} (hN1 : 1 ≤ N) (hN : N ≤ 12) (h1g : 1 ≤ goal) (hg : goal ≤ 100) (hy1 : 1 ≤ bn) (hyg : bn ≤ goal) (hB : ∀ l x, 1 ≤ l → x ≤ goal → ((y ≤ l ∨ x ≤ y) ↔ x ≤ if bn ≤ l then goal else bn)) (hmin : ∀ m, 1 ≤ m → m < N → zFd goal y m = none) (hfd : zFd goal y N = some b) :
    ∀ d i f (S : zCh), i + d = N → d < f → 1 ≤ i → S 0 = 1 → ∃ S' : zCh, fX0_shortest_l2 (nI bn) (nI goal) f (nI i) S = some (nI N, S') ∧ ∀ j, j < N → S' j = nI (b j) := by
  have R : ∀ i (S : zCh), 1 ≤ i → i ≤ N → S 0 = 1 → _ := fun i S h1 h2 hS => reach_l (goal := goal) (y := y) (n := i) (bn := bn) (by omega) hg hy1 hyg hB (fun m c m1 m2 hc => zFd_full m1 hc (hmin m m1 (by omega))) (i - 1) 1 14 (fun _ => 1) S (by omega) (Nat.le_refl _) (by omega) (fun j hj => by
    rw [show j = 0 from by omega, hS]; rfl) zVal_one (zBy_one y) (fun _ _ => h1g)
  intro d
  induction d with
  | zero =>
    intro i f S hi hf h1 hS
    obtain ⟨f, rfl⟩ : ∃ k', f = k' + 1 := ⟨f - 1, by omega⟩
    have e : i = N := by omega
    subst e
    rcases R i S h1 (Nat.le_refl _) hS with ⟨b', a', r1, r2, r3⟩ | ⟨a', r1, -, -⟩
    · have eb : b' = b := Option.some.inj (r1.symm.trans hfd)
      subst eb
      have r2' : fX0_reaches 14 (ch_numbers S) 1 (nI i) (nI bn) (nI goal) = some (1, a') := r2
      refine ⟨a', ?_, r3⟩
      rw [fX0_shortest_l2, if_neg (show ¬ (12 : Int32) < nI i from nI_nlt (a := 12) hN (by omega)), r2']
      rw [Option.bind_some]
      rw [if_neg (show ¬ (1 : Int32) = 0 from by decide)]
      rfl
    · rw [show zSr goal y i (i - 1) (fun _ => 1) 1 = zFd goal y i from rfl, hfd] at r1
      cases r1
  | succ d ih =>
    intro i f S hi hf h1 hS
    obtain ⟨f, rfl⟩ : ∃ k', f = k' + 1 := ⟨f - 1, by omega⟩
    rcases R i S h1 (by omega) hS with ⟨b', a', r1, -, -⟩ | ⟨a', r1, r2, r3⟩
    · rw [show zSr goal y i (i - 1) (fun _ => 1) 1 = zFd goal y i from rfl, hmin i h1 (by omega)] at r1
      cases r1
    · have r2' : fX0_reaches 14 (ch_numbers S) 1 (nI i) (nI bn) (nI goal) = some (0, a') := r2
      obtain ⟨S', s1, s2⟩ := ih (i + 1) f a' (by omega) (by omega) (by omega) (by rw [r3 0 (by omega)]; rfl)
      refine ⟨S', ?_, s2⟩
      rw [fX0_shortest_l2, if_neg (show ¬ (12 : Int32) < nI i from nI_nlt (a := 12) (by omega) (by omega)), r2']
      rw [Option.bind_some]
      rw [if_pos (show (0 : Int32) = 0 from rfl), nI_1]
      exact s1
theorem short_m {goal y N : Nat} {b : Nat → Nat} (hN : N ≤ 12) (h1g : 1 ≤ goal) (hg : goal ≤ 100) (hy : y ≤ 1000) (hmin : ∀ m, 1 ≤ m → m < N → zFd goal y m = none) (hfd : zFd goal y N = some b) :
    ∀ d i f (T : zMd), i + d = N → d < f → 1 ≤ i → md_goal T = nI goal → md_wanted T = nI y → ∃ F, fX8_shortest_l12 f (nI i) T = some (nI N, md_set_tried T F) ∧ ∀ j, j < N → F j = nI (b j) := by
  intro d
  induction d with
  | zero =>
    intro i f T hi hf h1 hG hW
    obtain ⟨f, rfl⟩ : ∃ k', f = k' + 1 := ⟨f - 1, by omega⟩
    have e : i = N := by omega
    subst e
    rcases finds_eq T (y := y) hG hW h1g hg hy h1 hN with ⟨b', F, r1, r2, r3⟩ | ⟨r1, -⟩
    · have eb : b' = b := Option.some.inj (r1.symm.trans hfd)
      subst eb
      refine ⟨F, ?_, r3⟩
      rw [fX8_shortest_l12, r2]
      rw [Option.bind_some]
      rw [if_neg (show ¬ (1 : Int32) = 0 from by decide)]
    · rw [hfd] at r1; cases r1
  | succ d ih =>
    intro i f T hi hf h1 hG hW
    obtain ⟨f, rfl⟩ : ∃ k', f = k' + 1 := ⟨f - 1, by omega⟩
    rcases finds_eq T (y := y) hG hW h1g hg hy h1 (by omega) with ⟨b', F, r1, -, -⟩ | ⟨r1, F, r2⟩
    · rw [hmin i h1 (by omega)] at r1; cases r1
    · obtain ⟨F', s1, s2⟩ := ih (i + 1) f (md_set_tried T F) (by omega) (by omega) (by omega) hG hW
      refine ⟨F', ?_, s2⟩
      rw [fX8_shortest_l12, r2]
      rw [Option.bind_some]
      rw [if_pos (show (0 : Int32) = 0 from rfl), nI_1, s1, tr_tr]
theorem short_both {goal y bn : Nat} (h1g : 1 ≤ goal) (hg : goal ≤ 100) (hy1 : 1 ≤ bn) (hyg : bn ≤ goal) (hy : y ≤ 1000) (hB : ∀ l x, 1 ≤ l → x ≤ goal → ((y ≤ l ∨ x ≤ y) ↔ x ≤ if bn ≤ l then goal else bn)) (hc : ∃ m c, 1 ≤ m ∧ m ≤ 12 ∧ zCn goal y m c) {S : zCh} (hS : S 0 = 1) (T : zMd) :
    ∃ (N : Nat) (b : Nat → Nat) (S' : zCh) (F : Nat → Int32), N ≤ 12 ∧ fX0_shortest S (nI bn) (nI goal) = some (nI N, S') ∧ fX8_shortest T (nI y) (nI goal) = some (nI N, md_set_tried (md_set_goal (md_set_wanted T (nI y)) (nI goal)) F) ∧ (∀ j, j < N → S' j = nI (b j) ∧ F j = nI (b j)) ∧ S' 0 = 1 := by
  obtain ⟨m, c, m1, m2, hc⟩ := hc
  obtain ⟨N, ⟨n1, n2⟩, n3⟩ := pk_least (fun k => 1 ≤ k ∧ zFd goal y k ≠ none) ⟨m, m1, zFd_full m1 hc⟩
  have hNm : N ≤ m := Nat.le_of_not_lt (fun q => n3 m q ⟨m1, zFd_full m1 hc⟩)
  have hmin : ∀ k, 1 ≤ k → k < N → zFd goal y k = none := fun k k1 k2 => by
    cases e : zFd goal y k with
    | none => rfl
    | some z => exact absurd ⟨k1, by rw [e]; intro q; cases q⟩ (n3 k k2)
  obtain ⟨b, hb⟩ : ∃ b, zFd goal y N = some b := by
    cases e : zFd goal y N with
    | none => exact absurd e n2
    | some z => exact ⟨z, rfl⟩
  obtain ⟨S', s1, s2⟩ := short_c n1 (by omega) h1g hg hy1 hyg hB hmin hb (N - 1) 1 FU S (by omega) (FU_big _ (by omega)) (Nat.le_refl _) hS
  obtain ⟨F, f1, f2⟩ := short_m (by omega) h1g hg hy hmin hb (N - 1) 1 FU (md_set_goal (md_set_wanted T (nI y)) (nI goal)) (by omega) (FU_big _ (by omega)) (Nat.le_refl _) rfl rfl
  refine ⟨N, b, S', F, by omega, s1, f1, fun j hj => ⟨s2 j hj, f2 j hj⟩, ?_⟩
  rw [s2 0 n1, (zFd_ok n1 hb).1.1]
  rfl
/-! a chain for each: told, and looked at -/
def zCe (L : List (Nat × Nat × Nat)) (i : Nat) : Nat := (L.getD i (0, 0, 0)).1
def zChk (y goal : Nat) (L : List (Nat × Nat × Nat)) : Bool := decide (1 ≤ L.length) && decide (L.length ≤ 12) && (zCe L 0 == 1) && (zCe L (L.length - 1) == goal) && (List.range L.length).all (fun i => i == 0 || (decide (zCe L (i - 1) < zCe L i) && decide ((L.getD i (0, 0, 0)).2.1 ≤ (L.getD i (0, 0, 0)).2.2) && decide ((L.getD i (0, 0, 0)).2.2 < i) && (zCe L (L.getD i (0, 0, 0)).2.1 + zCe L (L.getD i (0, 0, 0)).2.2 == zCe L i) && (decide (y ≤ zCe L (i - 1)) || decide (zCe L i ≤ y))))
theorem zChk_ok {y goal : Nat} {L : List (Nat × Nat × Nat)} (h : zChk y goal L = true) : 1 ≤ L.length ∧ L.length ≤ 12 ∧ zCn goal y L.length (zCe L) := by
  unfold zChk at h
  simp only [Bool.and_eq_true, Bool.or_eq_true, decide_eq_true_eq, beq_iff_eq, List.all_eq_true, List.mem_range] at h
  obtain ⟨⟨⟨⟨h1, h2⟩, h3⟩, h4⟩, h5⟩ := h
  refine ⟨h1, h2, ⟨h3, fun i i1 i2 => ?_⟩, fun i i1 i2 => ?_, h4⟩
  · rcases h5 i i2 with z | ⟨⟨⟨⟨a1, a2⟩, a3⟩, a4⟩, -⟩
    · omega
    · exact ⟨a1, _, _, a2, a3, a4⟩
  · rcases h5 i i2 with z | ⟨-, a5⟩
    · omega
    · exact a5
def zTabF : List (List (Nat × Nat × Nat)) := [
  [(1, 0, 0)],
  [(1, 0, 0), (2, 0, 0)],
  [(1, 0, 0), (2, 0, 0), (3, 0, 1)],
  [(1, 0, 0), (2, 0, 0), (4, 1, 1)],
  [(1, 0, 0), (2, 0, 0), (4, 1, 1), (5, 0, 2)],
  [(1, 0, 0), (2, 0, 0), (4, 1, 1), (6, 1, 2)],
  [(1, 0, 0), (2, 0, 0), (4, 1, 1), (6, 1, 2), (7, 0, 3)],
  [(1, 0, 0), (2, 0, 0), (4, 1, 1), (8, 2, 2)],
  [(1, 0, 0), (2, 0, 0), (4, 1, 1), (8, 2, 2), (9, 0, 3)],
  [(1, 0, 0), (2, 0, 0), (4, 1, 1), (8, 2, 2), (10, 1, 3)],
  [(1, 0, 0), (2, 0, 0), (4, 1, 1), (8, 2, 2), (10, 1, 3), (11, 0, 4)],
  [(1, 0, 0), (2, 0, 0), (4, 1, 1), (8, 2, 2), (12, 2, 3)],
  [(1, 0, 0), (2, 0, 0), (4, 1, 1), (8, 2, 2), (12, 2, 3), (13, 0, 4)],
  [(1, 0, 0), (2, 0, 0), (4, 1, 1), (8, 2, 2), (12, 2, 3), (14, 1, 4)],
  [(1, 0, 0), (2, 0, 0), (4, 1, 1), (5, 0, 2), (10, 3, 3), (15, 3, 4)],
  [(1, 0, 0), (2, 0, 0), (4, 1, 1), (8, 2, 2), (16, 3, 3)],
  [(1, 0, 0), (2, 0, 0), (4, 1, 1), (8, 2, 2), (16, 3, 3), (17, 0, 4)],
  [(1, 0, 0), (2, 0, 0), (4, 1, 1), (8, 2, 2), (16, 3, 3), (18, 1, 4)],
  [(1, 0, 0), (2, 0, 0), (4, 1, 1), (8, 2, 2), (16, 3, 3), (18, 1, 4), (19, 0, 5)],
  [(1, 0, 0), (2, 0, 0), (4, 1, 1), (8, 2, 2), (16, 3, 3), (20, 2, 4)],
  [(1, 0, 0), (2, 0, 0), (4, 1, 1), (8, 2, 2), (16, 3, 3), (20, 2, 4), (21, 0, 5)],
  [(1, 0, 0), (2, 0, 0), (4, 1, 1), (8, 2, 2), (16, 3, 3), (20, 2, 4), (22, 1, 5)],
  [(1, 0, 0), (2, 0, 0), (4, 1, 1), (5, 0, 2), (9, 2, 3), (18, 4, 4), (23, 3, 5)],
  [(1, 0, 0), (2, 0, 0), (4, 1, 1), (8, 2, 2), (16, 3, 3), (24, 3, 4)],
  [(1, 0, 0), (2, 0, 0), (4, 1, 1), (8, 2, 2), (16, 3, 3), (24, 3, 4), (25, 0, 5)],
  [(1, 0, 0), (2, 0, 0), (4, 1, 1), (8, 2, 2), (16, 3, 3), (24, 3, 4), (26, 1, 5)],
  [(1, 0, 0), (2, 0, 0), (4, 1, 1), (8, 2, 2), (9, 0, 3), (18, 4, 4), (27, 4, 5)],
  [(1, 0, 0), (2, 0, 0), (4, 1, 1), (8, 2, 2), (16, 3, 3), (24, 3, 4), (28, 2, 5)],
  [(1, 0, 0), (2, 0, 0), (4, 1, 1), (8, 2, 2), (16, 3, 3), (24, 3, 4), (28, 2, 5), (29, 0, 6)],
  [(1, 0, 0), (2, 0, 0), (4, 1, 1), (8, 2, 2), (10, 1, 3), (20, 4, 4), (30, 4, 5)],
  [(1, 0, 0), (2, 0, 0), (4, 1, 1), (8, 2, 2), (10, 1, 3), (20, 4, 4), (30, 4, 5), (31, 0, 6)],
  [(1, 0, 0), (2, 0, 0), (4, 1, 1), (8, 2, 2), (16, 3, 3), (32, 4, 4)],
  [(1, 0, 0), (2, 0, 0), (4, 1, 1), (8, 2, 2), (16, 3, 3), (32, 4, 4), (33, 0, 5)],
  [(1, 0, 0), (2, 0, 0), (4, 1, 1), (8, 2, 2), (16, 3, 3), (32, 4, 4), (34, 1, 5)],
  [(1, 0, 0), (2, 0, 0), (4, 1, 1), (8, 2, 2), (16, 3, 3), (32, 4, 4), (34, 1, 5), (35, 0, 6)],
  [(1, 0, 0), (2, 0, 0), (4, 1, 1), (8, 2, 2), (16, 3, 3), (32, 4, 4), (36, 2, 5)],
  [(1, 0, 0), (2, 0, 0), (4, 1, 1), (8, 2, 2), (16, 3, 3), (32, 4, 4), (36, 2, 5), (37, 0, 6)],
  [(1, 0, 0), (2, 0, 0), (4, 1, 1), (8, 2, 2), (16, 3, 3), (32, 4, 4), (36, 2, 5), (38, 1, 6)],
  [(1, 0, 0), (2, 0, 0), (4, 1, 1), (8, 2, 2), (12, 2, 3), (13, 0, 4), (26, 5, 5), (39, 5, 6)],
  [(1, 0, 0), (2, 0, 0), (4, 1, 1), (8, 2, 2), (16, 3, 3), (32, 4, 4), (40, 3, 5)],
  [(1, 0, 0), (2, 0, 0), (4, 1, 1), (8, 2, 2), (16, 3, 3), (32, 4, 4), (40, 3, 5), (41, 0, 6)],
  [(1, 0, 0), (2, 0, 0), (4, 1, 1), (8, 2, 2), (16, 3, 3), (32, 4, 4), (40, 3, 5), (42, 1, 6)],
  [(1, 0, 0), (2, 0, 0), (4, 1, 1), (8, 2, 2), (9, 0, 3), (17, 3, 4), (34, 5, 5), (43, 4, 6)],
  [(1, 0, 0), (2, 0, 0), (4, 1, 1), (8, 2, 2), (16, 3, 3), (32, 4, 4), (40, 3, 5), (44, 2, 6)],
  [(1, 0, 0), (2, 0, 0), (4, 1, 1), (8, 2, 2), (9, 0, 3), (18, 4, 4), (36, 5, 5), (45, 4, 6)],
  [(1, 0, 0), (2, 0, 0), (4, 1, 1), (8, 2, 2), (10, 1, 3), (18, 3, 4), (36, 5, 5), (46, 4, 6)],
  [(1, 0, 0), (2, 0, 0), (4, 1, 1), (8, 2, 2), (12, 2, 3), (13, 0, 4), (26, 5, 5), (39, 5, 6), (47, 3, 7)],
  [(1, 0, 0), (2, 0, 0), (4, 1, 1), (8, 2, 2), (16, 3, 3), (32, 4, 4), (48, 4, 5)],
  [(1, 0, 0), (2, 0, 0), (4, 1, 1), (8, 2, 2), (16, 3, 3), (32, 4, 4), (48, 4, 5), (49, 0, 6)],
  [(1, 0, 0), (2, 0, 0), (4, 1, 1), (8, 2, 2), (16, 3, 3), (32, 4, 4), (48, 4, 5), (50, 1, 6)],
  [(1, 0, 0), (2, 0, 0), (4, 1, 1), (8, 2, 2), (16, 3, 3), (17, 0, 4), (34, 5, 5), (51, 5, 6)],
  [(1, 0, 0), (2, 0, 0), (4, 1, 1), (8, 2, 2), (16, 3, 3), (32, 4, 4), (48, 4, 5), (52, 2, 6)],
  [(1, 0, 0), (2, 0, 0), (4, 1, 1), (8, 2, 2), (16, 3, 3), (32, 4, 4), (48, 4, 5), (52, 2, 6), (53, 0, 7)],
  [(1, 0, 0), (2, 0, 0), (4, 1, 1), (8, 2, 2), (16, 3, 3), (18, 1, 4), (36, 5, 5), (54, 5, 6)],
  [(1, 0, 0), (2, 0, 0), (4, 1, 1), (8, 2, 2), (16, 3, 3), (18, 1, 4), (36, 5, 5), (54, 5, 6), (55, 0, 7)],
  [(1, 0, 0), (2, 0, 0), (4, 1, 1), (8, 2, 2), (16, 3, 3), (32, 4, 4), (48, 4, 5), (56, 3, 6)],
  [(1, 0, 0), (2, 0, 0), (4, 1, 1), (8, 2, 2), (16, 3, 3), (32, 4, 4), (48, 4, 5), (56, 3, 6), (57, 0, 7)],
  [(1, 0, 0), (2, 0, 0), (4, 1, 1), (8, 2, 2), (16, 3, 3), (32, 4, 4), (48, 4, 5), (56, 3, 6), (58, 1, 7)],
  [(1, 0, 0), (2, 0, 0), (4, 1, 1), (8, 2, 2), (16, 3, 3), (17, 0, 4), (34, 5, 5), (51, 5, 6), (59, 3, 7)],
  [(1, 0, 0), (2, 0, 0), (4, 1, 1), (8, 2, 2), (16, 3, 3), (20, 2, 4), (40, 5, 5), (60, 5, 6)],
  [(1, 0, 0), (2, 0, 0), (4, 1, 1), (8, 2, 2), (16, 3, 3), (20, 2, 4), (40, 5, 5), (60, 5, 6), (61, 0, 7)],
  [(1, 0, 0), (2, 0, 0), (4, 1, 1), (8, 2, 2), (16, 3, 3), (20, 2, 4), (40, 5, 5), (60, 5, 6), (62, 1, 7)],
  [(1, 0, 0), (2, 0, 0), (4, 1, 1), (8, 2, 2), (16, 3, 3), (20, 2, 4), (21, 0, 5), (42, 6, 6), (63, 6, 7)],
  [(1, 0, 0), (2, 0, 0), (4, 1, 1), (8, 2, 2), (16, 3, 3), (32, 4, 4), (64, 5, 5)],
  [(1, 0, 0), (2, 0, 0), (4, 1, 1), (8, 2, 2), (16, 3, 3), (32, 4, 4), (64, 5, 5), (65, 0, 6)],
  [(1, 0, 0), (2, 0, 0), (4, 1, 1), (8, 2, 2), (16, 3, 3), (32, 4, 4), (64, 5, 5), (66, 1, 6)],
  [(1, 0, 0), (2, 0, 0), (4, 1, 1), (8, 2, 2), (16, 3, 3), (32, 4, 4), (64, 5, 5), (66, 1, 6), (67, 0, 7)],
  [(1, 0, 0), (2, 0, 0), (4, 1, 1), (8, 2, 2), (16, 3, 3), (32, 4, 4), (64, 5, 5), (68, 2, 6)],
  [(1, 0, 0), (2, 0, 0), (4, 1, 1), (8, 2, 2), (16, 3, 3), (32, 4, 4), (64, 5, 5), (68, 2, 6), (69, 0, 7)],
  [(1, 0, 0), (2, 0, 0), (4, 1, 1), (8, 2, 2), (16, 3, 3), (32, 4, 4), (64, 5, 5), (68, 2, 6), (70, 1, 7)],
  [(1, 0, 0), (2, 0, 0), (4, 1, 1), (8, 2, 2), (16, 3, 3), (32, 4, 4), (64, 5, 5), (68, 2, 6), (70, 1, 7), (71, 0, 8)],
  [(1, 0, 0), (2, 0, 0), (4, 1, 1), (8, 2, 2), (16, 3, 3), (32, 4, 4), (64, 5, 5), (72, 3, 6)],
  [(1, 0, 0), (2, 0, 0), (4, 1, 1), (8, 2, 2), (16, 3, 3), (32, 4, 4), (64, 5, 5), (72, 3, 6), (73, 0, 7)],
  [(1, 0, 0), (2, 0, 0), (4, 1, 1), (8, 2, 2), (16, 3, 3), (32, 4, 4), (64, 5, 5), (72, 3, 6), (74, 1, 7)],
  [(1, 0, 0), (2, 0, 0), (4, 1, 1), (8, 2, 2), (16, 3, 3), (24, 3, 4), (25, 0, 5), (50, 6, 6), (75, 6, 7)],
  [(1, 0, 0), (2, 0, 0), (4, 1, 1), (8, 2, 2), (16, 3, 3), (32, 4, 4), (64, 5, 5), (72, 3, 6), (76, 2, 7)],
  [(1, 0, 0), (2, 0, 0), (4, 1, 1), (8, 2, 2), (9, 0, 3), (17, 3, 4), (34, 5, 5), (68, 6, 6), (77, 4, 7)],
  [(1, 0, 0), (2, 0, 0), (4, 1, 1), (8, 2, 2), (16, 3, 3), (24, 3, 4), (26, 1, 5), (52, 6, 6), (78, 6, 7)],
  [(1, 0, 0), (2, 0, 0), (4, 1, 1), (8, 2, 2), (16, 3, 3), (24, 3, 4), (26, 1, 5), (52, 6, 6), (78, 6, 7), (79, 0, 8)],
  [(1, 0, 0), (2, 0, 0), (4, 1, 1), (8, 2, 2), (16, 3, 3), (32, 4, 4), (64, 5, 5), (80, 4, 6)],
  [(1, 0, 0), (2, 0, 0), (4, 1, 1), (8, 2, 2), (16, 3, 3), (32, 4, 4), (64, 5, 5), (80, 4, 6), (81, 0, 7)],
  [(1, 0, 0), (2, 0, 0), (4, 1, 1), (8, 2, 2), (16, 3, 3), (32, 4, 4), (64, 5, 5), (80, 4, 6), (82, 1, 7)],
  [(1, 0, 0), (2, 0, 0), (4, 1, 1), (8, 2, 2), (16, 3, 3), (17, 0, 4), (33, 4, 5), (66, 6, 6), (83, 5, 7)],
  [(1, 0, 0), (2, 0, 0), (4, 1, 1), (8, 2, 2), (16, 3, 3), (32, 4, 4), (64, 5, 5), (80, 4, 6), (84, 2, 7)],
  [(1, 0, 0), (2, 0, 0), (4, 1, 1), (8, 2, 2), (16, 3, 3), (17, 0, 4), (34, 5, 5), (68, 6, 6), (85, 5, 7)],
  [(1, 0, 0), (2, 0, 0), (4, 1, 1), (8, 2, 2), (16, 3, 3), (18, 1, 4), (34, 4, 5), (68, 6, 6), (86, 5, 7)],
  [(1, 0, 0), (2, 0, 0), (4, 1, 1), (8, 2, 2), (16, 3, 3), (24, 3, 4), (28, 2, 5), (29, 0, 6), (58, 7, 7), (87, 7, 8)],
  [(1, 0, 0), (2, 0, 0), (4, 1, 1), (8, 2, 2), (16, 3, 3), (32, 4, 4), (64, 5, 5), (80, 4, 6), (88, 3, 7)],
  [(1, 0, 0), (2, 0, 0), (4, 1, 1), (8, 2, 2), (16, 3, 3), (32, 4, 4), (64, 5, 5), (80, 4, 6), (88, 3, 7), (89, 0, 8)],
  [(1, 0, 0), (2, 0, 0), (4, 1, 1), (8, 2, 2), (16, 3, 3), (18, 1, 4), (36, 5, 5), (72, 6, 6), (90, 5, 7)],
  [(1, 0, 0), (2, 0, 0), (4, 1, 1), (8, 2, 2), (16, 3, 3), (24, 3, 4), (25, 0, 5), (50, 6, 6), (75, 6, 7), (91, 4, 8)],
  [(1, 0, 0), (2, 0, 0), (4, 1, 1), (8, 2, 2), (16, 3, 3), (20, 2, 4), (36, 4, 5), (72, 6, 6), (92, 5, 7)],
  [(1, 0, 0), (2, 0, 0), (4, 1, 1), (8, 2, 2), (16, 3, 3), (20, 2, 4), (36, 4, 5), (72, 6, 6), (92, 5, 7), (93, 0, 8)],
  [(1, 0, 0), (2, 0, 0), (4, 1, 1), (8, 2, 2), (16, 3, 3), (24, 3, 4), (26, 1, 5), (52, 6, 6), (78, 6, 7), (94, 4, 8)],
  [(1, 0, 0), (2, 0, 0), (4, 1, 1), (8, 2, 2), (16, 3, 3), (20, 2, 4), (21, 0, 5), (37, 4, 6), (74, 7, 7), (95, 6, 8)],
  [(1, 0, 0), (2, 0, 0), (4, 1, 1), (8, 2, 2), (16, 3, 3), (32, 4, 4), (64, 5, 5), (96, 5, 6)],
  [(1, 0, 0), (2, 0, 0), (4, 1, 1), (8, 2, 2), (16, 3, 3), (32, 4, 4), (64, 5, 5), (96, 5, 6), (97, 0, 7)],
  [(1, 0, 0), (2, 0, 0), (4, 1, 1), (8, 2, 2), (16, 3, 3), (32, 4, 4), (64, 5, 5), (96, 5, 6), (98, 1, 7)],
  [(1, 0, 0), (2, 0, 0), (4, 1, 1), (8, 2, 2), (16, 3, 3), (32, 4, 4), (33, 0, 5), (66, 6, 6), (99, 6, 7)],
  [(1, 0, 0), (2, 0, 0), (4, 1, 1), (8, 2, 2), (16, 3, 3), (32, 4, 4), (64, 5, 5), (96, 5, 6), (100, 2, 7)]]
def zTabB0 : List (List (Nat × Nat × Nat)) := [
  [(1, 0, 0)]]
def zTabB1 : List (List (Nat × Nat × Nat)) := [
  [(1, 0, 0), (2, 0, 0)],
  [(1, 0, 0), (2, 0, 0)]]
def zTabB2 : List (List (Nat × Nat × Nat)) := [
  [(1, 0, 0), (2, 0, 0), (3, 0, 1)],
  [(1, 0, 0), (2, 0, 0), (3, 0, 1)],
  [(1, 0, 0), (2, 0, 0), (3, 0, 1)]]
def zTabB3 : List (List (Nat × Nat × Nat)) := [
  [(1, 0, 0), (2, 0, 0), (4, 1, 1)],
  [(1, 0, 0), (2, 0, 0), (4, 1, 1)],
  [(1, 0, 0), (2, 0, 0), (3, 0, 1), (4, 0, 2)],
  [(1, 0, 0), (2, 0, 0), (4, 1, 1)]]
def zTabB4 : List (List (Nat × Nat × Nat)) := [
  [(1, 0, 0), (2, 0, 0), (4, 1, 1), (5, 0, 2)],
  [(1, 0, 0), (2, 0, 0), (4, 1, 1), (5, 0, 2)],
  [(1, 0, 0), (2, 0, 0), (3, 0, 1), (5, 1, 2)],
  [(1, 0, 0), (2, 0, 0), (4, 1, 1), (5, 0, 2)],
  [(1, 0, 0), (2, 0, 0), (4, 1, 1), (5, 0, 2)]]
def zTabB5 : List (List (Nat × Nat × Nat)) := [
  [(1, 0, 0), (2, 0, 0), (4, 1, 1), (6, 1, 2)],
  [(1, 0, 0), (2, 0, 0), (4, 1, 1), (6, 1, 2)],
  [(1, 0, 0), (2, 0, 0), (3, 0, 1), (6, 2, 2)],
  [(1, 0, 0), (2, 0, 0), (4, 1, 1), (6, 1, 2)],
  [(1, 0, 0), (2, 0, 0), (4, 1, 1), (5, 0, 2), (6, 0, 3)],
  [(1, 0, 0), (2, 0, 0), (4, 1, 1), (6, 1, 2)]]
def zTabB6 : List (List (Nat × Nat × Nat)) := [
  [(1, 0, 0), (2, 0, 0), (4, 1, 1), (6, 1, 2), (7, 0, 3)],
  [(1, 0, 0), (2, 0, 0), (4, 1, 1), (6, 1, 2), (7, 0, 3)],
  [(1, 0, 0), (2, 0, 0), (3, 0, 1), (6, 2, 2), (7, 0, 3)],
  [(1, 0, 0), (2, 0, 0), (4, 1, 1), (6, 1, 2), (7, 0, 3)],
  [(1, 0, 0), (2, 0, 0), (4, 1, 1), (5, 0, 2), (7, 1, 3)],
  [(1, 0, 0), (2, 0, 0), (4, 1, 1), (6, 1, 2), (7, 0, 3)],
  [(1, 0, 0), (2, 0, 0), (4, 1, 1), (6, 1, 2), (7, 0, 3)]]
def zTabB7 : List (List (Nat × Nat × Nat)) := [
  [(1, 0, 0), (2, 0, 0), (4, 1, 1), (8, 2, 2)],
  [(1, 0, 0), (2, 0, 0), (4, 1, 1), (8, 2, 2)],
  [(1, 0, 0), (2, 0, 0), (3, 0, 1), (6, 2, 2), (8, 1, 3)],
  [(1, 0, 0), (2, 0, 0), (4, 1, 1), (8, 2, 2)],
  [(1, 0, 0), (2, 0, 0), (4, 1, 1), (5, 0, 2), (8, 2, 2)],
  [(1, 0, 0), (2, 0, 0), (4, 1, 1), (6, 1, 2), (8, 1, 3)],
  [(1, 0, 0), (2, 0, 0), (4, 1, 1), (6, 1, 2), (7, 0, 3), (8, 0, 4)],
  [(1, 0, 0), (2, 0, 0), (4, 1, 1), (8, 2, 2)]]
def zTabB8 : List (List (Nat × Nat × Nat)) := [
  [(1, 0, 0), (2, 0, 0), (4, 1, 1), (8, 2, 2), (9, 0, 3)],
  [(1, 0, 0), (2, 0, 0), (4, 1, 1), (8, 2, 2), (9, 0, 3)],
  [(1, 0, 0), (2, 0, 0), (3, 0, 1), (6, 2, 2), (9, 2, 3)],
  [(1, 0, 0), (2, 0, 0), (4, 1, 1), (8, 2, 2), (9, 0, 3)],
  [(1, 0, 0), (2, 0, 0), (4, 1, 1), (5, 0, 2), (9, 2, 3)],
  [(1, 0, 0), (2, 0, 0), (3, 0, 1), (6, 2, 2), (9, 2, 3)],
  [(1, 0, 0), (2, 0, 0), (4, 1, 1), (6, 1, 2), (7, 0, 3), (9, 1, 4)],
  [(1, 0, 0), (2, 0, 0), (4, 1, 1), (8, 2, 2), (9, 0, 3)],
  [(1, 0, 0), (2, 0, 0), (4, 1, 1), (8, 2, 2), (9, 0, 3)]]
def zTabB9 : List (List (Nat × Nat × Nat)) := [
  [(1, 0, 0), (2, 0, 0), (4, 1, 1), (8, 2, 2), (10, 1, 3)],
  [(1, 0, 0), (2, 0, 0), (4, 1, 1), (8, 2, 2), (10, 1, 3)],
  [(1, 0, 0), (2, 0, 0), (3, 0, 1), (5, 1, 2), (10, 3, 3)],
  [(1, 0, 0), (2, 0, 0), (4, 1, 1), (8, 2, 2), (10, 1, 3)],
  [(1, 0, 0), (2, 0, 0), (4, 1, 1), (5, 0, 2), (10, 3, 3)],
  [(1, 0, 0), (2, 0, 0), (4, 1, 1), (6, 1, 2), (10, 2, 3)],
  [(1, 0, 0), (2, 0, 0), (4, 1, 1), (6, 1, 2), (7, 0, 3), (10, 2, 3)],
  [(1, 0, 0), (2, 0, 0), (4, 1, 1), (8, 2, 2), (10, 1, 3)],
  [(1, 0, 0), (2, 0, 0), (4, 1, 1), (8, 2, 2), (9, 0, 3), (10, 0, 4)],
  [(1, 0, 0), (2, 0, 0), (4, 1, 1), (8, 2, 2), (10, 1, 3)]]
def zTabB10 : List (List (Nat × Nat × Nat)) := [
  [(1, 0, 0), (2, 0, 0), (4, 1, 1), (8, 2, 2), (10, 1, 3), (11, 0, 4)],
  [(1, 0, 0), (2, 0, 0), (4, 1, 1), (8, 2, 2), (10, 1, 3), (11, 0, 4)],
  [(1, 0, 0), (2, 0, 0), (3, 0, 1), (6, 2, 2), (9, 2, 3), (11, 1, 4)],
  [(1, 0, 0), (2, 0, 0), (4, 1, 1), (8, 2, 2), (10, 1, 3), (11, 0, 4)],
  [(1, 0, 0), (2, 0, 0), (4, 1, 1), (5, 0, 2), (10, 3, 3), (11, 0, 4)],
  [(1, 0, 0), (2, 0, 0), (4, 1, 1), (6, 1, 2), (10, 2, 3), (11, 0, 4)],
  [(1, 0, 0), (2, 0, 0), (4, 1, 1), (6, 1, 2), (7, 0, 3), (11, 2, 4)],
  [(1, 0, 0), (2, 0, 0), (4, 1, 1), (8, 2, 2), (10, 1, 3), (11, 0, 4)],
  [(1, 0, 0), (2, 0, 0), (4, 1, 1), (8, 2, 2), (9, 0, 3), (11, 1, 4)],
  [(1, 0, 0), (2, 0, 0), (4, 1, 1), (8, 2, 2), (10, 1, 3), (11, 0, 4)],
  [(1, 0, 0), (2, 0, 0), (4, 1, 1), (8, 2, 2), (10, 1, 3), (11, 0, 4)]]
def zTabB11 : List (List (Nat × Nat × Nat)) := [
  [(1, 0, 0), (2, 0, 0), (4, 1, 1), (8, 2, 2), (12, 2, 3)],
  [(1, 0, 0), (2, 0, 0), (4, 1, 1), (8, 2, 2), (12, 2, 3)],
  [(1, 0, 0), (2, 0, 0), (3, 0, 1), (6, 2, 2), (12, 3, 3)],
  [(1, 0, 0), (2, 0, 0), (4, 1, 1), (8, 2, 2), (12, 2, 3)],
  [(1, 0, 0), (2, 0, 0), (4, 1, 1), (5, 0, 2), (10, 3, 3), (12, 1, 4)],
  [(1, 0, 0), (2, 0, 0), (4, 1, 1), (6, 1, 2), (12, 3, 3)],
  [(1, 0, 0), (2, 0, 0), (4, 1, 1), (6, 1, 2), (7, 0, 3), (12, 3, 3)],
  [(1, 0, 0), (2, 0, 0), (4, 1, 1), (8, 2, 2), (12, 2, 3)],
  [(1, 0, 0), (2, 0, 0), (4, 1, 1), (8, 2, 2), (9, 0, 3), (12, 2, 3)],
  [(1, 0, 0), (2, 0, 0), (4, 1, 1), (8, 2, 2), (10, 1, 3), (12, 1, 4)],
  [(1, 0, 0), (2, 0, 0), (4, 1, 1), (8, 2, 2), (10, 1, 3), (11, 0, 4), (12, 0, 5)],
  [(1, 0, 0), (2, 0, 0), (4, 1, 1), (8, 2, 2), (12, 2, 3)]]
def zTabB12 : List (List (Nat × Nat × Nat)) := [
  [(1, 0, 0), (2, 0, 0), (4, 1, 1), (8, 2, 2), (12, 2, 3), (13, 0, 4)],
  [(1, 0, 0), (2, 0, 0), (4, 1, 1), (8, 2, 2), (12, 2, 3), (13, 0, 4)],
  [(1, 0, 0), (2, 0, 0), (3, 0, 1), (6, 2, 2), (12, 3, 3), (13, 0, 4)],
  [(1, 0, 0), (2, 0, 0), (4, 1, 1), (8, 2, 2), (12, 2, 3), (13, 0, 4)],
  [(1, 0, 0), (2, 0, 0), (4, 1, 1), (5, 0, 2), (9, 2, 3), (13, 2, 4)],
  [(1, 0, 0), (2, 0, 0), (4, 1, 1), (6, 1, 2), (12, 3, 3), (13, 0, 4)],
  [(1, 0, 0), (2, 0, 0), (4, 1, 1), (6, 1, 2), (7, 0, 3), (13, 3, 4)],
  [(1, 0, 0), (2, 0, 0), (4, 1, 1), (8, 2, 2), (12, 2, 3), (13, 0, 4)],
  [(1, 0, 0), (2, 0, 0), (4, 1, 1), (8, 2, 2), (9, 0, 3), (13, 2, 4)],
  [(1, 0, 0), (2, 0, 0), (3, 0, 1), (5, 1, 2), (10, 3, 3), (13, 2, 4)],
  [(1, 0, 0), (2, 0, 0), (4, 1, 1), (8, 2, 2), (10, 1, 3), (11, 0, 4), (13, 1, 5)],
  [(1, 0, 0), (2, 0, 0), (4, 1, 1), (8, 2, 2), (12, 2, 3), (13, 0, 4)],
  [(1, 0, 0), (2, 0, 0), (4, 1, 1), (8, 2, 2), (12, 2, 3), (13, 0, 4)]]
def zTabB13 : List (List (Nat × Nat × Nat)) := [
  [(1, 0, 0), (2, 0, 0), (4, 1, 1), (8, 2, 2), (12, 2, 3), (14, 1, 4)],
  [(1, 0, 0), (2, 0, 0), (4, 1, 1), (8, 2, 2), (12, 2, 3), (14, 1, 4)],
  [(1, 0, 0), (2, 0, 0), (3, 0, 1), (6, 2, 2), (12, 3, 3), (14, 1, 4)],
  [(1, 0, 0), (2, 0, 0), (4, 1, 1), (8, 2, 2), (12, 2, 3), (14, 1, 4)],
  [(1, 0, 0), (2, 0, 0), (4, 1, 1), (5, 0, 2), (10, 3, 3), (14, 2, 4)],
  [(1, 0, 0), (2, 0, 0), (4, 1, 1), (6, 1, 2), (12, 3, 3), (14, 1, 4)],
  [(1, 0, 0), (2, 0, 0), (4, 1, 1), (6, 1, 2), (7, 0, 3), (14, 4, 4)],
  [(1, 0, 0), (2, 0, 0), (4, 1, 1), (8, 2, 2), (12, 2, 3), (14, 1, 4)],
  [(1, 0, 0), (2, 0, 0), (4, 1, 1), (5, 0, 2), (9, 2, 3), (14, 3, 4)],
  [(1, 0, 0), (2, 0, 0), (4, 1, 1), (8, 2, 2), (10, 1, 3), (14, 2, 4)],
  [(1, 0, 0), (2, 0, 0), (4, 1, 1), (8, 2, 2), (10, 1, 3), (11, 0, 4), (14, 2, 4)],
  [(1, 0, 0), (2, 0, 0), (4, 1, 1), (8, 2, 2), (12, 2, 3), (14, 1, 4)],
  [(1, 0, 0), (2, 0, 0), (4, 1, 1), (8, 2, 2), (12, 2, 3), (13, 0, 4), (14, 0, 5)],
  [(1, 0, 0), (2, 0, 0), (4, 1, 1), (8, 2, 2), (12, 2, 3), (14, 1, 4)]]
def zTabB14 : List (List (Nat × Nat × Nat)) := [
  [(1, 0, 0), (2, 0, 0), (4, 1, 1), (5, 0, 2), (10, 3, 3), (15, 3, 4)],
  [(1, 0, 0), (2, 0, 0), (4, 1, 1), (5, 0, 2), (10, 3, 3), (15, 3, 4)],
  [(1, 0, 0), (2, 0, 0), (3, 0, 1), (6, 2, 2), (12, 3, 3), (15, 2, 4)],
  [(1, 0, 0), (2, 0, 0), (4, 1, 1), (5, 0, 2), (10, 3, 3), (15, 3, 4)],
  [(1, 0, 0), (2, 0, 0), (4, 1, 1), (5, 0, 2), (10, 3, 3), (15, 3, 4)],
  [(1, 0, 0), (2, 0, 0), (3, 0, 1), (6, 2, 2), (12, 3, 3), (15, 2, 4)],
  [(1, 0, 0), (2, 0, 0), (4, 1, 1), (6, 1, 2), (7, 0, 3), (14, 4, 4), (15, 0, 5)],
  [(1, 0, 0), (2, 0, 0), (4, 1, 1), (8, 2, 2), (12, 2, 3), (14, 1, 4), (15, 0, 5)],
  [(1, 0, 0), (2, 0, 0), (3, 0, 1), (6, 2, 2), (9, 2, 3), (15, 3, 4)],
  [(1, 0, 0), (2, 0, 0), (4, 1, 1), (5, 0, 2), (10, 3, 3), (15, 3, 4)],
  [(1, 0, 0), (2, 0, 0), (4, 1, 1), (8, 2, 2), (10, 1, 3), (11, 0, 4), (15, 2, 5)],
  [(1, 0, 0), (2, 0, 0), (3, 0, 1), (6, 2, 2), (12, 3, 3), (15, 2, 4)],
  [(1, 0, 0), (2, 0, 0), (4, 1, 1), (8, 2, 2), (12, 2, 3), (13, 0, 4), (15, 1, 5)],
  [(1, 0, 0), (2, 0, 0), (4, 1, 1), (8, 2, 2), (12, 2, 3), (14, 1, 4), (15, 0, 5)],
  [(1, 0, 0), (2, 0, 0), (4, 1, 1), (5, 0, 2), (10, 3, 3), (15, 3, 4)]]
def zTabB15 : List (List (Nat × Nat × Nat)) := [
  [(1, 0, 0), (2, 0, 0), (4, 1, 1), (8, 2, 2), (16, 3, 3)],
  [(1, 0, 0), (2, 0, 0), (4, 1, 1), (8, 2, 2), (16, 3, 3)],
  [(1, 0, 0), (2, 0, 0), (3, 0, 1), (6, 2, 2), (8, 1, 3), (16, 4, 4)],
  [(1, 0, 0), (2, 0, 0), (4, 1, 1), (8, 2, 2), (16, 3, 3)],
  [(1, 0, 0), (2, 0, 0), (4, 1, 1), (5, 0, 2), (8, 2, 2), (16, 4, 4)],
  [(1, 0, 0), (2, 0, 0), (4, 1, 1), (6, 1, 2), (12, 3, 3), (16, 2, 4)],
  [(1, 0, 0), (2, 0, 0), (4, 1, 1), (6, 1, 2), (7, 0, 3), (14, 4, 4), (16, 1, 5)],
  [(1, 0, 0), (2, 0, 0), (4, 1, 1), (8, 2, 2), (16, 3, 3)],
  [(1, 0, 0), (2, 0, 0), (4, 1, 1), (8, 2, 2), (9, 0, 3), (16, 3, 3)],
  [(1, 0, 0), (2, 0, 0), (4, 1, 1), (8, 2, 2), (10, 1, 3), (16, 3, 3)],
  [(1, 0, 0), (2, 0, 0), (4, 1, 1), (8, 2, 2), (10, 1, 3), (11, 0, 4), (16, 3, 3)],
  [(1, 0, 0), (2, 0, 0), (4, 1, 1), (8, 2, 2), (12, 2, 3), (16, 2, 4)],
  [(1, 0, 0), (2, 0, 0), (4, 1, 1), (8, 2, 2), (12, 2, 3), (13, 0, 4), (16, 2, 4)],
  [(1, 0, 0), (2, 0, 0), (4, 1, 1), (8, 2, 2), (12, 2, 3), (14, 1, 4), (16, 1, 5)],
  [(1, 0, 0), (2, 0, 0), (4, 1, 1), (5, 0, 2), (10, 3, 3), (15, 3, 4), (16, 0, 5)],
  [(1, 0, 0), (2, 0, 0), (4, 1, 1), (8, 2, 2), (16, 3, 3)]]
def zTabB16 : List (List (Nat × Nat × Nat)) := [
  [(1, 0, 0), (2, 0, 0), (4, 1, 1), (8, 2, 2), (16, 3, 3), (17, 0, 4)],
  [(1, 0, 0), (2, 0, 0), (4, 1, 1), (8, 2, 2), (16, 3, 3), (17, 0, 4)],
  [(1, 0, 0), (2, 0, 0), (3, 0, 1), (6, 2, 2), (12, 3, 3), (15, 2, 4), (17, 1, 5)],
  [(1, 0, 0), (2, 0, 0), (4, 1, 1), (8, 2, 2), (16, 3, 3), (17, 0, 4)],
  [(1, 0, 0), (2, 0, 0), (4, 1, 1), (5, 0, 2), (10, 3, 3), (15, 3, 4), (17, 1, 5)],
  [(1, 0, 0), (2, 0, 0), (4, 1, 1), (6, 1, 2), (12, 3, 3), (16, 2, 4), (17, 0, 5)],
  [(1, 0, 0), (2, 0, 0), (4, 1, 1), (6, 1, 2), (7, 0, 3), (13, 3, 4), (17, 2, 5)],
  [(1, 0, 0), (2, 0, 0), (4, 1, 1), (8, 2, 2), (16, 3, 3), (17, 0, 4)],
  [(1, 0, 0), (2, 0, 0), (4, 1, 1), (8, 2, 2), (9, 0, 3), (17, 3, 4)],
  [(1, 0, 0), (2, 0, 0), (4, 1, 1), (8, 2, 2), (10, 1, 3), (16, 3, 3), (17, 0, 5)],
  [(1, 0, 0), (2, 0, 0), (4, 1, 1), (8, 2, 2), (9, 0, 3), (11, 1, 4), (17, 3, 4)],
  [(1, 0, 0), (2, 0, 0), (4, 1, 1), (8, 2, 2), (12, 2, 3), (16, 2, 4), (17, 0, 5)],
  [(1, 0, 0), (2, 0, 0), (4, 1, 1), (8, 2, 2), (12, 2, 3), (13, 0, 4), (17, 2, 5)],
  [(1, 0, 0), (2, 0, 0), (3, 0, 1), (6, 2, 2), (12, 3, 3), (14, 1, 4), (17, 2, 5)],
  [(1, 0, 0), (2, 0, 0), (4, 1, 1), (5, 0, 2), (10, 3, 3), (15, 3, 4), (17, 1, 5)],
  [(1, 0, 0), (2, 0, 0), (4, 1, 1), (8, 2, 2), (16, 3, 3), (17, 0, 4)],
  [(1, 0, 0), (2, 0, 0), (4, 1, 1), (8, 2, 2), (16, 3, 3), (17, 0, 4)]]
def zTabB17 : List (List (Nat × Nat × Nat)) := [
  [(1, 0, 0), (2, 0, 0), (4, 1, 1), (8, 2, 2), (16, 3, 3), (18, 1, 4)],
  [(1, 0, 0), (2, 0, 0), (4, 1, 1), (8, 2, 2), (16, 3, 3), (18, 1, 4)],
  [(1, 0, 0), (2, 0, 0), (3, 0, 1), (6, 2, 2), (12, 3, 3), (18, 3, 4)],
  [(1, 0, 0), (2, 0, 0), (4, 1, 1), (8, 2, 2), (16, 3, 3), (18, 1, 4)],
  [(1, 0, 0), (2, 0, 0), (4, 1, 1), (5, 0, 2), (9, 2, 3), (18, 4, 4)],
  [(1, 0, 0), (2, 0, 0), (4, 1, 1), (6, 1, 2), (12, 3, 3), (18, 3, 4)],
  [(1, 0, 0), (2, 0, 0), (4, 1, 1), (6, 1, 2), (7, 0, 3), (14, 4, 4), (18, 2, 5)],
  [(1, 0, 0), (2, 0, 0), (4, 1, 1), (8, 2, 2), (16, 3, 3), (18, 1, 4)],
  [(1, 0, 0), (2, 0, 0), (4, 1, 1), (8, 2, 2), (9, 0, 3), (18, 4, 4)],
  [(1, 0, 0), (2, 0, 0), (4, 1, 1), (8, 2, 2), (10, 1, 3), (18, 3, 4)],
  [(1, 0, 0), (2, 0, 0), (4, 1, 1), (8, 2, 2), (10, 1, 3), (11, 0, 4), (18, 3, 4)],
  [(1, 0, 0), (2, 0, 0), (4, 1, 1), (6, 1, 2), (12, 3, 3), (18, 3, 4)],
  [(1, 0, 0), (2, 0, 0), (4, 1, 1), (8, 2, 2), (9, 0, 3), (13, 2, 4), (18, 4, 4)],
  [(1, 0, 0), (2, 0, 0), (4, 1, 1), (8, 2, 2), (12, 2, 3), (14, 1, 4), (18, 2, 5)],
  [(1, 0, 0), (2, 0, 0), (3, 0, 1), (6, 2, 2), (12, 3, 3), (15, 2, 4), (18, 2, 5)],
  [(1, 0, 0), (2, 0, 0), (4, 1, 1), (8, 2, 2), (16, 3, 3), (18, 1, 4)],
  [(1, 0, 0), (2, 0, 0), (4, 1, 1), (8, 2, 2), (16, 3, 3), (17, 0, 4), (18, 0, 5)],
  [(1, 0, 0), (2, 0, 0), (4, 1, 1), (8, 2, 2), (16, 3, 3), (18, 1, 4)]]
def zTabB18 : List (List (Nat × Nat × Nat)) := [
  [(1, 0, 0), (2, 0, 0), (4, 1, 1), (8, 2, 2), (16, 3, 3), (18, 1, 4), (19, 0, 5)],
  [(1, 0, 0), (2, 0, 0), (4, 1, 1), (8, 2, 2), (16, 3, 3), (18, 1, 4), (19, 0, 5)],
  [(1, 0, 0), (2, 0, 0), (3, 0, 1), (6, 2, 2), (12, 3, 3), (18, 3, 4), (19, 0, 5)],
  [(1, 0, 0), (2, 0, 0), (4, 1, 1), (8, 2, 2), (16, 3, 3), (18, 1, 4), (19, 0, 5)],
  [(1, 0, 0), (2, 0, 0), (4, 1, 1), (5, 0, 2), (10, 3, 3), (15, 3, 4), (19, 2, 5)],
  [(1, 0, 0), (2, 0, 0), (4, 1, 1), (6, 1, 2), (12, 3, 3), (18, 3, 4), (19, 0, 5)],
  [(1, 0, 0), (2, 0, 0), (4, 1, 1), (6, 1, 2), (7, 0, 3), (13, 3, 4), (19, 3, 5)],
  [(1, 0, 0), (2, 0, 0), (4, 1, 1), (8, 2, 2), (16, 3, 3), (18, 1, 4), (19, 0, 5)],
  [(1, 0, 0), (2, 0, 0), (4, 1, 1), (8, 2, 2), (9, 0, 3), (18, 4, 4), (19, 0, 5)],
  [(1, 0, 0), (2, 0, 0), (4, 1, 1), (8, 2, 2), (10, 1, 3), (18, 3, 4), (19, 0, 5)],
  [(1, 0, 0), (2, 0, 0), (4, 1, 1), (8, 2, 2), (10, 1, 3), (11, 0, 4), (19, 3, 5)],
  [(1, 0, 0), (2, 0, 0), (4, 1, 1), (6, 1, 2), (12, 3, 3), (18, 3, 4), (19, 0, 5)],
  [(1, 0, 0), (2, 0, 0), (4, 1, 1), (6, 1, 2), (12, 3, 3), (13, 0, 4), (19, 3, 5)],
  [(1, 0, 0), (2, 0, 0), (4, 1, 1), (5, 0, 2), (10, 3, 3), (14, 2, 4), (19, 3, 5)],
  [(1, 0, 0), (2, 0, 0), (4, 1, 1), (5, 0, 2), (10, 3, 3), (15, 3, 4), (19, 2, 5)],
  [(1, 0, 0), (2, 0, 0), (4, 1, 1), (8, 2, 2), (16, 3, 3), (18, 1, 4), (19, 0, 5)],
  [(1, 0, 0), (2, 0, 0), (4, 1, 1), (8, 2, 2), (16, 3, 3), (17, 0, 4), (19, 1, 5)],
  [(1, 0, 0), (2, 0, 0), (4, 1, 1), (8, 2, 2), (16, 3, 3), (18, 1, 4), (19, 0, 5)],
  [(1, 0, 0), (2, 0, 0), (4, 1, 1), (8, 2, 2), (16, 3, 3), (18, 1, 4), (19, 0, 5)]]
def zTabB19 : List (List (Nat × Nat × Nat)) := [
  [(1, 0, 0), (2, 0, 0), (4, 1, 1), (8, 2, 2), (16, 3, 3), (20, 2, 4)],
  [(1, 0, 0), (2, 0, 0), (4, 1, 1), (8, 2, 2), (16, 3, 3), (20, 2, 4)],
  [(1, 0, 0), (2, 0, 0), (3, 0, 1), (5, 1, 2), (10, 3, 3), (20, 4, 4)],
  [(1, 0, 0), (2, 0, 0), (4, 1, 1), (8, 2, 2), (16, 3, 3), (20, 2, 4)],
  [(1, 0, 0), (2, 0, 0), (4, 1, 1), (5, 0, 2), (10, 3, 3), (20, 4, 4)],
  [(1, 0, 0), (2, 0, 0), (4, 1, 1), (6, 1, 2), (10, 2, 3), (20, 4, 4)],
  [(1, 0, 0), (2, 0, 0), (4, 1, 1), (6, 1, 2), (7, 0, 3), (14, 4, 4), (20, 3, 5)],
  [(1, 0, 0), (2, 0, 0), (4, 1, 1), (8, 2, 2), (16, 3, 3), (20, 2, 4)],
  [(1, 0, 0), (2, 0, 0), (4, 1, 1), (8, 2, 2), (9, 0, 3), (18, 4, 4), (20, 1, 5)],
  [(1, 0, 0), (2, 0, 0), (4, 1, 1), (8, 2, 2), (10, 1, 3), (20, 4, 4)],
  [(1, 0, 0), (2, 0, 0), (4, 1, 1), (8, 2, 2), (10, 1, 3), (11, 0, 4), (20, 4, 4)],
  [(1, 0, 0), (2, 0, 0), (4, 1, 1), (8, 2, 2), (12, 2, 3), (20, 3, 4)],
  [(1, 0, 0), (2, 0, 0), (4, 1, 1), (8, 2, 2), (12, 2, 3), (13, 0, 4), (20, 3, 4)],
  [(1, 0, 0), (2, 0, 0), (4, 1, 1), (8, 2, 2), (12, 2, 3), (14, 1, 4), (20, 3, 4)],
  [(1, 0, 0), (2, 0, 0), (4, 1, 1), (5, 0, 2), (10, 3, 3), (15, 3, 4), (20, 3, 5)],
  [(1, 0, 0), (2, 0, 0), (4, 1, 1), (8, 2, 2), (16, 3, 3), (20, 2, 4)],
  [(1, 0, 0), (2, 0, 0), (4, 1, 1), (8, 2, 2), (16, 3, 3), (17, 0, 4), (20, 2, 4)],
  [(1, 0, 0), (2, 0, 0), (4, 1, 1), (8, 2, 2), (16, 3, 3), (18, 1, 4), (20, 1, 5)],
  [(1, 0, 0), (2, 0, 0), (4, 1, 1), (8, 2, 2), (16, 3, 3), (18, 1, 4), (19, 0, 5), (20, 0, 6)],
  [(1, 0, 0), (2, 0, 0), (4, 1, 1), (8, 2, 2), (16, 3, 3), (20, 2, 4)]]
def zTabB20 : List (List (Nat × Nat × Nat)) := [
  [(1, 0, 0), (2, 0, 0), (4, 1, 1), (8, 2, 2), (16, 3, 3), (20, 2, 4), (21, 0, 5)],
  [(1, 0, 0), (2, 0, 0), (4, 1, 1), (8, 2, 2), (16, 3, 3), (20, 2, 4), (21, 0, 5)],
  [(1, 0, 0), (2, 0, 0), (3, 0, 1), (6, 2, 2), (12, 3, 3), (18, 3, 4), (21, 2, 5)],
  [(1, 0, 0), (2, 0, 0), (4, 1, 1), (8, 2, 2), (16, 3, 3), (20, 2, 4), (21, 0, 5)],
  [(1, 0, 0), (2, 0, 0), (4, 1, 1), (5, 0, 2), (10, 3, 3), (20, 4, 4), (21, 0, 5)],
  [(1, 0, 0), (2, 0, 0), (4, 1, 1), (6, 1, 2), (10, 2, 3), (20, 4, 4), (21, 0, 5)],
  [(1, 0, 0), (2, 0, 0), (4, 1, 1), (6, 1, 2), (7, 0, 3), (14, 4, 4), (21, 4, 5)],
  [(1, 0, 0), (2, 0, 0), (4, 1, 1), (8, 2, 2), (16, 3, 3), (20, 2, 4), (21, 0, 5)],
  [(1, 0, 0), (2, 0, 0), (4, 1, 1), (8, 2, 2), (9, 0, 3), (17, 3, 4), (21, 2, 5)],
  [(1, 0, 0), (2, 0, 0), (4, 1, 1), (8, 2, 2), (10, 1, 3), (20, 4, 4), (21, 0, 5)],
  [(1, 0, 0), (2, 0, 0), (4, 1, 1), (8, 2, 2), (10, 1, 3), (11, 0, 4), (21, 4, 5)],
  [(1, 0, 0), (2, 0, 0), (4, 1, 1), (8, 2, 2), (12, 2, 3), (20, 3, 4), (21, 0, 5)],
  [(1, 0, 0), (2, 0, 0), (4, 1, 1), (8, 2, 2), (12, 2, 3), (13, 0, 4), (21, 3, 5)],
  [(1, 0, 0), (2, 0, 0), (4, 1, 1), (6, 1, 2), (7, 0, 3), (14, 4, 4), (21, 4, 5)],
  [(1, 0, 0), (2, 0, 0), (3, 0, 1), (6, 2, 2), (12, 3, 3), (15, 2, 4), (21, 3, 5)],
  [(1, 0, 0), (2, 0, 0), (4, 1, 1), (8, 2, 2), (16, 3, 3), (20, 2, 4), (21, 0, 5)],
  [(1, 0, 0), (2, 0, 0), (4, 1, 1), (8, 2, 2), (16, 3, 3), (17, 0, 4), (21, 2, 5)],
  [(1, 0, 0), (2, 0, 0), (3, 0, 1), (6, 2, 2), (12, 3, 3), (18, 3, 4), (21, 2, 5)],
  [(1, 0, 0), (2, 0, 0), (4, 1, 1), (8, 2, 2), (16, 3, 3), (18, 1, 4), (19, 0, 5), (21, 1, 6)],
  [(1, 0, 0), (2, 0, 0), (4, 1, 1), (8, 2, 2), (16, 3, 3), (20, 2, 4), (21, 0, 5)],
  [(1, 0, 0), (2, 0, 0), (4, 1, 1), (8, 2, 2), (16, 3, 3), (20, 2, 4), (21, 0, 5)]]
def zTabB21 : List (List (Nat × Nat × Nat)) := [
  [(1, 0, 0), (2, 0, 0), (4, 1, 1), (8, 2, 2), (16, 3, 3), (20, 2, 4), (22, 1, 5)],
  [(1, 0, 0), (2, 0, 0), (4, 1, 1), (8, 2, 2), (16, 3, 3), (20, 2, 4), (22, 1, 5)],
  [(1, 0, 0), (2, 0, 0), (3, 0, 1), (6, 2, 2), (9, 2, 3), (11, 1, 4), (22, 5, 5)],
  [(1, 0, 0), (2, 0, 0), (4, 1, 1), (8, 2, 2), (16, 3, 3), (20, 2, 4), (22, 1, 5)],
  [(1, 0, 0), (2, 0, 0), (4, 1, 1), (5, 0, 2), (10, 3, 3), (20, 4, 4), (22, 1, 5)],
  [(1, 0, 0), (2, 0, 0), (4, 1, 1), (6, 1, 2), (12, 3, 3), (18, 3, 4), (22, 2, 5)],
  [(1, 0, 0), (2, 0, 0), (4, 1, 1), (6, 1, 2), (7, 0, 3), (11, 2, 4), (22, 5, 5)],
  [(1, 0, 0), (2, 0, 0), (4, 1, 1), (8, 2, 2), (16, 3, 3), (20, 2, 4), (22, 1, 5)],
  [(1, 0, 0), (2, 0, 0), (4, 1, 1), (8, 2, 2), (9, 0, 3), (18, 4, 4), (22, 2, 5)],
  [(1, 0, 0), (2, 0, 0), (4, 1, 1), (8, 2, 2), (10, 1, 3), (20, 4, 4), (22, 1, 5)],
  [(1, 0, 0), (2, 0, 0), (4, 1, 1), (8, 2, 2), (10, 1, 3), (11, 0, 4), (22, 5, 5)],
  [(1, 0, 0), (2, 0, 0), (4, 1, 1), (8, 2, 2), (12, 2, 3), (20, 3, 4), (22, 1, 5)],
  [(1, 0, 0), (2, 0, 0), (4, 1, 1), (8, 2, 2), (9, 0, 3), (13, 2, 4), (22, 4, 5)],
  [(1, 0, 0), (2, 0, 0), (4, 1, 1), (8, 2, 2), (12, 2, 3), (14, 1, 4), (22, 3, 5)],
  [(1, 0, 0), (2, 0, 0), (4, 1, 1), (8, 2, 2), (12, 2, 3), (14, 1, 4), (15, 0, 5), (22, 3, 5)],
  [(1, 0, 0), (2, 0, 0), (4, 1, 1), (8, 2, 2), (16, 3, 3), (20, 2, 4), (22, 1, 5)],
  [(1, 0, 0), (2, 0, 0), (4, 1, 1), (8, 2, 2), (16, 3, 3), (17, 0, 4), (21, 2, 5), (22, 0, 6)],
  [(1, 0, 0), (2, 0, 0), (4, 1, 1), (8, 2, 2), (16, 3, 3), (18, 1, 4), (22, 2, 5)],
  [(1, 0, 0), (2, 0, 0), (4, 1, 1), (8, 2, 2), (16, 3, 3), (18, 1, 4), (19, 0, 5), (22, 2, 5)],
  [(1, 0, 0), (2, 0, 0), (4, 1, 1), (8, 2, 2), (16, 3, 3), (20, 2, 4), (22, 1, 5)],
  [(1, 0, 0), (2, 0, 0), (4, 1, 1), (8, 2, 2), (16, 3, 3), (20, 2, 4), (21, 0, 5), (22, 0, 6)],
  [(1, 0, 0), (2, 0, 0), (4, 1, 1), (8, 2, 2), (16, 3, 3), (20, 2, 4), (22, 1, 5)]]
def zTabB22 : List (List (Nat × Nat × Nat)) := [
  [(1, 0, 0), (2, 0, 0), (4, 1, 1), (5, 0, 2), (9, 2, 3), (18, 4, 4), (23, 3, 5)],
  [(1, 0, 0), (2, 0, 0), (4, 1, 1), (5, 0, 2), (9, 2, 3), (18, 4, 4), (23, 3, 5)],
  [(1, 0, 0), (2, 0, 0), (3, 0, 1), (5, 1, 2), (10, 3, 3), (20, 4, 4), (23, 2, 5)],
  [(1, 0, 0), (2, 0, 0), (4, 1, 1), (5, 0, 2), (9, 2, 3), (18, 4, 4), (23, 3, 5)],
  [(1, 0, 0), (2, 0, 0), (4, 1, 1), (5, 0, 2), (9, 2, 3), (18, 4, 4), (23, 3, 5)],
  [(1, 0, 0), (2, 0, 0), (4, 1, 1), (6, 1, 2), (12, 3, 3), (18, 3, 4), (22, 2, 5), (23, 0, 6)],
  [(1, 0, 0), (2, 0, 0), (4, 1, 1), (6, 1, 2), (7, 0, 3), (14, 4, 4), (21, 4, 5), (23, 1, 6)],
  [(1, 0, 0), (2, 0, 0), (4, 1, 1), (8, 2, 2), (16, 3, 3), (20, 2, 4), (22, 1, 5), (23, 0, 6)],
  [(1, 0, 0), (2, 0, 0), (4, 1, 1), (5, 0, 2), (9, 2, 3), (18, 4, 4), (23, 3, 5)],
  [(1, 0, 0), (2, 0, 0), (3, 0, 1), (5, 1, 2), (10, 3, 3), (20, 4, 4), (23, 2, 5)],
  [(1, 0, 0), (2, 0, 0), (4, 1, 1), (8, 2, 2), (10, 1, 3), (11, 0, 4), (22, 5, 5), (23, 0, 6)],
  [(1, 0, 0), (2, 0, 0), (4, 1, 1), (8, 2, 2), (12, 2, 3), (20, 3, 4), (22, 1, 5), (23, 0, 6)],
  [(1, 0, 0), (2, 0, 0), (3, 0, 1), (5, 1, 2), (10, 3, 3), (13, 2, 4), (23, 4, 5)],
  [(1, 0, 0), (2, 0, 0), (4, 1, 1), (5, 0, 2), (9, 2, 3), (14, 3, 4), (23, 4, 5)],
  [(1, 0, 0), (2, 0, 0), (4, 1, 1), (8, 2, 2), (12, 2, 3), (14, 1, 4), (15, 0, 5), (23, 3, 6)],
  [(1, 0, 0), (2, 0, 0), (4, 1, 1), (8, 2, 2), (16, 3, 3), (20, 2, 4), (22, 1, 5), (23, 0, 6)],
  [(1, 0, 0), (2, 0, 0), (4, 1, 1), (8, 2, 2), (16, 3, 3), (17, 0, 4), (21, 2, 5), (23, 1, 6)],
  [(1, 0, 0), (2, 0, 0), (4, 1, 1), (5, 0, 2), (9, 2, 3), (18, 4, 4), (23, 3, 5)],
  [(1, 0, 0), (2, 0, 0), (4, 1, 1), (8, 2, 2), (16, 3, 3), (18, 1, 4), (19, 0, 5), (23, 2, 6)],
  [(1, 0, 0), (2, 0, 0), (3, 0, 1), (5, 1, 2), (10, 3, 3), (20, 4, 4), (23, 2, 5)],
  [(1, 0, 0), (2, 0, 0), (4, 1, 1), (8, 2, 2), (16, 3, 3), (20, 2, 4), (21, 0, 5), (23, 1, 6)],
  [(1, 0, 0), (2, 0, 0), (4, 1, 1), (8, 2, 2), (16, 3, 3), (20, 2, 4), (22, 1, 5), (23, 0, 6)],
  [(1, 0, 0), (2, 0, 0), (4, 1, 1), (5, 0, 2), (9, 2, 3), (18, 4, 4), (23, 3, 5)]]
def zTabB23 : List (List (Nat × Nat × Nat)) := [
  [(1, 0, 0), (2, 0, 0), (4, 1, 1), (8, 2, 2), (16, 3, 3), (24, 3, 4)],
  [(1, 0, 0), (2, 0, 0), (4, 1, 1), (8, 2, 2), (16, 3, 3), (24, 3, 4)],
  [(1, 0, 0), (2, 0, 0), (3, 0, 1), (6, 2, 2), (12, 3, 3), (24, 4, 4)],
  [(1, 0, 0), (2, 0, 0), (4, 1, 1), (8, 2, 2), (16, 3, 3), (24, 3, 4)],
  [(1, 0, 0), (2, 0, 0), (4, 1, 1), (5, 0, 2), (10, 3, 3), (20, 4, 4), (24, 2, 5)],
  [(1, 0, 0), (2, 0, 0), (4, 1, 1), (6, 1, 2), (12, 3, 3), (24, 4, 4)],
  [(1, 0, 0), (2, 0, 0), (4, 1, 1), (6, 1, 2), (7, 0, 3), (12, 3, 3), (24, 5, 5)],
  [(1, 0, 0), (2, 0, 0), (4, 1, 1), (8, 2, 2), (16, 3, 3), (24, 3, 4)],
  [(1, 0, 0), (2, 0, 0), (4, 1, 1), (8, 2, 2), (9, 0, 3), (16, 3, 3), (24, 3, 5)],
  [(1, 0, 0), (2, 0, 0), (4, 1, 1), (8, 2, 2), (10, 1, 3), (20, 4, 4), (24, 2, 5)],
  [(1, 0, 0), (2, 0, 0), (4, 1, 1), (8, 2, 2), (10, 1, 3), (11, 0, 4), (22, 5, 5), (24, 1, 6)],
  [(1, 0, 0), (2, 0, 0), (4, 1, 1), (8, 2, 2), (12, 2, 3), (24, 4, 4)],
  [(1, 0, 0), (2, 0, 0), (4, 1, 1), (8, 2, 2), (12, 2, 3), (13, 0, 4), (24, 4, 4)],
  [(1, 0, 0), (2, 0, 0), (4, 1, 1), (8, 2, 2), (12, 2, 3), (14, 1, 4), (24, 4, 4)],
  [(1, 0, 0), (2, 0, 0), (3, 0, 1), (6, 2, 2), (12, 3, 3), (15, 2, 4), (24, 4, 4)],
  [(1, 0, 0), (2, 0, 0), (4, 1, 1), (8, 2, 2), (16, 3, 3), (24, 3, 4)],
  [(1, 0, 0), (2, 0, 0), (4, 1, 1), (8, 2, 2), (16, 3, 3), (17, 0, 4), (24, 3, 4)],
  [(1, 0, 0), (2, 0, 0), (4, 1, 1), (8, 2, 2), (16, 3, 3), (18, 1, 4), (24, 3, 4)],
  [(1, 0, 0), (2, 0, 0), (4, 1, 1), (8, 2, 2), (16, 3, 3), (18, 1, 4), (19, 0, 5), (24, 3, 4)],
  [(1, 0, 0), (2, 0, 0), (4, 1, 1), (8, 2, 2), (16, 3, 3), (20, 2, 4), (24, 2, 5)],
  [(1, 0, 0), (2, 0, 0), (4, 1, 1), (8, 2, 2), (16, 3, 3), (20, 2, 4), (21, 0, 5), (24, 2, 5)],
  [(1, 0, 0), (2, 0, 0), (4, 1, 1), (8, 2, 2), (16, 3, 3), (20, 2, 4), (22, 1, 5), (24, 1, 6)],
  [(1, 0, 0), (2, 0, 0), (4, 1, 1), (5, 0, 2), (9, 2, 3), (18, 4, 4), (23, 3, 5), (24, 0, 6)],
  [(1, 0, 0), (2, 0, 0), (4, 1, 1), (8, 2, 2), (16, 3, 3), (24, 3, 4)]]
def zTabB24 : List (List (Nat × Nat × Nat)) := [
  [(1, 0, 0), (2, 0, 0), (4, 1, 1), (8, 2, 2), (16, 3, 3), (24, 3, 4), (25, 0, 5)],
  [(1, 0, 0), (2, 0, 0), (4, 1, 1), (8, 2, 2), (16, 3, 3), (24, 3, 4), (25, 0, 5)],
  [(1, 0, 0), (2, 0, 0), (3, 0, 1), (6, 2, 2), (12, 3, 3), (24, 4, 4), (25, 0, 5)],
  [(1, 0, 0), (2, 0, 0), (4, 1, 1), (8, 2, 2), (16, 3, 3), (24, 3, 4), (25, 0, 5)],
  [(1, 0, 0), (2, 0, 0), (4, 1, 1), (5, 0, 2), (10, 3, 3), (20, 4, 4), (25, 3, 5)],
  [(1, 0, 0), (2, 0, 0), (4, 1, 1), (6, 1, 2), (12, 3, 3), (24, 4, 4), (25, 0, 5)],
  [(1, 0, 0), (2, 0, 0), (4, 1, 1), (6, 1, 2), (7, 0, 3), (14, 4, 4), (21, 4, 5), (25, 2, 6)],
  [(1, 0, 0), (2, 0, 0), (4, 1, 1), (8, 2, 2), (16, 3, 3), (24, 3, 4), (25, 0, 5)],
  [(1, 0, 0), (2, 0, 0), (4, 1, 1), (8, 2, 2), (9, 0, 3), (17, 3, 4), (25, 3, 5)],
  [(1, 0, 0), (2, 0, 0), (4, 1, 1), (5, 0, 2), (10, 3, 3), (20, 4, 4), (25, 3, 5)],
  [(1, 0, 0), (2, 0, 0), (4, 1, 1), (8, 2, 2), (10, 1, 3), (11, 0, 4), (21, 4, 5), (25, 2, 6)],
  [(1, 0, 0), (2, 0, 0), (4, 1, 1), (8, 2, 2), (12, 2, 3), (24, 4, 4), (25, 0, 5)],
  [(1, 0, 0), (2, 0, 0), (4, 1, 1), (8, 2, 2), (12, 2, 3), (13, 0, 4), (25, 4, 5)],
  [(1, 0, 0), (2, 0, 0), (4, 1, 1), (8, 2, 2), (12, 2, 3), (14, 1, 4), (24, 4, 4), (25, 0, 6)],
  [(1, 0, 0), (2, 0, 0), (4, 1, 1), (5, 0, 2), (10, 3, 3), (15, 3, 4), (25, 4, 5)],
  [(1, 0, 0), (2, 0, 0), (4, 1, 1), (8, 2, 2), (16, 3, 3), (24, 3, 4), (25, 0, 5)],
  [(1, 0, 0), (2, 0, 0), (4, 1, 1), (8, 2, 2), (16, 3, 3), (17, 0, 4), (25, 3, 5)],
  [(1, 0, 0), (2, 0, 0), (4, 1, 1), (8, 2, 2), (16, 3, 3), (18, 1, 4), (24, 3, 4), (25, 0, 6)],
  [(1, 0, 0), (2, 0, 0), (4, 1, 1), (8, 2, 2), (16, 3, 3), (17, 0, 4), (19, 1, 5), (25, 3, 5)],
  [(1, 0, 0), (2, 0, 0), (4, 1, 1), (5, 0, 2), (10, 3, 3), (20, 4, 4), (25, 3, 5)],
  [(1, 0, 0), (2, 0, 0), (4, 1, 1), (8, 2, 2), (16, 3, 3), (20, 2, 4), (21, 0, 5), (25, 2, 6)],
  [(1, 0, 0), (2, 0, 0), (4, 1, 1), (5, 0, 2), (10, 3, 3), (20, 4, 4), (22, 1, 5), (25, 3, 5)],
  [(1, 0, 0), (2, 0, 0), (4, 1, 1), (5, 0, 2), (9, 2, 3), (18, 4, 4), (23, 3, 5), (25, 1, 6)],
  [(1, 0, 0), (2, 0, 0), (4, 1, 1), (8, 2, 2), (16, 3, 3), (24, 3, 4), (25, 0, 5)],
  [(1, 0, 0), (2, 0, 0), (4, 1, 1), (8, 2, 2), (16, 3, 3), (24, 3, 4), (25, 0, 5)]]
def zTabB25 : List (List (Nat × Nat × Nat)) := [
  [(1, 0, 0), (2, 0, 0), (4, 1, 1), (8, 2, 2), (16, 3, 3), (24, 3, 4), (26, 1, 5)],
  [(1, 0, 0), (2, 0, 0), (4, 1, 1), (8, 2, 2), (16, 3, 3), (24, 3, 4), (26, 1, 5)],
  [(1, 0, 0), (2, 0, 0), (3, 0, 1), (6, 2, 2), (12, 3, 3), (24, 4, 4), (26, 1, 5)],
  [(1, 0, 0), (2, 0, 0), (4, 1, 1), (8, 2, 2), (16, 3, 3), (24, 3, 4), (26, 1, 5)],
  [(1, 0, 0), (2, 0, 0), (4, 1, 1), (5, 0, 2), (9, 2, 3), (13, 2, 4), (26, 5, 5)],
  [(1, 0, 0), (2, 0, 0), (4, 1, 1), (6, 1, 2), (12, 3, 3), (24, 4, 4), (26, 1, 5)],
  [(1, 0, 0), (2, 0, 0), (4, 1, 1), (6, 1, 2), (7, 0, 3), (13, 3, 4), (26, 5, 5)],
  [(1, 0, 0), (2, 0, 0), (4, 1, 1), (8, 2, 2), (16, 3, 3), (24, 3, 4), (26, 1, 5)],
  [(1, 0, 0), (2, 0, 0), (4, 1, 1), (8, 2, 2), (9, 0, 3), (18, 4, 4), (26, 3, 5)],
  [(1, 0, 0), (2, 0, 0), (4, 1, 1), (8, 2, 2), (10, 1, 3), (18, 3, 4), (26, 3, 5)],
  [(1, 0, 0), (2, 0, 0), (4, 1, 1), (8, 2, 2), (10, 1, 3), (11, 0, 4), (22, 5, 5), (26, 2, 6)],
  [(1, 0, 0), (2, 0, 0), (4, 1, 1), (8, 2, 2), (12, 2, 3), (24, 4, 4), (26, 1, 5)],
  [(1, 0, 0), (2, 0, 0), (4, 1, 1), (8, 2, 2), (12, 2, 3), (13, 0, 4), (26, 5, 5)],
  [(1, 0, 0), (2, 0, 0), (4, 1, 1), (8, 2, 2), (12, 2, 3), (14, 1, 4), (26, 4, 5)],
  [(1, 0, 0), (2, 0, 0), (4, 1, 1), (8, 2, 2), (12, 2, 3), (14, 1, 4), (15, 0, 5), (26, 4, 5)],
  [(1, 0, 0), (2, 0, 0), (4, 1, 1), (8, 2, 2), (16, 3, 3), (24, 3, 4), (26, 1, 5)],
  [(1, 0, 0), (2, 0, 0), (4, 1, 1), (8, 2, 2), (9, 0, 3), (17, 3, 4), (26, 4, 5)],
  [(1, 0, 0), (2, 0, 0), (4, 1, 1), (8, 2, 2), (16, 3, 3), (18, 1, 4), (26, 3, 5)],
  [(1, 0, 0), (2, 0, 0), (4, 1, 1), (8, 2, 2), (16, 3, 3), (18, 1, 4), (19, 0, 5), (26, 3, 5)],
  [(1, 0, 0), (2, 0, 0), (4, 1, 1), (6, 1, 2), (10, 2, 3), (20, 4, 4), (26, 3, 5)],
  [(1, 0, 0), (2, 0, 0), (4, 1, 1), (8, 2, 2), (12, 2, 3), (13, 0, 4), (21, 3, 5), (26, 5, 5)],
  [(1, 0, 0), (2, 0, 0), (4, 1, 1), (8, 2, 2), (16, 3, 3), (20, 2, 4), (22, 1, 5), (26, 2, 6)],
  [(1, 0, 0), (2, 0, 0), (3, 0, 1), (5, 1, 2), (10, 3, 3), (20, 4, 4), (23, 2, 5), (26, 2, 6)],
  [(1, 0, 0), (2, 0, 0), (4, 1, 1), (8, 2, 2), (16, 3, 3), (24, 3, 4), (26, 1, 5)],
  [(1, 0, 0), (2, 0, 0), (4, 1, 1), (8, 2, 2), (16, 3, 3), (24, 3, 4), (25, 0, 5), (26, 0, 6)],
  [(1, 0, 0), (2, 0, 0), (4, 1, 1), (8, 2, 2), (16, 3, 3), (24, 3, 4), (26, 1, 5)]]
def zTabB26 : List (List (Nat × Nat × Nat)) := [
  [(1, 0, 0), (2, 0, 0), (4, 1, 1), (8, 2, 2), (9, 0, 3), (18, 4, 4), (27, 4, 5)],
  [(1, 0, 0), (2, 0, 0), (4, 1, 1), (8, 2, 2), (9, 0, 3), (18, 4, 4), (27, 4, 5)],
  [(1, 0, 0), (2, 0, 0), (3, 0, 1), (6, 2, 2), (12, 3, 3), (24, 4, 4), (27, 2, 5)],
  [(1, 0, 0), (2, 0, 0), (4, 1, 1), (8, 2, 2), (9, 0, 3), (18, 4, 4), (27, 4, 5)],
  [(1, 0, 0), (2, 0, 0), (4, 1, 1), (5, 0, 2), (9, 2, 3), (18, 4, 4), (27, 4, 5)],
  [(1, 0, 0), (2, 0, 0), (3, 0, 1), (6, 2, 2), (12, 3, 3), (24, 4, 4), (27, 2, 5)],
  [(1, 0, 0), (2, 0, 0), (4, 1, 1), (6, 1, 2), (7, 0, 3), (14, 4, 4), (21, 4, 5), (27, 3, 6)],
  [(1, 0, 0), (2, 0, 0), (4, 1, 1), (8, 2, 2), (9, 0, 3), (18, 4, 4), (27, 4, 5)],
  [(1, 0, 0), (2, 0, 0), (4, 1, 1), (8, 2, 2), (9, 0, 3), (18, 4, 4), (27, 4, 5)],
  [(1, 0, 0), (2, 0, 0), (4, 1, 1), (8, 2, 2), (10, 1, 3), (18, 3, 4), (26, 3, 5), (27, 0, 6)],
  [(1, 0, 0), (2, 0, 0), (4, 1, 1), (8, 2, 2), (10, 1, 3), (11, 0, 4), (19, 3, 5), (27, 3, 6)],
  [(1, 0, 0), (2, 0, 0), (3, 0, 1), (6, 2, 2), (12, 3, 3), (24, 4, 4), (27, 2, 5)],
  [(1, 0, 0), (2, 0, 0), (4, 1, 1), (8, 2, 2), (12, 2, 3), (13, 0, 4), (26, 5, 5), (27, 0, 6)],
  [(1, 0, 0), (2, 0, 0), (4, 1, 1), (8, 2, 2), (12, 2, 3), (14, 1, 4), (26, 4, 5), (27, 0, 6)],
  [(1, 0, 0), (2, 0, 0), (3, 0, 1), (6, 2, 2), (12, 3, 3), (15, 2, 4), (27, 4, 5)],
  [(1, 0, 0), (2, 0, 0), (4, 1, 1), (8, 2, 2), (16, 3, 3), (24, 3, 4), (26, 1, 5), (27, 0, 6)],
  [(1, 0, 0), (2, 0, 0), (4, 1, 1), (8, 2, 2), (16, 3, 3), (17, 0, 4), (25, 3, 5), (27, 1, 6)],
  [(1, 0, 0), (2, 0, 0), (4, 1, 1), (8, 2, 2), (9, 0, 3), (18, 4, 4), (27, 4, 5)],
  [(1, 0, 0), (2, 0, 0), (4, 1, 1), (8, 2, 2), (16, 3, 3), (18, 1, 4), (19, 0, 5), (27, 3, 6)],
  [(1, 0, 0), (2, 0, 0), (4, 1, 1), (8, 2, 2), (9, 0, 3), (18, 4, 4), (20, 1, 5), (27, 4, 5)],
  [(1, 0, 0), (2, 0, 0), (4, 1, 1), (6, 1, 2), (10, 2, 3), (20, 4, 4), (21, 0, 5), (27, 3, 6)],
  [(1, 0, 0), (2, 0, 0), (4, 1, 1), (8, 2, 2), (9, 0, 3), (18, 4, 4), (22, 2, 5), (27, 4, 5)],
  [(1, 0, 0), (2, 0, 0), (4, 1, 1), (5, 0, 2), (9, 2, 3), (18, 4, 4), (23, 3, 5), (27, 2, 6)],
  [(1, 0, 0), (2, 0, 0), (3, 0, 1), (6, 2, 2), (12, 3, 3), (24, 4, 4), (27, 2, 5)],
  [(1, 0, 0), (2, 0, 0), (4, 1, 1), (8, 2, 2), (16, 3, 3), (24, 3, 4), (25, 0, 5), (27, 1, 6)],
  [(1, 0, 0), (2, 0, 0), (4, 1, 1), (8, 2, 2), (16, 3, 3), (24, 3, 4), (26, 1, 5), (27, 0, 6)],
  [(1, 0, 0), (2, 0, 0), (4, 1, 1), (8, 2, 2), (9, 0, 3), (18, 4, 4), (27, 4, 5)]]
def zTabB27 : List (List (Nat × Nat × Nat)) := [
  [(1, 0, 0), (2, 0, 0), (4, 1, 1), (8, 2, 2), (16, 3, 3), (24, 3, 4), (28, 2, 5)],
  [(1, 0, 0), (2, 0, 0), (4, 1, 1), (8, 2, 2), (16, 3, 3), (24, 3, 4), (28, 2, 5)],
  [(1, 0, 0), (2, 0, 0), (3, 0, 1), (6, 2, 2), (12, 3, 3), (14, 1, 4), (28, 5, 5)],
  [(1, 0, 0), (2, 0, 0), (4, 1, 1), (8, 2, 2), (16, 3, 3), (24, 3, 4), (28, 2, 5)],
  [(1, 0, 0), (2, 0, 0), (4, 1, 1), (5, 0, 2), (10, 3, 3), (14, 2, 4), (28, 5, 5)],
  [(1, 0, 0), (2, 0, 0), (4, 1, 1), (6, 1, 2), (12, 3, 3), (24, 4, 4), (28, 2, 5)],
  [(1, 0, 0), (2, 0, 0), (4, 1, 1), (6, 1, 2), (7, 0, 3), (14, 4, 4), (28, 5, 5)],
  [(1, 0, 0), (2, 0, 0), (4, 1, 1), (8, 2, 2), (16, 3, 3), (24, 3, 4), (28, 2, 5)],
  [(1, 0, 0), (2, 0, 0), (4, 1, 1), (5, 0, 2), (9, 2, 3), (14, 3, 4), (28, 5, 5)],
  [(1, 0, 0), (2, 0, 0), (4, 1, 1), (8, 2, 2), (10, 1, 3), (20, 4, 4), (28, 3, 5)],
  [(1, 0, 0), (2, 0, 0), (4, 1, 1), (8, 2, 2), (10, 1, 3), (11, 0, 4), (20, 4, 4), (28, 3, 6)],
  [(1, 0, 0), (2, 0, 0), (4, 1, 1), (8, 2, 2), (12, 2, 3), (24, 4, 4), (28, 2, 5)],
  [(1, 0, 0), (2, 0, 0), (4, 1, 1), (8, 2, 2), (12, 2, 3), (13, 0, 4), (26, 5, 5), (28, 1, 6)],
  [(1, 0, 0), (2, 0, 0), (4, 1, 1), (8, 2, 2), (12, 2, 3), (14, 1, 4), (28, 5, 5)],
  [(1, 0, 0), (2, 0, 0), (4, 1, 1), (8, 2, 2), (12, 2, 3), (14, 1, 4), (15, 0, 5), (28, 5, 5)],
  [(1, 0, 0), (2, 0, 0), (4, 1, 1), (8, 2, 2), (16, 3, 3), (24, 3, 4), (28, 2, 5)],
  [(1, 0, 0), (2, 0, 0), (4, 1, 1), (8, 2, 2), (16, 3, 3), (17, 0, 4), (24, 3, 4), (28, 2, 6)],
  [(1, 0, 0), (2, 0, 0), (4, 1, 1), (8, 2, 2), (10, 1, 3), (18, 3, 4), (28, 4, 5)],
  [(1, 0, 0), (2, 0, 0), (4, 1, 1), (8, 2, 2), (10, 1, 3), (18, 3, 4), (19, 0, 5), (28, 4, 5)],
  [(1, 0, 0), (2, 0, 0), (4, 1, 1), (8, 2, 2), (16, 3, 3), (20, 2, 4), (28, 3, 5)],
  [(1, 0, 0), (2, 0, 0), (4, 1, 1), (8, 2, 2), (16, 3, 3), (20, 2, 4), (21, 0, 5), (28, 3, 5)],
  [(1, 0, 0), (2, 0, 0), (4, 1, 1), (8, 2, 2), (16, 3, 3), (20, 2, 4), (22, 1, 5), (28, 3, 5)],
  [(1, 0, 0), (2, 0, 0), (4, 1, 1), (5, 0, 2), (9, 2, 3), (18, 4, 4), (23, 3, 5), (28, 3, 6)],
  [(1, 0, 0), (2, 0, 0), (4, 1, 1), (8, 2, 2), (16, 3, 3), (24, 3, 4), (28, 2, 5)],
  [(1, 0, 0), (2, 0, 0), (4, 1, 1), (8, 2, 2), (16, 3, 3), (24, 3, 4), (25, 0, 5), (28, 2, 5)],
  [(1, 0, 0), (2, 0, 0), (4, 1, 1), (8, 2, 2), (16, 3, 3), (24, 3, 4), (26, 1, 5), (28, 1, 6)],
  [(1, 0, 0), (2, 0, 0), (4, 1, 1), (8, 2, 2), (9, 0, 3), (18, 4, 4), (27, 4, 5), (28, 0, 6)],
  [(1, 0, 0), (2, 0, 0), (4, 1, 1), (8, 2, 2), (16, 3, 3), (24, 3, 4), (28, 2, 5)]]
def zTabB28 : List (List (Nat × Nat × Nat)) := [
  [(1, 0, 0), (2, 0, 0), (4, 1, 1), (8, 2, 2), (16, 3, 3), (24, 3, 4), (28, 2, 5), (29, 0, 6)],
  [(1, 0, 0), (2, 0, 0), (4, 1, 1), (8, 2, 2), (16, 3, 3), (24, 3, 4), (28, 2, 5), (29, 0, 6)],
  [(1, 0, 0), (2, 0, 0), (3, 0, 1), (6, 2, 2), (12, 3, 3), (24, 4, 4), (27, 2, 5), (29, 1, 6)],
  [(1, 0, 0), (2, 0, 0), (4, 1, 1), (8, 2, 2), (16, 3, 3), (24, 3, 4), (28, 2, 5), (29, 0, 6)],
  [(1, 0, 0), (2, 0, 0), (4, 1, 1), (5, 0, 2), (10, 3, 3), (20, 4, 4), (25, 3, 5), (29, 2, 6)],
  [(1, 0, 0), (2, 0, 0), (4, 1, 1), (6, 1, 2), (12, 3, 3), (24, 4, 4), (28, 2, 5), (29, 0, 6)],
  [(1, 0, 0), (2, 0, 0), (4, 1, 1), (6, 1, 2), (7, 0, 3), (14, 4, 4), (28, 5, 5), (29, 0, 6)],
  [(1, 0, 0), (2, 0, 0), (4, 1, 1), (8, 2, 2), (16, 3, 3), (24, 3, 4), (28, 2, 5), (29, 0, 6)],
  [(1, 0, 0), (2, 0, 0), (4, 1, 1), (8, 2, 2), (9, 0, 3), (18, 4, 4), (27, 4, 5), (29, 1, 6)],
  [(1, 0, 0), (2, 0, 0), (4, 1, 1), (8, 2, 2), (10, 1, 3), (20, 4, 4), (28, 3, 5), (29, 0, 6)],
  [(1, 0, 0), (2, 0, 0), (4, 1, 1), (8, 2, 2), (10, 1, 3), (11, 0, 4), (21, 4, 5), (29, 3, 6)],
  [(1, 0, 0), (2, 0, 0), (4, 1, 1), (8, 2, 2), (12, 2, 3), (24, 4, 4), (28, 2, 5), (29, 0, 6)],
  [(1, 0, 0), (2, 0, 0), (4, 1, 1), (8, 2, 2), (12, 2, 3), (13, 0, 4), (25, 4, 5), (29, 2, 6)],
  [(1, 0, 0), (2, 0, 0), (4, 1, 1), (8, 2, 2), (12, 2, 3), (14, 1, 4), (28, 5, 5), (29, 0, 6)],
  [(1, 0, 0), (2, 0, 0), (4, 1, 1), (8, 2, 2), (12, 2, 3), (14, 1, 4), (15, 0, 5), (29, 5, 6)],
  [(1, 0, 0), (2, 0, 0), (4, 1, 1), (8, 2, 2), (16, 3, 3), (24, 3, 4), (28, 2, 5), (29, 0, 6)],
  [(1, 0, 0), (2, 0, 0), (4, 1, 1), (8, 2, 2), (16, 3, 3), (17, 0, 4), (25, 3, 5), (29, 2, 6)],
  [(1, 0, 0), (2, 0, 0), (4, 1, 1), (8, 2, 2), (10, 1, 3), (18, 3, 4), (28, 4, 5), (29, 0, 6)],
  [(1, 0, 0), (2, 0, 0), (4, 1, 1), (8, 2, 2), (10, 1, 3), (18, 3, 4), (19, 0, 5), (29, 4, 6)],
  [(1, 0, 0), (2, 0, 0), (4, 1, 1), (8, 2, 2), (16, 3, 3), (20, 2, 4), (28, 3, 5), (29, 0, 6)],
  [(1, 0, 0), (2, 0, 0), (4, 1, 1), (8, 2, 2), (16, 3, 3), (20, 2, 4), (21, 0, 5), (29, 3, 6)],
  [(1, 0, 0), (2, 0, 0), (4, 1, 1), (6, 1, 2), (7, 0, 3), (11, 2, 4), (22, 5, 5), (29, 4, 6)],
  [(1, 0, 0), (2, 0, 0), (4, 1, 1), (8, 2, 2), (16, 3, 3), (20, 2, 4), (21, 0, 5), (23, 1, 6), (29, 3, 6)],
  [(1, 0, 0), (2, 0, 0), (4, 1, 1), (8, 2, 2), (16, 3, 3), (24, 3, 4), (28, 2, 5), (29, 0, 6)],
  [(1, 0, 0), (2, 0, 0), (4, 1, 1), (8, 2, 2), (16, 3, 3), (24, 3, 4), (25, 0, 5), (29, 2, 6)],
  [(1, 0, 0), (2, 0, 0), (3, 0, 1), (6, 2, 2), (12, 3, 3), (24, 4, 4), (26, 1, 5), (29, 2, 6)],
  [(1, 0, 0), (2, 0, 0), (4, 1, 1), (8, 2, 2), (9, 0, 3), (18, 4, 4), (27, 4, 5), (29, 1, 6)],
  [(1, 0, 0), (2, 0, 0), (4, 1, 1), (8, 2, 2), (16, 3, 3), (24, 3, 4), (28, 2, 5), (29, 0, 6)],
  [(1, 0, 0), (2, 0, 0), (4, 1, 1), (8, 2, 2), (16, 3, 3), (24, 3, 4), (28, 2, 5), (29, 0, 6)]]
def zTabB29 : List (List (Nat × Nat × Nat)) := [
  [(1, 0, 0), (2, 0, 0), (4, 1, 1), (8, 2, 2), (10, 1, 3), (20, 4, 4), (30, 4, 5)],
  [(1, 0, 0), (2, 0, 0), (4, 1, 1), (8, 2, 2), (10, 1, 3), (20, 4, 4), (30, 4, 5)],
  [(1, 0, 0), (2, 0, 0), (3, 0, 1), (6, 2, 2), (12, 3, 3), (24, 4, 4), (30, 3, 5)],
  [(1, 0, 0), (2, 0, 0), (4, 1, 1), (8, 2, 2), (10, 1, 3), (20, 4, 4), (30, 4, 5)],
  [(1, 0, 0), (2, 0, 0), (4, 1, 1), (5, 0, 2), (10, 3, 3), (20, 4, 4), (30, 4, 5)],
  [(1, 0, 0), (2, 0, 0), (4, 1, 1), (6, 1, 2), (12, 3, 3), (24, 4, 4), (30, 3, 5)],
  [(1, 0, 0), (2, 0, 0), (4, 1, 1), (6, 1, 2), (7, 0, 3), (14, 4, 4), (28, 5, 5), (30, 1, 6)],
  [(1, 0, 0), (2, 0, 0), (4, 1, 1), (8, 2, 2), (10, 1, 3), (20, 4, 4), (30, 4, 5)],
  [(1, 0, 0), (2, 0, 0), (3, 0, 1), (6, 2, 2), (9, 2, 3), (15, 3, 4), (30, 5, 5)],
  [(1, 0, 0), (2, 0, 0), (4, 1, 1), (8, 2, 2), (10, 1, 3), (20, 4, 4), (30, 4, 5)],
  [(1, 0, 0), (2, 0, 0), (4, 1, 1), (8, 2, 2), (10, 1, 3), (11, 0, 4), (22, 5, 5), (30, 3, 6)],
  [(1, 0, 0), (2, 0, 0), (4, 1, 1), (6, 1, 2), (12, 3, 3), (24, 4, 4), (30, 3, 5)],
  [(1, 0, 0), (2, 0, 0), (4, 1, 1), (8, 2, 2), (12, 2, 3), (13, 0, 4), (26, 5, 5), (30, 2, 6)],
  [(1, 0, 0), (2, 0, 0), (4, 1, 1), (8, 2, 2), (12, 2, 3), (14, 1, 4), (28, 5, 5), (30, 1, 6)],
  [(1, 0, 0), (2, 0, 0), (4, 1, 1), (5, 0, 2), (10, 3, 3), (15, 3, 4), (30, 5, 5)],
  [(1, 0, 0), (2, 0, 0), (4, 1, 1), (8, 2, 2), (16, 3, 3), (24, 3, 4), (28, 2, 5), (30, 1, 6)],
  [(1, 0, 0), (2, 0, 0), (4, 1, 1), (8, 2, 2), (12, 2, 3), (13, 0, 4), (17, 2, 5), (30, 5, 6)],
  [(1, 0, 0), (2, 0, 0), (4, 1, 1), (6, 1, 2), (12, 3, 3), (18, 3, 4), (30, 4, 5)],
  [(1, 0, 0), (2, 0, 0), (4, 1, 1), (8, 2, 2), (10, 1, 3), (11, 0, 4), (19, 3, 5), (30, 5, 6)],
  [(1, 0, 0), (2, 0, 0), (4, 1, 1), (8, 2, 2), (10, 1, 3), (20, 4, 4), (30, 4, 5)],
  [(1, 0, 0), (2, 0, 0), (4, 1, 1), (8, 2, 2), (10, 1, 3), (20, 4, 4), (21, 0, 5), (30, 4, 5)],
  [(1, 0, 0), (2, 0, 0), (4, 1, 1), (8, 2, 2), (16, 3, 3), (20, 2, 4), (22, 1, 5), (30, 3, 6)],
  [(1, 0, 0), (2, 0, 0), (3, 0, 1), (5, 1, 2), (10, 3, 3), (20, 4, 4), (23, 2, 5), (30, 4, 5)],
  [(1, 0, 0), (2, 0, 0), (4, 1, 1), (6, 1, 2), (12, 3, 3), (24, 4, 4), (30, 3, 5)],
  [(1, 0, 0), (2, 0, 0), (4, 1, 1), (6, 1, 2), (12, 3, 3), (24, 4, 4), (25, 0, 5), (30, 3, 5)],
  [(1, 0, 0), (2, 0, 0), (4, 1, 1), (8, 2, 2), (16, 3, 3), (24, 3, 4), (26, 1, 5), (30, 2, 6)],
  [(1, 0, 0), (2, 0, 0), (3, 0, 1), (6, 2, 2), (12, 3, 3), (24, 4, 4), (27, 2, 5), (30, 2, 6)],
  [(1, 0, 0), (2, 0, 0), (4, 1, 1), (8, 2, 2), (16, 3, 3), (24, 3, 4), (28, 2, 5), (30, 1, 6)],
  [(1, 0, 0), (2, 0, 0), (4, 1, 1), (8, 2, 2), (16, 3, 3), (24, 3, 4), (28, 2, 5), (29, 0, 6), (30, 0, 7)],
  [(1, 0, 0), (2, 0, 0), (4, 1, 1), (8, 2, 2), (10, 1, 3), (20, 4, 4), (30, 4, 5)]]
def zTabB : List (List (List (Nat × Nat × Nat))) := [zTabB0, zTabB1, zTabB2, zTabB3, zTabB4, zTabB5, zTabB6, zTabB7, zTabB8, zTabB9, zTabB10, zTabB11, zTabB12, zTabB13, zTabB14, zTabB15, zTabB16, zTabB17, zTabB18, zTabB19, zTabB20, zTabB21, zTabB22, zTabB23, zTabB24, zTabB25, zTabB26, zTabB27, zTabB28, zTabB29]
theorem zTabF_ok : ∀ g, g < 100 → zChk (g + 1) (g + 1) (zTabF.getD g []) = true := by decide +kernel
theorem zTabB_ok : ∀ g, g < 30 → ∀ l, l < 30 → l ≤ g → zChk (l + 1) (g + 1) ((zTabB.getD g []).getD l []) = true := by decide +kernel
theorem RT.chains {M : zMn} {T : zMd} (h : RT M T) {S' : zCh} (hS : S' 0 = 1) : RT (mn_set_chains M S') T := by
  obtain ⟨h1, h2, h3, h4, h5, -⟩ := h
  exact ⟨h1, h2, h3, h4, h5, hS⟩
theorem fewest_both {M : zMn} {T : zMd} (h : RT M T) {n : Nat} (h1 : 1 ≤ n) (hn : n ≤ 100) : ∃ (N : Nat) (b : Nat → Nat) (S' : zCh) (T' : zMd), N ≤ 12 ∧ fX0_shortest (mn_chains M) 1 (nI n) = some (nI N, S') ∧ fX8_shortest T (nI n) (nI n) = some (nI N, T') ∧ (∀ j, j < N → S' j = nI (b j) ∧ md_tried T' j = nI (b j)) ∧ RT (mn_set_chains M S') T' := by
  have hS : mn_chains M 0 = 1 := h.2.2.2.2.2
  have hc := zChk_ok (zTabF_ok (n - 1) (by omega))
  rw [show n - 1 + 1 = n from by omega] at hc
  obtain ⟨N, b, S', F, a1, a2, a3, a4, a5⟩ := short_both (goal := n) (y := n) (bn := 1) h1 hn (Nat.le_refl _) h1 (by omega) (fun l x l1 x1 => by
    rw [if_pos l1]
    exact ⟨fun _ => x1, fun _ => Or.inr x1⟩) ⟨_, _, hc⟩ hS T
  exact ⟨N, b, S', _, a1, a2, a3, a4, ((((h.wanted _).goal _).tried F).chains a5)⟩
theorem sim_fewest : zSim_fewest RT := by
  intro M T p h
  unfold fX7_fewest fX8_fewest
  have e0 : fX8_bound p 1 100 = fX7_outside p 1 100 := rfl
  rw [e0]
  rcases outside_3 p 1 100 (by omega) (by omega) with e | e | ⟨e, n, n1, n2, rfl⟩
  · have e' : fX7_outside p 1 100 = -4 := e
    rw [e', if_neg (by decide), if_neg (by decide)]
    obtain ⟨M', T', x, y, z⟩ := refuse_4 h
    exact ⟨-4, M', T', by rw [x]; rfl, by rw [y]; rfl, z⟩
  · have e' : fX7_outside p 1 100 = -6 := e
    rw [e', if_neg (by decide), if_neg (by decide)]
    obtain ⟨M', T', x, y, z⟩ := refuse_6 h
    exact ⟨-6, M', T', by rw [x]; rfl, by rw [y]; rfl, z⟩
  · have e' : fX7_outside (nI n) 1 100 = 0 := e
    obtain ⟨N, b, S', T', a1, a2, a3, a4, a5⟩ := fewest_both h n1 n2
    rw [e', if_pos rfl, if_pos rfl, a2, a3]
    exact ⟨nI N, _, T', rfl, rfl, a5⟩
theorem sim_chain : zSim_chain RT := by
  intro M T p q h
  unfold fX7_chain fX8_chain
  have R4 : ∃ r M' T', ((fX7_refuse M (-4)).bind fun u8 => some (u8.1, u8.2)) = some (r, M') ∧ fX8_chain_j26 p q (-4) T = some (r, T') ∧ RT M' T' := by
    obtain ⟨M', T', x, y, z⟩ := refuse_4 h
    refine ⟨-4, M', T', by rw [x]; rfl, ?_, z⟩
    unfold fX8_chain_j26
    rw [if_neg (by decide), y]; rfl
  unfold fX8_chain_j9
  by_cases g : (0 : Int32) ≤ q
  · rw [if_pos g, if_pos g]
    rcases outside_3 p 1 100 (by omega) (by omega) with e | e | ⟨e, n, n1, n2, rfl⟩
    · have e' : fX7_outside p 1 100 = -4 := e
      have hp : p < 1 := by
        unfold fX7_outside at e'
        by_cases z : (1 : Int32) ≤ p
        · rw [if_pos z] at e'
          by_cases z2 : p ≤ 100
          · rw [if_pos z2] at e'; exact absurd e' (by decide)
          · rw [if_neg z2] at e'; exact absurd e' (by decide)
        · exact Int32.not_le.mp z
      rw [e', if_neg (by decide), if_pos hp]
      exact R4
    · have e' : fX7_outside p 1 100 = -6 := e
      have hp : ¬ p < 1 ∧ ¬ p ≤ 100 := by
        unfold fX7_outside at e'
        by_cases z : (1 : Int32) ≤ p
        · rw [if_pos z] at e'
          by_cases z2 : p ≤ 100
          · rw [if_pos z2] at e'; exact absurd e' (by decide)
          · exact ⟨Int32.not_lt.mpr z, z2⟩
        · rw [if_neg z] at e'; exact absurd e' (by decide)
      rw [e', if_neg (by decide), if_neg hp.1, if_neg hp.2]
      obtain ⟨M', T', x, y, z⟩ := refuse_6 h
      refine ⟨-6, M', T', by rw [x]; rfl, ?_, z⟩
      unfold fX8_chain_j26
      rw [if_neg (by decide), y]; rfl
    · have e' : fX7_outside (nI n) 1 100 = 0 := e
      obtain ⟨N, b, S', T', a1, a2, a3, a4, a5⟩ := fewest_both h n1 n2
      obtain ⟨i, hi, rfl⟩ := nI_of (Int32.not_lt.mpr g)
      rw [e', if_pos rfl, if_neg (show ¬ nI n < (1 : Int32) from nI_nlt (b := 1) n1 (by omega)), if_pos (show nI n ≤ (100 : Int32) from nI_le (b := 100) n2 (by omega)), a2]
      unfold fX8_chain_j26
      rw [if_pos rfl, a3]
      repeat rw [Option.bind_some]
      by_cases z : N ≤ i
      · rw [if_pos (nI_le z hi), if_pos (nI_le z hi)]
        exact ⟨-9, _, T', rfl, rfl, a5⟩
      · rw [if_neg (nI_ge (by omega) (by omega)), if_neg (nI_ge (by omega) (by omega))]
        have en : fX0_numberAt S' (nI i) = some (nI (b i)) := by
          unfold fX0_numberAt
          rw [if_neg (nI_pos (by omega)), if_neg (show ¬ (12 : Int32) ≤ nI i from nI_ge (b := 12) (by omega) (by omega)), ix_nI (by omega) (by omega), nI_clamp (by omega)]
          exact congrArg some (a4 i (by omega)).1
        refine ⟨nI (b i), mn_set_chains M S', T', ?_, ?_, a5⟩
        · rw [en]; rfl
        · rw [ix_nI (by omega) (by omega), nI_clamp (by omega), (a4 i (by omega)).2]
  · rw [if_neg g, if_neg g]
    by_cases z : p < 1
    · rw [if_pos z]; exact R4
    · rw [if_neg z]; exact R4
theorem both_both {M : zMn} {T : zMd} (h : RT M T) {l n : Nat} (h1 : 1 ≤ l) (hl : l ≤ n) (hn : n ≤ 30) : ∃ (N : Nat) (S' : zCh) (T' : zMd), fX0_shortest (mn_chains M) (nI l) (nI n) = some (nI N, S') ∧ fX8_shortest T (nI l) (nI n) = some (nI N, T') ∧ RT (mn_set_chains M S') T' := by
  have hS : mn_chains M 0 = 1 := h.2.2.2.2.2
  have hc := zChk_ok (zTabB_ok (n - 1) (by omega) (l - 1) (by omega) (by omega))
  rw [show n - 1 + 1 = n from by omega, show l - 1 + 1 = l from by omega] at hc
  obtain ⟨N, b, S', F, a1, a2, a3, a4, a5⟩ := short_both (goal := n) (y := l) (bn := l) (by omega) (by omega) h1 hl (by omega) (fun k x l1 x1 => by
    by_cases z : l ≤ k
    · rw [if_pos z]
      exact ⟨fun _ => x1, fun _ => Or.inl z⟩
    · rw [if_neg z]
      exact ⟨fun q => q.resolve_left z, fun q => Or.inr q⟩) ⟨_, _, hc⟩ hS T
  exact ⟨N, S', _, a2, a3, ((((h.wanted _).goal _).tried F).chains a5)⟩
theorem i1_toInt : (1 : Int32).toInt = 1 := by decide
theorem i30_toInt : (30 : Int32).toInt = 30 := by decide
theorem sim_both : zSim_both RT := by
  intro M T p q h
  unfold fX7_both fX8_both
  have i1 := i1_toInt
  have i30 := i30_toInt
  obtain ⟨lo, elo⟩ : ∃ lo, lo = if q < p then q else p := ⟨_, rfl⟩
  obtain ⟨hi, ehi⟩ : ∃ hi, hi = if p < q then q else p := ⟨_, rfl⟩
  rw [← elo, ← ehi]
  have hlo : (lo = q ∧ q.toInt < p.toInt) ∨ (lo = p ∧ p.toInt ≤ q.toInt) := by
    rw [elo]
    by_cases z : q < p
    · rw [if_pos z]; exact Or.inl ⟨rfl, Int32.lt_iff_toInt_lt.mp z⟩
    · rw [if_neg z]; exact Or.inr ⟨rfl, Int32.le_iff_toInt_le.mp (Int32.not_lt.mp z)⟩
  have hhi : (hi = q ∧ p.toInt < q.toInt) ∨ (hi = p ∧ q.toInt ≤ p.toInt) := by
    rw [ehi]
    by_cases z : p < q
    · rw [if_pos z]; exact Or.inl ⟨rfl, Int32.lt_iff_toInt_lt.mp z⟩
    · rw [if_neg z]; exact Or.inr ⟨rfl, Int32.le_iff_toInt_le.mp (Int32.not_lt.mp z)⟩
  have R4 : ∃ r M' T', fX7_both_j31 lo hi (-4) M = some (r, M') ∧ fX8_both_j33 p q (-4) T = some (r, T') ∧ RT M' T' := by
    obtain ⟨M', T', x, y, z⟩ := refuse_4 h
    refine ⟨-4, M', T', ?_, ?_, z⟩
    · unfold fX7_both_j31
      rw [if_neg (by decide), x]; rfl
    · unfold fX8_both_j33
      rw [if_neg (by decide), y]; rfl
  have R6 : ∃ r M' T', fX7_both_j31 lo hi (-6) M = some (r, M') ∧ fX8_both_j33 p q (-6) T = some (r, T') ∧ RT M' T' := by
    obtain ⟨M', T', x, y, z⟩ := refuse_6 h
    refine ⟨-6, M', T', ?_, ?_, z⟩
    · unfold fX7_both_j31
      rw [if_neg (by decide), x]; rfl
    · unfold fX8_both_j33
      rw [if_neg (by decide), y]; rfl
  unfold fX8_both_j10 fX8_both_j27
  by_cases c1 : p < 1
  · have t1 := Int32.lt_iff_toInt_lt.mp c1
    have : ¬ (1 : Int32) ≤ lo := fun z => by
      have := Int32.le_iff_toInt_le.mp z
      rcases hlo with ⟨e, x⟩ | ⟨e, x⟩ <;> rw [e] at this <;> omega
    rw [if_pos c1, if_neg this]
    exact R4
  have t1 : ¬ p.toInt < 1 := fun z => c1 (Int32.lt_iff_toInt_lt.mpr (by rw [i1]; exact z))
  rw [if_neg c1]
  by_cases c2 : (1 : Int32) ≤ q
  · have t2 := Int32.le_iff_toInt_le.mp c2
    rw [i1] at t2
    have hl1 : (1 : Int32) ≤ lo := by
      rw [Int32.le_iff_toInt_le, i1]
      rcases hlo with ⟨e, x⟩ | ⟨e, x⟩ <;> rw [e] <;> omega
    rw [if_pos c2, if_pos hl1]
    have h1hi : (1 : Int32) ≤ hi := by
      rw [Int32.le_iff_toInt_le, i1]
      rcases hhi with ⟨e, x⟩ | ⟨e, x⟩ <;> rw [e] <;> omega
    by_cases c3 : (30 : Int32) < p
    · have t3 := Int32.lt_iff_toInt_lt.mp c3
      rw [i30] at t3
      have eo : fX7_outside hi 1 30 = -6 := by
        unfold fX7_outside
        rw [if_pos h1hi, if_neg]
        intro z
        have := Int32.le_iff_toInt_le.mp z
        rw [i30] at this
        rcases hhi with ⟨e, x⟩ | ⟨e, x⟩ <;> rw [e] at this <;> omega
      rw [eo, if_pos c3]
      exact R6
    · have t3 : ¬ 30 < p.toInt := fun z => c3 (Int32.lt_iff_toInt_lt.mpr (by rw [i30]; exact z))
      rw [if_neg c3]
      by_cases c4 : q ≤ 30
      · have t4 := Int32.le_iff_toInt_le.mp c4
        rw [i30] at t4
        have eo : fX7_outside hi 1 30 = 0 := by
          unfold fX7_outside
          rw [if_pos h1hi, if_pos]
          rw [Int32.le_iff_toInt_le, i30]
          rcases hhi with ⟨e, x⟩ | ⟨e, x⟩ <;> rw [e] <;> omega
        rw [eo, if_pos c4]
        obtain ⟨a, ha, rfl⟩ : ∃ a : Nat, (1 ≤ a ∧ a ≤ 30) ∧ p = nI a := ⟨p.toInt.toNat, by omega, Int32.toInt_inj.mp (by rw [nI_toInt (by omega)]; omega)⟩
        obtain ⟨b, hb, rfl⟩ : ∃ b : Nat, (1 ≤ b ∧ b ≤ 30) ∧ q = nI b := ⟨q.toInt.toNat, by omega, Int32.toInt_inj.mp (by rw [nI_toInt (by omega)]; omega)⟩
        unfold fX7_both_j31 fX8_both_j33
        rw [if_pos rfl, if_pos rfl]
        by_cases z : b ≤ a
        · have e1 : lo = nI b := by
            rw [elo]
            by_cases z2 : b < a
            · rw [if_pos (nI_lt z2 (by omega))]
            · rw [if_neg (nI_nlt (by omega) (by omega)), show a = b from by omega]
          have e2 : hi = nI a := by
            rw [ehi, if_neg (nI_nlt z (by omega))]
          obtain ⟨N, S', T', s1, s2, s3⟩ := both_both h hb.1 z ha.2
          rw [e1, e2, if_pos (nI_le z (by omega)), s1, s2]
          exact ⟨nI N, _, T', rfl, rfl, s3⟩
        · have e1 : lo = nI a := by
            rw [elo, if_neg (nI_nlt (by omega) (by omega))]
          have e2 : hi = nI b := by
            rw [ehi, if_pos (nI_lt (by omega) (by omega))]
          obtain ⟨N, S', T', s1, s2, s3⟩ := both_both h ha.1 (show a ≤ b from by omega) hb.2
          rw [e1, e2, if_neg (nI_ge (by omega) (by omega)), s1, s2]
          exact ⟨nI N, _, T', rfl, rfl, s3⟩
      · have t4 : ¬ q.toInt ≤ 30 := fun z => c4 (Int32.le_iff_toInt_le.mpr (by rw [i30]; exact z))
        have eo : fX7_outside hi 1 30 = -6 := by
          unfold fX7_outside
          rw [if_pos h1hi, if_neg]
          intro z
          have := Int32.le_iff_toInt_le.mp z
          rw [i30] at this
          rcases hhi with ⟨e, x⟩ | ⟨e, x⟩ <;> rw [e] at this <;> omega
        rw [eo, if_neg c4]
        exact R6
  · have t2 : ¬ 1 ≤ q.toInt := fun z => c2 (Int32.le_iff_toInt_le.mpr (by rw [i1]; exact z))
    have : ¬ (1 : Int32) ≤ lo := fun z => by
      have := Int32.le_iff_toInt_le.mp z
      rw [i1] at this
      rcases hlo with ⟨e, x⟩ | ⟨e, x⟩ <;> rw [e] at this <;> omega
    rw [if_neg c2, if_neg this]
    exact R4

end
section
/-! how many can be had: what is within reach -/
def zRe (k x : Nat) : Prop := ∃ m c, 1 ≤ m ∧ m ≤ k ∧ zVal c m ∧ c (m - 1) = x
def zMk (k : Nat) : Nat := [0, 2, 6, 30, 382, 71678, 4313317374, 18447026748592750590].getD k 0
def zEn (mk : Nat) : Nat → List Nat → Bool
  | 0, l => mk.testBit (l.headD 0)
  | d + 1, l => mk.testBit (l.headD 0) && (List.range (l.headD 0)).all (fun i => (!(l.any fun a => l.any fun b => a + b == l.headD 0 + 1 + i)) || zEn mk d ((l.headD 0 + 1 + i) :: l))
theorem zEn_ok (mk : Nat) {m : Nat} {c : Nat → Nat} (hv : zVal c m) : ∀ d (l : List Nat) p, zEn mk d l = true → (∀ i, i < p → c i ∈ l) → l.headD 0 = c (p - 1) → 1 ≤ p → p ≤ m → m ≤ p + d → mk.testBit (c (m - 1)) = true := by
  intro d
  induction d with
  | zero =>
    intro l p h hl hh h1 hp hm
    rw [zEn, hh] at h
    rw [show m = p from by omega]
    exact h
  | succ d ih =>
    intro l p h hl hh h1 hp hm
    rw [zEn, Bool.and_eq_true, List.all_eq_true, hh] at h
    by_cases q : m = p
    · rw [q]; exact h.1
    · obtain ⟨a1, j, k, a2, a3, a4⟩ := hv.2 p h1 (by omega)
      have a5 := hv.dbl (i := p) h1 (by omega)
      have h2 := h.2 (c p - c (p - 1) - 1) (List.mem_range.mpr (by omega))
      rw [show c (p - 1) + 1 + (c p - c (p - 1) - 1) = c p from by omega, Bool.or_eq_true] at h2
      rcases h2 with z | z
      · exfalso
        have : (l.any fun a => l.any fun b => a + b == c p) = true := by
          rw [List.any_eq_true]
          refine ⟨c j, hl j (by omega), ?_⟩
          rw [List.any_eq_true]
          exact ⟨c k, hl k a3, by rw [a4]; exact beq_self_eq_true _⟩
        rw [this] at z
        cases z
      · refine ih (c p :: l) (p + 1) z (fun i hi => ?_) rfl (by omega) (by omega) (by omega)
        by_cases y : i = p
        · rw [y]; exact List.mem_cons_self
        · exact List.mem_cons_of_mem _ (hl i (by omega))
theorem zMk_all : ∀ k, k < 8 → 1 ≤ k → zEn (zMk k) (k - 1) [1] = true := by decide +kernel
theorem zMk_in : ∀ k, k < 8 → ∀ x, x < 66 → (zMk k).testBit x = true → 1 ≤ x ∧ (zTabF.getD (x - 1) []).length ≤ k := by decide +kernel
theorem zRe_iff {k x : Nat} (h1 : 1 ≤ k) (hk : k ≤ 7) (hx : x < 66) : zRe k x ↔ (zMk k).testBit x = true := by
  constructor
  · rintro ⟨m, c, m1, m2, m3, rfl⟩
    exact zEn_ok (zMk k) m3 (k - 1) [1] 1 (zMk_all k (by omega) h1) (fun i hi => by
      rw [show i = 0 from by omega, m3.1]; exact List.mem_cons_self) m3.1.symm (Nat.le_refl _) m1 (by omega)
  · intro h
    obtain ⟨x1, x2⟩ := zMk_in k (by omega) x hx h
    have hc := zChk_ok (zTabF_ok (x - 1) (by omega))
    exact ⟨_, _, hc.1, x2, hc.2.2.1, by rw [hc.2.2.2.2]; omega⟩
/-! the class's bits -/
def zLb (M : Int64) (q : Nat) : Bool := M.toBitVec.getLsbD q
theorem zLb_or (A B : Int64) (q : Nat) : zLb (A ||| B) q = (zLb A q || zLb B q) := by
  unfold zLb
  rw [Int64.toBitVec_or, BitVec.getLsbD_or]
theorem zLb_one' : ∀ x, x < 64 → ((1 : Int64) <<< ((nI (x + 1) - 1).toInt64 &&& 63)).toBitVec = BitVec.ofNat 64 (2 ^ x) := by decide +kernel
theorem zLb_one {x q : Nat} (h1 : 1 ≤ x) (hx : x ≤ 64) (hq : q < 64) : zLb ((1 : Int64) <<< ((nI x - 1).toInt64 &&& 63)) q = true ↔ q + 1 = x := by
  obtain ⟨x, rfl⟩ : ∃ k', x = k' + 1 := ⟨x - 1, by omega⟩
  unfold zLb
  rw [zLb_one' x (by omega), BitVec.getLsbD_ofNat, Nat.testBit_two_pow, Bool.and_eq_true, decide_eq_true_eq, decide_eq_true_eq]
  omega
theorem reached_l {n : Nat} (hn : n ≤ 7) : ∀ d p D (e : Nat → Nat) (a : Nat → Int32), p + d = n → 1 ≤ p → d < D → (∀ i, i < p → a i = nI (e i)) → zVal e p →
    ∃ M a', fX0_reached D a (nI p) (nI n) = some (M, a') ∧ (∀ i, i < p → a' i = nI (e i)) ∧ ∀ q, q < 64 → (zLb M q = true ↔ ∃ m c, p ≤ m ∧ m ≤ n ∧ zVal c m ∧ zAg c e p ∧ c (m - 1) = q + 1) := by
  intro d
  induction d with
  | zero =>
    intro p D e a hp h1 hD ha hv
    obtain ⟨D, rfl⟩ : ∃ k', D = k' + 1 := ⟨D - 1, by omega⟩
    have e1 : nI p - 1 = nI (p - 1) := pk_sub (b := 1) h1
    have l1 := hv.one (i := p - 1) (by omega)
    have l2 : e (p - 1) ≤ 64 := Nat.le_trans (hv.pow (by omega)) (show 2 ^ (p - 1) ≤ 2 ^ 6 from Nat.pow_le_pow_right (by omega) (by omega))
    rw [fX0_reached]
    unfold fX0_reached_e
    rw [if_neg (show ¬ nI p < (1 : Int32) from nI_nlt (b := 1) h1 (by omega)), if_pos (show nI p ≤ (12 : Int32) from nI_le (b := 12) (by omega) (by omega)), e1, ix_nI (by omega) (by omega), nI_clamp (by omega), ha _ (by omega), if_pos (nI_le (by omega) (by omega))]
    refine ⟨_, a, rfl, ha, fun q hq => ?_⟩
    rw [zLb_one l1 l2 hq]
    constructor
    · intro z
      exact ⟨p, e, Nat.le_refl _, by omega, hv, fun i _ => rfl, z.symm⟩
    · rintro ⟨m, c, m1, m2, m3, m4, m5⟩
      rw [show m = p from by omega, m4 _ (by omega)] at m5
      exact m5.symm
  | succ d ih =>
    intro p D e a hp h1 hD ha hv
    obtain ⟨D, rfl⟩ : ∃ k', D = k' + 1 := ⟨D - 1, by omega⟩
    have e1 : nI p - 1 = nI (p - 1) := pk_sub (b := 1) h1
    have l1 := hv.one (i := p - 1) (by omega)
    have l2 : e (p - 1) ≤ 64 := Nat.le_trans (hv.pow (by omega)) (show 2 ^ (p - 1) ≤ 2 ^ 6 from Nat.pow_le_pow_right (by omega) (by omega))
    have scan : ∀ k x f (V : Int64) (S : Nat → Int32), 2 * e (p - 1) + 1 - x = k → k < f → e (p - 1) < x → x ≤ 2 * e (p - 1) + 1 → (∀ i, i < p → S i = nI (e i)) →
        (∀ q, q < 64 → (zLb V q = true ↔ q + 1 = e (p - 1) ∨ ∃ m c, p + 1 ≤ m ∧ m ≤ n ∧ zVal c m ∧ zAg c e p ∧ c p < x ∧ c (m - 1) = q + 1)) →
        ∃ M a', fX0_reached_l45 (fX0_reached D) (nI p) (nI n) (nI (e (p - 1))) f V (nI x) S = some (M, a') ∧ (∀ i, i < p → a' i = nI (e i)) ∧ ∀ q, q < 64 → (zLb M q = true ↔ ∃ m c, p ≤ m ∧ m ≤ n ∧ zVal c m ∧ zAg c e p ∧ c (m - 1) = q + 1) := by
      intro k
      induction k with
      | zero =>
        intro x f V S hk hf hx hx2 hS hV
        obtain ⟨f, rfl⟩ : ∃ k', f = k' + 1 := ⟨f - 1, by omega⟩
        refine ⟨V, S, ?_, hS, fun q hq => ?_⟩
        · rw [fX0_reached_l45, show (2 : Int32) * nI (e (p - 1)) = nI (2 * e (p - 1)) from pk_mul 2 _, if_pos (nI_lt (by omega) (by omega))]
        · rw [hV q hq]
          constructor
          · rintro (z | ⟨m, c, m1, m2, m3, m4, m5, m6⟩)
            · exact ⟨p, e, Nat.le_refl _, by omega, hv, fun i _ => rfl, z.symm⟩
            · exact ⟨m, c, by omega, m2, m3, m4, m6⟩
          · rintro ⟨m, c, m1, m2, m3, m4, m5⟩
            by_cases z : m = p
            · rw [z, m4 _ (by omega)] at m5
              exact Or.inl m5.symm
            · have := m3.dbl (i := p) h1 (by omega)
              rw [m4 (p - 1) (by omega)] at this
              exact Or.inr ⟨m, c, by omega, m2, m3, m4, by omega, m5⟩
      | succ k ihk =>
        intro x f V S hk hf hx hx2 hS hV
        obtain ⟨f, rfl⟩ : ∃ k', f = k' + 1 := ⟨f - 1, by omega⟩
        rw [fX0_reached_l45, show (2 : Int32) * nI (e (p - 1)) = nI (2 * e (p - 1)) from pk_mul 2 _, if_neg (nI_nlt (by omega) (by omega))]
        rcases isSumC (p := p) (x := x) (by omega) hS (fun i j h1 h2 => hv.mono' h1 h2) (fun i hi => by have := hv.mono (i := i) (j := p - 1) (by omega) (by omega); omega) (by omega) with ⟨s1, s2⟩ | ⟨s1, s2⟩
        · have hw := hv.put h1 hx s1
          obtain ⟨M2, a2, r1, r2, r3⟩ := ih (p + 1) D (zput1 e p x) (upd S p (nI x)) (by omega) (by omega) (by omega) (upd_pre hS) hw
          rw [s2]
          rw [Option.bind_some]
          rw [if_neg (show ¬ (1 : Int32) = 0 from by decide), ix_nI (by omega) (by omega), nI_clamp (by omega), nI_1, nI_1, r1]
          rw [Option.bind_some]
          refine ihk (x + 1) f (V ||| M2) a2 (by omega) (by omega) (by omega) (by omega) (fun i hi => by rw [r2 i (by omega), ← zput1_ag e p x i hi]) (fun q hq => ?_)
          rw [zLb_or, Bool.or_eq_true, hV q hq, r3 q hq]
          constructor
          · rintro ((z | ⟨m, c, m1, m2, m3, m4, m5, m6⟩) | ⟨m, c, m1, m2, m3, m4, m5⟩)
            · exact Or.inl z
            · exact Or.inr ⟨m, c, m1, m2, m3, m4, by omega, m6⟩
            · have ep := m4 p (by omega)
              rw [zput1_at] at ep
              exact Or.inr ⟨m, c, m1, m2, m3, fun i hi => by rw [m4 i (by omega), ← zput1_ag e p x i hi], by omega, m5⟩
          · rintro (z | ⟨m, c, m1, m2, m3, m4, m5, m6⟩)
            · exact Or.inl (Or.inl z)
            · by_cases z : c p = x
              · refine Or.inr ⟨m, c, m1, m2, m3, fun i hi => ?_, m6⟩
                by_cases y : i = p
                · rw [y, zput1_at]; exact z
                · rw [m4 i (by omega), zput1_ag e p x i (by omega)]
              · exact Or.inl (Or.inr ⟨m, c, m1, m2, m3, m4, by omega, m6⟩)
        · rw [s2]
          rw [Option.bind_some]
          rw [if_pos (show (0 : Int32) = 0 from rfl), nI_1]
          refine ihk (x + 1) f V S (by omega) (by omega) (by omega) (by omega) hS (fun q hq => ?_)
          rw [hV q hq]
          constructor
          · rintro (z | ⟨m, c, m1, m2, m3, m4, m5, m6⟩)
            · exact Or.inl z
            · exact Or.inr ⟨m, c, m1, m2, m3, m4, by omega, m6⟩
          · rintro (z | ⟨m, c, m1, m2, m3, m4, m5, m6⟩)
            · exact Or.inl z
            · by_cases z : c p = x
              · exfalso
                have := (m3.2 p h1 (by omega)).2
                rw [z] at this
                exact s1 (this.ag m4)
              · exact Or.inr ⟨m, c, m1, m2, m3, m4, by omega, m6⟩
    obtain ⟨M, a', r1, r2, r3⟩ := scan (2 * e (p - 1) + 1 - (e (p - 1) + 1)) (e (p - 1) + 1) FU ((1 : Int64) <<< ((nI (e (p - 1)) - 1).toInt64 &&& 63)) a rfl (FU_big _ (by omega)) (by omega) (by omega) ha (fun q hq => by
      rw [zLb_one l1 l2 hq]
      constructor
      · intro z; exact Or.inl z
      · rintro (z | ⟨m, c, m1, m2, m3, m4, m5, m6⟩)
        · exact z
        · have := (m3.2 p h1 (by omega)).1
          rw [m4 (p - 1) (by omega)] at this
          omega)
    refine ⟨M, a', ?_, r2, r3⟩
    rw [fX0_reached]
    unfold fX0_reached_e
    rw [if_neg (show ¬ nI p < (1 : Int32) from nI_nlt (b := 1) h1 (by omega)), if_pos (show nI p ≤ (12 : Int32) from nI_le (b := 12) (by omega) (by omega)), e1, ix_nI (by omega) (by omega), nI_clamp (by omega), ha _ (by omega), if_neg (nI_ge (by omega) (by omega)), if_pos (show nI p < (12 : Int32) from nI_lt (b := 12) (by omega) (by omega)), nI_1]
    exact r1
theorem reachable_eq {S : zCh} (hS : S 0 = 1) {k : Nat} (h1 : 1 ≤ k) (hk : k ≤ 7) : ∃ S' : zCh, fX0_reachable S (nI k) = some (Int64.ofBitVec (BitVec.ofNat 64 (zMk k / 2)), S') ∧ S' 0 = 1 := by
  obtain ⟨M, a', r1, r2, r3⟩ := reached_l (n := k) hk (k - 1) 1 14 (fun _ => 1) S (by omega) (Nat.le_refl _) (by omega) (fun i hi => by
    rw [show i = 0 from by omega, hS]; rfl) zVal_one
  have eM : M = Int64.ofBitVec (BitVec.ofNat 64 (zMk k / 2)) := by
    apply Int64.toBitVec_inj.mp
    apply BitVec.eq_of_getLsbD_eq
    intro q hq
    have h3 := r3 q hq
    have h4 : (zMk k).testBit (q + 1) = true ↔ zLb M q = true := by
      rw [h3, ← zRe_iff h1 hk (by omega)]
      constructor
      · rintro ⟨m, c, m1, m2, m3, m4⟩
        exact ⟨m, c, m1, m2, m3, fun i hi => by rw [show i = 0 from by omega]; exact m3.1, m4⟩
      · rintro ⟨m, c, m1, m2, m3, -, m4⟩
        exact ⟨m, c, m1, m2, m3, m4⟩
    show zLb M q = (BitVec.ofNat 64 (zMk k / 2)).getLsbD q
    rw [BitVec.getLsbD_ofNat, Nat.testBit_div_two, decide_eq_true hq, Bool.true_and]
    exact Bool.eq_iff_iff.mpr h4.symm
  refine ⟨a', ?_, by rw [r2 0 (by omega)]; rfl⟩
  have r1' : fX0_reached 14 (ch_numbers S) 1 (nI k) = some (M, a') := r1
  unfold fX0_reachable
  rw [if_neg (show ¬ (7 : Int32) < nI k from nI_nlt (a := 7) hk (by omega)), r1', ← eM]
  rfl
/-! the reference, one by one -/
theorem within_l {k x : Nat} (hk : k ≤ 7) (h1x : 1 ≤ x) (hx : x ≤ 65) : ∀ d i f (T : zMd), i + d = k + 1 → d < f → 1 ≤ i → md_goal T = nI x → md_wanted T = nI x → (∀ m, 1 ≤ m → m < i → zFd x x m = none) →
    ∃ F, (zRe k x ∧ fX8_isWithin_l12 (nI k) f (nI i) T = some (1, md_set_tried T F)) ∨ (¬ zRe k x ∧ fX8_isWithin_l12 (nI k) f (nI i) T = some (0, md_set_tried T F)) := by
  intro d
  induction d with
  | zero =>
    intro i f T hi hf h1 hG hW hno
    obtain ⟨f, rfl⟩ : ∃ k', f = k' + 1 := ⟨f - 1, by omega⟩
    refine ⟨md_tried T, Or.inr ⟨?_, ?_⟩⟩
    · rintro ⟨m, c, m1, m2, m3, m4⟩
      have hc : zCn x x m c := ⟨m3, fun i i1 i2 => Or.inr (by
        have := m3.mono (i := i) (j := m - 1) (by omega) (by omega)
        omega), m4⟩
      exact zFd_full m1 hc (hno m m1 (by omega))
    · rw [fX8_isWithin_l12, if_pos (nI_lt (by omega) (by omega))]
      rfl
  | succ d ih =>
    intro i f T hi hf h1 hG hW hno
    obtain ⟨f, rfl⟩ : ∃ k', f = k' + 1 := ⟨f - 1, by omega⟩
    rw [fX8_isWithin_l12, if_neg (nI_nlt (by omega) (by omega))]
    rcases finds_eq T (y := x) (n := i) hG hW h1x (by omega) (by omega) h1 (by omega) with ⟨b, F, r1, r2, r3⟩ | ⟨r1, F, r2⟩
    · rw [r2]
      rw [Option.bind_some]
      rw [if_neg (show ¬ (1 : Int32) = 0 from by decide)]
      have hc := zFd_ok h1 r1
      exact ⟨F, Or.inl ⟨⟨i, b, h1, by omega, hc.1, hc.2.2⟩, rfl⟩⟩
    · rw [r2]
      rw [Option.bind_some]
      rw [if_pos (show (0 : Int32) = 0 from rfl), nI_1]
      obtain ⟨F', h⟩ := ih (i + 1) f (md_set_tried T F) (by omega) (by omega) (by omega) hG hW (fun m m1 m2 => by
        by_cases q : m = i
        · rw [q]; exact r1
        · exact hno m m1 (by omega))
      exact ⟨F', h⟩
def zCt (mk : Nat) : Nat → Nat
  | 0 => 0
  | i + 1 => zCt mk i + (if 1 ≤ i ∧ mk.testBit i = true then 1 else 0)
def zLs (mk : Nat) : Nat → Nat
  | 0 => 0
  | i + 1 => if zLs mk i = 0 ∧ 1 ≤ i ∧ mk.testBit i = false then i else zLs mk i
theorem zCt_le (mk : Nat) : ∀ i, zCt mk i ≤ i := by
  intro i
  induction i with
  | zero => exact Nat.le_refl _
  | succ i ih => rw [zCt]; split <;> omega
theorem zLs_le (mk : Nat) : ∀ i, zLs mk i ≤ i := by
  intro i
  induction i with
  | zero => exact Nat.le_refl _
  | succ i ih => rw [zLs]; split <;> omega
theorem can_l {M : zMn} {k : Nat} (h1 : 1 ≤ k) (hk : k ≤ 7) (v2 : Int32) : ∀ d i f (T : zMd), i + d = 66 → d < f → 1 ≤ i → RT M T → ∃ T', RT M T' ∧ fX8_can_l41 (nI k) v2 f (nI (zCt (zMk k) i)) (nI (zLs (zMk k) i)) (nI i) T = if v2 = 0 then some (nI (zCt (zMk k) 66), T') else some (nI (zLs (zMk k) 66), T') := by
  intro d
  induction d with
  | zero =>
    intro i f T hi hf h1i h
    obtain ⟨f, rfl⟩ : ∃ k', f = k' + 1 := ⟨f - 1, by omega⟩
    rw [show i = 66 from by omega, fX8_can_l41, if_pos (show (65 : Int32) < nI 66 from by decide)]
    exact ⟨T, h, rfl⟩
  | succ d ih =>
    intro i f T hi hf h1i h
    obtain ⟨f, rfl⟩ : ∃ k', f = k' + 1 := ⟨f - 1, by omega⟩
    have c1 := zCt_le (zMk k) i
    have c2 := zLs_le (zMk k) i
    rw [fX8_can_l41, if_neg (show ¬ (65 : Int32) < nI i from nI_nlt (a := 65) (by omega) (by omega))]
    obtain ⟨F, hF⟩ := within_l (k := k) (x := i) hk h1i (by omega) k 1 FU (md_set_goal (md_set_wanted T (nI i)) (nI i)) (by omega) (FU_big _ (by omega)) (Nat.le_refl _) rfl rfl (fun m m1 m2 => by omega)
    have rt : RT M (md_set_tried (md_set_goal (md_set_wanted T (nI i)) (nI i)) F) := ((h.wanted _).goal _).tried F
    rw [zRe_iff h1 hk (by omega)] at hF
    have key : ∀ r : Int32, r = (if (zMk k).testBit i = true then 1 else 0) → ∃ T', RT M T' ∧ fX8_can_j69 (nI k) v2 (nI (zLs (zMk k) i)) (nI i) r (nI (zCt (zMk k) i)) r (md_set_tried (md_set_goal (md_set_wanted T (nI i)) (nI i)) F) (fX8_can_l41 (nI k) v2 f) = if v2 = 0 then some (nI (zCt (zMk k) 66), T') else some (nI (zLs (zMk k) 66), T') := by
      intro r er
      obtain ⟨T', t1, t2⟩ := ih (i + 1) f _ (by omega) (by omega) (by omega) rt
      refine ⟨T', t1, ?_⟩
      rw [← t2]
      unfold fX8_can_j69
      rw [nI_1]
      by_cases b : (zMk k).testBit i = true
      · rw [if_pos b] at er
        have b' : ¬ (zMk k).testBit i = false := by rw [b]; decide
        rw [er, if_neg (show ¬ (1 : Int32) = 0 from by decide), nI_1, zCt, zLs, if_pos ⟨h1i, b⟩, if_neg (fun z => b' z.2.2)]
      · rw [if_neg b] at er
        have b' : (zMk k).testBit i = false := by simpa using b
        have e0 : nI (zCt (zMk k) i) + (0 : Int32) = nI (zCt (zMk k) i) := nI_add _ 0
        rw [er, if_pos (show (0 : Int32) = 0 from rfl), e0, zCt, zLs, if_neg (show ¬ (1 ≤ i ∧ (zMk k).testBit i = true) from fun z => b z.2), show zCt (zMk k) i + 0 = zCt (zMk k) i from rfl]
        by_cases l : zLs (zMk k) i = 0
        · rw [if_pos (show nI (zLs (zMk k) i) = (0 : Int32) from by rw [l]; rfl), if_pos (show zLs (zMk k) i = 0 ∧ 1 ≤ i ∧ (zMk k).testBit i = false from ⟨l, h1i, b'⟩)]
        · rw [if_neg (nI_ne0 (by omega) (by omega)), if_neg (show ¬ (zLs (zMk k) i = 0 ∧ 1 ≤ i ∧ (zMk k).testBit i = false) from fun z => l z.1)]
    have eW : ∀ (r : Int32), fX8_isWithin_l12 (nI k) FU (nI 1) (md_set_goal (md_set_wanted T (nI i)) (nI i)) = some (r, md_set_tried (md_set_goal (md_set_wanted T (nI i)) (nI i)) F) → fX8_isWithin T (nI i) (nI k) = some (r, md_set_tried (md_set_goal (md_set_wanted T (nI i)) (nI i)) F) := fun r z => z
    rcases hF with ⟨b, w⟩ | ⟨b, w⟩
    · rw [eW 1 w]
      rw [Option.bind_some]
      rw [if_neg (show ¬ (1 : Int32) = 0 from by decide)]
      exact key 1 (by rw [if_pos b])
    · rw [eW 0 w]
      rw [Option.bind_some]
      rw [if_pos (show (0 : Int32) = 0 from rfl)]
      exact key 0 (by rw [if_neg b])
theorem can_bits : ∀ k, k < 8 → 1 ≤ k → fJ13_bitCount_95d88 (Int64.ofBitVec (BitVec.ofNat 64 (zMk k / 2))) = nI (zCt (zMk k) 66) ∧ fJ13_numberOfTrailingZeros_95d88 (Int64.ofBitVec (BitVec.ofNat 64 (zMk k / 2)) ^^^ (-1 : Int64)) + 1 = nI (zLs (zMk k) 66) := by decide +kernel
theorem sim_can : zSim_can RT := by
  intro M T p q h
  unfold fX7_can fX8_can
  have R : ∀ t : Int32, (t = -2 ∨ t = -4 ∨ t = -6) → ∃ r M' T', fX7_can_j19 p q t M = some (r, M') ∧ fX8_can_j21 p q t T = some (r, T') ∧ RT M' T' := by
    intro t ht
    unfold fX7_can_j19 fX8_can_j21
    rcases ht with rfl | rfl | rfl
    · rw [if_neg (by decide), if_neg (by decide)]
      obtain ⟨M', T', x, y, e⟩ := refuse_2 h
      exact ⟨-2, M', T', by rw [x]; rfl, by rw [y]; rfl, e⟩
    · rw [if_neg (by decide), if_neg (by decide)]
      obtain ⟨M', T', x, y, e⟩ := refuse_4 h
      exact ⟨-4, M', T', by rw [x]; rfl, by rw [y]; rfl, e⟩
    · rw [if_neg (by decide), if_neg (by decide)]
      obtain ⟨M', T', x, y, e⟩ := refuse_6 h
      exact ⟨-6, M', T', by rw [x]; rfl, by rw [y]; rfl, e⟩
  have e0 : fX8_bound p 1 7 = fX7_outside p 1 7 := rfl
  rcases two_3 q with ⟨t1, t2⟩ | ⟨t1, t2, t3⟩
  · rw [t1, t2, if_pos rfl, if_pos rfl]
    exact R (-2) (Or.inl rfl)
  rw [t1, t2, if_neg (by decide), if_neg (by decide), e0]
  rcases outside_3 p 1 7 (by omega) (by omega) with e | e | ⟨e, k, k1, k2, rfl⟩
  · have e' : fX7_outside p 1 7 = -4 := e
    rw [e']; exact R (-4) (Or.inr (Or.inl rfl))
  · have e' : fX7_outside p 1 7 = -6 := e
    rw [e']; exact R (-6) (Or.inr (Or.inr rfl))
  have e' : fX7_outside (nI k) 1 7 = 0 := e
  rw [e']
  have hS : mn_chains M 0 = 1 := h.2.2.2.2.2
  obtain ⟨S', s1, s2⟩ := reachable_eq hS k1 k2
  obtain ⟨T', u1, u2⟩ := can_l (M := M) k1 k2 q 65 1 FU T (by omega) (FU_big _ (by omega)) (Nat.le_refl _) h
  have u2' : fX8_can_l41 (nI k) q FU 0 0 1 T = if q = 0 then some (nI (zCt (zMk k) 66), T') else some (nI (zLs (zMk k) 66), T') := u2
  obtain ⟨b1, b2⟩ := can_bits k (by omega) k1
  unfold fX7_can_j19 fX8_can_j21
  rw [if_pos (show (0 : Int32) = 0 from rfl), if_pos (show (0 : Int32) = 0 from rfl), s1, u2']
  rw [Option.bind_some]
  by_cases g : q = 0
  · rw [if_pos g, if_pos g]
    exact ⟨_, mn_set_chains M S', T', by rw [b1], rfl, u1.chains s2⟩
  · rw [if_neg g, if_neg g]
    exact ⟨_, mn_set_chains M S', T', by rw [b2], rfl, u1.chains s2⟩

end
section
/-! letters: what a text says -/
def zDg (x : Int32) : Prop := ¬ x < 48 ∧ ¬ (57 : Int32) < x
def zVl (x : Int32) : Nat := x.toNatClampNeg - 48
theorem zDg_val {x : Int32} (h : zDg x) : x = nI (48 + zVl x) ∧ zVl x ≤ 9 := by
  have h1 : ¬ x.toInt < (48 : Int) := fun z => h.1 (Int32.lt_iff_toInt_lt.mpr z)
  have h2 : ¬ (57 : Int) < x.toInt := fun z => h.2 (Int32.lt_iff_toInt_lt.mpr z)
  obtain ⟨j, hj, rfl⟩ : ∃ j : Nat, (48 ≤ j ∧ j ≤ 57) ∧ x = nI j := ⟨x.toInt.toNat, by omega, Int32.toInt_inj.mp (by rw [nI_toInt (by omega)]; omega)⟩
  unfold zVl
  rw [nI_clamp (by omega)]
  exact ⟨by rw [show 48 + (j - 48) = j from by omega], by omega⟩
theorem zDg_c (x : Int32) : (zDg x ∧ fX2_isDigit x = 1 ∧ fX8_isIn x 48 57 = 1) ∨ (¬ zDg x ∧ fX2_isDigit x = 0 ∧ fX8_isIn x 48 57 = 0) := by
  unfold zDg fX2_isDigit fX8_isIn
  by_cases g : x < 48
  · rw [if_pos g]; exact Or.inr ⟨fun z => z.1 g, rfl, rfl⟩
  · rw [if_neg g]
    by_cases g2 : (57 : Int32) < x
    · rw [if_pos g2]; exact Or.inr ⟨fun z => z.2 g2, rfl, rfl⟩
    · rw [if_neg g2]; exact Or.inl ⟨⟨g, g2⟩, rfl, rfl⟩
/-- the text: behind its end there is nothing -/
def zTxt (sg : Nat → Int32) (k : Nat) : Prop := k ≤ 64 ∧ ∀ i, k ≤ i → sg i = -1
def CL (sg : Nat → Int32) (k : Nat) (S : zLt) : Prop := lt_length S = nI k ∧ ∀ i, i < k → lt_all S i = sg i
def ML (sg : Nat → Int32) (k : Nat) (T : zMd) : Prop := md_taped T = nI k ∧ ∀ i, i < k → md_tape T i = sg i
theorem toldL {sg : Nat → Int32} {k i : Nat} {S : zLt} (hx : zTxt sg k) (h : CL sg k S) (ha : lt_at S = nI i) (hi : i ≤ 1000) : fX6_toldAt_L S (lt_at S) = some (sg i) := by
  have := hx.1
  unfold fX6_toldAt_L
  rw [ha, if_neg (nI_pos (by omega)), h.1]
  by_cases q : i < k
  · rw [if_neg (nI_ge q (by omega)), ix_nI (by omega) (by omega), nI_clamp (by omega), h.2 i q]
  · rw [if_pos (nI_le (by omega) (by omega)), hx.2 i (by omega)]
theorem signM {sg : Nat → Int32} {k i : Nat} {T : zMd} (hx : zTxt sg k) (h : ML sg k T) (ha : md_reading T = nI i) (hi : i ≤ 1000) : fX8_sign T = some (sg i) := by
  have := hx.1
  unfold fX8_sign
  rw [ha, h.1]
  by_cases q : i < k
  · rw [if_neg (nI_ge q (by omega)), ix_nI (by omega) (by omega), nI_clamp (by omega), h.2 i q]
  · rw [if_pos (nI_le (by omega) (by omega)), hx.2 i (by omega)]
/-- digits: where they end, and their value -/
noncomputable def zRn (sg : Nat → Int32) : Nat → Nat → Nat → Nat × Nat
  | 0, i, a => (i, a)
  | m + 1, i, a => zIf (zDg (sg i)) (zRn sg m (i + 1) (10 * a + zVl (sg i))) (i, a)
theorem zRn_le (sg : Nat → Int32) : ∀ m i a, i ≤ (zRn sg m i a).1 ∧ (zRn sg m i a).1 ≤ i + m := by
  intro m
  induction m with
  | zero => intro i a; exact ⟨Nat.le_refl _, Nat.le_refl _⟩
  | succ m ih =>
    intro i a
    rw [zRn]
    by_cases q : zDg (sg i)
    · rw [zIf_pos q]
      have := ih (i + 1) (10 * a + zVl (sg i))
      omega
    · rw [zIf_neg q]
      exact ⟨Nat.le_refl _, by omega⟩
theorem zRn_k {sg : Nat → Int32} {k : Nat} (hx : zTxt sg k) : ∀ m i a, i ≤ k → (zRn sg m i a).1 ≤ k := by
  intro m
  induction m with
  | zero => intro i a h; exact h
  | succ m ih =>
    intro i a h
    rw [zRn]
    by_cases q : zDg (sg i)
    · rw [zIf_pos q]
      refine ih (i + 1) _ ?_
      by_cases z : i < k
      · omega
      · rw [hx.2 i (by omega)] at q
        exact absurd (show (-1 : Int32) < 48 from by decide) q.1
    · rw [zIf_neg q]; exact h
theorem zRn_v (sg : Nat → Int32) : ∀ m i a, (zRn sg m i a).2 + 1 ≤ (a + 1) * 10 ^ m := by
  intro m
  induction m with
  | zero => intro i a; rw [zRn, Nat.pow_zero, Nat.mul_one]; exact Nat.le_refl _
  | succ m ih =>
    intro i a
    rw [zRn]
    have p0 : 1 ≤ 10 ^ (m + 1) := by
      have := Nat.pow_le_pow_left (show 1 ≤ 10 from by omega) (m + 1)
      rw [Nat.one_pow] at this
      exact this
    by_cases q : zDg (sg i)
    · rw [zIf_pos q]
      have h := ih (i + 1) (10 * a + zVl (sg i))
      have hv := (zDg_val q).2
      have h2 : (10 * a + zVl (sg i) + 1) * 10 ^ m ≤ (10 * (a + 1)) * 10 ^ m := Nat.mul_le_mul_right _ (by omega)
      rw [Nat.pow_succ, Nat.mul_comm (10 ^ m) 10, ← Nat.mul_assoc, Nat.mul_comm (a + 1) 10]
      omega
    · rw [zIf_neg q]
      exact Nat.le_mul_of_pos_right _ p0
theorem zRn_99 (sg : Nat → Int32) {m : Nat} (hm : m ≤ 2) (i : Nat) : (zRn sg m i 0).2 ≤ 99 := by
  have h := zRn_v sg m i 0
  have h2 : 10 ^ m ≤ 10 ^ 2 := Nat.pow_le_pow_right (by omega) hm
  omega
theorem dig_step (a v : Nat) : (nI a * (10 : Int32) + nI (48 + v)) - 48 = nI (10 * a + v) ∧ ((10 : Int32) * nI a + nI (48 + v)) - 48 = nI (10 * a + v) := by
  have e1 : nI a * (10 : Int32) = nI (a * 10) := pk_mul a 10
  have e2 : (10 : Int32) * nI a = nI (10 * a) := pk_mul 10 a
  have e3 : ∀ b, nI (b + (48 + v)) - 48 = nI (b + v) := fun b => by
    have : nI (b + (48 + v)) - nI 48 = nI (b + (48 + v) - 48) := pk_sub (by omega)
    rw [show b + (48 + v) - 48 = b + v from by omega] at this
    exact this
  rw [e1, e2, nI_add, nI_add, e3, e3, Nat.mul_comm a 10]
  exact ⟨rfl, rfl⟩
def zNf : List Int32 → Nat
  | [] => 0
  | c :: cs => (if c = 104 ∨ c = 100 then 1 else 0) + zNf cs
def zMo (c : Int32) : Nat := if c = 104 then 2 else 1
theorem zMo_le (c : Int32) : zMo c ≤ 2 ∧ 1 ≤ zMo c := by
  unfold zMo
  split <;> omega
/-- the parts of a form: whether they are there, where they end, and the figures -/
noncomputable def zPs (sg : Nat → Int32) : List Int32 → Nat → Bool × Nat × List Nat
  | [], i => (true, i, [])
  | c :: cs, i => if c = 104 ∨ c = 100 then (if (zRn sg (zMo c) i 0).1 = i then (false, i, []) else ((zPs sg cs (zRn sg (zMo c) i 0).1).1, (zPs sg cs (zRn sg (zMo c) i 0).1).2.1, (zRn sg (zMo c) i 0).2 :: (zPs sg cs (zRn sg (zMo c) i 0).1).2.2)) else if sg i = c then zPs sg cs (i + 1) else (false, i, [])
theorem zPs_le {sg : Nat → Int32} {k : Nat} (hx : zTxt sg k) : ∀ cs i, (∀ c, c ∈ cs → c ≠ -1) → i ≤ k → (zPs sg cs i).2.1 ≤ k ∧ ((zPs sg cs i).1 = true → i + cs.length ≤ (zPs sg cs i).2.1) := by
  intro cs
  induction cs with
  | nil => intro i _ hi; exact ⟨hi, fun _ => Nat.le_refl _⟩
  | cons c cs ih =>
    intro i hc hi
    have ih' : ∀ j, j ≤ k → _ := fun j => ih j (fun d hd => hc d (List.mem_cons_of_mem _ hd))
    rw [zPs]
    by_cases q : c = 104 ∨ c = 100
    · rw [if_pos q]
      have l1 := zRn_le sg (zMo c) i 0
      have l2 := zRn_k hx (zMo c) i 0 hi
      by_cases z : (zRn sg (zMo c) i 0).1 = i
      · rw [if_pos z]
        exact ⟨hi, fun y => by cases y⟩
      · rw [if_neg z]
        have h := ih' _ l2
        refine ⟨h.1, fun y => ?_⟩
        have := h.2 y
        rw [List.length_cons]
        show i + (cs.length + 1) ≤ (zPs sg cs (zRn sg (zMo c) i 0).1).2.1
        omega
    · rw [if_neg q]
      by_cases z : sg i = c
      · rw [if_pos z]
        have hik : i < k := by
          by_cases y : i < k
          · exact y
          · exact absurd ((hx.2 i (by omega)).symm.trans z).symm (hc c List.mem_cons_self)
        have h := ih' (i + 1) hik
        refine ⟨h.1, fun y => ?_⟩
        have := h.2 y
        rw [List.length_cons]
        omega
      · rw [if_neg z]
        exact ⟨hi, fun y => by cases y⟩
theorem zPs_v (sg : Nat → Int32) : ∀ cs i q, (zPs sg cs i).2.2.getD q 0 ≤ 99 := by
  intro cs
  induction cs with
  | nil => intro i q; exact Nat.zero_le _
  | cons c cs ih =>
    intro i q
    rw [zPs]
    by_cases g : c = 104 ∨ c = 100
    · rw [if_pos g]
      by_cases z : (zRn sg (zMo c) i 0).1 = i
      · rw [if_pos z]; exact Nat.zero_le _
      · rw [if_neg z]
        cases q with
        | zero => exact zRn_99 sg (zMo_le c).1 i
        | succ q => exact ih _ q
    · rw [if_neg g]
      by_cases z : sg i = c
      · rw [if_pos z]; exact ih _ q
      · rw [if_neg z]; exact Nat.zero_le _
/-! the class reads -/
def CY (S S' : zLt) : Prop := lt_all S' = lt_all S ∧ lt_length S' = lt_length S ∧ lt_verb S' = lt_verb S ∧ lt_statements S' = lt_statements S
theorem CY.rf (S : zLt) : CY S S := ⟨rfl, rfl, rfl, rfl⟩
theorem CY.tr {A B C : zLt} (h : CY A B) (g : CY B C) : CY A C := ⟨g.1.trans h.1, g.2.1.trans h.2.1, g.2.2.1.trans h.2.2.1, g.2.2.2.trans h.2.2.2⟩
theorem CL.cy {sg : Nat → Int32} {k : Nat} {S S' : zLt} (h : CL sg k S) (a : lt_all S' = lt_all S) (b : lt_length S' = lt_length S) : CL sg k S' := ⟨b.trans h.1, fun i hi => by rw [a]; exact h.2 i hi⟩
section LC
variable {sg : Nat → Int32} {k : Nat}
theorem rf_l (hx : zTxt sg k) {M : Nat} (hM : M ≤ 2) : ∀ m i a j f (S : zLt), CL sg k S → lt_at S = nI i → i + m ≤ 900 → j + m = M → m < f →
    ∃ S', fX2_readFigure_l4 (nI M) f (nI a) (nI j) S = fX2_readFigure_j56 (nI (zRn sg m i a).2) (nI (j + ((zRn sg m i a).1 - i))) S' ∧ CY S S' ∧ lt_at S' = nI (zRn sg m i a).1 ∧ lt_figures S' = lt_figures S ∧ lt_figureCount S' = lt_figureCount S := by
  intro m
  induction m with
  | zero =>
    intro i a j f S hC ha hi hj hf
    obtain ⟨f, rfl⟩ : ∃ k', f = k' + 1 := ⟨f - 1, by omega⟩
    refine ⟨S, ?_, CY.rf S, ha, rfl, rfl⟩
    rw [fX2_readFigure_l4, if_pos (nI_le (by omega) (by omega)), zRn, Nat.sub_self, Nat.add_zero]
  | succ m ih =>
    intro i a j f S hC ha hi hj hf
    obtain ⟨f, rfl⟩ : ∃ k', f = k' + 1 := ⟨f - 1, by omega⟩
    rw [fX2_readFigure_l4, if_neg (nI_ge (by omega) (by omega)), toldL hx hC ha (by omega), zRn]
    simp only [Option.bind_some]
    rcases zDg_c (sg i) with ⟨d1, d2, -⟩ | ⟨d1, d2, -⟩
    · obtain ⟨S', s1, s2, s3, s4, s5⟩ := ih (i + 1) (10 * a + zVl (sg i)) (j + 1) f (lt_set_at S (nI (i + 1))) hC rfl (by omega) (by omega) (by omega)
      have l1 := zRn_le sg m (i + 1) (10 * a + zVl (sg i))
      have ev : (nI a * (10 : Int32) + sg i) - 48 = nI (10 * a + zVl (sg i)) := by
        have := (dig_step a (zVl (sg i))).1
        rw [← (zDg_val d1).1] at this
        exact this
      rw [d2, if_neg (show ¬ (1 : Int32) = 0 from by decide), zIf_pos d1, ha, ev, nI_1, nI_1]
      refine ⟨S', ?_, s2, s3, s4, s5⟩
      rw [s1, show j + 1 + ((zRn sg m (i + 1) (10 * a + zVl (sg i))).1 - (i + 1)) = j + ((zRn sg m (i + 1) (10 * a + zVl (sg i))).1 - i) from by omega]
    · rw [d2, if_pos (show (0 : Int32) = 0 from rfl), zIf_neg d1]
      refine ⟨S, ?_, CY.rf S, ha, rfl, rfl⟩
      rw [Nat.sub_self, Nat.add_zero]
theorem rf_eq (hx : zTxt sg k) {M m i : Nat} (hM : M ≤ 2) {S : zLt} (hC : CL sg k S) (ha : lt_at S = nI i) (hi : i ≤ 800) (hm : lt_figureCount S = nI m) (hm4 : m < 4) :
    ∃ S', fX2_readFigure S (nI M) = some (if (zRn sg M i 0).1 = i then 0 else 1, S') ∧ CY S S' ∧ lt_at S' = nI (zRn sg M i 0).1 ∧ lt_figures S' = upd (lt_figures S) m (nI (zRn sg M i 0).2) ∧ lt_figureCount S' = nI (m + 1) := by
  obtain ⟨S', s1, s2, s3, s4, s5⟩ := rf_l hx hM M i 0 0 FU S hC ha (by omega) (by omega) (FU_big _ (by omega))
  have l1 := zRn_le sg M i 0
  refine ⟨lt_set_figureCount (lt_set_figures S' (upd (lt_figures S) m (nI (zRn sg M i 0).2))) (nI (m + 1)), ?_, s2, s3, rfl, rfl⟩
  have e : fX2_readFigure S (nI M) = fX2_readFigure_j56 (nI (zRn sg M i 0).2) (nI (0 + ((zRn sg M i 0).1 - i))) S' := s1
  rw [e]
  unfold fX2_readFigure_j56
  rw [s5, hm, if_neg (show ¬ (4 : Int32) ≤ nI m from nI_ge (b := 4) hm4 (by omega)), ix_nI (by omega) (by omega), nI_clamp (by omega), nI_1, s4]
  unfold fX2_readFigure_j88
  by_cases q : (zRn sg M i 0).1 = i
  · rw [if_pos q, if_pos (show nI (0 + ((zRn sg M i 0).1 - i)) ≤ (0 : Int32) from by rw [q, Nat.sub_self]; decide)]
  · rw [if_neg q, if_neg (nI_nle (by omega) (by omega))]
theorem rp_n (hx : zTxt sg k) {c : Int32} (hc : c = 104 ∨ c = 100) {m i : Nat} {S : zLt} (hC : CL sg k S) (ha : lt_at S = nI i) (hi : i ≤ 800) (hm : lt_figureCount S = nI m) (hm4 : m < 4) :
    ∃ S', fX2_readPart S c = some (if (zRn sg (zMo c) i 0).1 = i then 0 else 1, S') ∧ CY S S' ∧ lt_at S' = nI (zRn sg (zMo c) i 0).1 ∧ lt_figures S' = upd (lt_figures S) m (nI (zRn sg (zMo c) i 0).2) ∧ lt_figureCount S' = nI (m + 1) := by
  obtain ⟨S', s1, s2⟩ := rf_eq hx (zMo_le c).1 hC ha hi hm hm4
  refine ⟨S', ?_, s2⟩
  have hb : ∀ (P : Prop) [Decidable P], ((if P then (0 : Int32) else 1) &&& 1) = (if P then (0 : Int32) else 1) := fun P _ => by
    by_cases z : P
    · rw [if_pos z]; rfl
    · rw [if_neg z]; rfl
  unfold fX2_readPart
  rcases hc with rfl | rfl
  · have s1' : fX2_readFigure S 2 = some (if (zRn sg (zMo 104) i 0).1 = i then 0 else 1, S') := s1
    rw [if_pos rfl, s1']
    rw [Option.bind_some]
    exact if_pos (hb _)
  · have s1' : fX2_readFigure S 1 = some (if (zRn sg (zMo 100) i 0).1 = i then 0 else 1, S') := s1
    rw [if_neg (show ¬ (100 : Int32) = 104 from by decide), if_pos rfl, s1']
    rw [Option.bind_some]
    exact if_pos (hb _)
theorem rp_s (hx : zTxt sg k) {c : Int32} (hc : ¬ (c = 104 ∨ c = 100)) {i : Nat} {S : zLt} (hC : CL sg k S) (ha : lt_at S = nI i) (hi : i ≤ 800) :
    fX2_readPart S c = if sg i = c then some (1, lt_set_at S (nI (i + 1))) else some (0, S) := by
  unfold fX2_readPart
  rw [if_neg (fun z => hc (Or.inl z)), if_neg (fun z => hc (Or.inr z)), toldL hx hC ha (by omega)]
  rw [Option.bind_some]
  rw [ha, nI_1]
theorem drop_c {l : List Int32} {j : Nat} {c : Int32} {cs : List Int32} (h : l.drop j = c :: cs) : j < l.length ∧ l.getD j 0 = c ∧ l.drop (j + 1) = cs := by
  have hj : j < l.length := by
    by_cases z : j < l.length
    · exact z
    · rw [List.drop_eq_nil_of_le (by omega)] at h; cases h
  rw [List.drop_eq_getElem_cons hj] at h
  injection h with h1 h2
  refine ⟨hj, ?_, h2⟩
  rw [List.getD_eq_getElem?_getD, List.getElem?_eq_getElem hj]
  exact h1
theorem zLenI_at : ∀ w, w < 5 → zLenI w = nI (zByt.getD w []).length ∧ (zByt.getD w []).length ≤ 7 := by decide +kernel
theorem zChr_at : ∀ w, w < 5 → ∀ j, j < 7 → j < (zByt.getD w []).length → zChr w (nI j) = (zByt.getD w []).getD j 0 := by decide +kernel
theorem ps_c (hx : zTxt sg k) {w : Nat} (hw : w < 5) : ∀ cs j f i m (S : zLt), (zByt.getD w []).drop j = cs → cs.length < f → j ≤ 7 → CL sg k S → lt_at S = nI i → i + 2 * cs.length ≤ 700 → lt_figureCount S = nI m → m + zNf cs ≤ 4 →
    ∃ S', fX2_readStatement_l46 w f (nI j) S = some (if (zPs sg cs i).1 = true then 1 else 0, S') ∧ CY S S' ∧ lt_at S' = nI (zPs sg cs i).2.1 ∧ ((zPs sg cs i).1 = true → (∀ q, q < m → lt_figures S' q = lt_figures S q) ∧ ∀ q, q < zNf cs → lt_figures S' (m + q) = nI ((zPs sg cs i).2.2.getD q 0)) := by
  obtain ⟨hl, hl7⟩ := zLenI_at w hw
  intro cs
  induction cs with
  | nil =>
    intro j f i m S hd hf hj hC ha hi hm hm4
    obtain ⟨f, rfl⟩ : ∃ k', f = k' + 1 := ⟨f - 1, by omega⟩
    have hle : (zByt.getD w []).length ≤ j := List.drop_eq_nil_iff.mp hd
    refine ⟨S, ?_, CY.rf S, ha, fun _ => ⟨fun q _ => rfl, fun q hq => by rw [zNf] at hq; omega⟩⟩
    rw [fX2_readStatement_l46, if_pos hw, hl, if_pos (nI_le hle (by omega))]
    rfl
  | cons c cs ih =>
    intro j f i m S hd hf hj hC ha hi hm hm4
    obtain ⟨f, rfl⟩ : ∃ k', f = k' + 1 := ⟨f - 1, by omega⟩
    obtain ⟨d1, d2, d3⟩ := drop_c hd
    rw [List.length_cons] at hf hi
    rw [zNf] at hm4
    have hgo : fX2_readStatement_l46 w (f + 1) (nI j) S = (fX2_readPart S c).bind fun u5 => if u5.1 = 0 then some (0, u5.2) else fX2_readStatement_l46 w f (nI (j + 1)) u5.2 := by
      rw [fX2_readStatement_l46, if_pos hw, hl, if_neg (nI_ge d1 (by omega)), if_pos hw, if_neg (show ¬ (nI j < 0 ∨ nI (zByt.getD w []).length ≤ nI j) from fun z => z.elim (nI_pos (by omega)) (nI_ge d1 (by omega))), zChr_at w hw j (by omega) d1, d2, nI_1]
    rw [hgo]
    by_cases q : c = 104 ∨ c = 100
    · rw [if_pos q] at hm4
      obtain ⟨S1, s1, s2, s3, s4, s5⟩ := rp_n hx q hC ha (by omega) hm (by omega)
      have l1 := zRn_le sg (zMo c) i 0
      have l2 := (zMo_le c).1
      rw [s1]
      rw [Option.bind_some]
      rw [zPs, if_pos q]
      by_cases z : (zRn sg (zMo c) i 0).1 = i
      · rw [if_pos z, if_pos z]
        refine ⟨S1, ?_, s2, ?_, fun y => by cases y⟩
        · rw [if_pos (show (0 : Int32) = 0 from rfl)]; rfl
        · rw [s3, z]
      · rw [if_neg z, if_neg z, if_neg (show ¬ (1 : Int32) = 0 from by decide)]
        obtain ⟨S', t1, t2, t3, t4⟩ := ih (j + 1) f (zRn sg (zMo c) i 0).1 (m + 1) S1 d3 (by omega) (by omega) (hC.cy s2.1 s2.2.1) s3 (by omega) s5 (by omega)
        refine ⟨S', t1, s2.tr t2, t3, fun y => ?_⟩
        obtain ⟨u1, u2⟩ := t4 y
        refine ⟨fun r hr => ?_, fun r hr => ?_⟩
        · rw [u1 r (by omega), s4, upd_at, if_neg (by omega)]
        · cases r with
          | zero =>
            rw [Nat.add_zero, u1 m (by omega), s4, upd_at, if_pos rfl]
            rfl
          | succ r =>
            rw [zNf, if_pos q] at hr
            rw [show m + (r + 1) = m + 1 + r from by omega, u2 r (by omega)]
            rfl
    · rw [if_neg q] at hm4
      rw [rp_s hx q hC ha (by omega), zPs, if_neg q]
      by_cases z : sg i = c
      · rw [if_pos z, if_pos z]
        rw [Option.bind_some]
        rw [if_neg (show ¬ (1 : Int32) = 0 from by decide)]
        obtain ⟨S', t1, t2, t3, t4⟩ := ih (j + 1) f (i + 1) m (lt_set_at S (nI (i + 1))) d3 (by omega) (by omega) hC rfl (by omega) hm (by omega)
        refine ⟨S', t1, t2, t3, fun y => ?_⟩
        obtain ⟨u1, u2⟩ := t4 y
        refine ⟨u1, fun r hr => u2 r ?_⟩
        rw [zNf, if_neg q] at hr
        omega
      · rw [if_neg z, if_neg z]
        rw [Option.bind_some]
        rw [if_pos (show (0 : Int32) = 0 from rfl)]
        exact ⟨S, rfl, CY.rf S, ha, fun y => by cases y⟩
end LC
/-- a statement from a place on -/
noncomputable def zSs (sg : Nat → Int32) (i : Nat) : Bool × Nat × List Nat := if fX2_formOf (sg i) = 4 then (false, i, []) else zPs sg (zByt.getD (fX2_formOf (sg i)) []) (i + 1)
theorem formOf_cs (c : Int32) : (c = 97 ∧ fX2_formOf c = 0) ∨ (c = 98 ∧ fX2_formOf c = 1) ∨ (c = 108 ∧ fX2_formOf c = 2) ∨ (c = 110 ∧ fX2_formOf c = 3) ∨ ((¬ c = 97 ∧ ¬ c = 98 ∧ ¬ c = 108 ∧ ¬ c = 110) ∧ fX2_formOf c = 4) := by
  unfold fX2_formOf
  by_cases h1 : c = 97
  · rw [if_pos h1]; exact Or.inl ⟨h1, rfl⟩
  · rw [if_neg h1]
    by_cases h2 : c = 98
    · rw [if_pos h2]; exact Or.inr (Or.inl ⟨h2, rfl⟩)
    · rw [if_neg h2]
      by_cases h3 : c = 108
      · rw [if_pos h3]; exact Or.inr (Or.inr (Or.inl ⟨h3, rfl⟩))
      · rw [if_neg h3]
        by_cases h4 : c = 110
        · rw [if_pos h4]; exact Or.inr (Or.inr (Or.inr (Or.inl ⟨h4, rfl⟩)))
        · rw [if_neg h4]; exact Or.inr (Or.inr (Or.inr (Or.inr ⟨⟨h1, h2, h3, h4⟩, rfl⟩)))
theorem formOf_lt (c : Int32) : fX2_formOf c < 5 := by
  rcases formOf_cs c with ⟨-, h⟩ | ⟨-, h⟩ | ⟨-, h⟩ | ⟨-, h⟩ | ⟨-, h⟩ <;> rw [h] <;> omega
theorem zIsE_at : ∀ w, w < 5 → (w = 4 → zIsE w = 1) ∧ (w ≠ 4 → zIsE w = 0) := by decide +kernel
theorem zByt_nf : ∀ w, w < 5 → zNf (zByt.getD w []) ≤ 4 ∧ (zByt.getD w []).length ≤ 7 ∧ (w ≠ 4 → 1 ≤ (zByt.getD w []).length) := by decide +kernel
theorem zByt_m1 : ∀ w, w < 5 → ∀ c, c ∈ zByt.getD w [] → c ≠ -1 := by decide +kernel
theorem zSs_le {sg : Nat → Int32} {k i : Nat} (hx : zTxt sg k) (hi : i ≤ k) : (zSs sg i).2.1 ≤ k ∧ ((zSs sg i).1 = true → i + 2 ≤ (zSs sg i).2.1) := by
  unfold zSs
  by_cases q : fX2_formOf (sg i) = 4
  · rw [if_pos q]
    exact ⟨hi, fun y => by cases y⟩
  · rw [if_neg q]
    have hik : i < k := by
      by_cases y : i < k
      · exact y
      · exfalso
        rw [hx.2 i (by omega)] at q
        exact q (by decide)
    have h := zPs_le hx (zByt.getD (fX2_formOf (sg i)) []) (i + 1) (zByt_m1 _ (formOf_lt _)) hik
    refine ⟨h.1, fun y => ?_⟩
    have := h.2 y
    have := (zByt_nf _ (formOf_lt (sg i))).2.2 q
    omega
theorem zSs_v (sg : Nat → Int32) (i q : Nat) : (zSs sg i).2.2.getD q 0 ≤ 99 := by
  unfold zSs
  by_cases z : fX2_formOf (sg i) = 4
  · rw [if_pos z]; exact Nat.zero_le _
  · rw [if_neg z]; exact zPs_v sg _ _ q
theorem rs_c {sg : Nat → Int32} {k i : Nat} {S : zLt} (hx : zTxt sg k) (hC : CL sg k S) (ha : lt_at S = nI i) (hi : i ≤ 600) :
    ∃ S', fX2_readStatement S = some (if (zSs sg i).1 = true then 1 else 0, S') ∧ (lt_all S' = lt_all S ∧ lt_length S' = lt_length S ∧ lt_statements S' = lt_statements S) ∧ lt_at S' = nI (zSs sg i).2.1 ∧ ((zSs sg i).1 = true → lt_verb S' = sg i ∧ ∀ q, q < zNf (zByt.getD (fX2_formOf (sg i)) []) → lt_figures S' q = nI ((zSs sg i).2.2.getD q 0)) := by
  have hw := formOf_lt (sg i)
  obtain ⟨n1, n2, n3⟩ := zByt_nf _ hw
  unfold fX2_readStatement zSs
  rw [toldL hx hC ha (by omega)]
  rw [Option.bind_some]
  rw [if_pos hw]
  by_cases q : fX2_formOf (sg i) = 4
  · rw [(zIsE_at _ hw).1 q, if_neg (show ¬ (1 : Int32) = 0 from by decide), if_pos q]
    exact ⟨lt_set_figureCount (lt_set_verb S (sg i)) 0, rfl, ⟨rfl, rfl, rfl⟩, ha, fun y => by cases y⟩
  · rw [(zIsE_at _ hw).2 q, if_pos (show (0 : Int32) = 0 from rfl), if_neg q, ha, nI_1]
    obtain ⟨S', t1, t2, t3, t4⟩ := ps_c hx hw (zByt.getD (fX2_formOf (sg i)) []) 0 FU (i + 1) 0 (lt_set_figureCount (lt_set_verb (lt_set_at S (nI (i + 1))) (sg i)) 0) List.drop_zero (FU_big _ (by omega)) (by omega) hC rfl (by omega) rfl (by omega)
    refine ⟨S', t1, ⟨t2.1, t2.2.1, t2.2.2.2⟩, t3, fun y => ⟨t2.2.2.1, fun r hr => ?_⟩⟩
    have := (t4 y).2 r hr
    rw [Nat.zero_add] at this
    exact this
/-! the reference reads -/
def TZ (T T' : zMd) : Prop := (md_number T' = md_number T ∧ md_kind T' = md_kind T ∧ md_figure T' = md_figure T ∧ md_one T' = md_one T ∧ md_other T' = md_other T ∧ md_stands T' = md_stands T ∧ md_uses T' = md_uses T ∧ md_earned T' = md_earned T ∧ md_houses T' = md_houses T ∧ md_sums T' = md_sums T ∧ md_falls T' = md_falls T) ∧ md_kept T' = md_kept T ∧ md_hasImage T' = md_hasImage T ∧ (md_taped T' = md_taped T ∧ md_tape T' = md_tape T ∧ md_rowMany T' = md_rowMany T ∧ md_row T' = md_row T ∧ md_refused T' = md_refused T)
theorem TZ.rf (T : zMd) : TZ T T := ⟨⟨rfl, rfl, rfl, rfl, rfl, rfl, rfl, rfl, rfl, rfl, rfl⟩, rfl, rfl, ⟨rfl, rfl, rfl, rfl, rfl⟩⟩
theorem TZ.tr {A B C : zMd} (h : TZ A B) (g : TZ B C) : TZ A C := by
  obtain ⟨⟨a1, a2, a3, a4, a5, a6, a7, a8, a9, a10, a11⟩, a12, a13, ⟨a14, a15, a16, a17, a18⟩⟩ := h
  obtain ⟨⟨b1, b2, b3, b4, b5, b6, b7, b8, b9, b10, b11⟩, b12, b13, ⟨b14, b15, b16, b17, b18⟩⟩ := g
  exact ⟨⟨b1.trans a1, b2.trans a2, b3.trans a3, b4.trans a4, b5.trans a5, b6.trans a6, b7.trans a7, b8.trans a8, b9.trans a9, b10.trans a10, b11.trans a11⟩, b12.trans a12, b13.trans a13, ⟨b14.trans a14, b15.trans a15, b16.trans a16, b17.trans a17, b18.trans a18⟩⟩
theorem TZ.reading (T : zMd) (x : Int32) : TZ T (md_set_reading T x) := ⟨⟨rfl, rfl, rfl, rfl, rfl, rfl, rfl, rfl, rfl, rfl, rfl⟩, rfl, rfl, ⟨rfl, rfl, rfl, rfl, rfl⟩⟩
theorem TZ.told (T : zMd) (x : Nat → Int32) : TZ T (md_set_told T x) := ⟨⟨rfl, rfl, rfl, rfl, rfl, rfl, rfl, rfl, rfl, rfl, rfl⟩, rfl, rfl, ⟨rfl, rfl, rfl, rfl, rfl⟩⟩
theorem TZ.telling (T : zMd) (x : Int32) : TZ T (md_set_telling T x) := ⟨⟨rfl, rfl, rfl, rfl, rfl, rfl, rfl, rfl, rfl, rfl, rfl⟩, rfl, rfl, ⟨rfl, rfl, rfl, rfl, rfl⟩⟩
theorem TZ.sort (T : zMd) (x : Nat → Int32) : TZ T (md_set_sort T x) := ⟨⟨rfl, rfl, rfl, rfl, rfl, rfl, rfl, rfl, rfl, rfl, rfl⟩, rfl, rfl, ⟨rfl, rfl, rfl, rfl, rfl⟩⟩
theorem TZ.sortAt (T : zMd) (x : Nat → Int32) : TZ T (md_set_sortAt T x) := ⟨⟨rfl, rfl, rfl, rfl, rfl, rfl, rfl, rfl, rfl, rfl, rfl⟩, rfl, rfl, ⟨rfl, rfl, rfl, rfl, rfl⟩⟩
theorem TZ.statements (T : zMd) (x : Int32) : TZ T (md_set_statements T x) := ⟨⟨rfl, rfl, rfl, rfl, rfl, rfl, rfl, rfl, rfl, rfl, rfl⟩, rfl, rfl, ⟨rfl, rfl, rfl, rfl, rfl⟩⟩
/-- the tables of what was read -/
def TB (T T' : zMd) : Prop := md_sort T' = md_sort T ∧ md_sortAt T' = md_sortAt T ∧ md_statements T' = md_statements T
theorem TB.tr {A B C : zMd} (h : TB A B) (g : TB B C) : TB A C := ⟨g.1.trans h.1, g.2.1.trans h.2.1, g.2.2.trans h.2.2⟩
theorem ML.tz {sg : Nat → Int32} {k : Nat} {T T' : zMd} (h : ML sg k T) (z : TZ T T') : ML sg k T' := ⟨z.2.2.2.1.trans h.1, fun i hi => by rw [z.2.2.2.2.1]; exact h.2 i hi⟩
section LM
variable {sg : Nat → Int32} {k : Nat}
theorem rn_l (hx : zTxt sg k) {M : Nat} (hM : M ≤ 2) : ∀ m i a j f (T : zMd), ML sg k T → md_reading T = nI i → i + m ≤ 900 → j + m = M → m < f →
    ∃ T', fX8_readsNumber_l4 (nI M) f (nI a) (nI j) T = fX8_readsNumber_j52 (nI (zRn sg m i a).2) (nI (j + ((zRn sg m i a).1 - i))) T' ∧ TZ T T' ∧ TB T T' ∧ md_reading T' = nI (zRn sg m i a).1 ∧ md_told T' = md_told T ∧ md_telling T' = md_telling T := by
  intro m
  induction m with
  | zero =>
    intro i a j f T hC ha hi hj hf
    obtain ⟨f, rfl⟩ : ∃ k', f = k' + 1 := ⟨f - 1, by omega⟩
    refine ⟨T, ?_, TZ.rf T, ⟨rfl, rfl, rfl⟩, ha, rfl, rfl⟩
    rw [fX8_readsNumber_l4, if_pos (nI_le (by omega) (by omega)), zRn, Nat.sub_self, Nat.add_zero]
  | succ m ih =>
    intro i a j f T hC ha hi hj hf
    obtain ⟨f, rfl⟩ : ∃ k', f = k' + 1 := ⟨f - 1, by omega⟩
    rw [fX8_readsNumber_l4, if_neg (nI_ge (by omega) (by omega)), signM hx hC ha (by omega), zRn]
    simp only [Option.bind_some]
    rcases zDg_c (sg i) with ⟨d1, -, d2⟩ | ⟨d1, -, d2⟩
    · obtain ⟨T', s1, s2, s3, s4, s5, s6⟩ := ih (i + 1) (10 * a + zVl (sg i)) (j + 1) f (md_set_reading T (nI (i + 1))) (hC.tz (TZ.reading T _)) rfl (by omega) (by omega) (by omega)
      have l1 := zRn_le sg m (i + 1) (10 * a + zVl (sg i))
      have ev : ((10 : Int32) * nI a + sg i) - 48 = nI (10 * a + zVl (sg i)) := by
        have := (dig_step a (zVl (sg i))).2
        rw [← (zDg_val d1).1] at this
        exact this
      rw [d2, if_neg (show ¬ (1 : Int32) = 0 from by decide), zIf_pos d1, ha, ev, nI_1, nI_1]
      refine ⟨T', ?_, (TZ.reading T _).tr s2, TB.tr ⟨rfl, rfl, rfl⟩ s3, s4, s5, s6⟩
      rw [s1, show j + 1 + ((zRn sg m (i + 1) (10 * a + zVl (sg i))).1 - (i + 1)) = j + ((zRn sg m (i + 1) (10 * a + zVl (sg i))).1 - i) from by omega]
    · rw [d2, if_pos (show (0 : Int32) = 0 from rfl), zIf_neg d1]
      refine ⟨T, ?_, TZ.rf T, ⟨rfl, rfl, rfl⟩, ha, rfl, rfl⟩
      rw [Nat.sub_self, Nat.add_zero]
theorem rn_eq (hx : zTxt sg k) {M i tl : Nat} (hM : M ≤ 2) {T : zMd} (hC : ML sg k T) (ha : md_reading T = nI i) (hi : i ≤ 800) (ht : md_telling T = nI tl) (ht2 : tl < 132) :
    ∃ T', fX8_readsNumber T (nI M) = some (if (zRn sg M i 0).1 = i then 0 else 1, T') ∧ TZ T T' ∧ TB T T' ∧ md_reading T' = nI (zRn sg M i 0).1 ∧ md_told T' = upd (md_told T) tl (nI (zRn sg M i 0).2) ∧ md_telling T' = nI (tl + 1) := by
  obtain ⟨T', s1, s2, s3, s4, s5, s6⟩ := rn_l hx hM M i 0 0 FU T hC ha (by omega) (by omega) (FU_big _ (by omega))
  have l1 := zRn_le sg M i 0
  obtain ⟨T1, e1⟩ : ∃ T1, T1 = md_set_told T' (upd (md_told T) tl (nI (zRn sg M i 0).2)) := ⟨_, rfl⟩
  obtain ⟨T2, e2⟩ : ∃ T2, T2 = md_set_telling T1 (nI (tl + 1)) := ⟨_, rfl⟩
  have z1 : TZ T' T1 := by rw [e1]; exact TZ.told _ _
  have z2 : TZ T1 T2 := by rw [e2]; exact TZ.telling _ _
  have b1 : TB T' T1 := by rw [e1]; exact ⟨rfl, rfl, rfl⟩
  have b2 : TB T1 T2 := by rw [e2]; exact ⟨rfl, rfl, rfl⟩
  have r1 : md_reading T1 = md_reading T' := by rw [e1]; rfl
  have r2 : md_reading T2 = md_reading T1 := by rw [e2]; rfl
  have u1 : md_told T1 = upd (md_told T) tl (nI (zRn sg M i 0).2) := by rw [e1]; rfl
  have u2 : md_told T2 = md_told T1 := by rw [e2]; rfl
  have v2 : md_telling T2 = nI (tl + 1) := by rw [e2]; rfl
  refine ⟨T2, ?_, s2.tr (z1.tr z2), s3.tr (b1.tr b2), r2.trans (r1.trans s4), u2.trans u1, v2⟩
  have e : fX8_readsNumber T (nI M) = fX8_readsNumber_j52 (nI (zRn sg M i 0).2) (nI (0 + ((zRn sg M i 0).1 - i))) T' := s1
  rw [e]
  unfold fX8_readsNumber_j52
  rw [s6, ht, ix_nI (by omega) (by omega), nI_clamp (by omega), nI_1, s5, ← e1, ← e2]
  by_cases q : (zRn sg M i 0).1 = i
  · rw [if_pos q, if_pos (show nI (0 + ((zRn sg M i 0).1 - i)) ≤ (0 : Int32) from by rw [q, Nat.sub_self]; decide)]
  · rw [if_neg q, if_neg (nI_nle (by omega) (by omega))]
theorem rd_eq (hx : zTxt sg k) {i : Nat} {T : zMd} (hC : ML sg k T) (ha : md_reading T = nI i) (hi : i ≤ 800) (c : Int32) : fX8_reads T c = if sg i = c then some (1, md_set_reading T (nI (i + 1))) else some (0, T) := by
  unfold fX8_reads
  rw [signM hx hC ha (by omega)]
  rw [Option.bind_some]
  rw [ha, nI_1]
def fRp : List Int32 → zMd → Option (Int32 × zMd)
  | [], T => some (1, T)
  | c :: cs, T => (if c = 104 then fX8_readsNumber T 2 else if c = 100 then fX8_readsNumber T 1 else fX8_reads T c).bind fun u => if u.1 = 0 then some (0, u.2) else fRp cs u.2
theorem ps_m (hx : zTxt sg k) : ∀ cs i tl (T : zMd), ML sg k T → md_reading T = nI i → i + 2 * cs.length ≤ 700 → md_telling T = nI tl → tl + zNf cs ≤ 132 →
    ∃ T', fRp cs T = some (if (zPs sg cs i).1 = true then 1 else 0, T') ∧ TZ T T' ∧ TB T T' ∧ md_reading T' = nI (zPs sg cs i).2.1 ∧ ((zPs sg cs i).1 = true → (∀ q, q < tl → md_told T' q = md_told T q) ∧ ∀ q, q < zNf cs → md_told T' (tl + q) = nI ((zPs sg cs i).2.2.getD q 0)) := by
  intro cs
  induction cs with
  | nil =>
    intro i tl T hC ha hi ht ht2
    exact ⟨T, rfl, TZ.rf T, ⟨rfl, rfl, rfl⟩, ha, fun _ => ⟨fun q _ => rfl, fun q hq => by rw [zNf] at hq; omega⟩⟩
  | cons c cs ih =>
    intro i tl T hC ha hi ht ht2
    rw [List.length_cons] at hi
    rw [zNf] at ht2
    rw [fRp, zPs]
    by_cases q : c = 104 ∨ c = 100
    · rw [if_pos q] at ht2
      rw [if_pos q]
      obtain ⟨T1, s1, s2, s3, s4, s5, s6⟩ := rn_eq hx (zMo_le c).1 hC ha (by omega) ht (by omega)
      have l1 := zRn_le sg (zMo c) i 0
      have l2 := (zMo_le c).1
      have e1 : (if c = 104 then fX8_readsNumber T 2 else if c = 100 then fX8_readsNumber T 1 else fX8_reads T c) = some (if (zRn sg (zMo c) i 0).1 = i then 0 else 1, T1) := by
        rcases q with rfl | rfl
        · rw [if_pos rfl]; exact s1
        · rw [if_neg (show ¬ (100 : Int32) = 104 from by decide), if_pos rfl]; exact s1
      rw [e1]
      rw [Option.bind_some]
      by_cases z : (zRn sg (zMo c) i 0).1 = i
      · rw [if_pos z, if_pos z]
        refine ⟨T1, ?_, s2, s3, ?_, fun y => by cases y⟩
        · rw [if_pos (show (0 : Int32) = 0 from rfl)]; rfl
        · rw [s4, z]
      · rw [if_neg z, if_neg z, if_neg (show ¬ (1 : Int32) = 0 from by decide)]
        obtain ⟨T', t1, t2, t3, t4, t5⟩ := ih (zRn sg (zMo c) i 0).1 (tl + 1) T1 (hC.tz s2) s4 (by omega) s6 (by omega)
        refine ⟨T', t1, s2.tr t2, s3.tr t3, t4, fun y => ?_⟩
        obtain ⟨u1, u2⟩ := t5 y
        refine ⟨fun r hr => ?_, fun r hr => ?_⟩
        · rw [u1 r (by omega), s5, upd_at, if_neg (by omega)]
        · cases r with
          | zero =>
            rw [Nat.add_zero, u1 tl (by omega), s5, upd_at, if_pos rfl]
            rfl
          | succ r =>
            rw [zNf, if_pos q] at hr
            rw [show tl + (r + 1) = tl + 1 + r from by omega, u2 r (by omega)]
            rfl
    · rw [if_neg q] at ht2
      rw [if_neg q, if_neg (fun z => q (Or.inl z)), if_neg (fun z => q (Or.inr z)), rd_eq hx hC ha (by omega)]
      by_cases z : sg i = c
      · rw [if_pos z, if_pos z]
        rw [Option.bind_some]
        rw [if_neg (show ¬ (1 : Int32) = 0 from by decide)]
        obtain ⟨T', t1, t2, t3, t4, t5⟩ := ih (i + 1) tl (md_set_reading T (nI (i + 1))) (hC.tz (TZ.reading T _)) rfl (by omega) ht (by omega)
        refine ⟨T', t1, (TZ.reading T _).tr t2, TB.tr ⟨rfl, rfl, rfl⟩ t3, t4, fun y => ?_⟩
        obtain ⟨u1, u2⟩ := t5 y
        refine ⟨u1, fun r hr => u2 r ?_⟩
        rw [zNf, if_neg q] at hr
        omega
      · rw [if_neg z, if_neg z]
        rw [Option.bind_some]
        rw [if_pos (show (0 : Int32) = 0 from rfl)]
        exact ⟨T, rfl, TZ.rf T, ⟨rfl, rfl, rfl⟩, ha, fun y => by cases y⟩
/-! the reference's own order of reading is the form's -/
theorem ob_seq {X : Option (Int32 × zMd)} {K : Int32 × zMd → Option (Int32 × zMd)} {H : zMd → Option (Int32 × zMd)} : (X.bind fun u => if u.1 = 0 then some (0, u.2) else K u).bind (fun v => if v.1 = 0 then some (0, v.2) else H v.2) = X.bind fun u => if u.1 = 0 then some (0, u.2) else (K u).bind (fun v => if v.1 = 0 then some (0, v.2) else H v.2) := by
  cases X with
  | none => rfl
  | some u =>
    rw [Option.bind_some, Option.bind_some]
    by_cases h : u.1 = 0
    · rw [if_pos h, if_pos h]
      rw [Option.bind_some]
      exact if_pos rfl
    · rw [if_neg h, if_neg h]
theorem ob_one {T : zMd} {H : zMd → Option (Int32 × zMd)} : (some ((1 : Int32), T)).bind (fun v => if v.1 = 0 then some (0, v.2) else H v.2) = H T := by
  rw [Option.bind_some]
  exact if_neg (show ¬ (1 : Int32) = 0 from by decide)
def fEnd (T : zMd) : Option (Int32 × zMd) := (fX8_reads T 59).bind fun u4 => if u4.1 = 0 then some (0, u4.2) else some (1, u4.2)
theorem rp_end (T : zMd) : fRp [59] T = fEnd T := by
  rw [fRp, if_neg (show ¬ (59 : Int32) = 104 from by decide), if_neg (show ¬ (59 : Int32) = 100 from by decide)]
  rfl
theorem rp_104 (cs : List Int32) (T : zMd) : fRp (104 :: cs) T = (fX8_readsNumber T 2).bind fun u => if u.1 = 0 then some (0, u.2) else fRp cs u.2 := by
  rw [fRp, if_pos rfl]
theorem rp_100 (cs : List Int32) (T : zMd) : fRp (100 :: cs) T = (fX8_readsNumber T 1).bind fun u => if u.1 = 0 then some (0, u.2) else fRp cs u.2 := by
  rw [fRp, if_neg (show ¬ (100 : Int32) = 104 from by decide), if_pos rfl]
theorem rp_44 (cs : List Int32) (T : zMd) : fRp (44 :: cs) T = (fX8_reads T 44).bind fun u => if u.1 = 0 then some (0, u.2) else fRp cs u.2 := by
  rw [fRp, if_neg (show ¬ (44 : Int32) = 104 from by decide), if_neg (show ¬ (44 : Int32) = 100 from by decide)]
theorem all_a (T : zMd) : ((fX8_readsAll T 97).bind fun u2 => if u2.1 = 0 then some (0, u2.2) else fEnd u2.2) = fRp [104, 44, 104, 44, 100, 100, 59] T := by
  unfold fX8_readsAll
  rw [if_pos rfl, ob_seq, rp_104]
  congr 1; funext u1
  congr 1
  rw [ob_seq, rp_44]
  congr 1; funext u2
  congr 1
  rw [ob_seq, rp_104]
  congr 1; funext u3
  congr 1
  rw [ob_seq, rp_44]
  congr 1; funext u4
  congr 1
  rw [ob_seq, rp_100]
  congr 1; funext u5
  congr 1
  rw [ob_seq, rp_100]
  congr 1
theorem all_l (T : zMd) : ((fX8_readsAll T 108).bind fun u2 => if u2.1 = 0 then some (0, u2.2) else fEnd u2.2) = fRp [100, 100, 59] T := by
  unfold fX8_readsAll
  rw [if_neg (show ¬ (108 : Int32) = 97 from by decide), if_neg (show ¬ (108 : Int32) = 98 from by decide), if_pos rfl, ob_seq, rp_100]
  congr 1; funext u1
  congr 1
  rw [ob_seq, rp_100]
  congr 1
theorem all_n (T : zMd) : ((fX8_readsAll T 110).bind fun u2 => if u2.1 = 0 then some (0, u2.2) else fEnd u2.2) = fRp [59] T := by
  unfold fX8_readsAll
  rw [if_neg (show ¬ (110 : Int32) = 97 from by decide), if_neg (show ¬ (110 : Int32) = 98 from by decide), if_neg (show ¬ (110 : Int32) = 108 from by decide), ob_one, rp_end]
theorem all_b {T : zMd} {u : Int32 × zMd} (h : fX8_readsNumber T 2 = some u) (h1 : u.1 = 0 ∨ u.1 = 1) : ((fX8_readsAll T 98).bind fun u2 => if u2.1 = 0 then some (0, u2.2) else fEnd u2.2) = fRp [104, 59] T := by
  unfold fX8_readsAll
  rw [if_neg (show ¬ (98 : Int32) = 97 from by decide), if_pos rfl, rp_104, h]
  repeat rw [Option.bind_some]
  have hb : u.1 &&& 1 = u.1 := by rcases h1 with z | z <;> rw [z] <;> rfl
  rw [if_pos hb]
  rw [Option.bind_some]
  rw [rp_end]
theorem rs_m (hx : zTxt sg k) {i s : Nat} {T : zMd} (hC : ML sg k T) (ha : md_reading T = nI i) (hi : i ≤ 600) (hs : md_statements T = nI s) (hs2 : s ≤ 32) :
    ∃ T', fX8_statement T = some (if (zSs sg i).1 = true then 1 else 0, T') ∧ TZ T T' ∧ md_statements T' = nI s ∧ md_reading T' = nI (zSs sg i).2.1 ∧ ((zSs sg i).1 = true → md_sort T' = upd (md_sort T) s (sg i) ∧ md_sortAt T' = upd (md_sortAt T) s (nI i) ∧ (∀ q, q < 4 * s → md_told T' q = md_told T q) ∧ ∀ q, q < zNf (zByt.getD (fX2_formOf (sg i)) []) → md_told T' (4 * s + q) = nI ((zSs sg i).2.2.getD q 0)) := by
  have e4 : (4 : Int32) * nI s = nI (4 * s) := pk_mul 4 s
  obtain ⟨Ta, ea⟩ : ∃ Ta, Ta = md_set_sort T (upd (md_sort T) s (sg i)) := ⟨_, rfl⟩
  obtain ⟨Tb, eb⟩ : ∃ Tb, Tb = md_set_sortAt Ta (upd (md_sortAt T) s (nI i)) := ⟨_, rfl⟩
  obtain ⟨Tc, ec⟩ : ∃ Tc, Tc = md_set_telling Tb (nI (4 * s)) := ⟨_, rfl⟩
  obtain ⟨Td, ed⟩ : ∃ Td, Td = md_set_reading Tc (nI (i + 1)) := ⟨_, rfl⟩
  have za : TZ T Ta := by rw [ea]; exact TZ.sort _ _
  have zb : TZ Ta Tb := by rw [eb]; exact TZ.sortAt _ _
  have zc : TZ Tb Tc := by rw [ec]; exact TZ.telling _ _
  have zd : TZ Tc Td := by rw [ed]; exact TZ.reading _ _
  have z : TZ T Td := za.tr (zb.tr (zc.tr zd))
  have sa : md_sort Ta = upd (md_sort T) s (sg i) := by rw [ea]; rfl
  have sb : md_sort Tb = md_sort Ta := by rw [eb]; rfl
  have sc : md_sort Tc = md_sort Tb := by rw [ec]; rfl
  have sd : md_sort Td = md_sort Tc := by rw [ed]; rfl
  have pb : md_sortAt Tb = upd (md_sortAt T) s (nI i) := by rw [eb]; rfl
  have pc : md_sortAt Tc = md_sortAt Tb := by rw [ec]; rfl
  have pd : md_sortAt Td = md_sortAt Tc := by rw [ed]; rfl
  have ta : md_told Ta = md_told T := by rw [ea]; rfl
  have tb : md_told Tb = md_told Ta := by rw [eb]; rfl
  have tc : md_told Tc = md_told Tb := by rw [ec]; rfl
  have td : md_told Td = md_told Tc := by rw [ed]; rfl
  have na : md_statements Ta = md_statements T := by rw [ea]; rfl
  have nb : md_statements Tb = md_statements Ta := by rw [eb]; rfl
  have nc : md_statements Tc = md_statements Tb := by rw [ec]; rfl
  have nd : md_statements Td = md_statements Tc := by rw [ed]; rfl
  have tl : md_telling Tc = nI (4 * s) := by rw [ec]; rfl
  have tld : md_telling Td = md_telling Tc := by rw [ed]; rfl
  have rd : md_reading Td = nI (i + 1) := by rw [ed]; rfl
  have ej : ∀ b, sg i = b → fX8_statement_j31 b T = (fX8_readsAll Td b).bind fun u2 => if u2.1 = 0 then some (0, u2.2) else fEnd u2.2 := fun b hb => by
    unfold fX8_statement_j31
    rw [hs, ix_nI (by omega) (by omega), nI_clamp (by omega), ha, e4, nI_1, ← hb, ← ea, ← eb, ← ec, ← ed]
    rfl
  have fin : ∀ w, fX2_formOf (sg i) = w → w ≠ 4 → fX8_statement T = fRp (zByt.getD w []) Td → ∃ T', fX8_statement T = some (if (zSs sg i).1 = true then 1 else 0, T') ∧ TZ T T' ∧ md_statements T' = nI s ∧ md_reading T' = nI (zSs sg i).2.1 ∧ ((zSs sg i).1 = true → md_sort T' = upd (md_sort T) s (sg i) ∧ md_sortAt T' = upd (md_sortAt T) s (nI i) ∧ (∀ q, q < 4 * s → md_told T' q = md_told T q) ∧ ∀ q, q < zNf (zByt.getD (fX2_formOf (sg i)) []) → md_told T' (4 * s + q) = nI ((zSs sg i).2.2.getD q 0)) := by
    intro w hw h4 he
    have hw5 := formOf_lt (sg i)
    rw [hw] at hw5
    obtain ⟨n1, n2, -⟩ := zByt_nf w hw5
    have ess : zSs sg i = zPs sg (zByt.getD w []) (i + 1) := by
      unfold zSs
      rw [hw, if_neg h4]
    obtain ⟨T', t1, t2, t3, t4, t5⟩ := ps_m hx (zByt.getD w []) (i + 1) (4 * s) Td (hC.tz z) rd (by omega) (tld.trans tl) (by omega)
    rw [he, ess, hw]
    refine ⟨T', t1, z.tr t2, ?_, t4, fun y => ⟨?_, ?_, ?_, (t5 y).2⟩⟩
    · rw [t3.2.2, nd, nc, nb, na, hs]
    · rw [t3.1, sd, sc, sb, sa]
    · rw [t3.2.1, pd, pc, pb]
    · intro q hq
      rw [(t5 y).1 q hq, td, tc, tb, ta]
  have est : fX8_statement T = (some (sg i)).bind fun u6 => if u6 = 97 then fX8_statement_j31 u6 T else if u6 = 98 then fX8_statement_j31 u6 T else if u6 = 108 then fX8_statement_j31 u6 T else if u6 = 110 then fX8_statement_j31 u6 T else some (0, T) := by
    rw [← signM hx hC ha (by omega)]
    rfl
  rw [Option.bind_some] at est
  rcases formOf_cs (sg i) with ⟨hc, hf⟩ | ⟨hc, hf⟩ | ⟨hc, hf⟩ | ⟨hc, hf⟩ | ⟨hc, hf⟩
  · refine fin 0 hf (by decide) ?_
    rw [est, if_pos hc, ej _ rfl, hc, all_a]
    rfl
  · refine fin 1 hf (by decide) ?_
    rw [est, if_neg (by rw [hc]; decide), if_pos hc, ej _ rfl, hc]
    obtain ⟨Tn, n1, -⟩ := rn_eq hx (M := 2) (Nat.le_refl _) (hC.tz z) rd (by omega) (tld.trans tl) (by omega)
    have n1' : fX8_readsNumber Td 2 = some (if (zRn sg 2 (i + 1) 0).1 = i + 1 then 0 else 1, Tn) := n1
    rw [all_b n1' (by
      by_cases y : (zRn sg 2 (i + 1) 0).1 = i + 1
      · exact Or.inl (if_pos y)
      · exact Or.inr (if_neg y))]
    rfl
  · refine fin 2 hf (by decide) ?_
    rw [est, if_neg (by rw [hc]; decide), if_neg (by rw [hc]; decide), if_pos hc, ej _ rfl, hc, all_l]
    rfl
  · refine fin 3 hf (by decide) ?_
    rw [est, if_neg (by rw [hc]; decide), if_neg (by rw [hc]; decide), if_neg (by rw [hc]; decide), if_pos hc, ej _ rfl, hc, all_n]
    rfl
  · have ess : zSs sg i = (false, i, []) := by
      unfold zSs
      rw [if_pos hf]
    rw [est, if_neg hc.1, if_neg hc.2.1, if_neg hc.2.2.1, if_neg hc.2.2.2, ess]
    exact ⟨T, rfl, TZ.rf T, hs, ha, fun y => by cases y⟩
end LM

end
section
/-! a statement comes: the class's house by house, the reference's -/
theorem SR.kept2 {T T' : zMd} (h : md_kept T' = md_kept T) (cu : Nat) : SE (zload T cu) (zload T' cu) := zload_se (fun j _ _ => by rw [h])
def EX (Z : zSt) (T : zMd) (a : Option (Int32 × zSt)) (b : Option (Int32 × zMd)) : Prop := ∃ (r : Int32) (Z' : zSt) (T' : zMd), (r = 0 ∨ r = 1) ∧ a = some (r, Z') ∧ b = some (r, T') ∧ FR T T' ∧ md_kept T' = md_kept T ∧ (r = 1 → ∃ c' w', SR c' w' Z' T')
theorem mayBe_no {c w : Nat} {Z : zSt} {T : zMd} (h : SR c w Z T) {a : Nat} (ha : a ≤ 999) (hs : ¬ (a < c ∧ w.testBit a = true)) : fX5_stands Z (nI a) = 0 ∧ fX8_doesStand T (nI a) = some 0 := by
  have hc := h.c
  by_cases q : a < c
  · have hb : w.testBit a = false := by
      cases e : w.testBit a with
      | false => rfl
      | true => exact absurd ⟨q, e⟩ hs
    rw [stands_in h q, doesStand_in h q, zbit0.mpr hb]
    exact ⟨rfl, rfl⟩
  · have ho : nI a < 0 ∨ nI c ≤ nI a := Or.inr (nI_le (by omega) (by omega))
    exact ⟨stands_out h ho, doesStand_out h ho⟩
theorem build_no {Z : zSt} {a b k f : Int32} (h : fX5_hasRoom Z = 0 ∨ fX5_isKind k = 0 ∨ fX5_mayBe Z a b = some 0) (hm : ∃ r, fX5_mayBe Z a b = some r) : fX5_build Z a b k f = some (0, Z) := by
  obtain ⟨r, hr⟩ := hm
  unfold fX5_build
  by_cases q : fX5_hasRoom Z = 0
  · rw [if_pos q]
  · rw [if_neg q]
    by_cases q2 : fX5_isKind k = 0
    · rw [if_pos q2]
    · rw [if_neg q2]
      have h3 : fX5_mayBe Z a b = some 0 := by
        rcases h with z | z | z
        · exact absurd z q
        · exact absurd z q2
        · exact z
      rw [h3]
      rw [Option.bind_some]
      rw [if_pos (show (0 : Int32) = 0 from rfl)]
theorem comesNew_eq {c w : Nat} {Z : zSt} {T : zMd} (h : SR c w Z T) {a b kd fg p : Nat} (ha : a ≤ 99) (hb : b ≤ 99) (hk : kd ≤ 99) (hp : p + 3 < 132) (t0 : md_told T p = nI a) (t1 : md_told T (p + 1) = nI b) (t2 : md_told T (p + 2) = nI kd) (t3 : md_told T (p + 3) = nI fg) :
    EX Z T (fX5_build Z (nI a) (nI b) (nI kd) (nI fg)) (fX8_comesNew T (nI p)) := by
  have hc := h.c
  have i1 : nI p + 2 = nI (p + 2) := nI_add p 2
  have i2 : nI p + 3 = nI (p + 3) := nI_add p 3
  have no : ∀ (h1 : fX5_build Z (nI a) (nI b) (nI kd) (nI fg) = some (0, Z)) (h2 : fX8_comesNew T (nI p) = some (0, T)), EX Z T (fX5_build Z (nI a) (nI b) (nI kd) (nI fg)) (fX8_comesNew T (nI p)) := fun h1 h2 => ⟨0, Z, T, Or.inl rfl, h1, h2, FR.rf, rfl, fun q => absurd q (by decide)⟩
  have head : fX8_comesNew T (nI p) = (fX8_doesStand T (nI a)).bind fun u3 => if u3 = 0 then some (0, T) else (fX8_doesStand T (nI b)).bind fun u5 => if u5 = 0 then some (0, T) else if (6 : Int32) ≤ nI kd then some (0, T) else (fX8_mayBe T (nI a) (nI b)).bind fun u9 => if u9 = 0 then some (0, T) else if md_houses T = 12 then some (0, T) else (fX8_builds T (nI a) (nI b) (nI kd) (nI fg)).bind fun u13 => some (1, u13) := by
    unfold fX8_comesNew
    rw [ix_nI (by omega) (by omega), nI_1, ix_nI (by omega) (by omega), i1, i2, ix_nI (by omega) (by omega), ix_nI (by omega) (by omega), nI_clamp (by omega), nI_clamp (by omega), nI_clamp (by omega), nI_clamp (by omega), t0, t1, t2, t3]
  by_cases sa : a < c ∧ w.testBit a = true
  · by_cases sb : b < c ∧ w.testBit b = true
    · obtain ⟨r, hr, e1, e2, e3⟩ := mayBe_std h sa.1 sb.1 sa.2 sb.2
      rw [doesStand_in h sa.1, doesStand_in h sb.1, zbit1.mpr sa.2, zbit1.mpr sb.2] at head
      repeat rw [Option.bind_some] at head
      rw [if_neg (show ¬ (1 : Int32) = 0 from by decide), e2] at head
      repeat rw [Option.bind_some] at head
      rw [if_neg (show ¬ (1 : Int32) = 0 from by decide)] at head
      by_cases q : kd ≤ 5
      · have ik : fX5_isKind (nI kd) = 1 := by
          unfold fX5_isKind
          rw [if_neg (nI_pos (by omega)), if_neg (show ¬ (5 : Int32) < nI kd from nI_nlt (a := 5) q (by omega))]
        rw [if_neg (show ¬ (6 : Int32) ≤ nI kd from nI_ge (b := 6) (by omega) (by omega))] at head
        rcases hr with rfl | rfl
        · rw [if_pos (show (0 : Int32) = 0 from rfl)] at head
          exact no (build_no (Or.inr (Or.inr e1)) ⟨0, e1⟩) head
        · rw [if_neg (show ¬ (1 : Int32) = 0 from by decide), h.houses] at head
          by_cases q12 : c = 12
          · rw [if_pos (show nI c = (12 : Int32) from by rw [q12]; rfl)] at head
            refine no (build_no (Or.inl ?_) ⟨1, e1⟩) head
            unfold fX5_hasRoom
            rw [h.came, q12]
            decide
          · rw [if_neg (show ¬ nI c = (12 : Int32) from fun z => q12 ((nI_eq (b := 12) (by omega) (by omega)).mp z))] at head
            obtain ⟨w', Z', T', b1, b2, b3, b4, b5, -⟩ := build_eq h (by omega) sa.1 sb.1 (f := nI fg) ik e1 (e3 rfl)
            refine ⟨1, Z', T', Or.inr rfl, b1, ?_, b4, b5, fun _ => ⟨_, _, b3⟩⟩
            rw [head, b2]
            rw [Option.bind_some]
      · have ik : fX5_isKind (nI kd) = 0 := by
          unfold fX5_isKind
          rw [if_neg (nI_pos (by omega)), if_pos (show (5 : Int32) < nI kd from nI_lt (a := 5) (by omega) (by omega))]
        rw [if_pos (show (6 : Int32) ≤ nI kd from nI_le (a := 6) (by omega) (by omega))] at head
        exact no (build_no (Or.inr (Or.inl ik)) ⟨r, e1⟩) head
    · obtain ⟨n1, n2⟩ := mayBe_no h (show b ≤ 999 from by omega) sb
      have em : fX5_mayBe Z (nI a) (nI b) = some 0 := by
        unfold fX5_mayBe
        rw [stands_in h sa.1, zbit1.mpr sa.2, n1]
        rfl
      rw [doesStand_in h sa.1, zbit1.mpr sa.2, n2] at head
      repeat rw [Option.bind_some] at head
      rw [if_neg (show ¬ (1 : Int32) = 0 from by decide), if_pos (show (0 : Int32) = 0 from rfl)] at head
      exact no (build_no (Or.inr (Or.inr em)) ⟨0, em⟩) head
  · obtain ⟨n1, n2⟩ := mayBe_no h (show a ≤ 999 from by omega) sa
    have em : fX5_mayBe Z (nI a) (nI b) = some 0 := by
      unfold fX5_mayBe
      rw [n1]
      rfl
    rw [n2] at head
    rw [Option.bind_some] at head
    rw [if_pos (show (0 : Int32) = 0 from rfl)] at head
    exact no (build_no (Or.inr (Or.inr em)) ⟨0, em⟩) head
theorem zpop_one {w j : Nat} (h : w.testBit j = true) : ∀ n, j < n → 1 ≤ zpop w n := by
  intro n
  induction n with
  | zero => intro q; omega
  | succ n ih =>
    intro q
    rw [zpop]
    by_cases e : j = n
    · rw [← e, if_pos h]; omega
    · have := ih (by omega)
      omega
theorem comesFire_eq {c w : Nat} {Z : zSt} {T : zMd} (h : SR c w Z T) {a : Nat} (ha : a ≤ 99) :
    EX Z T ((fX5_fire Z (nI a)).bind fun u9 => if u9.1 ≤ 0 then some (0, u9.2) else some (1, u9.2)) (fX8_comesFire T (nI a)) := by
  have hc := h.c
  have hw := h.w12
  unfold fX8_comesFire
  by_cases sa : a < c ∧ w.testBit a = true
  · obtain ⟨Y, hY, eY⟩ := burns_eq h sa.1
    obtain ⟨x1, x2⟩ := zG_w (T := T) (w := w) (j := a) (c := c)
    have s' := h.fall x1 hY
    have ps := zpop_sub x2 31 (by omega)
    have nb : (zG T (zclr w a) c).testBit a = false := by
      cases e : (zG T (zclr w a) c).testBit a with
      | false => rfl
      | true =>
        have := zG_sub T (zclr w a) c a (by omega) e
        rw [zclr_tb _ _ _ (by omega)] at this
        simp at this
    have one := zpop_one (w := w &&& (zG T (zclr w a) c ^^^ 4294967295)) (j := a) (by
      rw [Nat.testBit_and, z_tb_not _ _ (by omega), sa.2, nb]; rfl) 31 (by omega)
    have zl := zpop_le w 31
    refine ⟨1, st_set_standing Z (nI (zG T (zclr w a) c)), md_set_stands T Y, Or.inr rfl, ?_, ?_, ⟨rfl, rfl, rfl, rfl, rfl, rfl, rfl, rfl, rfl, rfl, rfl, rfl⟩, rfl, fun _ => ⟨_, _, s'⟩⟩
    · rw [fire_in h sa.1 sa.2, pk_sub (by omega)]
      rw [Option.bind_some]
      rw [if_neg (nI_nle (by omega) (by omega))]
    · rw [doesStand_in h sa.1, zbit1.mpr sa.2]
      rw [Option.bind_some]
      rw [if_neg (show ¬ (1 : Int32) = 0 from by decide), eY]
      rw [Option.bind_some]
  · obtain ⟨n1, n2⟩ := mayBe_no h (show a ≤ 999 from by omega) sa
    have ef : fX5_fallsWith Z (nI a) = some 0 := by
      unfold fX5_fallsWith
      rw [n1, if_pos rfl]
    refine ⟨0, st_set_standing Z (st_standing Z &&& ((0 : Int32) ^^^ (-1 : Int32))), T, Or.inl rfl, ?_, ?_, FR.rf, rfl, fun q => absurd q (by decide)⟩
    · unfold fX5_fire
      rw [ef]
      repeat rw [Option.bind_some]
      rw [show fJ6_bitCount_0f7a4 0 = 0 from by decide, if_pos (show (0 : Int32) ≤ 0 from by decide)]
    · rw [n2]
      rw [Option.bind_some]
      rw [if_pos (show (0 : Int32) = 0 from rfl)]
theorem comesLaw_eq {c w : Nat} {Z : zSt} {T : zMd} (h : SR c w Z T) {a b : Nat} (ha : a ≤ 99) (hb : b ≤ 99) :
    EX Z T (some (fX5_changeLaws Z (nI a) (nI b))) (some (fX8_comesLaw T (nI a) (nI b))) := by
  have e2 : ∀ x : Nat, x ≤ 99 → ((2 : Int32) < nI x ↔ 2 < x) := fun x hx => nI_ltI (a := 2) (by omega) (by omega)
  have e1 : ∀ x : Nat, x ≤ 99 → (nI x ≤ (1 : Int32) ↔ x ≤ 1) := fun x hx => nI_leI (b := 1) (by omega) (by omega)
  have e1' : ∀ x : Nat, x ≤ 99 → ((1 : Int32) < nI x ↔ 1 < x) := fun x hx => nI_ltI (a := 1) (by omega) (by omega)
  unfold fX8_comesLaw
  by_cases g : 2 < a
  · rw [if_pos ((e2 a ha).mpr g), cl_no (Or.inl (Or.inr ((e2 a ha).mpr g)))]
    exact ⟨0, Z, T, Or.inl rfl, rfl, rfl, FR.rf, rfl, fun q => absurd q (by decide)⟩
  · rw [if_neg (fun z => g ((e2 a ha).mp z))]
    by_cases g2 : b ≤ 1
    · have y1 : ¬ nI a < 0 ∧ ¬ (2 : Int32) < nI a := ⟨nI_pos (by omega), fun z => g ((e2 a ha).mp z)⟩
      have y2 : ¬ nI b < 0 ∧ ¬ (1 : Int32) < nI b := ⟨nI_pos (by omega), fun z => by have := (e1' b hb).mp z; omega⟩
      rw [if_pos ((e1 b hb).mpr g2), cl_yes ⟨y1, y2⟩]
      have hl := h.laws (law3 y1) (law2 y2)
      exact ⟨1, _, _, Or.inr rfl, rfl, rfl, ⟨rfl, rfl, rfl, rfl, rfl, rfl, rfl, rfl, rfl, rfl, rfl, rfl⟩, rfl, fun _ => ⟨_, _, hl⟩⟩
    · rw [if_neg (fun z => g2 ((e1 b hb).mp z)), cl_no (Or.inr (Or.inr ((e1' b hb).mpr (by omega))))]
      exact ⟨0, Z, T, Or.inl rfl, rfl, rfl, FR.rf, rfl, fun q => absurd q (by decide)⟩
theorem anew_eq (Z : zSt) (T : zMd) (hs : st_sums Z = md_sums T ∧ (md_sums T = 0 ∨ md_sums T = 1 ∨ md_sums T = 2)) (hf : st_falls Z = md_falls T ∧ (md_falls T = 0 ∨ md_falls T = 1)) :
    ∃ (Z' : zSt) (T' : zMd), fX5_beginAnew Z = some Z' ∧ fX8_beginsAnew T = some T' ∧ SR 1 1 Z' T' ∧ FR T T' ∧ md_kept T' = md_kept T := by
  obtain ⟨Z', p0, p1, p2, p3, p4, p5, p6, p7, p8, p9, p10, p11⟩ := place_ex (S := st_set_standing (st_set_came Z 0) 0) (c := 0) (w := 0) (by omega) (by omega) rfl rfl 1 (-4) (-4) 0 0
  obtain ⟨T', q0, q1, q2, q3, q4, q5, q6, q7, q8, q9, q10, q11, q12, q13, -⟩ := more_ex (T := md_set_houses T 0) (c := 0) (by omega) rfl 1 0 0 (-4) (-4)
  refine ⟨Z', T', ?_, ?_, ?_, ?_, q13⟩
  · unfold fX5_beginAnew
    rw [p0]
    rw [Option.bind_some]
  · unfold fX8_beginsAnew
    rw [q0]
    rw [Option.bind_some]
  · refine ⟨⟨Nat.le_refl _, by omega⟩, by omega, p1, q1, p2, fun j hj => ?_, ?_, ?_, fun j hj => ?_⟩
    · rw [show j = 0 from by omega, p3, p4, p5, p6, p7, p8, p9, q2, q3, q4, q5, q6, q7, q8, q9]
      exact ⟨rfl, rfl, rfl, rfl, rfl, rfl, rfl, rfl⟩
    · rw [p10, q10]; exact hs
    · rw [p11, q11]; exact hf
    · rw [show j = 0 from by omega, q5, q6, q7]
      exact ⟨⟨1, Nat.le_refl _, by omega, rfl⟩, Or.inl ⟨rfl, rfl, rfl⟩⟩
  · exact q12
/-- the told statement of number j, as the reference has it -/
def zTold (sg : Nat → Int32) (T : zMd) (i j : Nat) : Prop := md_sort T j = sg i ∧ md_sortAt T j = nI i ∧ ∀ q, q < zNf (zByt.getD (fX2_formOf (sg i)) []) → md_told T (4 * j + q) = nI ((zSs sg i).2.2.getD q 0)
theorem comes_eq {sg : Nat → Int32} {i j c w : Nat} {S : zLt} {Z : zSt} {T : zMd} (h : SR c w Z T) (hj : j ≤ 31) (hok : (zSs sg i).1 = true) (hv : lt_verb S = sg i) (hg : ∀ q, q < zNf (zByt.getD (fX2_formOf (sg i)) []) → lt_figures S q = nI ((zSs sg i).2.2.getD q 0)) (ht : zTold sg T i j) :
    EX Z T (fX2_comesTo S Z) (fX8_comesTold T (nI j)) := by
  obtain ⟨t1, t2, t3⟩ := ht
  have v := zSs_v sg i
  have e4 : (4 : Int32) * nI j = nI (4 * j) := pk_mul 4 j
  have i0 : ∀ k : Option (Int32 × zSt), ix 4 (0 : Int32) k = k := fun k => ix_nI (n := 4) (j := 0) (by omega) (by omega)
  have i1 : ∀ k : Option (Int32 × zSt), ix 4 (1 : Int32) k = k := fun k => ix_nI (n := 4) (j := 1) (by omega) (by omega)
  have i2 : ∀ k : Option (Int32 × zSt), ix 4 (2 : Int32) k = k := fun k => ix_nI (n := 4) (j := 2) (by omega) (by omega)
  have i3 : ∀ k : Option (Int32 × zSt), ix 4 (3 : Int32) k = k := fun k => ix_nI (n := 4) (j := 3) (by omega) (by omega)
  have c0 : (0 : Int32).toNatClampNeg = 0 := by decide
  have c1 : (1 : Int32).toNatClampNeg = 1 := by decide
  have c2 : (2 : Int32).toNatClampNeg = 2 := by decide
  have c3 : (3 : Int32).toNatClampNeg = 3 := by decide
  have chk : ∀ {α : Type} (r : Int32) (x : α), (r = 0 ∨ r = 1) → (if r &&& 1 = r then some (r, x) else none) = some (r, x) := fun r x hr => if_pos (by rcases hr with rfl | rfl <;> rfl)
  unfold fX2_comesTo fX8_comesTold
  rw [hv, ix_nI (by omega) (by omega), nI_clamp (by omega), t1, e4]
  rcases formOf_cs (sg i) with ⟨hc, hf⟩ | ⟨hc, hf⟩ | ⟨hc, hf⟩ | ⟨hc, hf⟩ | ⟨hc, hf⟩
  · rw [hf] at hg t3
    have nf : zNf (zByt.getD 0 []) = 4 := by decide
    rw [nf] at hg t3
    have u0 := t3 0 (by omega)
    rw [Nat.add_zero] at u0
    rw [if_pos hc, if_pos hc, i0, i1, i2, i3, c0, c1, c2, c3, hg 0 (by omega), hg 1 (by omega), hg 2 (by omega), hg 3 (by omega)]
    obtain ⟨r, Z', T', r1, r2, r3, r4, r5, r6⟩ := comesNew_eq h (p := 4 * j) (v 0) (v 1) (v 2) (by omega) u0 (t3 1 (by omega)) (t3 2 (by omega)) (t3 3 (by omega))
    refine ⟨r, Z', T', r1, ?_, ?_, r4, r5, r6⟩
    · rw [r2]
      rw [Option.bind_some]
      exact chk r Z' r1
    · rw [r3]
      rw [Option.bind_some]
      exact chk r T' r1
  · rw [hf] at hg t3
    have nf : zNf (zByt.getD 1 []) = 1 := by decide
    rw [nf] at hg t3
    have u0 := t3 0 (by omega)
    rw [Nat.add_zero] at u0
    have n1 : ¬ sg i = 97 := by rw [hc]; decide
    rw [if_neg n1, if_neg n1, if_pos hc, if_pos hc, i0, c0, hg 0 (by omega), ix_nI (by omega) (by omega), nI_clamp (by omega), u0]
    obtain ⟨r, Z', T', r1, r2, r3, r4, r5, r6⟩ := comesFire_eq h (v 0)
    refine ⟨r, Z', T', r1, r2, ?_, r4, r5, r6⟩
    rw [r3]
    rw [Option.bind_some]
    exact chk r T' r1
  · rw [hf] at hg t3
    have nf : zNf (zByt.getD 2 []) = 2 := by decide
    rw [nf] at hg t3
    have u0 := t3 0 (by omega)
    rw [Nat.add_zero] at u0
    have n1 : ¬ sg i = 97 := by rw [hc]; decide
    have n2 : ¬ sg i = 98 := by rw [hc]; decide
    rw [if_neg n1, if_neg n1, if_neg n2, if_neg n2, if_pos hc, if_pos hc, i0, i1, c0, c1, hg 0 (by omega), hg 1 (by omega), ix_nI (by omega) (by omega), nI_1, ix_nI (by omega) (by omega), nI_clamp (by omega), nI_clamp (by omega), u0, t3 1 (by omega)]
    obtain ⟨r, Z', T', r1, r2, r3, r4, r5, r6⟩ := comesLaw_eq h (v 0) (v 1)
    have r2' := Option.some.inj r2
    have r3' := Option.some.inj r3
    refine ⟨r, Z', T', r1, ?_, ?_, r4, r5, r6⟩
    · rw [r2']
      exact chk r Z' r1
    · rw [r3']
      exact chk r T' r1
  · have n1 : ¬ sg i = 97 := by rw [hc]; decide
    have n2 : ¬ sg i = 98 := by rw [hc]; decide
    have n3 : ¬ sg i = 108 := by rw [hc]; decide
    rw [if_neg n1, if_neg n1, if_neg n2, if_neg n2, if_neg n3, if_neg n3]
    obtain ⟨Z', T', r1, r2, r3, r4, r5⟩ := anew_eq Z T h.2.2.2.2.2.2.1 h.2.2.2.2.2.2.2.1
    refine ⟨1, Z', T', Or.inr rfl, ?_, ?_, r4, r5, fun _ => ⟨_, _, r3⟩⟩
    · rw [r1]
      rw [Option.bind_some]
    · rw [r2]
      rw [Option.bind_some]
  · exfalso
    unfold zSs at hok
    rw [if_pos hf] at hok
    cases hok
/-! all of them: the form, then one after the other -/
def zRec (sg : Nat → Int32) (st : Nat → Nat) (n : Nat) (T : zMd) : Prop := ∀ j, j < n → (zSs sg (st j)).1 = true ∧ (zSs sg (st j)).2.1 = st (j + 1) ∧ st j ≤ 64 ∧ zTold sg T (st j) j
theorem zTold.fr {sg : Nat → Int32} {T T' : zMd} {i j : Nat} (h : zTold sg T i j) (a : md_sort T' = md_sort T) (b : md_sortAt T' = md_sortAt T) (c : md_told T' = md_told T) : zTold sg T' i j := by
  obtain ⟨h1, h2, h3⟩ := h
  exact ⟨by rw [a]; exact h1, by rw [b]; exact h2, fun q hq => by rw [c]; exact h3 q hq⟩
theorem zRec.fr {sg : Nat → Int32} {st : Nat → Nat} {n : Nat} {T T' : zMd} (h : zRec sg st n T) (a : md_sort T' = md_sort T) (b : md_sortAt T' = md_sortAt T) (c : md_told T' = md_told T) : zRec sg st n T' := fun j hj => by
  obtain ⟨h1, h2, h3, h4⟩ := h j hj
  exact ⟨h1, h2, h3, h4.fr a b c⟩
theorem zRec.more {sg : Nat → Int32} {st : Nat → Nat} {s i : Nat} {T T' : zMd} (h : zRec sg st s T) (hst : st s = i) (hok : (zSs sg i).1 = true) (hi : i ≤ 64) (a : md_sort T' = upd (md_sort T) s (sg i)) (b : md_sortAt T' = upd (md_sortAt T) s (nI i)) (c : ∀ q, q < 4 * s → md_told T' q = md_told T q) (d : ∀ q, q < zNf (zByt.getD (fX2_formOf (sg i)) []) → md_told T' (4 * s + q) = nI ((zSs sg i).2.2.getD q 0)) :
    zRec sg (fun j => if j = s + 1 then (zSs sg i).2.1 else st j) (s + 1) T' := by
  intro j hj
  show (zSs sg (if j = s + 1 then _ else st j)).1 = true ∧ (zSs sg (if j = s + 1 then _ else st j)).2.1 = (if j + 1 = s + 1 then _ else st (j + 1)) ∧ (if j = s + 1 then _ else st j) ≤ 64 ∧ zTold sg T' (if j = s + 1 then _ else st j) j
  rw [if_neg (show ¬ j = s + 1 from by omega)]
  by_cases q : j = s
  · subst q
    rw [if_pos rfl, hst]
    exact ⟨hok, rfl, hi, by rw [a, upd_at, if_pos rfl], by rw [b, upd_at, if_pos rfl], d⟩
  · rw [if_neg (show ¬ j + 1 = s + 1 from by omega)]
    obtain ⟨h1, h2, h3, h4, h5, h6⟩ := h j (by omega)
    refine ⟨h1, h2, h3, by rw [a, upd_at, if_neg q]; exact h4, by rw [b, upd_at, if_neg q]; exact h5, fun r hr => ?_⟩
    have := (zByt_nf _ (formOf_lt (sg (st j)))).1
    rw [c _ (by omega)]
    exact h6 r hr
theorem st_sort (T : zMd) (x : Int32) : md_sort (md_set_statements T x) = md_sort T := rfl
theorem st_sortAt (T : zMd) (x : Int32) : md_sortAt (md_set_statements T x) = md_sortAt T := rfl
theorem st_told (T : zMd) (x : Int32) : md_told (md_set_statements T x) = md_told T := rfl
theorem st_reading (T : zMd) (x : Int32) : md_reading (md_set_statements T x) = md_reading T := rfl
theorem st_statements (T : zMd) (x : Int32) : md_statements (md_set_statements T x) = x := rfl
theorem form_l {sg : Nat → Int32} {k : Nat} (hx : zTxt sg k) : ∀ d i s f f' (S : zLt) (T : zMd) (st : Nat → Nat), k - i ≤ d → d + 1 < f → d + 2 < f' → CL sg k S → ML sg k T → lt_at S = nI i → md_reading T = nI i → lt_statements S = nI s → md_statements T = nI s → 2 * s ≤ i → i ≤ k → st 0 = 0 → st s = i → zRec sg st s T →
    (∃ i' S' T', i' ≤ 64 ∧ fX2_faultOfForm_l12 f (nI s) S = some (-1000 - nI i', S') ∧ fX8_street_l12 f' 1 T = fX8_street_j60 0 T' ∧ md_reading T' = nI i' ∧ TZ T T' ∧ CL sg k S') ∨
    (∃ n st' S' T', n ≤ 32 ∧ fX2_faultOfForm_l12 f (nI s) S = some (0, S') ∧ fX8_street_l12 f' 1 T = fX8_street_j60 1 T' ∧ lt_statements S' = nI n ∧ md_statements T' = nI n ∧ TZ T T' ∧ CL sg k S' ∧ st' 0 = 0 ∧ zRec sg st' n T') := by
  have hk := hx.1
  intro d
  have stop : ∀ i s f f' (S : zLt) (T : zMd) (st : Nat → Nat), 0 < f → 0 < f' → CL sg k S → ML sg k T → lt_at S = nI i → md_reading T = nI i → lt_statements S = nI s → md_statements T = nI s → 2 * s ≤ i → i ≤ k → st 0 = 0 → zRec sg st s T → k ≤ i → s ≠ 0 →
      (∃ n st' S' T', n ≤ 32 ∧ fX2_faultOfForm_l12 f (nI s) S = some (0, S') ∧ fX8_street_l12 f' 1 T = fX8_street_j60 1 T' ∧ lt_statements S' = nI n ∧ md_statements T' = nI n ∧ TZ T T' ∧ CL sg k S' ∧ st' 0 = 0 ∧ zRec sg st' n T') := by
    intro i s f f' S T st hf hf' hC hM ha hr hs hs' h2 hi h0 hR hki hs0
    obtain ⟨f, rfl⟩ : ∃ k', f = k' + 1 := ⟨f - 1, by omega⟩
    obtain ⟨f', rfl⟩ : ∃ k', f' = k' + 1 := ⟨f' - 1, by omega⟩
    refine ⟨s, st, S, T, by omega, ?_, ?_, hs, hs', TZ.rf T, hC, h0, hR⟩
    · rw [fX2_faultOfForm_l12, if_neg (show ¬ (64 : Int32) ≤ nI s from nI_ge (b := 64) (by omega) (by omega)), if_neg (nI_ne0 (by omega) (by omega))]
      unfold fX6_howMany_L
      rw [hC.1, ha, if_pos (nI_le hki (by omega))]
    · rw [fX8_street_l12, if_neg (show ¬ (1 : Int32) = 0 from by decide), hr, hM.1, if_neg (nI_nlt hki (by omega)), hs', if_neg (nI_ne0 (by omega) (by omega))]
  have step : ∀ i s f f' (S : zLt) (T : zMd), CL sg k S → ML sg k T → lt_at S = nI i → md_reading T = nI i → lt_statements S = nI s → md_statements T = nI s → 2 * s ≤ i → i ≤ k → (i < k ∨ s = 0) →
      fX2_faultOfForm_l12 (f + 1) (nI s) S = fX2_faultOfForm_j33 (nI s) S (fX2_faultOfForm_l12 f) ∧ fX8_street_l12 (f' + 1) 1 T = fX8_street_j34 T (fX8_street_l12 f') := by
    intro i s f f' S T hC hM ha hr hs hs' h2 hi hor
    constructor
    · rw [fX2_faultOfForm_l12, if_neg (show ¬ (64 : Int32) ≤ nI s from nI_ge (b := 64) (by omega) (by omega))]
      by_cases q : s = 0
      · rw [if_pos (show nI s = (0 : Int32) from by rw [q]; rfl)]
      · rw [if_neg (nI_ne0 (by omega) (by omega))]
        unfold fX6_howMany_L
        rw [hC.1, ha, if_neg (nI_ge (by omega) (by omega))]
    · rw [fX8_street_l12, if_neg (show ¬ (1 : Int32) = 0 from by decide), hr, hM.1]
      by_cases q : i < k
      · rw [if_pos (nI_lt q (by omega))]
      · rw [if_neg (nI_nlt (by omega) (by omega)), hs', if_pos (show nI s = (0 : Int32) from by rw [show s = 0 from by omega]; rfl)]
  have read : ∀ i s f f' (S : zLt) (T : zMd) (st : Nat → Nat), 0 < f' → CL sg k S → ML sg k T → lt_at S = nI i → md_reading T = nI i → lt_statements S = nI s → md_statements T = nI s → 2 * s ≤ i → i ≤ k → (i < k ∨ s = 0) → st 0 = 0 → st s = i → zRec sg st s T →
      (∃ i' S' T', i' ≤ 64 ∧ fX2_faultOfForm_l12 (f + 1) (nI s) S = some (-1000 - nI i', S') ∧ fX8_street_l12 (f' + 1) 1 T = fX8_street_j60 0 T' ∧ md_reading T' = nI i' ∧ TZ T T' ∧ CL sg k S') ∨
      (∃ i' st' S' T', i + 2 ≤ i' ∧ i' ≤ k ∧ fX2_faultOfForm_l12 (f + 1) (nI s) S = fX2_faultOfForm_l12 f (nI (s + 1)) S' ∧ fX8_street_l12 (f' + 1) 1 T = fX8_street_l12 f' 1 T' ∧ CL sg k S' ∧ ML sg k T' ∧ lt_at S' = nI i' ∧ md_reading T' = nI i' ∧ lt_statements S' = nI (s + 1) ∧ md_statements T' = nI (s + 1) ∧ TZ T T' ∧ st' 0 = 0 ∧ st' (s + 1) = i' ∧ zRec sg st' (s + 1) T') := by
    intro i s f f' S T st hf' hC hM ha hr hs hs' h2 hi hor h0 hst hR
    obtain ⟨e1, e2⟩ := step i s f f' S T hC hM ha hr hs hs' h2 hi hor
    obtain ⟨S1, s1, ⟨s2, s3, s4⟩, s5, s6⟩ := rs_c hx hC ha (by omega)
    obtain ⟨T1, t1, t2, t3, t4, t5⟩ := rs_m hx hM hr (by omega) hs' (by omega)
    obtain ⟨z1, z2⟩ := zSs_le hx hi
    have hC1 : CL sg k S1 := hC.cy s2 s3
    rw [e1, e2]
    unfold fX2_faultOfForm_j33 fX8_street_j34
    rw [s1, t1]
    rw [Option.bind_some]
    rw [Option.bind_some]
    unfold fX8_street_j53
    by_cases ok : (zSs sg i).1 = true
    · right
      obtain ⟨u1, u2, u3, u4⟩ := t5 ok
      have za : TZ T1 (md_set_statements T1 (nI (s + 1))) := TZ.statements _ _
      refine ⟨(zSs sg i).2.1, fun j => if j = s + 1 then (zSs sg i).2.1 else st j, lt_set_statements S1 (nI (s + 1)), md_set_statements T1 (nI (s + 1)), z2 ok, z1, ?_, ?_, hC1, (hM.tz t2).tz za, s5, (st_reading _ _).trans t4, rfl, st_statements _ _, t2.tr za, ?_, if_pos rfl, ?_⟩
      · rw [if_pos ok, if_neg (show ¬ (1 : Int32) = 0 from by decide), s4, hs, nI_1]
      · rw [if_pos ok, if_neg (show ¬ (1 : Int32) = 0 from by decide), t3, nI_1]
      · show (if 0 = s + 1 then _ else st 0) = 0
        rw [if_neg (show ¬ 0 = s + 1 from by omega)]; exact h0
      · exact (hR.more hst ok (by omega) u1 u2 u3 u4).fr (st_sort _ _) (st_sortAt _ _) (st_told _ _)
    · left
      obtain ⟨f', rfl⟩ : ∃ k', f' = k' + 1 := ⟨f' - 1, by omega⟩
      have za : TZ T1 (md_set_statements T1 (nI s + 0)) := TZ.statements _ _
      refine ⟨(zSs sg i).2.1, S1, md_set_statements T1 (nI s + 0), by omega, ?_, ?_, (st_reading _ _).trans t4, t2.tr za, hC1⟩
      · rw [if_neg ok, if_pos (show (0 : Int32) = 0 from rfl), s5]
      · rw [if_neg ok, if_pos (show (0 : Int32) = 0 from rfl), t3]
        rw [fX8_street_l12, if_pos (show (0 : Int32) = 0 from rfl)]
  induction d with
  | zero =>
    intro i s f f' S T st hd hf hf' hC hM ha hr hs hs' h2 hi h0 hst hR
    obtain ⟨f, rfl⟩ : ∃ k', f = k' + 1 := ⟨f - 1, by omega⟩
    obtain ⟨f', rfl⟩ : ∃ k', f' = k' + 1 := ⟨f' - 1, by omega⟩
    by_cases q : s = 0
    · rcases read i s f f' S T st (by omega) hC hM ha hr hs hs' h2 hi (Or.inr q) h0 hst hR with g | ⟨i', -, -, -, g1, g2, -⟩
      · exact Or.inl g
      · omega
    · exact Or.inr (stop i s (f + 1) (f' + 1) S T st (by omega) (by omega) hC hM ha hr hs hs' h2 hi h0 hR (by omega) q)
  | succ d ih =>
    intro i s f f' S T st hd hf hf' hC hM ha hr hs hs' h2 hi h0 hst hR
    obtain ⟨f, rfl⟩ : ∃ k', f = k' + 1 := ⟨f - 1, by omega⟩
    obtain ⟨f', rfl⟩ : ∃ k', f' = k' + 1 := ⟨f' - 1, by omega⟩
    by_cases q : i < k ∨ s = 0
    · rcases read i s f f' S T st (by omega) hC hM ha hr hs hs' h2 hi q h0 hst hR with g | ⟨i', st', S', T', g1, g2, g3, g4, g5, g6, g7, g8, g9, g10, g11, g12, g13, g14⟩
      · exact Or.inl g
      · rw [g3, g4]
        rcases ih i' (s + 1) f f' S' T' st' (by omega) (by omega) (by omega) g5 g6 g7 g8 g9 g10 (by omega) g2 g12 g13 g14 with ⟨i2, S2, T2, a1, a2, a3, a4, a5, a6⟩ | ⟨n, st2, S2, T2, a1, a2, a3, a4, a5, a6, a7, a8, a9⟩
        · exact Or.inl ⟨i2, S2, T2, a1, a2, a3, a4, g11.tr a5, a6⟩
        · exact Or.inr ⟨n, st2, S2, T2, a1, a2, a3, a4, a5, g11.tr a6, a7, a8, a9⟩
    · exact Or.inr (stop i s (f + 1) (f' + 1) S T st (by omega) (by omega) hC hM ha hr hs hs' h2 hi h0 hR (by omega) (fun z => q (Or.inr z)))
theorem sense_l {sg : Nat → Int32} {k n : Nat} {st : Nat → Nat} (hx : zTxt sg k) (hn : n ≤ 32) : ∀ d j f f' (S : zLt) (Z : zSt) (T : zMd) c w, j + d = n → d < f → d < f' → CL sg k S → lt_at S = nI (st j) → lt_statements S = nI n → md_statements T = nI n → zRec sg st n T → SR c w Z T →
    (∃ S' Z' T' c' w', fX2_faultOfSense_l7 f (nI j) S Z = some (0, S', Z') ∧ fX8_street_l86 f' (nI j) T = some (nI n, T') ∧ CL sg k S' ∧ lt_statements S' = nI n ∧ SR c' w' Z' T' ∧ FR T T' ∧ md_kept T' = md_kept T) ∨
    (∃ i S' Z' T', i ≤ 64 ∧ fX2_faultOfSense_l7 f (nI j) S Z = some (-2000 - nI i, S', Z') ∧ fX8_street_l86 f' (nI j) T = some (-2000 - nI i, T') ∧ CL sg k S' ∧ SE (zload T 100) T' ∧ FR T T' ∧ SE (zload T 0) (zload T' 0)) := by
  intro d
  induction d with
  | zero =>
    intro j f f' S Z T c w hj hf hf' hC ha hs hs' hR h
    obtain ⟨f, rfl⟩ : ∃ k', f = k' + 1 := ⟨f - 1, by omega⟩
    obtain ⟨f', rfl⟩ : ∃ k', f' = k' + 1 := ⟨f' - 1, by omega⟩
    refine Or.inl ⟨S, Z, T, c, w, ?_, ?_, hC, hs, h, FR.rf, rfl⟩
    · rw [fX2_faultOfSense_l7, hs, if_pos (nI_le (by omega) (by omega))]
    · rw [fX8_street_l86, hs', if_pos (nI_le (by omega) (by omega))]
  | succ d ih =>
    intro j f f' S Z T c w hj hf hf' hC ha hs hs' hR h
    obtain ⟨f, rfl⟩ : ∃ k', f = k' + 1 := ⟨f - 1, by omega⟩
    obtain ⟨f', rfl⟩ : ∃ k', f' = k' + 1 := ⟨f' - 1, by omega⟩
    obtain ⟨r1, r2, r3, r4⟩ := hR j (by omega)
    obtain ⟨S1, s1, ⟨s2, s3, s4⟩, s5, s6⟩ := rs_c hx hC ha (by omega)
    obtain ⟨s7, s8⟩ := s6 r1
    rw [if_pos r1] at s1
    obtain ⟨r, Z', T', q1, q2, q3, q4, q5, q6⟩ := comes_eq h (show j ≤ 31 from by omega) r1 s7 s8 r4
    have hC1 : CL sg k S1 := hC.cy s2 s3
    obtain ⟨f1, f2, f3, f4, f5, f6, f7, f8, f9, f10, f11, f12⟩ := q4
    have ec : fX2_faultOfSense_l7 (f + 1) (nI j) S Z = if r = 0 then some (-2000 - nI (st j), S1, Z') else fX2_faultOfSense_l7 f (nI (j + 1)) S1 Z' := by
      rw [fX2_faultOfSense_l7, hs, if_neg (nI_ge (by omega) (by omega)), s1]
      rw [Option.bind_some]
      rw [if_neg (show ¬ (1 : Int32) = 0 from by decide), q2]
      rw [Option.bind_some]
      rw [ha, nI_1]
    have em : fX8_street_l86 (f' + 1) (nI j) T = if r = 0 then (fX8_passesAll T' 1 0).bind fun u4 => ix 33 (nI j) (some (-2000 - md_sortAt u4 (nI j).toNatClampNeg, u4)) else fX8_street_l86 f' (nI (j + 1)) T' := by
      rw [fX8_street_l86, hs', if_neg (nI_ge (by omega) (by omega)), q3]
      rw [Option.bind_some]
      rw [nI_1]
    rw [ec, em]
    rcases q1 with rfl | rfl
    · right
      rw [if_pos (show (0 : Int32) = 0 from rfl), if_pos (show (0 : Int32) = 0 from rfl)]
      obtain ⟨T5, l1, l2, l3, l4⟩ := load_ok T' 1 (by omega)
      have l1' : fX8_passesAll T' 1 0 = some T5 := l1
      have l3' := l3
      obtain ⟨g1, g2, g3, g4, g5, g6, g7, g8, g9, g10, g11, g12⟩ := l3
      refine ⟨st j, S1, Z', T5, r3, rfl, ?_, hC1, (SR.kept2 q5 100).tr l2, FR.tr ⟨f1, f2, f3, f4, f5, f6, f7, f8, f9, f10, f11, f12⟩ l3', (SR.kept2 q5 0).tr (l4 0)⟩
      rw [l1']
      rw [Option.bind_some]
      rw [ix_nI (by omega) (by omega), nI_clamp (by omega), g4, f4, r4.2.1]
    · rw [if_neg (show ¬ (1 : Int32) = 0 from by decide), if_neg (show ¬ (1 : Int32) = 0 from by decide)]
      obtain ⟨c', w', h'⟩ := q6 rfl
      rcases ih (j + 1) f f' S1 Z' T' c' w' (by omega) (by omega) (by omega) hC1 (by rw [s5, r2]) (s4.trans hs) (f8.trans hs') (hR.fr f3 f4 f5) h' with ⟨S2, Z2, T2, c2, w2, a1, a2, a3, a4, a5, a6, a7⟩ | ⟨i, S2, Z2, T2, a1, a2, a3, a4, a5, a6, a7⟩
      · exact Or.inl ⟨S2, Z2, T2, c2, w2, a1, a2, a3, a4, a5, FR.tr ⟨f1, f2, f3, f4, f5, f6, f7, f8, f9, f10, f11, f12⟩ a6, a7.trans q5⟩
      · exact Or.inr ⟨i, S2, Z2, T2, a1, a2, a3, a4, (SR.kept2 q5 100).tr a5, FR.tr ⟨f1, f2, f3, f4, f5, f6, f7, f8, f9, f10, f11, f12⟩ a6, (SR.kept2 q5 0).tr a7⟩
theorem f1000_ne : ∀ i, i < 65 → (-1000 : Int32) - nI i ≠ 0 := by decide +kernel
theorem f2000_ne : ∀ i, i < 65 → (-2000 : Int32) - nI i ≠ 0 := by decide +kernel
/-- both, behind a street that was told -/
theorem RT.told {M M' : zMn} {T T' : zMd} (h : RT M T) {c w : Nat} (hs : SR c w (mn_live M') T') (m2 : mn_isKept M' = mn_isKept M) (m3 : mn_kept M' = mn_kept M) (m4 : mn_chains M' = mn_chains M) (m5 : mn_refusals M' = mn_refusals M) (m6 : mn_told M' = mn_told M) (m7 : lt_length (mn_letters M') = 0) (ei : md_hasImage T' = md_hasImage T) (ek : SE (zload T 0) (zload T' 0)) (et : md_taped T' = 0) (e2 : md_rowMany T' = md_rowMany T ∧ md_row T' = md_row T ∧ md_refused T' = md_refused T) : RT M' T' := by
  obtain ⟨-, ⟨h2, h2'⟩, -, ⟨k2, y1, y2, y3, y4⟩, h5, h6⟩ := h
  obtain ⟨a1, a2, a3⟩ := e2
  refine ⟨⟨c, w, hs⟩, ⟨m2.trans (h2.trans ei.symm), ?_⟩, ⟨0, by omega, m7, et, fun i hi => by omega⟩, ⟨k2, y1, by rw [m6]; exact y2, a1.trans y3, fun i hi => by rw [m6, a2]; exact y4 i hi⟩, fun i hi => by rw [m5, a3]; exact h5 i hi, by rw [m4]; exact h6⟩
  rcases h2' with z | ⟨z, c', w', z2⟩
  · exact Or.inl (ei.trans z)
  · refine Or.inr ⟨ei.trans z, c', w', ?_⟩
    rw [m3]
    exact z2.se ek
theorem tp_se (T : zMd) (x : Int32) : md_number (md_set_taped T x) = md_number T ∧ md_kind (md_set_taped T x) = md_kind T ∧ md_figure (md_set_taped T x) = md_figure T ∧ md_one (md_set_taped T x) = md_one T ∧ md_other (md_set_taped T x) = md_other T ∧ md_stands (md_set_taped T x) = md_stands T ∧ md_uses (md_set_taped T x) = md_uses T ∧ md_earned (md_set_taped T x) = md_earned T ∧ md_houses (md_set_taped T x) = md_houses T ∧ md_sums (md_set_taped T x) = md_sums T ∧ md_falls (md_set_taped T x) = md_falls T := ⟨rfl, rfl, rfl, rfl, rfl, rfl, rfl, rfl, rfl, rfl, rfl⟩
theorem tp_kept (T : zMd) (x : Int32) : md_kept (md_set_taped T x) = md_kept T := rfl
theorem tp_hasImage (T : zMd) (x : Int32) : md_hasImage (md_set_taped T x) = md_hasImage T := rfl
theorem tp_rowMany (T : zMd) (x : Int32) : md_rowMany (md_set_taped T x) = md_rowMany T := rfl
theorem tp_row (T : zMd) (x : Int32) : md_row (md_set_taped T x) = md_row T := rfl
theorem tp_refused (T : zMd) (x : Int32) : md_refused (md_set_taped T x) = md_refused T := rfl
theorem tp_taped (T : zMd) (x : Int32) : md_taped (md_set_taped T x) = x := rfl
theorem tp_statements (T : zMd) (x : Int32) : md_statements (md_set_taped T x) = md_statements T := rfl
theorem tp_sort (T : zMd) (x : Int32) : md_sort (md_set_taped T x) = md_sort T := rfl
theorem tp_sortAt (T : zMd) (x : Int32) : md_sortAt (md_set_taped T x) = md_sortAt T := rfl
theorem tp_told (T : zMd) (x : Int32) : md_told (md_set_taped T x) = md_told T := rfl
theorem sim_street : zSim_street RT := by
  intro M T h
  have hr := h
  obtain ⟨⟨c, w, hs⟩, -, ⟨k, hk, x1, x2, x3⟩, -⟩ := h
  obtain ⟨sg, esg⟩ : ∃ sg : Nat → Int32, sg = fun i => if i < k then md_tape T i else -1 := ⟨_, rfl⟩
  have hx : zTxt sg k := ⟨hk, fun i hi => by rw [esg]; exact if_neg (by omega)⟩
  obtain ⟨S0, eS0⟩ : ∃ S0, S0 = lt_set_statements (lt_set_at (mn_letters M) 0) 0 := ⟨_, rfl⟩
  have hC : CL sg k S0 := by
    rw [eS0]
    refine ⟨x1, fun i hi => ?_⟩
    rw [esg]
    show lt_all (mn_letters M) i = if i < k then _ else _
    rw [if_pos hi]
    exact x3 i hi
  obtain ⟨Ta, ea⟩ : ∃ Ta, Ta = md_set_reading T 0 := ⟨_, rfl⟩
  obtain ⟨Tb, eb⟩ : ∃ Tb, Tb = md_set_statements Ta 0 := ⟨_, rfl⟩
  have za : TZ T Ta := by rw [ea]; exact TZ.reading _ _
  have zb : TZ Ta Tb := by rw [eb]; exact TZ.statements _ _
  have zab := za.tr zb
  have hMT : ML sg k T := ⟨x2, fun i hi => by rw [esg]; exact (if_pos hi).symm⟩
  have hM : ML sg k Tb := hMT.tz zab
  have ra : md_reading Ta = nI 0 := by rw [ea]; rfl
  have rb : md_reading Tb = nI 0 := by rw [eb, st_reading]; exact ra
  have nb : md_statements Tb = nI 0 := by rw [eb, st_statements]; rfl
  have aS : lt_at S0 = nI 0 := by rw [eS0]; rfl
  have nS : lt_statements S0 = nI 0 := by rw [eS0]; rfl
  have emS : fX8_street T = fX8_street_l12 FU 1 Tb := by
    unfold fX8_street
    rw [← ea, ← eb]
  have ecS : fX2_faultOfForm (mn_letters M) = fX2_faultOfForm_l12 FU (nI 0) S0 := by
    unfold fX2_faultOfForm
    rw [← eS0]
    rfl
  unfold fX7_street
  rw [ecS, emS]
  rcases form_l hx 64 0 0 FU FU S0 Tb (fun _ => 0) (by omega) (FU_big _ (by omega)) (FU_big _ (by omega)) hC hM aS rb nS nb (by omega) (by omega) rfl rfl (fun j hj => by omega) with ⟨i', S1, T1, a1, a2, a3, a4, a5, a6⟩ | ⟨n, st, S1, T1, a1, a2, a3, a4, a5, a6, a7, a8, a9⟩
  · have zt := zab.tr a5
    rw [a2, a3]
    rw [Option.bind_some]
    rw [if_neg (f1000_ne i' (by omega))]
    unfold fX7_street_j35 fX8_street_j60
    rw [if_neg (f1000_ne i' (by omega)), if_pos (show (0 : Int32) = 0 from rfl), a4]
    refine ⟨_, _, _, rfl, rfl, ?_⟩
    obtain ⟨Tc, ec⟩ : ∃ Tc, Tc = md_set_taped T1 0 := ⟨_, rfl⟩
    rw [← ec]
    obtain ⟨z1, z2, z3, z4, z5, z6, z7, z8⟩ := zt
    obtain ⟨b1, b2, b3, b4, b5, b6, b7, b8, b9, b10, b11⟩ := z1
    have sT1 := hs.of ⟨b1, b2, b3, b4, b5, b6, b7, b8, b9, b10, b11⟩
    refine RT.told hr (c := c) (w := w) (M' := mn_set_letters (mn_set_letters (mn_set_mind M (fX5_become (mn_mind M) (mn_live M))) S1) (fX6_forget_L S1)) ?_ rfl rfl rfl rfl rfl rfl ?_ ?_ ?_ ?_
    · rw [ec]
      exact sT1.of (tp_se T1 0)
    · rw [ec, tp_hasImage]; exact z3
    · rw [ec]; exact SR.kept2 ((tp_kept T1 0).trans z2) 0
    · rw [ec, tp_taped]
    · rw [ec, tp_rowMany, tp_row, tp_refused]; exact ⟨z6, z7, z8⟩
  · have zt := zab.tr a6
    obtain ⟨z1, z2, z3, z4, z5, z6, z7, z8⟩ := zt
    obtain ⟨b1, b2, b3, b4, b5, b6, b7, b8, b9, b10, b11⟩ := z1
    have sT1 := hs.of ⟨b1, b2, b3, b4, b5, b6, b7, b8, b9, b10, b11⟩
    obtain ⟨Tc, ec⟩ : ∃ Tc, Tc = md_set_taped T1 0 := ⟨_, rfl⟩
    have sTc : SR c w (mn_live M) Tc := by rw [ec]; exact sT1.of (tp_se T1 0)
    have tc0 : md_taped Tc = 0 := by rw [ec, tp_taped]
    have tk : md_kept Tc = md_kept T := by rw [ec, tp_kept]; exact z2
    have ti : md_hasImage Tc = md_hasImage T := by rw [ec, tp_hasImage]; exact z3
    have tr : md_rowMany Tc = md_rowMany T ∧ md_row Tc = md_row T ∧ md_refused Tc = md_refused T := by rw [ec, tp_rowMany, tp_row, tp_refused]; exact ⟨z6, z7, z8⟩
    have tn : md_statements Tc = nI n := by rw [ec, tp_statements]; exact a5
    have tR : zRec sg st n Tc := by rw [ec]; exact a9.fr (tp_sort _ _) (tp_sortAt _ _) (tp_told _ _)
    obtain ⟨Td, k1, k2, k3, k4, k5⟩ := keep_ok Tc 1 (by omega)
    have k1' : fX8_passesAll Tc 1 1 = some Td := k1
    obtain ⟨f1, f2, f3, f4, f5, f6, f7, f8, f9, f10, f11, f12⟩ := k3
    have sTd : SR c w (fX5_become (mn_mind M) (mn_live M)) Td := (sTc.se k2).become (mn_mind M)
    have ej : fX8_street_j60 1 T1 = fX8_street_l86 FU (nI 0) Td := by
      unfold fX8_street_j60
      rw [if_neg (show ¬ (1 : Int32) = 0 from by decide), ← ec, k1']
      rw [Option.bind_some]
      rfl
    have es : fX2_faultOfSense S1 (fX5_become (mn_mind M) (mn_live M)) = fX2_faultOfSense_l7 FU (nI 0) (lt_set_at S1 0) (fX5_become (mn_mind M) (mn_live M)) := rfl
    rw [a2, a3, ej]
    rw [Option.bind_some]
    rw [if_pos (show (0 : Int32) = 0 from rfl), es]
    have e0 : SE (zload T 0) (zload Td 0) := (SR.kept2 tk 0).tr (k5 0 (by omega) (by omega))
    rcases sense_l hx a1 n 0 FU FU (lt_set_at S1 0) _ Td c w (by omega) (FU_big _ (by omega)) (FU_big _ (by omega)) a7 (by rw [a8]; rfl) a4 (f8.trans tn) (tR.fr f3 f4 f5) sTd with ⟨S2, Z2, T2, c2, w2, p1, p2, p3, p4, p5, p6, p7⟩ | ⟨i, S2, Z2, T2, p1, p2, p3, p4, p5, p6, p7⟩
    · obtain ⟨g1, g2, g3, g4, g5, g6, g7, g8, g9, g10, g11, g12⟩ := p6
      rw [p1, p2]
      rw [Option.bind_some]
      unfold fX7_street_j35 fX2_statementCount
      rw [if_pos (show (0 : Int32) = 0 from rfl)]
      refine ⟨nI n, mn_set_letters (mn_set_live (mn_set_letters (mn_set_mind M Z2) S2) (fX5_become (mn_live M) Z2)) (fX6_forget_L S2), T2, ?_, rfl, ?_⟩
      · show some (lt_statements S2, _) = _
        rw [p4]
        rfl
      · exact RT.told hr (c := c2) (w := w2) (M' := mn_set_letters (mn_set_live (mn_set_letters (mn_set_mind M Z2) S2) (fX5_become (mn_live M) Z2)) (fX6_forget_L S2)) (p5.become (mn_live M)) rfl rfl rfl rfl rfl rfl (g10.trans (f10.trans ti)) (e0.tr (SR.kept2 p7 0)) (g6.trans (f6.trans tc0)) ⟨g12.trans (f12.trans tr.1), g11.trans (f11.trans tr.2.1), g1.trans (f1.trans tr.2.2)⟩
    · obtain ⟨g1, g2, g3, g4, g5, g6, g7, g8, g9, g10, g11, g12⟩ := p6
      rw [p2, p3]
      rw [Option.bind_some]
      unfold fX7_street_j35
      rw [if_neg (f2000_ne i (by omega))]
      refine ⟨-2000 - nI i, mn_set_letters (mn_set_letters (mn_set_mind M Z2) S2) (fX6_forget_L S2), T2, rfl, rfl, ?_⟩
      have sT2 : SR c w (mn_live M) T2 := (sTc.se k4).se p5
      exact RT.told hr (c := c) (w := w) (M' := mn_set_letters (mn_set_letters (mn_set_mind M Z2) S2) (fX6_forget_L S2)) sT2 rfl rfl rfl rfl rfl rfl (g10.trans (f10.trans ti)) (e0.tr p7) (g6.trans (f6.trans tc0)) ⟨g12.trans (f12.trans tr.1), g11.trans (f11.trans tr.2.1), g1.trans (f1.trans tr.2.2)⟩

end
section
/-! all the calls, and the start -/
theorem rt_start : ∃ (S1 : zSt) (T1 : zMd), fX5_beginAnew zStz = some S1 ∧ fX8_beginsAnew zMdz = some T1 ∧ RT ((S1, S1, S1, zLtz, zRwz, zCh1, zOrz, zGmz, (fun _ => 0), 0) : zMn) T1 := by
  obtain ⟨S1, T1, a1, a2, a3, a4, -⟩ := anew_eq zStz zMdz ⟨rfl, Or.inl rfl⟩ ⟨rfl, Or.inl rfl⟩
  obtain ⟨f1, f2, f3, f4, f5, f6, f7, f8, f9, f10, f11, f12⟩ := a4
  have i0 : md_hasImage T1 = 0 := f10.trans rfl
  have t0 : md_taped T1 = 0 := f6.trans rfl
  have r0 : md_rowMany T1 = 0 := f12.trans rfl
  have u0 : ∀ i, md_refused T1 i = 0 := fun i => by rw [f1]; rfl
  refine ⟨S1, T1, a1, a2, ⟨1, 1, a3⟩, ⟨i0.symm, Or.inl i0⟩, ⟨0, by omega, rfl, t0, fun i hi => by omega⟩, ⟨0, by omega, rfl, r0, fun i hi => by omega⟩, fun i hi => (u0 i).symm, ?_⟩
  show zCh1 0 = 1
  unfold zCh1
  exact if_pos rfl
theorem zSimAll : ∃ (R : zMn → zMd → Prop) (S1 : zSt) (T1 : zMd), fX5_beginAnew zStz = some S1 ∧ fX8_beginsAnew zMdz = some T1 ∧ R ((S1, S1, S1, zLtz, zRwz, zCh1, zOrz, zGmz, (fun _ => 0), 0) : zMn) T1 ∧ zSim_feed R ∧ zSim_street R ∧ zSim_house R ∧ zSim_law R ∧ zSim_may R ∧ zSim_cost R ∧ zSim_add R ∧ zSim_burn R ∧ zSim_hangs R ∧ zSim_save R ∧ zSim_fewest R ∧ zSim_chain R ∧ zSim_way R ∧ zSim_both R ∧ zSim_far R ∧ zSim_can R ∧ zSim_more R ∧ zSim_orders R ∧ zSim_game R ∧ zSim_row R ∧ zSim_judge R ∧ zSim_seeds R ∧ zSim_image R ∧ zSim_restore R ∧ zSim_count R := by
  obtain ⟨S1, T1, a1, a2, a3⟩ := rt_start
  exact ⟨RT, S1, T1, a1, a2, a3, sim_feed, sim_street, sim_house, sim_law, sim_may, sim_cost, sim_add, sim_burn, sim_hangs, sim_save, sim_fewest, sim_chain, sim_way, sim_both, sim_far, sim_can, sim_more, sim_orders, sim_game, sim_row, sim_judge, sim_seeds, sim_image, sim_restore, sim_count⟩

end
end
