/-! the mirrored functions: pure, by program -/
def zLen : List Nat := [7, 2, 3, 1, 0]
def zByt : List (List Int32) := [[104, 44, 104, 44, 100, 100, 59], [104, 59], [100, 100, 59], [59], []]
theorem ob_bind {α β : Type} {o : Option α} {f : α → Option β} {r : β} (h : o.bind f = some r) : ∃ u, o = some u ∧ f u = some r := by
  cases o with
  | none => cases h
  | some u => exact ⟨u, rfl, h⟩
theorem ob_gd {α : Type} {c : Prop} [Decidable c] {b : Option α} {r : α} (h : (if c then none else b) = some r) : ¬ c ∧ b = some r := by
  by_cases hc : c
  · rw [if_pos hc] at h; cases h
  · rw [if_neg hc] at h; exact ⟨hc, h⟩
theorem ob_ck {α : Type} {c : Prop} [Decidable c] {b : Option α} {r : α} (h : (if c then b else none) = some r) : c ∧ b = some r := by
  by_cases hc : c
  · rw [if_pos hc] at h; exact ⟨hc, h⟩
  · rw [if_neg hc] at h; cases h
/-- the index i of an array of n places -/
def ix {α : Type} (n : Nat) (i : Int32) (k : Option α) : Option α := if i < 0 ∨ n ≤ i.toNatClampNeg then none else k
theorem ob_ix {α : Type} {n : Nat} {i : Int32} {k : Option α} {r : α} (h : ix n i k = some r) : ¬ (i < 0 ∨ n ≤ i.toNatClampNeg) ∧ k = some r := ob_gd h
/-- fuel of a mirrored loop -/
def FU : Nat := 1000000000000000000000000000000000000000000000000000000000000
abbrev zCh : Type := (Nat → Int32)
def ch_numbers (S : zCh) : Nat → Int32 := S
def ch_set_numbers (S : zCh) (x : Nat → Int32) : zCh := (x)
abbrev zGm : Type := (Nat → Int32)
def gm_wins (S : zGm) : Nat → Int32 := S
def gm_set_wins (S : zGm) (x : Nat → Int32) : zGm := (x)
abbrev zLt : Type := (Nat → Int32) × (Int32) × (Nat → Int32) × (Int32) × (Int32) × (Int32) × (Int32)
def lt_all (S : zLt) : Nat → Int32 := S.1
def lt_length (S : zLt) : Int32 := S.2.1
def lt_figures (S : zLt) : Nat → Int32 := S.2.2.1
def lt_at (S : zLt) : Int32 := S.2.2.2.1
def lt_verb (S : zLt) : Int32 := S.2.2.2.2.1
def lt_figureCount (S : zLt) : Int32 := S.2.2.2.2.2.1
def lt_statements (S : zLt) : Int32 := S.2.2.2.2.2.2
def lt_set_all (S : zLt) (x : Nat → Int32) : zLt := (x, S.2)
def lt_set_length (S : zLt) (x : Int32) : zLt := (S.1, x, S.2.2)
def lt_set_figures (S : zLt) (x : Nat → Int32) : zLt := (S.1, S.2.1, x, S.2.2.2)
def lt_set_at (S : zLt) (x : Int32) : zLt := (S.1, S.2.1, S.2.2.1, x, S.2.2.2.2)
def lt_set_verb (S : zLt) (x : Int32) : zLt := (S.1, S.2.1, S.2.2.1, S.2.2.2.1, x, S.2.2.2.2.2)
def lt_set_figureCount (S : zLt) (x : Int32) : zLt := (S.1, S.2.1, S.2.2.1, S.2.2.2.1, S.2.2.2.2.1, x, S.2.2.2.2.2.2)
def lt_set_statements (S : zLt) (x : Int32) : zLt := (S.1, S.2.1, S.2.2.1, S.2.2.2.1, S.2.2.2.2.1, S.2.2.2.2.2.1, x)
abbrev zOr : Type := (Nat → Int32)
def or_ways (S : zOr) : Nat → Int32 := S
def or_set_ways (S : zOr) (x : Nat → Int32) : zOr := (x)
abbrev zRw : Type := (Nat → Int32) × (Int32)
def rw_all (S : zRw) : Nat → Int32 := S.1
def rw_length (S : zRw) : Int32 := S.2
def rw_set_all (S : zRw) (x : Nat → Int32) : zRw := (x, S.2)
def rw_set_length (S : zRw) (x : Int32) : zRw := (S.1, x)
abbrev zSt : Type := (Nat → Int32) × (Nat → Int32) × (Nat → Int32) × (Nat → Int32) × (Nat → Int32) × (Nat → Int32) × (Nat → Int32) × (Int32) × (Int32) × (Int32) × (Int32)
def st_kinds (S : zSt) : Nat → Int32 := S.1
def st_figures (S : zSt) : Nat → Int32 := S.2.1
def st_numbers (S : zSt) : Nat → Int32 := S.2.2.1
def st_firsts (S : zSt) : Nat → Int32 := S.2.2.2.1
def st_seconds (S : zSt) : Nat → Int32 := S.2.2.2.2.1
def st_uses (S : zSt) : Nat → Int32 := S.2.2.2.2.2.1
def st_earned (S : zSt) : Nat → Int32 := S.2.2.2.2.2.2.1
def st_came (S : zSt) : Int32 := S.2.2.2.2.2.2.2.1
def st_standing (S : zSt) : Int32 := S.2.2.2.2.2.2.2.2.1
def st_sums (S : zSt) : Int32 := S.2.2.2.2.2.2.2.2.2.1
def st_falls (S : zSt) : Int32 := S.2.2.2.2.2.2.2.2.2.2
def st_set_kinds (S : zSt) (x : Nat → Int32) : zSt := (x, S.2)
def st_set_figures (S : zSt) (x : Nat → Int32) : zSt := (S.1, x, S.2.2)
def st_set_numbers (S : zSt) (x : Nat → Int32) : zSt := (S.1, S.2.1, x, S.2.2.2)
def st_set_firsts (S : zSt) (x : Nat → Int32) : zSt := (S.1, S.2.1, S.2.2.1, x, S.2.2.2.2)
def st_set_seconds (S : zSt) (x : Nat → Int32) : zSt := (S.1, S.2.1, S.2.2.1, S.2.2.2.1, x, S.2.2.2.2.2)
def st_set_uses (S : zSt) (x : Nat → Int32) : zSt := (S.1, S.2.1, S.2.2.1, S.2.2.2.1, S.2.2.2.2.1, x, S.2.2.2.2.2.2)
def st_set_earned (S : zSt) (x : Nat → Int32) : zSt := (S.1, S.2.1, S.2.2.1, S.2.2.2.1, S.2.2.2.2.1, S.2.2.2.2.2.1, x, S.2.2.2.2.2.2.2)
def st_set_came (S : zSt) (x : Int32) : zSt := (S.1, S.2.1, S.2.2.1, S.2.2.2.1, S.2.2.2.2.1, S.2.2.2.2.2.1, S.2.2.2.2.2.2.1, x, S.2.2.2.2.2.2.2.2)
def st_set_standing (S : zSt) (x : Int32) : zSt := (S.1, S.2.1, S.2.2.1, S.2.2.2.1, S.2.2.2.2.1, S.2.2.2.2.2.1, S.2.2.2.2.2.2.1, S.2.2.2.2.2.2.2.1, x, S.2.2.2.2.2.2.2.2.2)
def st_set_sums (S : zSt) (x : Int32) : zSt := (S.1, S.2.1, S.2.2.1, S.2.2.2.1, S.2.2.2.2.1, S.2.2.2.2.2.1, S.2.2.2.2.2.2.1, S.2.2.2.2.2.2.2.1, S.2.2.2.2.2.2.2.2.1, x, S.2.2.2.2.2.2.2.2.2.2)
def st_set_falls (S : zSt) (x : Int32) : zSt := (S.1, S.2.1, S.2.2.1, S.2.2.2.1, S.2.2.2.2.1, S.2.2.2.2.2.1, S.2.2.2.2.2.2.1, S.2.2.2.2.2.2.2.1, S.2.2.2.2.2.2.2.2.1, S.2.2.2.2.2.2.2.2.2.1, x)
abbrev zMn : Type := (zSt) × (zSt) × (zSt) × (zLt) × (zRw) × (zCh) × (zOr) × (zGm) × (Nat → Int32) × (Int32)
def mn_live (S : zMn) : zSt := S.1
def mn_kept (S : zMn) : zSt := S.2.1
def mn_mind (S : zMn) : zSt := S.2.2.1
def mn_letters (S : zMn) : zLt := S.2.2.2.1
def mn_told (S : zMn) : zRw := S.2.2.2.2.1
def mn_chains (S : zMn) : zCh := S.2.2.2.2.2.1
def mn_comings (S : zMn) : zOr := S.2.2.2.2.2.2.1
def mn_builders (S : zMn) : zGm := S.2.2.2.2.2.2.2.1
def mn_refusals (S : zMn) : Nat → Int32 := S.2.2.2.2.2.2.2.2.1
def mn_isKept (S : zMn) : Int32 := S.2.2.2.2.2.2.2.2.2
def mn_set_live (S : zMn) (x : zSt) : zMn := (x, S.2)
def mn_set_kept (S : zMn) (x : zSt) : zMn := (S.1, x, S.2.2)
def mn_set_mind (S : zMn) (x : zSt) : zMn := (S.1, S.2.1, x, S.2.2.2)
def mn_set_letters (S : zMn) (x : zLt) : zMn := (S.1, S.2.1, S.2.2.1, x, S.2.2.2.2)
def mn_set_told (S : zMn) (x : zRw) : zMn := (S.1, S.2.1, S.2.2.1, S.2.2.2.1, x, S.2.2.2.2.2)
def mn_set_chains (S : zMn) (x : zCh) : zMn := (S.1, S.2.1, S.2.2.1, S.2.2.2.1, S.2.2.2.2.1, x, S.2.2.2.2.2.2)
def mn_set_comings (S : zMn) (x : zOr) : zMn := (S.1, S.2.1, S.2.2.1, S.2.2.2.1, S.2.2.2.2.1, S.2.2.2.2.2.1, x, S.2.2.2.2.2.2.2)
def mn_set_builders (S : zMn) (x : zGm) : zMn := (S.1, S.2.1, S.2.2.1, S.2.2.2.1, S.2.2.2.2.1, S.2.2.2.2.2.1, S.2.2.2.2.2.2.1, x, S.2.2.2.2.2.2.2.2)
def mn_set_refusals (S : zMn) (x : Nat → Int32) : zMn := (S.1, S.2.1, S.2.2.1, S.2.2.2.1, S.2.2.2.2.1, S.2.2.2.2.2.1, S.2.2.2.2.2.2.1, S.2.2.2.2.2.2.2.1, x, S.2.2.2.2.2.2.2.2.2)
def mn_set_isKept (S : zMn) (x : Int32) : zMn := (S.1, S.2.1, S.2.2.1, S.2.2.2.1, S.2.2.2.2.1, S.2.2.2.2.2.1, S.2.2.2.2.2.2.1, S.2.2.2.2.2.2.2.1, S.2.2.2.2.2.2.2.2.1, x)
abbrev zMd : Type := (Nat → Int32) × (Nat → Int32) × (Nat → Int32) × (Nat → Int32) × (Nat → Int32) × (Nat → Int32) × (Nat → Int32) × (Nat → Int32) × (Nat → Int32) × (Int32) × (Int32) × (Int32) × (Nat → Int32) × (Nat → Int32) × (Nat → Int32) × (Nat → Int32) × (Int32) × (Int32) × (Int32) × (Int32) × (Nat → Int32) × (Int32) × (Int32) × (Int32) × (Nat → Int32) × (Int32) × (Int32) × (Nat → Int32) × (Nat → Int32) × (Nat → Int32) × (Nat → Int32) × (Int32) × (Int32)
def md_refused (S : zMd) : Nat → Int32 := S.1
def md_number (S : zMd) : Nat → Int32 := S.2.1
def md_kind (S : zMd) : Nat → Int32 := S.2.2.1
def md_figure (S : zMd) : Nat → Int32 := S.2.2.2.1
def md_one (S : zMd) : Nat → Int32 := S.2.2.2.2.1
def md_other (S : zMd) : Nat → Int32 := S.2.2.2.2.2.1
def md_stands (S : zMd) : Nat → Int32 := S.2.2.2.2.2.2.1
def md_uses (S : zMd) : Nat → Int32 := S.2.2.2.2.2.2.2.1
def md_earned (S : zMd) : Nat → Int32 := S.2.2.2.2.2.2.2.2.1
def md_houses (S : zMd) : Int32 := S.2.2.2.2.2.2.2.2.2.1
def md_sums (S : zMd) : Int32 := S.2.2.2.2.2.2.2.2.2.2.1
def md_falls (S : zMd) : Int32 := S.2.2.2.2.2.2.2.2.2.2.2.1
def md_tape (S : zMd) : Nat → Int32 := S.2.2.2.2.2.2.2.2.2.2.2.2.1
def md_sort (S : zMd) : Nat → Int32 := S.2.2.2.2.2.2.2.2.2.2.2.2.2.1
def md_sortAt (S : zMd) : Nat → Int32 := S.2.2.2.2.2.2.2.2.2.2.2.2.2.2.1
def md_told (S : zMd) : Nat → Int32 := S.2.2.2.2.2.2.2.2.2.2.2.2.2.2.2.1
def md_taped (S : zMd) : Int32 := S.2.2.2.2.2.2.2.2.2.2.2.2.2.2.2.2.1
def md_reading (S : zMd) : Int32 := S.2.2.2.2.2.2.2.2.2.2.2.2.2.2.2.2.2.1
def md_statements (S : zMd) : Int32 := S.2.2.2.2.2.2.2.2.2.2.2.2.2.2.2.2.2.2.1
def md_telling (S : zMd) : Int32 := S.2.2.2.2.2.2.2.2.2.2.2.2.2.2.2.2.2.2.2.1
def md_kept (S : zMd) : Nat → Int32 := S.2.2.2.2.2.2.2.2.2.2.2.2.2.2.2.2.2.2.2.2.1
def md_hasImage (S : zMd) : Int32 := S.2.2.2.2.2.2.2.2.2.2.2.2.2.2.2.2.2.2.2.2.2.1
def md_isKeeping (S : zMd) : Int32 := S.2.2.2.2.2.2.2.2.2.2.2.2.2.2.2.2.2.2.2.2.2.2.1
def md_cursor (S : zMd) : Int32 := S.2.2.2.2.2.2.2.2.2.2.2.2.2.2.2.2.2.2.2.2.2.2.2.1
def md_tried (S : zMd) : Nat → Int32 := S.2.2.2.2.2.2.2.2.2.2.2.2.2.2.2.2.2.2.2.2.2.2.2.2.1
def md_wanted (S : zMd) : Int32 := S.2.2.2.2.2.2.2.2.2.2.2.2.2.2.2.2.2.2.2.2.2.2.2.2.2.1
def md_goal (S : zMd) : Int32 := S.2.2.2.2.2.2.2.2.2.2.2.2.2.2.2.2.2.2.2.2.2.2.2.2.2.2.1
def md_byFactors (S : zMd) : Nat → Int32 := S.2.2.2.2.2.2.2.2.2.2.2.2.2.2.2.2.2.2.2.2.2.2.2.2.2.2.2.1
def md_ways (S : zMd) : Nat → Int32 := S.2.2.2.2.2.2.2.2.2.2.2.2.2.2.2.2.2.2.2.2.2.2.2.2.2.2.2.2.1
def md_wins (S : zMd) : Nat → Int32 := S.2.2.2.2.2.2.2.2.2.2.2.2.2.2.2.2.2.2.2.2.2.2.2.2.2.2.2.2.2.1
def md_row (S : zMd) : Nat → Int32 := S.2.2.2.2.2.2.2.2.2.2.2.2.2.2.2.2.2.2.2.2.2.2.2.2.2.2.2.2.2.2.1
def md_rowMany (S : zMd) : Int32 := S.2.2.2.2.2.2.2.2.2.2.2.2.2.2.2.2.2.2.2.2.2.2.2.2.2.2.2.2.2.2.2.1
def md_lots (S : zMd) : Int32 := S.2.2.2.2.2.2.2.2.2.2.2.2.2.2.2.2.2.2.2.2.2.2.2.2.2.2.2.2.2.2.2.2
def md_set_refused (S : zMd) (x : Nat → Int32) : zMd := (x, S.2)
def md_set_number (S : zMd) (x : Nat → Int32) : zMd := (S.1, x, S.2.2)
def md_set_kind (S : zMd) (x : Nat → Int32) : zMd := (S.1, S.2.1, x, S.2.2.2)
def md_set_figure (S : zMd) (x : Nat → Int32) : zMd := (S.1, S.2.1, S.2.2.1, x, S.2.2.2.2)
def md_set_one (S : zMd) (x : Nat → Int32) : zMd := (S.1, S.2.1, S.2.2.1, S.2.2.2.1, x, S.2.2.2.2.2)
def md_set_other (S : zMd) (x : Nat → Int32) : zMd := (S.1, S.2.1, S.2.2.1, S.2.2.2.1, S.2.2.2.2.1, x, S.2.2.2.2.2.2)
def md_set_stands (S : zMd) (x : Nat → Int32) : zMd := (S.1, S.2.1, S.2.2.1, S.2.2.2.1, S.2.2.2.2.1, S.2.2.2.2.2.1, x, S.2.2.2.2.2.2.2)
def md_set_uses (S : zMd) (x : Nat → Int32) : zMd := (S.1, S.2.1, S.2.2.1, S.2.2.2.1, S.2.2.2.2.1, S.2.2.2.2.2.1, S.2.2.2.2.2.2.1, x, S.2.2.2.2.2.2.2.2)
def md_set_earned (S : zMd) (x : Nat → Int32) : zMd := (S.1, S.2.1, S.2.2.1, S.2.2.2.1, S.2.2.2.2.1, S.2.2.2.2.2.1, S.2.2.2.2.2.2.1, S.2.2.2.2.2.2.2.1, x, S.2.2.2.2.2.2.2.2.2)
def md_set_houses (S : zMd) (x : Int32) : zMd := (S.1, S.2.1, S.2.2.1, S.2.2.2.1, S.2.2.2.2.1, S.2.2.2.2.2.1, S.2.2.2.2.2.2.1, S.2.2.2.2.2.2.2.1, S.2.2.2.2.2.2.2.2.1, x, S.2.2.2.2.2.2.2.2.2.2)
def md_set_sums (S : zMd) (x : Int32) : zMd := (S.1, S.2.1, S.2.2.1, S.2.2.2.1, S.2.2.2.2.1, S.2.2.2.2.2.1, S.2.2.2.2.2.2.1, S.2.2.2.2.2.2.2.1, S.2.2.2.2.2.2.2.2.1, S.2.2.2.2.2.2.2.2.2.1, x, S.2.2.2.2.2.2.2.2.2.2.2)
def md_set_falls (S : zMd) (x : Int32) : zMd := (S.1, S.2.1, S.2.2.1, S.2.2.2.1, S.2.2.2.2.1, S.2.2.2.2.2.1, S.2.2.2.2.2.2.1, S.2.2.2.2.2.2.2.1, S.2.2.2.2.2.2.2.2.1, S.2.2.2.2.2.2.2.2.2.1, S.2.2.2.2.2.2.2.2.2.2.1, x, S.2.2.2.2.2.2.2.2.2.2.2.2)
def md_set_tape (S : zMd) (x : Nat → Int32) : zMd := (S.1, S.2.1, S.2.2.1, S.2.2.2.1, S.2.2.2.2.1, S.2.2.2.2.2.1, S.2.2.2.2.2.2.1, S.2.2.2.2.2.2.2.1, S.2.2.2.2.2.2.2.2.1, S.2.2.2.2.2.2.2.2.2.1, S.2.2.2.2.2.2.2.2.2.2.1, S.2.2.2.2.2.2.2.2.2.2.2.1, x, S.2.2.2.2.2.2.2.2.2.2.2.2.2)
def md_set_sort (S : zMd) (x : Nat → Int32) : zMd := (S.1, S.2.1, S.2.2.1, S.2.2.2.1, S.2.2.2.2.1, S.2.2.2.2.2.1, S.2.2.2.2.2.2.1, S.2.2.2.2.2.2.2.1, S.2.2.2.2.2.2.2.2.1, S.2.2.2.2.2.2.2.2.2.1, S.2.2.2.2.2.2.2.2.2.2.1, S.2.2.2.2.2.2.2.2.2.2.2.1, S.2.2.2.2.2.2.2.2.2.2.2.2.1, x, S.2.2.2.2.2.2.2.2.2.2.2.2.2.2)
def md_set_sortAt (S : zMd) (x : Nat → Int32) : zMd := (S.1, S.2.1, S.2.2.1, S.2.2.2.1, S.2.2.2.2.1, S.2.2.2.2.2.1, S.2.2.2.2.2.2.1, S.2.2.2.2.2.2.2.1, S.2.2.2.2.2.2.2.2.1, S.2.2.2.2.2.2.2.2.2.1, S.2.2.2.2.2.2.2.2.2.2.1, S.2.2.2.2.2.2.2.2.2.2.2.1, S.2.2.2.2.2.2.2.2.2.2.2.2.1, S.2.2.2.2.2.2.2.2.2.2.2.2.2.1, x, S.2.2.2.2.2.2.2.2.2.2.2.2.2.2.2)
def md_set_told (S : zMd) (x : Nat → Int32) : zMd := (S.1, S.2.1, S.2.2.1, S.2.2.2.1, S.2.2.2.2.1, S.2.2.2.2.2.1, S.2.2.2.2.2.2.1, S.2.2.2.2.2.2.2.1, S.2.2.2.2.2.2.2.2.1, S.2.2.2.2.2.2.2.2.2.1, S.2.2.2.2.2.2.2.2.2.2.1, S.2.2.2.2.2.2.2.2.2.2.2.1, S.2.2.2.2.2.2.2.2.2.2.2.2.1, S.2.2.2.2.2.2.2.2.2.2.2.2.2.1, S.2.2.2.2.2.2.2.2.2.2.2.2.2.2.1, x, S.2.2.2.2.2.2.2.2.2.2.2.2.2.2.2.2)
def md_set_taped (S : zMd) (x : Int32) : zMd := (S.1, S.2.1, S.2.2.1, S.2.2.2.1, S.2.2.2.2.1, S.2.2.2.2.2.1, S.2.2.2.2.2.2.1, S.2.2.2.2.2.2.2.1, S.2.2.2.2.2.2.2.2.1, S.2.2.2.2.2.2.2.2.2.1, S.2.2.2.2.2.2.2.2.2.2.1, S.2.2.2.2.2.2.2.2.2.2.2.1, S.2.2.2.2.2.2.2.2.2.2.2.2.1, S.2.2.2.2.2.2.2.2.2.2.2.2.2.1, S.2.2.2.2.2.2.2.2.2.2.2.2.2.2.1, S.2.2.2.2.2.2.2.2.2.2.2.2.2.2.2.1, x, S.2.2.2.2.2.2.2.2.2.2.2.2.2.2.2.2.2)
def md_set_reading (S : zMd) (x : Int32) : zMd := (S.1, S.2.1, S.2.2.1, S.2.2.2.1, S.2.2.2.2.1, S.2.2.2.2.2.1, S.2.2.2.2.2.2.1, S.2.2.2.2.2.2.2.1, S.2.2.2.2.2.2.2.2.1, S.2.2.2.2.2.2.2.2.2.1, S.2.2.2.2.2.2.2.2.2.2.1, S.2.2.2.2.2.2.2.2.2.2.2.1, S.2.2.2.2.2.2.2.2.2.2.2.2.1, S.2.2.2.2.2.2.2.2.2.2.2.2.2.1, S.2.2.2.2.2.2.2.2.2.2.2.2.2.2.1, S.2.2.2.2.2.2.2.2.2.2.2.2.2.2.2.1, S.2.2.2.2.2.2.2.2.2.2.2.2.2.2.2.2.1, x, S.2.2.2.2.2.2.2.2.2.2.2.2.2.2.2.2.2.2)
def md_set_statements (S : zMd) (x : Int32) : zMd := (S.1, S.2.1, S.2.2.1, S.2.2.2.1, S.2.2.2.2.1, S.2.2.2.2.2.1, S.2.2.2.2.2.2.1, S.2.2.2.2.2.2.2.1, S.2.2.2.2.2.2.2.2.1, S.2.2.2.2.2.2.2.2.2.1, S.2.2.2.2.2.2.2.2.2.2.1, S.2.2.2.2.2.2.2.2.2.2.2.1, S.2.2.2.2.2.2.2.2.2.2.2.2.1, S.2.2.2.2.2.2.2.2.2.2.2.2.2.1, S.2.2.2.2.2.2.2.2.2.2.2.2.2.2.1, S.2.2.2.2.2.2.2.2.2.2.2.2.2.2.2.1, S.2.2.2.2.2.2.2.2.2.2.2.2.2.2.2.2.1, S.2.2.2.2.2.2.2.2.2.2.2.2.2.2.2.2.2.1, x, S.2.2.2.2.2.2.2.2.2.2.2.2.2.2.2.2.2.2.2)
def md_set_telling (S : zMd) (x : Int32) : zMd := (S.1, S.2.1, S.2.2.1, S.2.2.2.1, S.2.2.2.2.1, S.2.2.2.2.2.1, S.2.2.2.2.2.2.1, S.2.2.2.2.2.2.2.1, S.2.2.2.2.2.2.2.2.1, S.2.2.2.2.2.2.2.2.2.1, S.2.2.2.2.2.2.2.2.2.2.1, S.2.2.2.2.2.2.2.2.2.2.2.1, S.2.2.2.2.2.2.2.2.2.2.2.2.1, S.2.2.2.2.2.2.2.2.2.2.2.2.2.1, S.2.2.2.2.2.2.2.2.2.2.2.2.2.2.1, S.2.2.2.2.2.2.2.2.2.2.2.2.2.2.2.1, S.2.2.2.2.2.2.2.2.2.2.2.2.2.2.2.2.1, S.2.2.2.2.2.2.2.2.2.2.2.2.2.2.2.2.2.1, S.2.2.2.2.2.2.2.2.2.2.2.2.2.2.2.2.2.2.1, x, S.2.2.2.2.2.2.2.2.2.2.2.2.2.2.2.2.2.2.2.2)
def md_set_kept (S : zMd) (x : Nat → Int32) : zMd := (S.1, S.2.1, S.2.2.1, S.2.2.2.1, S.2.2.2.2.1, S.2.2.2.2.2.1, S.2.2.2.2.2.2.1, S.2.2.2.2.2.2.2.1, S.2.2.2.2.2.2.2.2.1, S.2.2.2.2.2.2.2.2.2.1, S.2.2.2.2.2.2.2.2.2.2.1, S.2.2.2.2.2.2.2.2.2.2.2.1, S.2.2.2.2.2.2.2.2.2.2.2.2.1, S.2.2.2.2.2.2.2.2.2.2.2.2.2.1, S.2.2.2.2.2.2.2.2.2.2.2.2.2.2.1, S.2.2.2.2.2.2.2.2.2.2.2.2.2.2.2.1, S.2.2.2.2.2.2.2.2.2.2.2.2.2.2.2.2.1, S.2.2.2.2.2.2.2.2.2.2.2.2.2.2.2.2.2.1, S.2.2.2.2.2.2.2.2.2.2.2.2.2.2.2.2.2.2.1, S.2.2.2.2.2.2.2.2.2.2.2.2.2.2.2.2.2.2.2.1, x, S.2.2.2.2.2.2.2.2.2.2.2.2.2.2.2.2.2.2.2.2.2)
def md_set_hasImage (S : zMd) (x : Int32) : zMd := (S.1, S.2.1, S.2.2.1, S.2.2.2.1, S.2.2.2.2.1, S.2.2.2.2.2.1, S.2.2.2.2.2.2.1, S.2.2.2.2.2.2.2.1, S.2.2.2.2.2.2.2.2.1, S.2.2.2.2.2.2.2.2.2.1, S.2.2.2.2.2.2.2.2.2.2.1, S.2.2.2.2.2.2.2.2.2.2.2.1, S.2.2.2.2.2.2.2.2.2.2.2.2.1, S.2.2.2.2.2.2.2.2.2.2.2.2.2.1, S.2.2.2.2.2.2.2.2.2.2.2.2.2.2.1, S.2.2.2.2.2.2.2.2.2.2.2.2.2.2.2.1, S.2.2.2.2.2.2.2.2.2.2.2.2.2.2.2.2.1, S.2.2.2.2.2.2.2.2.2.2.2.2.2.2.2.2.2.1, S.2.2.2.2.2.2.2.2.2.2.2.2.2.2.2.2.2.2.1, S.2.2.2.2.2.2.2.2.2.2.2.2.2.2.2.2.2.2.2.1, S.2.2.2.2.2.2.2.2.2.2.2.2.2.2.2.2.2.2.2.2.1, x, S.2.2.2.2.2.2.2.2.2.2.2.2.2.2.2.2.2.2.2.2.2.2)
def md_set_isKeeping (S : zMd) (x : Int32) : zMd := (S.1, S.2.1, S.2.2.1, S.2.2.2.1, S.2.2.2.2.1, S.2.2.2.2.2.1, S.2.2.2.2.2.2.1, S.2.2.2.2.2.2.2.1, S.2.2.2.2.2.2.2.2.1, S.2.2.2.2.2.2.2.2.2.1, S.2.2.2.2.2.2.2.2.2.2.1, S.2.2.2.2.2.2.2.2.2.2.2.1, S.2.2.2.2.2.2.2.2.2.2.2.2.1, S.2.2.2.2.2.2.2.2.2.2.2.2.2.1, S.2.2.2.2.2.2.2.2.2.2.2.2.2.2.1, S.2.2.2.2.2.2.2.2.2.2.2.2.2.2.2.1, S.2.2.2.2.2.2.2.2.2.2.2.2.2.2.2.2.1, S.2.2.2.2.2.2.2.2.2.2.2.2.2.2.2.2.2.1, S.2.2.2.2.2.2.2.2.2.2.2.2.2.2.2.2.2.2.1, S.2.2.2.2.2.2.2.2.2.2.2.2.2.2.2.2.2.2.2.1, S.2.2.2.2.2.2.2.2.2.2.2.2.2.2.2.2.2.2.2.2.1, S.2.2.2.2.2.2.2.2.2.2.2.2.2.2.2.2.2.2.2.2.2.1, x, S.2.2.2.2.2.2.2.2.2.2.2.2.2.2.2.2.2.2.2.2.2.2.2)
def md_set_cursor (S : zMd) (x : Int32) : zMd := (S.1, S.2.1, S.2.2.1, S.2.2.2.1, S.2.2.2.2.1, S.2.2.2.2.2.1, S.2.2.2.2.2.2.1, S.2.2.2.2.2.2.2.1, S.2.2.2.2.2.2.2.2.1, S.2.2.2.2.2.2.2.2.2.1, S.2.2.2.2.2.2.2.2.2.2.1, S.2.2.2.2.2.2.2.2.2.2.2.1, S.2.2.2.2.2.2.2.2.2.2.2.2.1, S.2.2.2.2.2.2.2.2.2.2.2.2.2.1, S.2.2.2.2.2.2.2.2.2.2.2.2.2.2.1, S.2.2.2.2.2.2.2.2.2.2.2.2.2.2.2.1, S.2.2.2.2.2.2.2.2.2.2.2.2.2.2.2.2.1, S.2.2.2.2.2.2.2.2.2.2.2.2.2.2.2.2.2.1, S.2.2.2.2.2.2.2.2.2.2.2.2.2.2.2.2.2.2.1, S.2.2.2.2.2.2.2.2.2.2.2.2.2.2.2.2.2.2.2.1, S.2.2.2.2.2.2.2.2.2.2.2.2.2.2.2.2.2.2.2.2.1, S.2.2.2.2.2.2.2.2.2.2.2.2.2.2.2.2.2.2.2.2.2.1, S.2.2.2.2.2.2.2.2.2.2.2.2.2.2.2.2.2.2.2.2.2.2.1, x, S.2.2.2.2.2.2.2.2.2.2.2.2.2.2.2.2.2.2.2.2.2.2.2.2)
def md_set_tried (S : zMd) (x : Nat → Int32) : zMd := (S.1, S.2.1, S.2.2.1, S.2.2.2.1, S.2.2.2.2.1, S.2.2.2.2.2.1, S.2.2.2.2.2.2.1, S.2.2.2.2.2.2.2.1, S.2.2.2.2.2.2.2.2.1, S.2.2.2.2.2.2.2.2.2.1, S.2.2.2.2.2.2.2.2.2.2.1, S.2.2.2.2.2.2.2.2.2.2.2.1, S.2.2.2.2.2.2.2.2.2.2.2.2.1, S.2.2.2.2.2.2.2.2.2.2.2.2.2.1, S.2.2.2.2.2.2.2.2.2.2.2.2.2.2.1, S.2.2.2.2.2.2.2.2.2.2.2.2.2.2.2.1, S.2.2.2.2.2.2.2.2.2.2.2.2.2.2.2.2.1, S.2.2.2.2.2.2.2.2.2.2.2.2.2.2.2.2.2.1, S.2.2.2.2.2.2.2.2.2.2.2.2.2.2.2.2.2.2.1, S.2.2.2.2.2.2.2.2.2.2.2.2.2.2.2.2.2.2.2.1, S.2.2.2.2.2.2.2.2.2.2.2.2.2.2.2.2.2.2.2.2.1, S.2.2.2.2.2.2.2.2.2.2.2.2.2.2.2.2.2.2.2.2.2.1, S.2.2.2.2.2.2.2.2.2.2.2.2.2.2.2.2.2.2.2.2.2.2.1, S.2.2.2.2.2.2.2.2.2.2.2.2.2.2.2.2.2.2.2.2.2.2.2.1, x, S.2.2.2.2.2.2.2.2.2.2.2.2.2.2.2.2.2.2.2.2.2.2.2.2.2)
def md_set_wanted (S : zMd) (x : Int32) : zMd := (S.1, S.2.1, S.2.2.1, S.2.2.2.1, S.2.2.2.2.1, S.2.2.2.2.2.1, S.2.2.2.2.2.2.1, S.2.2.2.2.2.2.2.1, S.2.2.2.2.2.2.2.2.1, S.2.2.2.2.2.2.2.2.2.1, S.2.2.2.2.2.2.2.2.2.2.1, S.2.2.2.2.2.2.2.2.2.2.2.1, S.2.2.2.2.2.2.2.2.2.2.2.2.1, S.2.2.2.2.2.2.2.2.2.2.2.2.2.1, S.2.2.2.2.2.2.2.2.2.2.2.2.2.2.1, S.2.2.2.2.2.2.2.2.2.2.2.2.2.2.2.1, S.2.2.2.2.2.2.2.2.2.2.2.2.2.2.2.2.1, S.2.2.2.2.2.2.2.2.2.2.2.2.2.2.2.2.2.1, S.2.2.2.2.2.2.2.2.2.2.2.2.2.2.2.2.2.2.1, S.2.2.2.2.2.2.2.2.2.2.2.2.2.2.2.2.2.2.2.1, S.2.2.2.2.2.2.2.2.2.2.2.2.2.2.2.2.2.2.2.2.1, S.2.2.2.2.2.2.2.2.2.2.2.2.2.2.2.2.2.2.2.2.2.1, S.2.2.2.2.2.2.2.2.2.2.2.2.2.2.2.2.2.2.2.2.2.2.1, S.2.2.2.2.2.2.2.2.2.2.2.2.2.2.2.2.2.2.2.2.2.2.2.1, S.2.2.2.2.2.2.2.2.2.2.2.2.2.2.2.2.2.2.2.2.2.2.2.2.1, x, S.2.2.2.2.2.2.2.2.2.2.2.2.2.2.2.2.2.2.2.2.2.2.2.2.2.2)
def md_set_goal (S : zMd) (x : Int32) : zMd := (S.1, S.2.1, S.2.2.1, S.2.2.2.1, S.2.2.2.2.1, S.2.2.2.2.2.1, S.2.2.2.2.2.2.1, S.2.2.2.2.2.2.2.1, S.2.2.2.2.2.2.2.2.1, S.2.2.2.2.2.2.2.2.2.1, S.2.2.2.2.2.2.2.2.2.2.1, S.2.2.2.2.2.2.2.2.2.2.2.1, S.2.2.2.2.2.2.2.2.2.2.2.2.1, S.2.2.2.2.2.2.2.2.2.2.2.2.2.1, S.2.2.2.2.2.2.2.2.2.2.2.2.2.2.1, S.2.2.2.2.2.2.2.2.2.2.2.2.2.2.2.1, S.2.2.2.2.2.2.2.2.2.2.2.2.2.2.2.2.1, S.2.2.2.2.2.2.2.2.2.2.2.2.2.2.2.2.2.1, S.2.2.2.2.2.2.2.2.2.2.2.2.2.2.2.2.2.2.1, S.2.2.2.2.2.2.2.2.2.2.2.2.2.2.2.2.2.2.2.1, S.2.2.2.2.2.2.2.2.2.2.2.2.2.2.2.2.2.2.2.2.1, S.2.2.2.2.2.2.2.2.2.2.2.2.2.2.2.2.2.2.2.2.2.1, S.2.2.2.2.2.2.2.2.2.2.2.2.2.2.2.2.2.2.2.2.2.2.1, S.2.2.2.2.2.2.2.2.2.2.2.2.2.2.2.2.2.2.2.2.2.2.2.1, S.2.2.2.2.2.2.2.2.2.2.2.2.2.2.2.2.2.2.2.2.2.2.2.2.1, S.2.2.2.2.2.2.2.2.2.2.2.2.2.2.2.2.2.2.2.2.2.2.2.2.2.1, x, S.2.2.2.2.2.2.2.2.2.2.2.2.2.2.2.2.2.2.2.2.2.2.2.2.2.2.2)
def md_set_byFactors (S : zMd) (x : Nat → Int32) : zMd := (S.1, S.2.1, S.2.2.1, S.2.2.2.1, S.2.2.2.2.1, S.2.2.2.2.2.1, S.2.2.2.2.2.2.1, S.2.2.2.2.2.2.2.1, S.2.2.2.2.2.2.2.2.1, S.2.2.2.2.2.2.2.2.2.1, S.2.2.2.2.2.2.2.2.2.2.1, S.2.2.2.2.2.2.2.2.2.2.2.1, S.2.2.2.2.2.2.2.2.2.2.2.2.1, S.2.2.2.2.2.2.2.2.2.2.2.2.2.1, S.2.2.2.2.2.2.2.2.2.2.2.2.2.2.1, S.2.2.2.2.2.2.2.2.2.2.2.2.2.2.2.1, S.2.2.2.2.2.2.2.2.2.2.2.2.2.2.2.2.1, S.2.2.2.2.2.2.2.2.2.2.2.2.2.2.2.2.2.1, S.2.2.2.2.2.2.2.2.2.2.2.2.2.2.2.2.2.2.1, S.2.2.2.2.2.2.2.2.2.2.2.2.2.2.2.2.2.2.2.1, S.2.2.2.2.2.2.2.2.2.2.2.2.2.2.2.2.2.2.2.2.1, S.2.2.2.2.2.2.2.2.2.2.2.2.2.2.2.2.2.2.2.2.2.1, S.2.2.2.2.2.2.2.2.2.2.2.2.2.2.2.2.2.2.2.2.2.2.1, S.2.2.2.2.2.2.2.2.2.2.2.2.2.2.2.2.2.2.2.2.2.2.2.1, S.2.2.2.2.2.2.2.2.2.2.2.2.2.2.2.2.2.2.2.2.2.2.2.2.1, S.2.2.2.2.2.2.2.2.2.2.2.2.2.2.2.2.2.2.2.2.2.2.2.2.2.1, S.2.2.2.2.2.2.2.2.2.2.2.2.2.2.2.2.2.2.2.2.2.2.2.2.2.2.1, x, S.2.2.2.2.2.2.2.2.2.2.2.2.2.2.2.2.2.2.2.2.2.2.2.2.2.2.2.2)
def md_set_ways (S : zMd) (x : Nat → Int32) : zMd := (S.1, S.2.1, S.2.2.1, S.2.2.2.1, S.2.2.2.2.1, S.2.2.2.2.2.1, S.2.2.2.2.2.2.1, S.2.2.2.2.2.2.2.1, S.2.2.2.2.2.2.2.2.1, S.2.2.2.2.2.2.2.2.2.1, S.2.2.2.2.2.2.2.2.2.2.1, S.2.2.2.2.2.2.2.2.2.2.2.1, S.2.2.2.2.2.2.2.2.2.2.2.2.1, S.2.2.2.2.2.2.2.2.2.2.2.2.2.1, S.2.2.2.2.2.2.2.2.2.2.2.2.2.2.1, S.2.2.2.2.2.2.2.2.2.2.2.2.2.2.2.1, S.2.2.2.2.2.2.2.2.2.2.2.2.2.2.2.2.1, S.2.2.2.2.2.2.2.2.2.2.2.2.2.2.2.2.2.1, S.2.2.2.2.2.2.2.2.2.2.2.2.2.2.2.2.2.2.1, S.2.2.2.2.2.2.2.2.2.2.2.2.2.2.2.2.2.2.2.1, S.2.2.2.2.2.2.2.2.2.2.2.2.2.2.2.2.2.2.2.2.1, S.2.2.2.2.2.2.2.2.2.2.2.2.2.2.2.2.2.2.2.2.2.1, S.2.2.2.2.2.2.2.2.2.2.2.2.2.2.2.2.2.2.2.2.2.2.1, S.2.2.2.2.2.2.2.2.2.2.2.2.2.2.2.2.2.2.2.2.2.2.2.1, S.2.2.2.2.2.2.2.2.2.2.2.2.2.2.2.2.2.2.2.2.2.2.2.2.1, S.2.2.2.2.2.2.2.2.2.2.2.2.2.2.2.2.2.2.2.2.2.2.2.2.2.1, S.2.2.2.2.2.2.2.2.2.2.2.2.2.2.2.2.2.2.2.2.2.2.2.2.2.2.1, S.2.2.2.2.2.2.2.2.2.2.2.2.2.2.2.2.2.2.2.2.2.2.2.2.2.2.2.1, x, S.2.2.2.2.2.2.2.2.2.2.2.2.2.2.2.2.2.2.2.2.2.2.2.2.2.2.2.2.2)
def md_set_wins (S : zMd) (x : Nat → Int32) : zMd := (S.1, S.2.1, S.2.2.1, S.2.2.2.1, S.2.2.2.2.1, S.2.2.2.2.2.1, S.2.2.2.2.2.2.1, S.2.2.2.2.2.2.2.1, S.2.2.2.2.2.2.2.2.1, S.2.2.2.2.2.2.2.2.2.1, S.2.2.2.2.2.2.2.2.2.2.1, S.2.2.2.2.2.2.2.2.2.2.2.1, S.2.2.2.2.2.2.2.2.2.2.2.2.1, S.2.2.2.2.2.2.2.2.2.2.2.2.2.1, S.2.2.2.2.2.2.2.2.2.2.2.2.2.2.1, S.2.2.2.2.2.2.2.2.2.2.2.2.2.2.2.1, S.2.2.2.2.2.2.2.2.2.2.2.2.2.2.2.2.1, S.2.2.2.2.2.2.2.2.2.2.2.2.2.2.2.2.2.1, S.2.2.2.2.2.2.2.2.2.2.2.2.2.2.2.2.2.2.1, S.2.2.2.2.2.2.2.2.2.2.2.2.2.2.2.2.2.2.2.1, S.2.2.2.2.2.2.2.2.2.2.2.2.2.2.2.2.2.2.2.2.1, S.2.2.2.2.2.2.2.2.2.2.2.2.2.2.2.2.2.2.2.2.2.1, S.2.2.2.2.2.2.2.2.2.2.2.2.2.2.2.2.2.2.2.2.2.2.1, S.2.2.2.2.2.2.2.2.2.2.2.2.2.2.2.2.2.2.2.2.2.2.2.1, S.2.2.2.2.2.2.2.2.2.2.2.2.2.2.2.2.2.2.2.2.2.2.2.2.1, S.2.2.2.2.2.2.2.2.2.2.2.2.2.2.2.2.2.2.2.2.2.2.2.2.2.1, S.2.2.2.2.2.2.2.2.2.2.2.2.2.2.2.2.2.2.2.2.2.2.2.2.2.2.1, S.2.2.2.2.2.2.2.2.2.2.2.2.2.2.2.2.2.2.2.2.2.2.2.2.2.2.2.1, S.2.2.2.2.2.2.2.2.2.2.2.2.2.2.2.2.2.2.2.2.2.2.2.2.2.2.2.2.1, x, S.2.2.2.2.2.2.2.2.2.2.2.2.2.2.2.2.2.2.2.2.2.2.2.2.2.2.2.2.2.2)
def md_set_row (S : zMd) (x : Nat → Int32) : zMd := (S.1, S.2.1, S.2.2.1, S.2.2.2.1, S.2.2.2.2.1, S.2.2.2.2.2.1, S.2.2.2.2.2.2.1, S.2.2.2.2.2.2.2.1, S.2.2.2.2.2.2.2.2.1, S.2.2.2.2.2.2.2.2.2.1, S.2.2.2.2.2.2.2.2.2.2.1, S.2.2.2.2.2.2.2.2.2.2.2.1, S.2.2.2.2.2.2.2.2.2.2.2.2.1, S.2.2.2.2.2.2.2.2.2.2.2.2.2.1, S.2.2.2.2.2.2.2.2.2.2.2.2.2.2.1, S.2.2.2.2.2.2.2.2.2.2.2.2.2.2.2.1, S.2.2.2.2.2.2.2.2.2.2.2.2.2.2.2.2.1, S.2.2.2.2.2.2.2.2.2.2.2.2.2.2.2.2.2.1, S.2.2.2.2.2.2.2.2.2.2.2.2.2.2.2.2.2.2.1, S.2.2.2.2.2.2.2.2.2.2.2.2.2.2.2.2.2.2.2.1, S.2.2.2.2.2.2.2.2.2.2.2.2.2.2.2.2.2.2.2.2.1, S.2.2.2.2.2.2.2.2.2.2.2.2.2.2.2.2.2.2.2.2.2.1, S.2.2.2.2.2.2.2.2.2.2.2.2.2.2.2.2.2.2.2.2.2.2.1, S.2.2.2.2.2.2.2.2.2.2.2.2.2.2.2.2.2.2.2.2.2.2.2.1, S.2.2.2.2.2.2.2.2.2.2.2.2.2.2.2.2.2.2.2.2.2.2.2.2.1, S.2.2.2.2.2.2.2.2.2.2.2.2.2.2.2.2.2.2.2.2.2.2.2.2.2.1, S.2.2.2.2.2.2.2.2.2.2.2.2.2.2.2.2.2.2.2.2.2.2.2.2.2.2.1, S.2.2.2.2.2.2.2.2.2.2.2.2.2.2.2.2.2.2.2.2.2.2.2.2.2.2.2.1, S.2.2.2.2.2.2.2.2.2.2.2.2.2.2.2.2.2.2.2.2.2.2.2.2.2.2.2.2.1, S.2.2.2.2.2.2.2.2.2.2.2.2.2.2.2.2.2.2.2.2.2.2.2.2.2.2.2.2.2.1, x, S.2.2.2.2.2.2.2.2.2.2.2.2.2.2.2.2.2.2.2.2.2.2.2.2.2.2.2.2.2.2.2)
def md_set_rowMany (S : zMd) (x : Int32) : zMd := (S.1, S.2.1, S.2.2.1, S.2.2.2.1, S.2.2.2.2.1, S.2.2.2.2.2.1, S.2.2.2.2.2.2.1, S.2.2.2.2.2.2.2.1, S.2.2.2.2.2.2.2.2.1, S.2.2.2.2.2.2.2.2.2.1, S.2.2.2.2.2.2.2.2.2.2.1, S.2.2.2.2.2.2.2.2.2.2.2.1, S.2.2.2.2.2.2.2.2.2.2.2.2.1, S.2.2.2.2.2.2.2.2.2.2.2.2.2.1, S.2.2.2.2.2.2.2.2.2.2.2.2.2.2.1, S.2.2.2.2.2.2.2.2.2.2.2.2.2.2.2.1, S.2.2.2.2.2.2.2.2.2.2.2.2.2.2.2.2.1, S.2.2.2.2.2.2.2.2.2.2.2.2.2.2.2.2.2.1, S.2.2.2.2.2.2.2.2.2.2.2.2.2.2.2.2.2.2.1, S.2.2.2.2.2.2.2.2.2.2.2.2.2.2.2.2.2.2.2.1, S.2.2.2.2.2.2.2.2.2.2.2.2.2.2.2.2.2.2.2.2.1, S.2.2.2.2.2.2.2.2.2.2.2.2.2.2.2.2.2.2.2.2.2.1, S.2.2.2.2.2.2.2.2.2.2.2.2.2.2.2.2.2.2.2.2.2.2.1, S.2.2.2.2.2.2.2.2.2.2.2.2.2.2.2.2.2.2.2.2.2.2.2.1, S.2.2.2.2.2.2.2.2.2.2.2.2.2.2.2.2.2.2.2.2.2.2.2.2.1, S.2.2.2.2.2.2.2.2.2.2.2.2.2.2.2.2.2.2.2.2.2.2.2.2.2.1, S.2.2.2.2.2.2.2.2.2.2.2.2.2.2.2.2.2.2.2.2.2.2.2.2.2.2.1, S.2.2.2.2.2.2.2.2.2.2.2.2.2.2.2.2.2.2.2.2.2.2.2.2.2.2.2.1, S.2.2.2.2.2.2.2.2.2.2.2.2.2.2.2.2.2.2.2.2.2.2.2.2.2.2.2.2.1, S.2.2.2.2.2.2.2.2.2.2.2.2.2.2.2.2.2.2.2.2.2.2.2.2.2.2.2.2.2.1, S.2.2.2.2.2.2.2.2.2.2.2.2.2.2.2.2.2.2.2.2.2.2.2.2.2.2.2.2.2.2.1, x, S.2.2.2.2.2.2.2.2.2.2.2.2.2.2.2.2.2.2.2.2.2.2.2.2.2.2.2.2.2.2.2.2)
def md_set_lots (S : zMd) (x : Int32) : zMd := (S.1, S.2.1, S.2.2.1, S.2.2.2.1, S.2.2.2.2.1, S.2.2.2.2.2.1, S.2.2.2.2.2.2.1, S.2.2.2.2.2.2.2.1, S.2.2.2.2.2.2.2.2.1, S.2.2.2.2.2.2.2.2.2.1, S.2.2.2.2.2.2.2.2.2.2.1, S.2.2.2.2.2.2.2.2.2.2.2.1, S.2.2.2.2.2.2.2.2.2.2.2.2.1, S.2.2.2.2.2.2.2.2.2.2.2.2.2.1, S.2.2.2.2.2.2.2.2.2.2.2.2.2.2.1, S.2.2.2.2.2.2.2.2.2.2.2.2.2.2.2.1, S.2.2.2.2.2.2.2.2.2.2.2.2.2.2.2.2.1, S.2.2.2.2.2.2.2.2.2.2.2.2.2.2.2.2.2.1, S.2.2.2.2.2.2.2.2.2.2.2.2.2.2.2.2.2.2.1, S.2.2.2.2.2.2.2.2.2.2.2.2.2.2.2.2.2.2.2.1, S.2.2.2.2.2.2.2.2.2.2.2.2.2.2.2.2.2.2.2.2.1, S.2.2.2.2.2.2.2.2.2.2.2.2.2.2.2.2.2.2.2.2.2.1, S.2.2.2.2.2.2.2.2.2.2.2.2.2.2.2.2.2.2.2.2.2.2.1, S.2.2.2.2.2.2.2.2.2.2.2.2.2.2.2.2.2.2.2.2.2.2.2.1, S.2.2.2.2.2.2.2.2.2.2.2.2.2.2.2.2.2.2.2.2.2.2.2.2.1, S.2.2.2.2.2.2.2.2.2.2.2.2.2.2.2.2.2.2.2.2.2.2.2.2.2.1, S.2.2.2.2.2.2.2.2.2.2.2.2.2.2.2.2.2.2.2.2.2.2.2.2.2.2.1, S.2.2.2.2.2.2.2.2.2.2.2.2.2.2.2.2.2.2.2.2.2.2.2.2.2.2.2.1, S.2.2.2.2.2.2.2.2.2.2.2.2.2.2.2.2.2.2.2.2.2.2.2.2.2.2.2.2.1, S.2.2.2.2.2.2.2.2.2.2.2.2.2.2.2.2.2.2.2.2.2.2.2.2.2.2.2.2.2.1, S.2.2.2.2.2.2.2.2.2.2.2.2.2.2.2.2.2.2.2.2.2.2.2.2.2.2.2.2.2.2.1, S.2.2.2.2.2.2.2.2.2.2.2.2.2.2.2.2.2.2.2.2.2.2.2.2.2.2.2.2.2.2.2.1, x)
def fJ6_bitCount_0f7a4_j48 (v0 : Int32) : Int32 :=
  (v0 &&& (63 : Int32))
def fJ6_bitCount_0f7a4_j41 (v0 : Int32) : Int32 :=
  fJ6_bitCount_0f7a4_j48 (v0 + (v0.toUInt32 >>> ((16 : Int32).toUInt32 &&& Int32.toUInt32 31)).toInt32)
def fJ6_bitCount_0f7a4_j34 (v0 : Int32) : Int32 :=
  fJ6_bitCount_0f7a4_j41 (v0 + (v0.toUInt32 >>> ((8 : Int32).toUInt32 &&& Int32.toUInt32 31)).toInt32)
def fJ6_bitCount_0f7a4_j24 (v0 : Int32) : Int32 :=
  fJ6_bitCount_0f7a4_j34 ((v0 + (v0.toUInt32 >>> ((4 : Int32).toUInt32 &&& Int32.toUInt32 31)).toInt32) &&& (252645135 : Int32))
def fJ6_bitCount_0f7a4_j10 (v0 : Int32) : Int32 :=
  fJ6_bitCount_0f7a4_j24 ((v0 &&& (858993459 : Int32)) + ((v0.toUInt32 >>> ((2 : Int32).toUInt32 &&& Int32.toUInt32 31)).toInt32 &&& (858993459 : Int32)))
def fJ6_bitCount_0f7a4 (p0 : Int32) : Int32 :=
  fJ6_bitCount_0f7a4_j10 (p0 - ((p0.toUInt32 >>> ((1 : Int32).toUInt32 &&& Int32.toUInt32 31)).toInt32 &&& (1431655765 : Int32)))
def fJ6_numberOfLeadingZeros_0f7a4_j61 (v0 : Int32) (v1 : Int32) : Int32 :=
  if v0 < (4 : Int32) then
  ((v1 - (v0.toUInt32 >>> ((1 : Int32).toUInt32 &&& Int32.toUInt32 31)).toInt32))
  else
  (((v1 + (-2 : Int32)) - ((v0.toUInt32 >>> ((2 : Int32).toUInt32 &&& Int32.toUInt32 31)).toInt32.toUInt32 >>> ((1 : Int32).toUInt32 &&& Int32.toUInt32 31)).toInt32))
def fJ6_numberOfLeadingZeros_0f7a4_j48 (v0 : Int32) (v1 : Int32) : Int32 :=
  if v0 < (16 : Int32) then
  (fJ6_numberOfLeadingZeros_0f7a4_j61 v0 v1)
  else
  (fJ6_numberOfLeadingZeros_0f7a4_j61 (v0.toUInt32 >>> ((4 : Int32).toUInt32 &&& Int32.toUInt32 31)).toInt32 (v1 + (-4 : Int32)))
def fJ6_numberOfLeadingZeros_0f7a4_j33 (v0 : Int32) (v1 : Int32) : Int32 :=
  if v0 < (256 : Int32) then
  (fJ6_numberOfLeadingZeros_0f7a4_j48 v0 v1)
  else
  (fJ6_numberOfLeadingZeros_0f7a4_j48 (v0.toUInt32 >>> ((8 : Int32).toUInt32 &&& Int32.toUInt32 31)).toInt32 (v1 + (-8 : Int32)))
def fJ6_numberOfLeadingZeros_0f7a4 (p0 : Int32) : Int32 :=
  if (0 : Int32) < p0 then
  (if p0 < (65536 : Int32) then
  (fJ6_numberOfLeadingZeros_0f7a4_j33 p0 (31 : Int32))
  else
  (fJ6_numberOfLeadingZeros_0f7a4_j33 (p0.toUInt32 >>> ((16 : Int32).toUInt32 &&& Int32.toUInt32 31)).toInt32 ((31 : Int32) + (-16 : Int32))))
  else
  (if p0 = (0 : Int32) then
  ((32 : Int32))
  else
  ((0 : Int32)))
def fJ6_numberOfTrailingZeros_0f7a4_j62 (v0 : Int32) (v1 : Int32) : Int32 :=
  if v0 ≤ (4 : Int32) then
  ((v1 + (v0.toUInt32 >>> ((1 : Int32).toUInt32 &&& Int32.toUInt32 31)).toInt32))
  else
  (((v1 + (2 : Int32)) + ((v0.toUInt32 >>> ((2 : Int32).toUInt32 &&& Int32.toUInt32 31)).toInt32.toUInt32 >>> ((1 : Int32).toUInt32 &&& Int32.toUInt32 31)).toInt32))
def fJ6_numberOfTrailingZeros_0f7a4_j49 (v0 : Int32) (v1 : Int32) : Int32 :=
  if v0 ≤ (16 : Int32) then
  (fJ6_numberOfTrailingZeros_0f7a4_j62 v0 v1)
  else
  (fJ6_numberOfTrailingZeros_0f7a4_j62 (v0.toUInt32 >>> ((4 : Int32).toUInt32 &&& Int32.toUInt32 31)).toInt32 (v1 + (4 : Int32)))
def fJ6_numberOfTrailingZeros_0f7a4_j34 (v0 : Int32) (v1 : Int32) : Int32 :=
  if v0 ≤ (256 : Int32) then
  (fJ6_numberOfTrailingZeros_0f7a4_j49 v0 v1)
  else
  (fJ6_numberOfTrailingZeros_0f7a4_j49 (v0.toUInt32 >>> ((8 : Int32).toUInt32 &&& Int32.toUInt32 31)).toInt32 (v1 + (8 : Int32)))
def fJ6_numberOfTrailingZeros_0f7a4 (p0 : Int32) : Int32 :=
  if (0 : Int32) < ((p0 ^^^ (-1 : Int32)) &&& (p0 - (1 : Int32))) then
  (if ((p0 ^^^ (-1 : Int32)) &&& (p0 - (1 : Int32))) ≤ (65536 : Int32) then
  (fJ6_numberOfTrailingZeros_0f7a4_j34 ((p0 ^^^ (-1 : Int32)) &&& (p0 - (1 : Int32))) (1 : Int32))
  else
  (fJ6_numberOfTrailingZeros_0f7a4_j34 (((p0 ^^^ (-1 : Int32)) &&& (p0 - (1 : Int32))).toUInt32 >>> ((16 : Int32).toUInt32 &&& Int32.toUInt32 31)).toInt32 ((1 : Int32) + (16 : Int32))))
  else
  ((((p0 ^^^ (-1 : Int32)) &&& (p0 - (1 : Int32))) &&& (32 : Int32)))
def fJ13_bitCount_95d88_j55 (v0 : Int64) : Int32 :=
  (v0.toInt32 &&& (127 : Int32))
def fJ13_bitCount_95d88_j48 (v0 : Int64) : Int32 :=
  fJ13_bitCount_95d88_j55 (v0 + (v0.toUInt64 >>> ((32 : Int32).toInt64.toUInt64 &&& Int64.toUInt64 63)).toInt64)
def fJ13_bitCount_95d88_j41 (v0 : Int64) : Int32 :=
  fJ13_bitCount_95d88_j48 (v0 + (v0.toUInt64 >>> ((16 : Int32).toInt64.toUInt64 &&& Int64.toUInt64 63)).toInt64)
def fJ13_bitCount_95d88_j34 (v0 : Int64) : Int32 :=
  fJ13_bitCount_95d88_j41 (v0 + (v0.toUInt64 >>> ((8 : Int32).toInt64.toUInt64 &&& Int64.toUInt64 63)).toInt64)
def fJ13_bitCount_95d88_j24 (v0 : Int64) : Int32 :=
  fJ13_bitCount_95d88_j34 ((v0 + (v0.toUInt64 >>> ((4 : Int32).toInt64.toUInt64 &&& Int64.toUInt64 63)).toInt64) &&& (1085102592571150095 : Int64))
def fJ13_bitCount_95d88_j10 (v0 : Int64) : Int32 :=
  fJ13_bitCount_95d88_j24 ((v0 &&& (3689348814741910323 : Int64)) + ((v0.toUInt64 >>> ((2 : Int32).toInt64.toUInt64 &&& Int64.toUInt64 63)).toInt64 &&& (3689348814741910323 : Int64)))
def fJ13_bitCount_95d88 (p0 : Int64) : Int32 :=
  fJ13_bitCount_95d88_j10 (p0 - ((p0.toUInt64 >>> ((1 : Int32).toInt64.toUInt64 &&& Int64.toUInt64 63)).toInt64 &&& (6148914691236517205 : Int64)))
def fJ13_numberOfTrailingZeros_95d88 (p0 : Int64) : Int32 :=
  if p0.toInt32 = (0 : Int32) then
  (((32 : Int32) + (fJ6_numberOfTrailingZeros_0f7a4 (p0.toUInt64 >>> ((32 : Int32).toInt64.toUInt64 &&& Int64.toUInt64 63)).toInt64.toInt32)))
  else
  ((fJ6_numberOfTrailingZeros_0f7a4 p0.toInt32))
def fX5_isIn (p0 : Int32) (p1 : Int32) : Int32 :=
  if p1 < (0 : Int32) then
  ((0 : Int32))
  else
  (if (12 : Int32) ≤ p1 then
  ((0 : Int32))
  else
  (if ((p0 >>> (p1 &&& 31)) &&& (1 : Int32)) = (1 : Int32) then
  ((1 : Int32))
  else
  ((0 : Int32))))
def fX5_isKind (p0 : Int32) : Int32 :=
  if p0 < (0 : Int32) then
  ((0 : Int32))
  else
  (if (5 : Int32) < p0 then
  ((0 : Int32))
  else
  ((1 : Int32)))
def fX5_has (S : zSt) (p1 : Int32) : Int32 :=
  if p1 < (0 : Int32) then
  ((0 : Int32))
  else
  (if (st_came S) ≤ p1 then
  ((0 : Int32))
  else
  ((1 : Int32)))
def fX5_stands (S : zSt) (p1 : Int32) : Int32 :=
  if (fX5_has S p1) = (0 : Int32) then
  ((0 : Int32))
  else
  (if (fX5_isIn (st_standing S) p1) = (0 : Int32) then
  ((0 : Int32))
  else
  ((1 : Int32)))
def fX5_hasRoom (S : zSt) : Int32 :=
  if (12 : Int32) ≤ (st_came S) then
  ((0 : Int32))
  else
  ((1 : Int32))
def fX5_cameCount (S : zSt) : Int32 :=
  (st_came S)
def fX5_standingCount (S : zSt) : Int32 :=
  (fJ6_bitCount_0f7a4 (st_standing S))
def fX5_standingBits (S : zSt) : Int32 :=
  (st_standing S)
def fX5_sumsLaw (S : zSt) : Int32 :=
  (st_sums S)
def fX5_fallsLaw (S : zSt) : Int32 :=
  (st_falls S)
def fX5_changeLaws (S : zSt) (p1 : Int32) (p2 : Int32) : Int32 × zSt :=
  if p1 < (0 : Int32) then
  (((0 : Int32), S))
  else
  (if (2 : Int32) < p1 then
  (((0 : Int32), S))
  else
  (if p2 < (0 : Int32) then
  (((0 : Int32), S))
  else
  (if p2 ≤ (1 : Int32) then
  (((1 : Int32), (st_set_falls (st_set_sums S p1) p2)))
  else
  (((0 : Int32), S)))))
def fX5_tell (S : zSt) (p1 : Int32) (p2 : Int32) : Option (Int32) :=
  if (fX5_has S p1) = (0 : Int32) then
  (some (-1 : Int32))
  else
  (if p2 = (0 : Int32) then
  (ix 12 p1 (some ((st_kinds S) p1.toNatClampNeg)))
  else
  (if p2 = (1 : Int32) then
  (ix 12 p1 (some ((st_figures S) p1.toNatClampNeg)))
  else
  (if p2 = (2 : Int32) then
  (ix 12 p1 (some ((st_numbers S) p1.toNatClampNeg)))
  else
  (if p2 = (3 : Int32) then
  (ix 12 p1 (some ((st_firsts S) p1.toNatClampNeg)))
  else
  (if p2 = (4 : Int32) then
  (ix 12 p1 (some ((st_seconds S) p1.toNatClampNeg)))
  else
  (if p2 = (5 : Int32) then
  (if (fX5_isIn (st_standing S) p1) = (0 : Int32) then
  (some (0 : Int32))
  else
  (some (1 : Int32)))
  else
  (if p2 = (6 : Int32) then
  (ix 12 p1 (some ((st_uses S) p1.toNatClampNeg)))
  else
  (if p2 = (7 : Int32) then
  (ix 12 p1 (some ((st_earned S) p1.toNatClampNeg)))
  else
  (some (-2 : Int32))))))))))
def fX5_greatest_l4 (S : zSt) : Nat → (Int32) → (Int32) → Option (Int32)
  | 0, _, _ => none
  | n + 1, v1, v2 =>
  if (st_came S) ≤ v2 then
  (some v1)
  else
  (if (fX5_isIn (st_standing S) v2) = (0 : Int32) then
  (fX5_greatest_l4 S n v1 (v2 + (1 : Int32)))
  else
  (ix 12 v2 (fX5_greatest_l4 S n (if v1 < ((st_numbers S) v2.toNatClampNeg) then ((st_numbers S) v2.toNatClampNeg) else v1) (v2 + (1 : Int32)))))
def fX5_greatest (S : zSt) : Option (Int32) :=
  fX5_greatest_l4 S FU (0 : Int32) (0 : Int32)
def fX5_allEarned_l4 (S : zSt) : Nat → (Int32) → (Int32) → Option (Int32)
  | 0, _, _ => none
  | n + 1, v1, v2 =>
  if (st_came S) ≤ v2 then
  (some v1)
  else
  (ix 12 v2 (fX5_allEarned_l4 S n (v1 + ((st_earned S) v2.toNatClampNeg)) (v2 + (1 : Int32))))
def fX5_allEarned (S : zSt) : Option (Int32) :=
  fX5_allEarned_l4 S FU (0 : Int32) (0 : Int32)
def fX5_isThere_l2 (S : zSt) (v1 : Int32) : Nat → (Int32) → Option (Int32)
  | 0, _ => none
  | n + 1, v2 =>
  if (st_came S) ≤ v2 then
  (some (0 : Int32))
  else
  (if (fX5_isIn (st_standing S) v2) = (0 : Int32) then
  (fX5_isThere_l2 S v1 n (v2 + (1 : Int32)))
  else
  (ix 12 v2 (if ((st_numbers S) v2.toNatClampNeg) = v1 then
  (some (1 : Int32))
  else
  (fX5_isThere_l2 S v1 n (v2 + (1 : Int32))))))
def fX5_isThere (S : zSt) (p1 : Int32) : Option (Int32) :=
  fX5_isThere_l2 S p1 FU (0 : Int32)
def fX5_fee (S : zSt) (p1 : Int32) : Option (Int32) :=
  if (fX5_has S p1) = (0 : Int32) then
  (some (0 : Int32))
  else
  (ix 12 p1 (if ((st_kinds S) p1.toNatClampNeg) = (2 : Int32) then
  (some ((st_figures S) p1.toNatClampNeg))
  else
  (if ((st_kinds S) p1.toNatClampNeg) = (3 : Int32) then
  (some (((2 : Int32) * ((st_figures S) p1.toNatClampNeg)) + (1 : Int32)))
  else
  (some (0 : Int32)))))
def fX5_isLawful (S : zSt) (p1 : Int32) (p2 : Int32) : Int32 :=
  if (st_sums S) = (1 : Int32) then
  (if p1 = ((31 : Int32) - (fJ6_numberOfLeadingZeros_0f7a4 (st_standing S))) then
  ((1 : Int32))
  else
  (if p2 = ((31 : Int32) - (fJ6_numberOfLeadingZeros_0f7a4 (st_standing S))) then
  ((1 : Int32))
  else
  ((0 : Int32))))
  else
  (if (st_sums S) = (2 : Int32) then
  (if p1 = p2 then
  ((1 : Int32))
  else
  ((0 : Int32)))
  else
  ((1 : Int32)))
def fX5_lends (S : zSt) (p1 : Int32) (p2 : Int32) : Option (Int32) :=
  if (fX5_has S p1) = (0 : Int32) then
  (some (0 : Int32))
  else
  (ix 12 p1 (if ((st_kinds S) p1.toNatClampNeg) = (1 : Int32) then
  (if ((st_uses S) p1.toNatClampNeg) = (0 : Int32) then
  (some (1 : Int32))
  else
  (some (0 : Int32)))
  else
  (if ((st_kinds S) p1.toNatClampNeg) = (2 : Int32) then
  (some (1 : Int32))
  else
  (if ((st_kinds S) p1.toNatClampNeg) = (3 : Int32) then
  (if (p2 &&& (1 : Int32)) = (0 : Int32) then
  (some (1 : Int32))
  else
  (some (0 : Int32)))
  else
  (if ((st_kinds S) p1.toNatClampNeg) = (4 : Int32) then
  (some (0 : Int32))
  else
  (some (1 : Int32)))))))
def fX5_mayBe (S : zSt) (p1 : Int32) (p2 : Int32) : Option (Int32) :=
  if (fX5_stands S p1) = (0 : Int32) then
  (some (0 : Int32))
  else
  (if (fX5_stands S p2) = (0 : Int32) then
  (some (0 : Int32))
  else
  (if (fX5_isLawful S p1 p2) = (0 : Int32) then
  (some (0 : Int32))
  else
  (ix 12 p1 (ix 12 p2 (if (9999 : Int32) < (((st_numbers S) p1.toNatClampNeg) + ((st_numbers S) p2.toNatClampNeg)) then
  (some (0 : Int32))
  else
  ((fX5_lends S p1 (((st_numbers S) p1.toNatClampNeg) + ((st_numbers S) p2.toNatClampNeg))).bind fun u10 =>
  if u10 = (0 : Int32) then
  (some (0 : Int32))
  else
  ((fX5_lends S p2 (((st_numbers S) p1.toNatClampNeg) + ((st_numbers S) p2.toNatClampNeg))).bind fun u12 =>
  if u12 = (0 : Int32) then
  (some (0 : Int32))
  else
  ((fX5_isThere S (((st_numbers S) p1.toNatClampNeg) + ((st_numbers S) p2.toNatClampNeg))).bind fun u14 =>
  if u14 = (0 : Int32) then
  (some (1 : Int32))
  else
  (some (0 : Int32))))))))))
def fX5_place (S : zSt) (p1 : Int32) (p2 : Int32) (p3 : Int32) (p4 : Int32) (p5 : Int32) : Option (zSt) :=
  if (fX5_hasRoom S) = (0 : Int32) then
  (some S)
  else
  (ix 12 (st_came S) (some (st_set_standing (st_set_came (st_set_earned (st_set_uses (st_set_seconds (st_set_firsts (st_set_numbers (st_set_figures (st_set_kinds S (upd (st_kinds S) (st_came S).toNatClampNeg p4)) (upd (st_figures S) (st_came S).toNatClampNeg p5)) (upd (st_numbers S) (st_came S).toNatClampNeg p1)) (upd (st_firsts S) (st_came S).toNatClampNeg p2)) (upd (st_seconds S) (st_came S).toNatClampNeg p3)) (upd (st_uses S) (st_came S).toNatClampNeg (0 : Int32))) (upd (st_earned S) (st_came S).toNatClampNeg (0 : Int32))) ((st_came S) + (1 : Int32))) ((st_standing S) ||| ((1 : Int32) <<< ((st_came S) &&& 31))))))
def fX5_use (S : zSt) (p1 : Int32) : Option (zSt) :=
  if (fX5_has S p1) = (0 : Int32) then
  (some S)
  else
  (ix 12 p1 ((fX5_fee (st_set_uses S (upd (st_uses S) p1.toNatClampNeg (((st_uses S) p1.toNatClampNeg) + (1 : Int32)))) p1).bind fun u4 =>
  some (st_set_earned (st_set_uses S (upd (st_uses S) p1.toNatClampNeg (((st_uses S) p1.toNatClampNeg) + (1 : Int32)))) (upd (st_earned S) p1.toNatClampNeg (((st_earned S) p1.toNatClampNeg) + u4)))))
def fX5_loseHut (S : zSt) (p1 : Int32) : Option (zSt) :=
  if (fX5_has S p1) = (0 : Int32) then
  (some S)
  else
  (ix 12 p1 (if ((st_kinds S) p1.toNatClampNeg) = (1 : Int32) then
  (some (st_set_standing S ((st_standing S) &&& (((1 : Int32) <<< (p1 &&& 31)) ^^^ (-1 : Int32)))))
  else
  (some S)))
def fX5_build (S : zSt) (p1 : Int32) (p2 : Int32) (p3 : Int32) (p4 : Int32) : Option (Int32 × zSt) :=
  if (fX5_hasRoom S) = (0 : Int32) then
  (some ((0 : Int32), S))
  else
  (if (fX5_isKind p3) = (0 : Int32) then
  (some ((0 : Int32), S))
  else
  ((fX5_mayBe S p1 p2).bind fun u5 =>
  if u5 = (0 : Int32) then
  (some ((0 : Int32), S))
  else
  (ix 12 p1 (ix 12 p2 ((fX5_place S (((st_numbers S) p1.toNatClampNeg) + ((st_numbers S) p2.toNatClampNeg)) p1 p2 p3 p4).bind fun u9 =>
  (fX5_use u9 p1).bind fun u10 =>
  (fX5_use u10 p2).bind fun u11 =>
  (fX5_loseHut u11 p1).bind fun u12 =>
  (fX5_loseHut u12 p2).bind fun u13 =>
  some ((1 : Int32), u13))))))
def fX5_beginAnew (S : zSt) : Option (zSt) :=
  (fX5_place (st_set_standing (st_set_came S (0 : Int32)) (0 : Int32)) (1 : Int32) (-4 : Int32) (-4 : Int32) (0 : Int32) (0 : Int32)).bind fun u1 =>
  some u1
def fX5_fallsWith_j87 (S : zSt) (v2 : Int32) (v3 : Int32) (k23 : (Int32) → (Int32) → Option (Int32)) : Option (Int32) :=
  k23 (v2 &&& (((1 : Int32) <<< (v3 &&& 31)) ^^^ (-1 : Int32))) (v3 + (1 : Int32))
def fX5_fallsWith_j54 (S : zSt) (v2 : Int32) (v3 : Int32) (t0 : Int32) (k23 : (Int32) → (Int32) → Option (Int32)) : Option (Int32) :=
  if t0 = (0 : Int32) then
  (k23 v2 (v3 + (1 : Int32)))
  else
  (ix 12 v3 (if (fX5_isIn v2 ((st_firsts S) v3.toNatClampNeg)) = (0 : Int32) then
  (fX5_fallsWith_j87 S v2 v3 (k23))
  else
  (if (fX5_isIn v2 ((st_seconds S) v3.toNatClampNeg)) = (0 : Int32) then
  (fX5_fallsWith_j87 S v2 v3 (k23))
  else
  (k23 v2 (v3 + (1 : Int32))))))
def fX5_fallsWith_j49 (S : zSt) (v2 : Int32) (v3 : Int32) (k23 : (Int32) → (Int32) → Option (Int32)) : Option (Int32) :=
  fX5_fallsWith_j54 S v2 v3 (1 : Int32) (k23)
def fX5_fallsWith_l23 (S : zSt) : Nat → (Int32) → (Int32) → Option (Int32)
  | 0, _, _ => none
  | n + 1, v2, v3 =>
  if (st_came S) ≤ v3 then
  (some ((st_standing S) &&& (v2 ^^^ (-1 : Int32))))
  else
  (if (st_falls S) = (1 : Int32) then
  (fX5_fallsWith_j49 S v2 v3 (fX5_fallsWith_l23 S n))
  else
  (ix 12 v3 (if ((st_kinds S) v3.toNatClampNeg) = (5 : Int32) then
  (fX5_fallsWith_j49 S v2 v3 (fX5_fallsWith_l23 S n))
  else
  (fX5_fallsWith_j54 S v2 v3 (0 : Int32) (fX5_fallsWith_l23 S n)))))
def fX5_fallsWith (S : zSt) (p1 : Int32) : Option (Int32) :=
  if (fX5_stands S p1) = (0 : Int32) then
  (some (0 : Int32))
  else
  (fX5_fallsWith_l23 S FU ((st_standing S) &&& (((1 : Int32) <<< (p1 &&& 31)) ^^^ (-1 : Int32))) (1 : Int32))
def fX5_fire (S : zSt) (p1 : Int32) : Option (Int32 × zSt) :=
  (fX5_fallsWith S p1).bind fun u1 =>
  some ((fJ6_bitCount_0f7a4 u1), (st_set_standing S ((st_standing S) &&& (u1 ^^^ (-1 : Int32)))))
def fX5_bitOf (S : zSt) (p1 : Int32) : Int32 :=
  if (fX5_stands S p1) = (0 : Int32) then
  ((0 : Int32))
  else
  (((1 : Int32) <<< (p1 &&& 31)))
def fX5_aheadOf (S : zSt) (p1 : Int32) : Option (Int32) :=
  if (fX5_has S p1) = (0 : Int32) then
  (some (0 : Int32))
  else
  (ix 12 p1 (some ((fX5_bitOf S ((st_firsts S) p1.toNatClampNeg)) ||| (fX5_bitOf S ((st_seconds S) p1.toNatClampNeg)))))
def fX5_comesNext_l21 (S : zSt) (v1 : Int32) (v2 : Int32) (k11 : (Int32) → Option (Int32)) : Nat → (Int32) → Option (Int32)
  | 0, _ => none
  | n + 1, v3 =>
  if (st_came S) ≤ v3 then
  (k11 (v2 + (1 : Int32)))
  else
  (ix 12 v2 (ix 12 v3 (if (((st_numbers S) v2.toNatClampNeg) + ((st_numbers S) v3.toNatClampNeg)) = v1 then
  ((fX5_mayBe S v2 v3).bind fun u5 =>
  if u5 = (0 : Int32) then
  (fX5_comesNext_l21 S v1 v2 k11 n (v3 + (1 : Int32)))
  else
  (some (1 : Int32)))
  else
  (fX5_comesNext_l21 S v1 v2 k11 n (v3 + (1 : Int32))))))
def fX5_comesNext_l11 (S : zSt) (v1 : Int32) : Nat → (Int32) → Option (Int32)
  | 0, _ => none
  | n + 1, v2 =>
  if (st_came S) ≤ v2 then
  (some (0 : Int32))
  else
  (fX5_comesNext_l21 S v1 v2 (fX5_comesNext_l11 S v1 n) FU v2)
def fX5_comesNext (S : zSt) (p1 : Int32) : Option (Int32) :=
  if (fX5_hasRoom S) = (0 : Int32) then
  (some (0 : Int32))
  else
  (fX5_comesNext_l11 S p1 FU (0 : Int32))
def fX5_become (S : zSt) (T : zSt) : zSt :=
  (st_set_falls (st_set_sums (st_set_standing (st_set_came (st_set_earned (st_set_uses (st_set_seconds (st_set_firsts (st_set_numbers (st_set_figures (st_set_kinds S (va_cpy (st_kinds T) (st_kinds S) (0 : Int32).toNatClampNeg (0 : Int32).toNatClampNeg (12 : Int32).toNatClampNeg)) (va_cpy (st_figures T) (st_figures S) (0 : Int32).toNatClampNeg (0 : Int32).toNatClampNeg (12 : Int32).toNatClampNeg)) (va_cpy (st_numbers T) (st_numbers S) (0 : Int32).toNatClampNeg (0 : Int32).toNatClampNeg (12 : Int32).toNatClampNeg)) (va_cpy (st_firsts T) (st_firsts S) (0 : Int32).toNatClampNeg (0 : Int32).toNatClampNeg (12 : Int32).toNatClampNeg)) (va_cpy (st_seconds T) (st_seconds S) (0 : Int32).toNatClampNeg (0 : Int32).toNatClampNeg (12 : Int32).toNatClampNeg)) (va_cpy (st_uses T) (st_uses S) (0 : Int32).toNatClampNeg (0 : Int32).toNatClampNeg (12 : Int32).toNatClampNeg)) (va_cpy (st_earned T) (st_earned S) (0 : Int32).toNatClampNeg (0 : Int32).toNatClampNeg (12 : Int32).toNatClampNeg)) (st_came T)) (st_standing T)) (st_sums T)) (st_falls T))
def fX6_howMany_L (S : zLt) : Int32 :=
  (lt_length S)
def fX6_hasRoom_L (S : zLt) : Int32 :=
  if (64 : Int32) ≤ (lt_length S) then
  ((0 : Int32))
  else
  ((1 : Int32))
def fX6_take_L (S : zLt) (p1 : Int32) : Option (Int32 × zLt) :=
  if (fX6_hasRoom_L S) = (0 : Int32) then
  (some ((lt_length S), S))
  else
  (ix 64 (lt_length S) (some (((lt_length S) + (1 : Int32)), (lt_set_length (lt_set_all S (upd (lt_all S) (lt_length S).toNatClampNeg p1)) ((lt_length S) + (1 : Int32))))))
def fX6_forget_L (S : zLt) : zLt :=
  (lt_set_length S (0 : Int32))
def fX6_toldAt_L (S : zLt) (p1 : Int32) : Option (Int32) :=
  if p1 < (0 : Int32) then
  (some (-1 : Int32))
  else
  (if (lt_length S) ≤ p1 then
  (some (-1 : Int32))
  else
  (ix 64 p1 (some ((lt_all S) p1.toNatClampNeg))))
def fX6_howMany_R (S : zRw) : Int32 :=
  (rw_length S)
def fX6_hasRoom_R (S : zRw) : Int32 :=
  if (12 : Int32) ≤ (rw_length S) then
  ((0 : Int32))
  else
  ((1 : Int32))
def fX6_take_R (S : zRw) (p1 : Int32) : Option (Int32 × zRw) :=
  if (fX6_hasRoom_R S) = (0 : Int32) then
  (some ((rw_length S), S))
  else
  (ix 12 (rw_length S) (some (((rw_length S) + (1 : Int32)), (rw_set_length (rw_set_all S (upd (rw_all S) (rw_length S).toNatClampNeg p1)) ((rw_length S) + (1 : Int32))))))
def fX6_forget_R (S : zRw) : zRw :=
  (rw_set_length S (0 : Int32))
def fX6_toldAt_R (S : zRw) (p1 : Int32) : Option (Int32) :=
  if p1 < (0 : Int32) then
  (some (-1 : Int32))
  else
  (if (rw_length S) ≤ p1 then
  (some (-1 : Int32))
  else
  (ix 12 p1 (some ((rw_all S) p1.toNatClampNeg))))
def fX0_isSum_l12 (S : (Nat → Int32)) (v2 : Int32) : Nat → (Int32) → (Int32) → Option (Int32)
  | 0, _, _ => none
  | n + 1, v3, v4 =>
  if v4 < v3 then
  (some (0 : Int32))
  else
  (ix 12 v3 (ix 12 v4 (if ((S v3.toNatClampNeg) + (S v4.toNatClampNeg)) = v2 then
  (some (1 : Int32))
  else
  (if v2 ≤ ((S v3.toNatClampNeg) + (S v4.toNatClampNeg)) then
  (fX0_isSum_l12 S v2 n v3 (v4 + (-1 : Int32)))
  else
  (fX0_isSum_l12 S v2 n (v3 + (1 : Int32)) v4)))))
def fX0_isSum (S : (Nat → Int32)) (p1 : Int32) (p2 : Int32) : Option (Int32) :=
  fX0_isSum_l12 S p2 FU (0 : Int32) ((if (12 : Int32) < p1 then (12 : Int32) else p1) - (1 : Int32))
def fX0_leastUseful (p0 : Int32) (p1 : Int32) (p2 : Int32) : Int32 :=
  (if (p0 + (1 : Int32)) < (((p2 + ((1 : Int32) <<< (p1 &&& 31))) - (1 : Int32)) >>> (p1 &&& 31)) then (((p2 + ((1 : Int32) <<< (p1 &&& 31))) - (1 : Int32)) >>> (p1 &&& 31)) else (p0 + (1 : Int32)))
def fX0_reaches_l77 (rf : ((Nat → Int32)) → Int32 → Int32 → Int32 → Int32 → Option (Int32 × (Nat → Int32))) (v1 : Int32) (v2 : Int32) (v3 : Int32) (v4 : Int32) (v6 : Int32) : Nat → (Int32) → ((Nat → Int32)) → Option (Int32 × (Nat → Int32))
  | 0, _, _ => none
  | n + 1, v7, S =>
  if v6 < v7 then
  (some ((0 : Int32), S))
  else
  ((fX0_isSum S v1 v7).bind fun u2 =>
  if u2 = (0 : Int32) then
  (fX0_reaches_l77 rf v1 v2 v3 v4 v6 n (v7 + (1 : Int32)) S)
  else
  (ix 12 v1 ((rf (upd S v1.toNatClampNeg v7) (v1 + (1 : Int32)) v2 v3 v4).bind fun u5 =>
  if u5.1 = (0 : Int32) then
  (fX0_reaches_l77 rf v1 v2 v3 v4 v6 n (v7 + (1 : Int32)) u5.2)
  else
  (some ((1 : Int32), u5.2)))))
def fX0_reaches_j58 (rf : ((Nat → Int32)) → Int32 → Int32 → Int32 → Int32 → Option (Int32 × (Nat → Int32))) (v1 : Int32) (v2 : Int32) (v3 : Int32) (v4 : Int32) (v5 : Int32) (t0 : Int32) (t1 : Int32) (S : (Nat → Int32)) : Option (Int32 × (Nat → Int32)) :=
  fX0_reaches_l77 rf v1 v2 v3 v4 (if t1 < t0 then t1 else t0) FU (fX0_leastUseful v5 ((v2 - v1) - (1 : Int32)) v4) S
def fX0_reaches_e (rf : ((Nat → Int32)) → Int32 → Int32 → Int32 → Int32 → Option (Int32 × (Nat → Int32))) (S : (Nat → Int32)) (p1 : Int32) (p2 : Int32) (p3 : Int32) (p4 : Int32) : Option (Int32 × (Nat → Int32)) :=
  if p1 < (1 : Int32) then
  (some ((0 : Int32), S))
  else
  (if p1 ≤ (12 : Int32) then
  (ix 12 (p1 - (1 : Int32)) (if (S (p1 - (1 : Int32)).toNatClampNeg) = p4 then
  (some ((1 : Int32), S))
  else
  (if p2 ≤ p1 then
  (some ((0 : Int32), S))
  else
  (if p1 < (12 : Int32) then
  (if p3 ≤ (S (p1 - (1 : Int32)).toNatClampNeg) then
  (fX0_reaches_j58 rf p1 p2 p3 p4 (S (p1 - (1 : Int32)).toNatClampNeg) ((2 : Int32) * (S (p1 - (1 : Int32)).toNatClampNeg)) p4 S)
  else
  (fX0_reaches_j58 rf p1 p2 p3 p4 (S (p1 - (1 : Int32)).toNatClampNeg) ((2 : Int32) * (S (p1 - (1 : Int32)).toNatClampNeg)) p3 S))
  else
  (some ((0 : Int32), S))))))
  else
  (some ((0 : Int32), S)))
def fX0_reaches : Nat → ((Nat → Int32)) → Int32 → Int32 → Int32 → Int32 → Option (Int32 × (Nat → Int32))
  | 0 => fun _ _ _ _ _ => none
  | d + 1 => fX0_reaches_e (fX0_reaches d)
def fX0_shortest_l2 (v1 : Int32) (v2 : Int32) : Nat → (Int32) → (zCh) → Option (Int32 × zCh)
  | 0, _, _ => none
  | n + 1, v3, S =>
  if (12 : Int32) < v3 then
  (some ((0 : Int32), S))
  else
  ((fX0_reaches 14 (ch_numbers S) (1 : Int32) v3 v1 v2).bind fun u2 =>
  if u2.1 = (0 : Int32) then
  (fX0_shortest_l2 v1 v2 n (v3 + (1 : Int32)) (ch_set_numbers S u2.2))
  else
  (some (v3, (ch_set_numbers S u2.2))))
def fX0_shortest (S : zCh) (p1 : Int32) (p2 : Int32) : Option (Int32 × zCh) :=
  fX0_shortest_l2 p1 p2 FU (1 : Int32) S
def fX0_numberAt (S : zCh) (p1 : Int32) : Option (Int32) :=
  if p1 < (0 : Int32) then
  (some (-9 : Int32))
  else
  (if (12 : Int32) ≤ p1 then
  (some (-9 : Int32))
  else
  (ix 12 p1 (some ((ch_numbers S) p1.toNatClampNeg))))
def fX0_reached_l45 (rf : ((Nat → Int32)) → Int32 → Int32 → Option (Int64 × (Nat → Int32))) (v1 : Int32) (v2 : Int32) (v3 : Int32) : Nat → (Int64) → (Int32) → ((Nat → Int32)) → Option (Int64 × (Nat → Int32))
  | 0, _, _, _ => none
  | n + 1, v4, v6, S =>
  if ((2 : Int32) * v3) < v6 then
  (some (v4, S))
  else
  ((fX0_isSum S v1 v6).bind fun u2 =>
  if u2 = (0 : Int32) then
  (fX0_reached_l45 rf v1 v2 v3 n v4 (v6 + (1 : Int32)) S)
  else
  (ix 12 v1 ((rf (upd S v1.toNatClampNeg v6) (v1 + (1 : Int32)) v2).bind fun u5 =>
  fX0_reached_l45 rf v1 v2 v3 n (v4 ||| u5.1) (v6 + (1 : Int32)) u5.2)))
def fX0_reached_e (rf : ((Nat → Int32)) → Int32 → Int32 → Option (Int64 × (Nat → Int32))) (S : (Nat → Int32)) (p1 : Int32) (p2 : Int32) : Option (Int64 × (Nat → Int32)) :=
  if p1 < (1 : Int32) then
  (some ((0 : Int64), S))
  else
  (if p1 ≤ (12 : Int32) then
  (ix 12 (p1 - (1 : Int32)) (if p2 ≤ p1 then
  (some (((1 : Int64) <<< (((S (p1 - (1 : Int32)).toNatClampNeg) - (1 : Int32)).toInt64 &&& 63)), S))
  else
  (if p1 < (12 : Int32) then
  (fX0_reached_l45 rf p1 p2 (S (p1 - (1 : Int32)).toNatClampNeg) FU ((1 : Int64) <<< (((S (p1 - (1 : Int32)).toNatClampNeg) - (1 : Int32)).toInt64 &&& 63)) ((S (p1 - (1 : Int32)).toNatClampNeg) + (1 : Int32)) S)
  else
  (some (((1 : Int64) <<< (((S (p1 - (1 : Int32)).toNatClampNeg) - (1 : Int32)).toInt64 &&& 63)), S)))))
  else
  (some ((0 : Int64), S)))
def fX0_reached : Nat → ((Nat → Int32)) → Int32 → Int32 → Option (Int64 × (Nat → Int32))
  | 0 => fun _ _ _ => none
  | d + 1 => fX0_reached_e (fX0_reached d)
def fX0_reachable (S : zCh) (p1 : Int32) : Option (Int64 × zCh) :=
  (fX0_reached 14 (ch_numbers S) (1 : Int32) (if (7 : Int32) < p1 then (7 : Int32) else p1)).bind fun u1 =>
  some (u1.1, (ch_set_numbers S u1.2))
def fX0_byHalves (p0 : Int32) : Int32 :=
  if (1 : Int32) ≤ p0 then
  ((((31 : Int32) - (fJ6_numberOfLeadingZeros_0f7a4 p0)) + (fJ6_bitCount_0f7a4 p0)))
  else
  ((0 : Int32))
def fX0_leastFactor_l2 (v0 : Int32) : Nat → (Int32) → Option (Int32)
  | 0, _ => none
  | n + 1, v1 =>
  if v0 < (v1 * v1) then
  (some v0)
  else
  (if v1 = 0 then none else if (v0 - v0 / v1 * v1) = (0 : Int32) then
  (some v1)
  else
  (fX0_leastFactor_l2 v0 n (v1 + (1 : Int32))))
def fX0_leastFactor (p0 : Int32) : Option (Int32) :=
  fX0_leastFactor_l2 p0 FU (2 : Int32)
def fX0_splitDown_j28 (rf : Int32 → Int32 → Option (Int32)) (v0 : Int32) (v1 : Int32) : Option (Int32) :=
  (rf (v0 - (1 : Int32)) (v1 + (1 : Int32))).bind fun u1 =>
  some (u1 + (1 : Int32))
def fX0_splitDown_e (rf : Int32 → Int32 → Option (Int32)) (p0 : Int32) (p1 : Int32) : Option (Int32) :=
  if p0 ≤ (1 : Int32) then
  (some (1 : Int32))
  else
  (if p1 ≤ (40 : Int32) then
  ((fX0_leastFactor p0).bind fun u4 =>
  if u4 < (2 : Int32) then
  (fX0_splitDown_j28 rf p0 p1)
  else
  (if u4 = p0 then
  (fX0_splitDown_j28 rf p0 p1)
  else
  ((rf u4 (p1 + (1 : Int32))).bind fun u7 =>
  if u4 = 0 then none else (rf (p0 / u4) (p1 + (1 : Int32))).bind fun u9 =>
  some ((u7 + u9) - (1 : Int32)))))
  else
  (some (1 : Int32)))
def fX0_splitDown : Nat → Int32 → Int32 → Option (Int32)
  | 0 => fun _ _ => none
  | d + 1 => fX0_splitDown_e (fX0_splitDown d)
def fX0_byFactors (p0 : Int32) : Option (Int32) :=
  (fX0_splitDown 44 p0 (0 : Int32)).bind fun u1 =>
  some u1
def fX1_sumsOf_l4 (v0 : Int32) (v1 : Int32) : Nat → (Int32) → (Int32) → Option (Int32)
  | 0, _, _ => none
  | n + 1, v2, v3 =>
  if v1 ≤ v3 then
  (some v2)
  else
  (if ((v0 >>> (v3 &&& 31)) &&& (1 : Int32)) = (1 : Int32) then
  (fX1_sumsOf_l4 v0 v1 n (v2 ||| (v0 <<< (v3 &&& 31))) (v3 + (1 : Int32)))
  else
  (fX1_sumsOf_l4 v0 v1 n v2 (v3 + (1 : Int32))))
def fX1_sumsOf (p0 : Int32) (p1 : Int32) : Option (Int32) :=
  fX1_sumsOf_l4 p0 p1 FU (0 : Int32) (1 : Int32)
def fX1_isWon_l24 (S : zGm) (v1 : Int32) (v2 : Int32) (v3 : Int32) : Nat → (Int32) → Option (Int32)
  | 0, _ => none
  | n + 1, v4 =>
  if v2 ≤ v4 then
  (some (0 : Int32))
  else
  (if ((v3 >>> (v4 &&& 31)) &&& (1 : Int32)) = (1 : Int32) then
  (if (1024 : Int32) ≤ ((v1 ||| ((1 : Int32) <<< (v4 &&& 31))) >>> ((2 : Int32) &&& 31)) then
  (fX1_isWon_l24 S v1 v2 v3 n (v4 + (1 : Int32)))
  else
  (ix 1024 ((v1 ||| ((1 : Int32) <<< (v4 &&& 31))) >>> ((2 : Int32) &&& 31)) (if ((gm_wins S) ((v1 ||| ((1 : Int32) <<< (v4 &&& 31))) >>> ((2 : Int32) &&& 31)).toNatClampNeg) = (0 : Int32) then
  (some (1 : Int32))
  else
  (fX1_isWon_l24 S v1 v2 v3 n (v4 + (1 : Int32))))))
  else
  (fX1_isWon_l24 S v1 v2 v3 n (v4 + (1 : Int32))))
def fX1_isWon (S : zGm) (p1 : Int32) (p2 : Int32) : Option (Int32) :=
  (fX1_sumsOf p1 p2).bind fun u6 =>
  if (((u6 &&& (p1 ^^^ (-1 : Int32))) >>> (p2 &&& 31)) &&& (1 : Int32)) = (1 : Int32) then
  (some (1 : Int32))
  else
  (fX1_isWon_l24 S p1 p2 (u6 &&& (p1 ^^^ (-1 : Int32))) FU (2 : Int32))
def fX1_isWonByFirst_l21 (v1 : Int32) : Nat → (Int32) → (zGm) → Option (Int32 × zGm)
  | 0, _, _ => none
  | n + 1, v2, S =>
  if v2 < (0 : Int32) then
  (ix 1024 (0 : Int32) (if ((gm_wins S) (0 : Int32).toNatClampNeg) &&& 1 = ((gm_wins S) (0 : Int32).toNatClampNeg) then some (((gm_wins S) (0 : Int32).toNatClampNeg), S) else none))
  else
  ((fX1_isWon S ((v2 <<< ((2 : Int32) &&& 31)) ||| (2 : Int32)) v1).bind fun u4 =>
  ix 1024 v2 (fX1_isWonByFirst_l21 v1 n (v2 + (-1 : Int32)) (gm_set_wins S (upd (gm_wins S) v2.toNatClampNeg (u4 &&& 1)))))
def fX1_isWonByFirst (S : zGm) (p1 : Int32) : Option (Int32 × zGm) :=
  if p1 < (2 : Int32) then
  (some ((0 : Int32), S))
  else
  (if p1 ≤ (12 : Int32) then
  (fX1_isWonByFirst_l21 p1 FU (((1 : Int32) <<< ((p1 - (2 : Int32)) &&& 31)) - (1 : Int32)) S)
  else
  (some ((0 : Int32), S)))
def fX3_letNextCome_j46 (T : zSt) (v2 : Int32) (v4 : Int32) (v5 : Int32) (t0 : Int32) (S : zOr) (k10 : (Int32) → (zOr) → Option (zOr)) : Option (zOr) :=
  if t0 = (0 : Int32) then
  (k10 (v5 + (1 : Int32)) S)
  else
  (if (4096 : Int32) ≤ (v2 ||| ((1 : Int32) <<< (v5 &&& 31))) then
  (k10 (v5 + (1 : Int32)) S)
  else
  (ix 4096 (v2 ||| ((1 : Int32) <<< (v5 &&& 31))) (ix 4096 v2 (k10 (v5 + (1 : Int32)) (or_set_ways S (upd (or_ways S) (v2 ||| ((1 : Int32) <<< (v5 &&& 31))).toNatClampNeg (((or_ways S) (v2 ||| ((1 : Int32) <<< (v5 &&& 31))).toNatClampNeg) + ((or_ways S) v2.toNatClampNeg))))))))
def fX3_letNextCome_j45 (T : zSt) (v2 : Int32) (v4 : Int32) (v5 : Int32) (S : zOr) (k10 : (Int32) → (zOr) → Option (zOr)) : Option (zOr) :=
  fX3_letNextCome_j46 T v2 v4 v5 (0 : Int32) S (k10)
def fX3_letNextCome_l10 (T : zSt) (v2 : Int32) (v4 : Int32) : Nat → (Int32) → (zOr) → Option (zOr)
  | 0, _, _ => none
  | n + 1, v5, S =>
  if (12 : Int32) ≤ v5 then
  (some S)
  else
  (if ((v4 >>> (v5 &&& 31)) &&& (1 : Int32)) = (1 : Int32) then
  ((fX5_aheadOf T v5).bind fun u7 =>
  if (u7 &&& (v2 ^^^ (-1 : Int32))) = (0 : Int32) then
  (fX3_letNextCome_j46 T v2 v4 v5 (1 : Int32) S (fX3_letNextCome_l10 T v2 v4 n))
  else
  (fX3_letNextCome_j45 T v2 v4 v5 S (fX3_letNextCome_l10 T v2 v4 n)))
  else
  (fX3_letNextCome_j45 T v2 v4 v5 S (fX3_letNextCome_l10 T v2 v4 n)))
def fX3_letNextCome (S : zOr) (T : zSt) (p2 : Int32) (p3 : Int32) : Option (zOr) :=
  fX3_letNextCome_l10 T p2 (p3 &&& (p2 ^^^ (-1 : Int32))) FU (0 : Int32) S
def fX3_of_l42 (T : zSt) (v2 : Int32) : Nat → (Int32) → (zOr) → Option (Int32 × zOr)
  | 0, _, _ => none
  | n + 1, v3, S =>
  if v2 ≤ v3 then
  (ix 4096 v2 (some (((or_ways S) v2.toNatClampNeg), S)))
  else
  (ix 4096 v3 (if ((or_ways S) v3.toNatClampNeg) ≤ (0 : Int32) then
  (fX3_of_l42 T v2 n (v3 + (1 : Int32)) S)
  else
  ((fX3_letNextCome S T v3 v2).bind fun u5 =>
  fX3_of_l42 T v2 n (v3 + (1 : Int32)) u5)))
def fX3_of_l15 (T : zSt) (v2 : Int32) : Nat → (Int32) → (zOr) → Option (Int32 × zOr)
  | 0, _, _ => none
  | n + 1, v3, S =>
  if v2 < v3 then
  (ix 4096 (0 : Int32) (fX3_of_l42 T v2 FU (0 : Int32) (or_set_ways S (upd (or_ways S) (0 : Int32).toNatClampNeg (1 : Int32)))))
  else
  (ix 4096 v3 (fX3_of_l15 T v2 n (v3 + (1 : Int32)) (or_set_ways S (upd (or_ways S) v3.toNatClampNeg (0 : Int32)))))
def fX3_of (S : zOr) (T : zSt) : Option (Int32 × zOr) :=
  fX3_of_l15 T ((fX5_standingBits T) &&& ((4096 : Int32) - (1 : Int32))) FU (0 : Int32) S
def fX4_isNew_l2 (S : zRw) (v1 : Int32) : Nat → (Int32) → Option (Int32)
  | 0, _ => none
  | n + 1, v2 =>
  if v1 ≤ v2 then
  (some (1 : Int32))
  else
  ((fX6_toldAt_R S v2).bind fun u2 =>
  (fX6_toldAt_R S v1).bind fun u3 =>
  if u2 = u3 then
  (some (0 : Int32))
  else
  (fX4_isNew_l2 S v1 n (v2 + (1 : Int32))))
def fX4_isNew (S : zRw) (p1 : Int32) : Option (Int32) :=
  fX4_isNew_l2 S p1 FU (0 : Int32)
def fX4_isSum_l9 (S : zRw) (v1 : Int32) (v2 : Int32) (k2 : (Int32) → Option (Int32)) : Nat → (Int32) → Option (Int32)
  | 0, _ => none
  | n + 1, v3 =>
  if v1 ≤ v3 then
  (k2 (v2 + (1 : Int32)))
  else
  ((fX6_toldAt_R S v2).bind fun u2 =>
  (fX6_toldAt_R S v3).bind fun u3 =>
  (fX6_toldAt_R S v1).bind fun u4 =>
  if (u2 + u3) = u4 then
  (some (1 : Int32))
  else
  (fX4_isSum_l9 S v1 v2 k2 n (v3 + (1 : Int32))))
def fX4_isSum_l2 (S : zRw) (v1 : Int32) : Nat → (Int32) → Option (Int32)
  | 0, _ => none
  | n + 1, v2 =>
  if v1 ≤ v2 then
  (some (0 : Int32))
  else
  (fX4_isSum_l9 S v1 v2 (fX4_isSum_l2 S v1 n) FU v2)
def fX4_isSum (S : zRw) (p1 : Int32) : Option (Int32) :=
  fX4_isSum_l2 S p1 FU (0 : Int32)
def fX4_firstWrong_j52 (S : zRw) (v1 : Int32) (t0 : Int32) (k2 : (Int32) → Option (Int32)) : Option (Int32) :=
  if t0 = (0 : Int32) then
  (some v1)
  else
  (k2 (v1 + (1 : Int32)))
def fX4_firstWrong_j51 (S : zRw) (v1 : Int32) (k2 : (Int32) → Option (Int32)) : Option (Int32) :=
  fX4_firstWrong_j52 S v1 (0 : Int32) (k2)
def fX4_firstWrong_l2 (S : zRw) : Nat → (Int32) → Option (Int32)
  | 0, _ => none
  | n + 1, v1 =>
  if (fX6_howMany_R S) ≤ v1 then
  (some (-9 : Int32))
  else
  (if v1 = (0 : Int32) then
  ((fX6_toldAt_R S (0 : Int32)).bind fun u9 =>
  if u9 = (1 : Int32) then
  (fX4_firstWrong_j52 S v1 (1 : Int32) (fX4_firstWrong_l2 S n))
  else
  (fX4_firstWrong_j52 S v1 (0 : Int32) (fX4_firstWrong_l2 S n)))
  else
  ((fX4_isNew S v1).bind fun u5 =>
  if u5 = (0 : Int32) then
  (fX4_firstWrong_j51 S v1 (fX4_firstWrong_l2 S n))
  else
  ((fX4_isSum S v1).bind fun u7 =>
  if u7 = (0 : Int32) then
  (fX4_firstWrong_j51 S v1 (fX4_firstWrong_l2 S n))
  else
  (fX4_firstWrong_j52 S v1 (1 : Int32) (fX4_firstWrong_l2 S n)))))
def fX4_firstWrong (S : zRw) : Option (Int32) :=
  fX4_firstWrong_l2 S FU (0 : Int32)
def zLenI (k : Nat) : Int32 := Int32.ofNat (zLen.getD k 0)
def zIsE (k : Nat) : Int32 := if zLenI k = 0 then 1 else 0
def zChr (k : Nat) (i : Int32) : Int32 := (((zByt.getD k []).getD i.toNatClampNeg 0 &&& 255).toUInt32 % 65536).toInt32
def fX2_statementCount (S : zLt) : Int32 :=
  (lt_statements S)
def fX2_isDigit (p0 : Int32) : Int32 :=
  if p0 < (48 : Int32) then
  ((0 : Int32))
  else
  (if (57 : Int32) < p0 then
  ((0 : Int32))
  else
  ((1 : Int32)))
def fX2_readFigure_j88 (v3 : Int32) (S : zLt) : Option (Int32 × zLt) :=
  if v3 ≤ (0 : Int32) then
  (some ((0 : Int32), S))
  else
  (some ((1 : Int32), S))
def fX2_readFigure_j56 (v2 : Int32) (v3 : Int32) (S : zLt) : Option (Int32 × zLt) :=
  if (4 : Int32) ≤ (lt_figureCount S) then
  (fX2_readFigure_j88 v3 S)
  else
  (ix 4 (lt_figureCount S) (fX2_readFigure_j88 v3 (lt_set_figureCount (lt_set_figures S (upd (lt_figures S) (lt_figureCount S).toNatClampNeg v2)) ((lt_figureCount S) + (1 : Int32)))))
def fX2_readFigure_l4 (v1 : Int32) : Nat → (Int32) → (Int32) → (zLt) → Option (Int32 × zLt)
  | 0, _, _, _ => none
  | n + 1, v2, v3, S =>
  if v1 ≤ v3 then
  (fX2_readFigure_j56 v2 v3 S)
  else
  ((fX6_toldAt_L S (lt_at S)).bind fun u5 =>
  if (fX2_isDigit u5) = (0 : Int32) then
  (fX2_readFigure_j56 v2 v3 S)
  else
  ((fX6_toldAt_L S (lt_at S)).bind fun u8 =>
  fX2_readFigure_l4 v1 n (((v2 * (10 : Int32)) + u8) - (48 : Int32)) (v3 + (1 : Int32)) (lt_set_at S ((lt_at S) + (1 : Int32)))))
def fX2_readFigure (S : zLt) (p1 : Int32) : Option (Int32 × zLt) :=
  fX2_readFigure_l4 p1 FU (0 : Int32) (0 : Int32) S
def fX2_readPart (S : zLt) (p1 : Int32) : Option (Int32 × zLt) :=
  if p1 = (104 : Int32) then
  ((fX2_readFigure S (2 : Int32)).bind fun u7 =>
  if u7.1 &&& 1 = u7.1 then some (u7.1, u7.2) else none)
  else
  (if p1 = (100 : Int32) then
  ((fX2_readFigure S (1 : Int32)).bind fun u5 =>
  if u5.1 &&& 1 = u5.1 then some (u5.1, u5.2) else none)
  else
  ((fX6_toldAt_L S (lt_at S)).bind fun u3 =>
  if u3 = p1 then
  (some ((1 : Int32), (lt_set_at S ((lt_at S) + (1 : Int32)))))
  else
  (some ((0 : Int32), S))))
def fX2_formOf (p0 : Int32) : Nat :=
  if p0 = (97 : Int32) then
  ((0 : Nat))
  else
  (if p0 = (98 : Int32) then
  ((1 : Nat))
  else
  (if p0 = (108 : Int32) then
  ((2 : Nat))
  else
  (if p0 = (110 : Int32) then
  ((3 : Nat))
  else
  ((4 : Nat)))))
def fX2_readStatement_l46 (v1 : Nat) : Nat → (Int32) → (zLt) → Option (Int32 × zLt)
  | 0, _, _ => none
  | n + 1, v2, S =>
  if v1 < 5 then if (zLenI v1) ≤ v2 then
  (some ((1 : Int32), S))
  else
  (if v1 < 5 then if v2 < 0 ∨ zLenI v1 ≤ v2 then none else (fX2_readPart S (zChr v1 v2)).bind fun u5 =>
  if u5.1 = (0 : Int32) then
  (some ((0 : Int32), u5.2))
  else
  (fX2_readStatement_l46 v1 n (v2 + (1 : Int32)) u5.2) else none) else none
def fX2_readStatement (S : zLt) : Option (Int32 × zLt) :=
  (fX6_toldAt_L S (lt_at S)).bind fun u7 =>
  if (fX2_formOf u7) < 5 then if (zIsE (fX2_formOf u7)) = (0 : Int32) then
  (fX2_readStatement_l46 (fX2_formOf u7) FU (0 : Int32) (lt_set_figureCount (lt_set_verb (lt_set_at S ((lt_at S) + (1 : Int32))) u7) (0 : Int32)))
  else
  (some ((0 : Int32), (lt_set_figureCount (lt_set_verb S u7) (0 : Int32)))) else none
def fX2_comesTo (S : zLt) (T : zSt) : Option (Int32 × zSt) :=
  if (lt_verb S) = (97 : Int32) then
  (ix 4 (0 : Int32) (ix 4 (1 : Int32) (ix 4 (2 : Int32) (ix 4 (3 : Int32) ((fX5_build T ((lt_figures S) (0 : Int32).toNatClampNeg) ((lt_figures S) (1 : Int32).toNatClampNeg) ((lt_figures S) (2 : Int32).toNatClampNeg) ((lt_figures S) (3 : Int32).toNatClampNeg)).bind fun u6 =>
  if u6.1 &&& 1 = u6.1 then some (u6.1, u6.2) else none)))))
  else
  (if (lt_verb S) = (98 : Int32) then
  (ix 4 (0 : Int32) ((fX5_fire T ((lt_figures S) (0 : Int32).toNatClampNeg)).bind fun u9 =>
  if u9.1 ≤ (0 : Int32) then
  (some ((0 : Int32), u9.2))
  else
  (some ((1 : Int32), u9.2))))
  else
  (if (lt_verb S) = (108 : Int32) then
  (ix 4 (0 : Int32) (ix 4 (1 : Int32) (if (fX5_changeLaws T ((lt_figures S) (0 : Int32).toNatClampNeg) ((lt_figures S) (1 : Int32).toNatClampNeg)).1 &&& 1 = (fX5_changeLaws T ((lt_figures S) (0 : Int32).toNatClampNeg) ((lt_figures S) (1 : Int32).toNatClampNeg)).1 then some ((fX5_changeLaws T ((lt_figures S) (0 : Int32).toNatClampNeg) ((lt_figures S) (1 : Int32).toNatClampNeg)).1, (fX5_changeLaws T ((lt_figures S) (0 : Int32).toNatClampNeg) ((lt_figures S) (1 : Int32).toNatClampNeg)).2) else none)))
  else
  ((fX5_beginAnew T).bind fun u15 =>
  some ((1 : Int32), u15))))
def fX2_faultOfForm_j33 (v1 : Int32) (S : zLt) (k12 : (Int32) → (zLt) → Option (Int32 × zLt)) : Option (Int32 × zLt) :=
  (fX2_readStatement S).bind fun u1 =>
  if u1.1 = (0 : Int32) then
  (some (((-1000 : Int32) - (lt_at u1.2)), u1.2))
  else
  (k12 (v1 + (1 : Int32)) (lt_set_statements u1.2 ((lt_statements u1.2) + (1 : Int32))))
def fX2_faultOfForm_l12  : Nat → (Int32) → (zLt) → Option (Int32 × zLt)
  | 0, _, _ => none
  | n + 1, v1, S =>
  if (64 : Int32) ≤ v1 then
  (some ((0 : Int32), S))
  else
  (if v1 = (0 : Int32) then
  (fX2_faultOfForm_j33 v1 S (fX2_faultOfForm_l12  n))
  else
  (if (fX6_howMany_L S) ≤ (lt_at S) then
  (some ((0 : Int32), S))
  else
  (fX2_faultOfForm_j33 v1 S (fX2_faultOfForm_l12  n))))
def fX2_faultOfForm (S : zLt) : Option (Int32 × zLt) :=
  fX2_faultOfForm_l12 FU (0 : Int32) (lt_set_statements (lt_set_at S (0 : Int32)) (0 : Int32))
def fX2_faultOfSense_l7  : Nat → (Int32) → (zLt) → (zSt) → Option (Int32 × zLt × zSt)
  | 0, _, _, _ => none
  | n + 1, v2, S, T =>
  if (lt_statements S) ≤ v2 then
  (some ((0 : Int32), S, T))
  else
  ((fX2_readStatement S).bind fun u2 =>
  if u2.1 = (0 : Int32) then
  (some (((-2000 : Int32) - (lt_at S)), u2.2, T))
  else
  ((fX2_comesTo u2.2 T).bind fun u4 =>
  if u4.1 = (0 : Int32) then
  (some (((-2000 : Int32) - (lt_at S)), u2.2, u4.2))
  else
  (fX2_faultOfSense_l7  n (v2 + (1 : Int32)) u2.2 u4.2)))
def fX2_faultOfSense (S : zLt) (T : zSt) : Option (Int32 × zLt × zSt) :=
  fX2_faultOfSense_l7 FU (0 : Int32) (lt_set_at S (0 : Int32)) T
def fX8_isIn (p0 : Int32) (p1 : Int32) (p2 : Int32) : Int32 :=
  if p0 < p1 then
  ((0 : Int32))
  else
  (if p2 < p0 then
  ((0 : Int32))
  else
  ((1 : Int32)))
def fX8_bound (p0 : Int32) (p1 : Int32) (p2 : Int32) : Int32 :=
  if p1 ≤ p0 then
  (if p0 ≤ p2 then
  ((0 : Int32))
  else
  ((-6 : Int32)))
  else
  ((-4 : Int32))
def fX8_has (p0 : Int32) (p1 : Int32) : Int32 :=
  if ((p0 >>> (p1 &&& 31)) &&& (1 : Int32)) = (1 : Int32) then
  ((1 : Int32))
  else
  ((0 : Int32))
def fX8_bits_l4 (v0 : Int32) : Nat → (Int32) → (Int32) → Option (Int32)
  | 0, _, _ => none
  | n + 1, v1, v2 =>
  if (31 : Int32) ≤ v2 then
  (some v1)
  else
  (fX8_bits_l4 v0 n (v1 + ((v0 >>> (v2 &&& 31)) &&& (1 : Int32))) (v2 + (1 : Int32)))
def fX8_bits (p0 : Int32) : Option (Int32) :=
  fX8_bits_l4 p0 FU (0 : Int32) (0 : Int32)
def fX8_halves_l4  : Nat → (Int32) → (Int32) → Option (Int32)
  | 0, _, _ => none
  | n + 1, v1, v2 =>
  if v2 ≤ (1 : Int32) then
  (some (v1 + (1 : Int32)))
  else
  (fX8_halves_l4  n (v1 + ((1 : Int32) + (v2 - v2 / (2 : Int32) * (2 : Int32)))) (v2 / (2 : Int32)))
def fX8_halves (p0 : Int32) : Option (Int32) :=
  fX8_halves_l4 FU (0 : Int32) p0
def fX8_leastFactor_l2 (v0 : Int32) : Nat → (Int32) → Option (Int32)
  | 0, _ => none
  | n + 1, v1 =>
  if v1 = 0 then none else if (v0 - v0 / v1 * v1) = (0 : Int32) then
  (some v1)
  else
  (fX8_leastFactor_l2 v0 n (v1 + (1 : Int32)))
def fX8_leastFactor (p0 : Int32) : Option (Int32) :=
  fX8_leastFactor_l2 p0 FU (2 : Int32)
def fX8_no (S : zMd) (p1 : Int32) : Option (Int32 × zMd) :=
  ix 7 (-p1) (some (p1, (md_set_refused S (upd (md_refused S) (-p1).toNatClampNeg (((md_refused S) (-p1).toNatClampNeg) + (1 : Int32))))))
def fX8_isMore (S : zMd) (p1 : Int32) (p2 : Int32) (p3 : Int32) (p4 : Int32) (p5 : Int32) : Option (zMd) :=
  ix 12 (md_houses S) (some (md_set_houses (md_set_earned (md_set_uses (md_set_stands (md_set_other (md_set_one (md_set_figure (md_set_kind (md_set_number S (upd (md_number S) (md_houses S).toNatClampNeg p1)) (upd (md_kind S) (md_houses S).toNatClampNeg p2)) (upd (md_figure S) (md_houses S).toNatClampNeg p3)) (upd (md_one S) (md_houses S).toNatClampNeg p4)) (upd (md_other S) (md_houses S).toNatClampNeg p5)) (upd (md_stands S) (md_houses S).toNatClampNeg (1 : Int32))) (upd (md_uses S) (md_houses S).toNatClampNeg (0 : Int32))) (upd (md_earned S) (md_houses S).toNatClampNeg (0 : Int32))) ((md_houses S) + (1 : Int32))))
def fX8_beginsAnew (S : zMd) : Option (zMd) :=
  (fX8_isMore (md_set_houses S (0 : Int32)) (1 : Int32) (0 : Int32) (0 : Int32) (-4 : Int32) (-4 : Int32)).bind fun u1 =>
  some u1
def fX8_isHouse (S : zMd) (p1 : Int32) : Option (Int32) :=
  if (fX8_isIn p1 (0 : Int32) ((md_houses S) - (1 : Int32))) &&& 1 = (fX8_isIn p1 (0 : Int32) ((md_houses S) - (1 : Int32))) then some (fX8_isIn p1 (0 : Int32) ((md_houses S) - (1 : Int32))) else none
def fX8_doesStand (S : zMd) (p1 : Int32) : Option (Int32) :=
  (fX8_isHouse S p1).bind fun u1 =>
  if u1 = (0 : Int32) then
  (some (0 : Int32))
  else
  (ix 12 p1 (if ((md_stands S) p1.toNatClampNeg) = (1 : Int32) then
  (some (1 : Int32))
  else
  (some (0 : Int32))))
def fX8_standing_l4 (S : zMd) : Nat → (Int32) → (Int32) → Option (Int32)
  | 0, _, _ => none
  | n + 1, v1, v2 =>
  if (md_houses S) ≤ v2 then
  (some v1)
  else
  (ix 12 v2 (fX8_standing_l4 S n (v1 ||| (((md_stands S) v2.toNatClampNeg) <<< (v2 &&& 31))) (v2 + (1 : Int32))))
def fX8_standing (S : zMd) : Option (Int32) :=
  fX8_standing_l4 S FU (0 : Int32) (0 : Int32)
def fX8_lends (S : zMd) (p1 : Int32) (p2 : Int32) : Option (Int32) :=
  ix 12 p1 (if ((md_kind S) p1.toNatClampNeg) = (1 : Int32) then
  (if ((md_uses S) p1.toNatClampNeg) = (0 : Int32) then
  (some (1 : Int32))
  else
  (some (0 : Int32)))
  else
  (if ((md_kind S) p1.toNatClampNeg) = (2 : Int32) then
  (some (1 : Int32))
  else
  (if ((md_kind S) p1.toNatClampNeg) = (3 : Int32) then
  (if (p2 - p2 / (2 : Int32) * (2 : Int32)) = (0 : Int32) then
  (some (1 : Int32))
  else
  (some (0 : Int32)))
  else
  (if ((md_kind S) p1.toNatClampNeg) = (4 : Int32) then
  (some (0 : Int32))
  else
  (some (1 : Int32))))))
def fX8_fee (S : zMd) (p1 : Int32) : Option (Int32) :=
  ix 12 p1 (if ((md_kind S) p1.toNatClampNeg) = (2 : Int32) then
  (some ((md_figure S) p1.toNatClampNeg))
  else
  (if ((md_kind S) p1.toNatClampNeg) = (3 : Int32) then
  (some (((2 : Int32) * ((md_figure S) p1.toNatClampNeg)) + (1 : Int32)))
  else
  (some (0 : Int32))))
def fX8_isThere_l2 (S : zMd) (v1 : Int32) : Nat → (Int32) → Option (Int32)
  | 0, _ => none
  | n + 1, v2 =>
  if (md_houses S) ≤ v2 then
  (some (0 : Int32))
  else
  (ix 12 v2 (if ((md_stands S) v2.toNatClampNeg) = (1 : Int32) then
  (if ((md_number S) v2.toNatClampNeg) = v1 then
  (some (1 : Int32))
  else
  (fX8_isThere_l2 S v1 n (v2 + (1 : Int32))))
  else
  (fX8_isThere_l2 S v1 n (v2 + (1 : Int32)))))
def fX8_isThere (S : zMd) (p1 : Int32) : Option (Int32) :=
  fX8_isThere_l2 S p1 FU (0 : Int32)
def fX8_latest_l5 (S : zMd) : Nat → (Int32) → (Int32) → Option (Int32)
  | 0, _, _ => none
  | n + 1, v1, v2 =>
  if (md_houses S) ≤ v2 then
  (some v1)
  else
  (ix 12 v2 (if ((md_stands S) v2.toNatClampNeg) = (1 : Int32) then
  (fX8_latest_l5 S n v2 (v2 + (1 : Int32)))
  else
  (fX8_latest_l5 S n v1 (v2 + (1 : Int32)))))
def fX8_latest (S : zMd) : Option (Int32) :=
  fX8_latest_l5 S FU (-9 : Int32) (0 : Int32)
def fX8_isLawful (S : zMd) (p1 : Int32) (p2 : Int32) : Option (Int32) :=
  if (md_sums S) = (2 : Int32) then
  (if p1 = p2 then
  (some (1 : Int32))
  else
  (some (0 : Int32)))
  else
  (if (md_sums S) = (1 : Int32) then
  ((fX8_latest S).bind fun u3 =>
  if p1 = u3 then
  (some (1 : Int32))
  else
  ((fX8_latest S).bind fun u5 =>
  if p2 = u5 then
  (some (1 : Int32))
  else
  (some (0 : Int32))))
  else
  (some (1 : Int32)))
def fX8_mayBe (S : zMd) (p1 : Int32) (p2 : Int32) : Option (Int32) :=
  ix 12 p1 (ix 12 p2 ((fX8_lends S p1 (((md_number S) p1.toNatClampNeg) + ((md_number S) p2.toNatClampNeg))).bind fun u3 =>
  if u3 = (0 : Int32) then
  (some (0 : Int32))
  else
  ((fX8_lends S p2 (((md_number S) p1.toNatClampNeg) + ((md_number S) p2.toNatClampNeg))).bind fun u5 =>
  if u5 = (0 : Int32) then
  (some (0 : Int32))
  else
  (if (9999 : Int32) < (((md_number S) p1.toNatClampNeg) + ((md_number S) p2.toNatClampNeg)) then
  (some (0 : Int32))
  else
  ((fX8_isThere S (((md_number S) p1.toNatClampNeg) + ((md_number S) p2.toNatClampNeg))).bind fun u8 =>
  if u8 = (0 : Int32) then
  ((fX8_isLawful S p1 p2).bind fun u10 =>
  if u10 = (0 : Int32) then
  (some (0 : Int32))
  else
  (some (1 : Int32)))
  else
  (some (0 : Int32)))))))
def fX8_isUsed (S : zMd) (p1 : Int32) : Option (zMd) :=
  ix 12 p1 ((fX8_fee (md_set_uses S (upd (md_uses S) p1.toNatClampNeg (((md_uses S) p1.toNatClampNeg) + (1 : Int32)))) p1).bind fun u2 =>
  if ((md_kind S) p1.toNatClampNeg) = (1 : Int32) then
  (some (md_set_stands (md_set_earned (md_set_uses S (upd (md_uses S) p1.toNatClampNeg (((md_uses S) p1.toNatClampNeg) + (1 : Int32)))) (upd (md_earned S) p1.toNatClampNeg (((md_earned S) p1.toNatClampNeg) + u2))) (upd (md_stands S) p1.toNatClampNeg (0 : Int32))))
  else
  (some (md_set_earned (md_set_uses S (upd (md_uses S) p1.toNatClampNeg (((md_uses S) p1.toNatClampNeg) + (1 : Int32)))) (upd (md_earned S) p1.toNatClampNeg (((md_earned S) p1.toNatClampNeg) + u2)))))
def fX8_builds (S : zMd) (p1 : Int32) (p2 : Int32) (p3 : Int32) (p4 : Int32) : Option (zMd) :=
  ix 12 p1 (ix 12 p2 ((fX8_isUsed S p1).bind fun u3 =>
  (fX8_isUsed u3 p2).bind fun u4 =>
  (fX8_isMore u4 (((md_number S) p1.toNatClampNeg) + ((md_number S) p2.toNatClampNeg)) p3 p4 p1 p2).bind fun u5 =>
  some u5))
def fX8_hasFallen (S : zMd) (p1 : Int32) : Option (Int32) :=
  if p1 < (0 : Int32) then
  (some (0 : Int32))
  else
  (ix 12 p1 (if ((md_stands S) p1.toNatClampNeg) = (0 : Int32) then
  (some (1 : Int32))
  else
  (some (0 : Int32))))
def fX8_fallsWith_j28 (S : zMd) (v1 : Int32) : Option (Int32) :=
  ix 12 v1 ((fX8_hasFallen S ((md_one S) v1.toNatClampNeg)).bind fun u2 =>
  if u2 = (0 : Int32) then
  ((fX8_hasFallen S ((md_other S) v1.toNatClampNeg)).bind fun u4 =>
  if u4 = (0 : Int32) then
  (some (0 : Int32))
  else
  (some (1 : Int32)))
  else
  (some (1 : Int32)))
def fX8_fallsWith (S : zMd) (p1 : Int32) : Option (Int32) :=
  ix 12 p1 (if ((md_stands S) p1.toNatClampNeg) = (1 : Int32) then
  (if (md_falls S) = (1 : Int32) then
  (fX8_fallsWith_j28 S p1)
  else
  (if ((md_kind S) p1.toNatClampNeg) = (5 : Int32) then
  (fX8_fallsWith_j28 S p1)
  else
  (some (0 : Int32))))
  else
  (some (0 : Int32)))
def fX8_burns_l17 (k9 : (Int32) → (zMd) → Option (zMd)) : Nat → (Int32) → (Int32) → (zMd) → Option (zMd)
  | 0, _, _, _ => none
  | n + 1, v2, v3, S =>
  if (md_houses S) ≤ v3 then
  (k9 v2 S)
  else
  ((fX8_fallsWith S v3).bind fun u2 =>
  if u2 = (0 : Int32) then
  (fX8_burns_l17 k9 n v2 (v3 + (1 : Int32)) S)
  else
  (ix 12 v3 (fX8_burns_l17 k9 n (1 : Int32) (v3 + (1 : Int32)) (md_set_stands S (upd (md_stands S) v3.toNatClampNeg (0 : Int32))))))
def fX8_burns_l9  : Nat → (Int32) → (zMd) → Option (zMd)
  | 0, _, _ => none
  | n + 1, v2, S =>
  if v2 = (0 : Int32) then
  (some S)
  else
  (fX8_burns_l17 (fX8_burns_l9  n) FU (0 : Int32) (0 : Int32) S)
def fX8_burns (S : zMd) (p1 : Int32) : Option (zMd) :=
  ix 12 p1 (fX8_burns_l9 FU (1 : Int32) (md_set_stands S (upd (md_stands S) p1.toNatClampNeg (0 : Int32))))
def fX8_feed_j25 (v1 : Int32) (v2 : Int32) (S : zMd) : Option (Int32 × zMd) :=
  if v2 = (0 : Int32) then
  (ix 64 (md_taped S) (some (((md_taped S) + (1 : Int32)), (md_set_taped (md_set_tape S (upd (md_tape S) (md_taped S).toNatClampNeg v1)) ((md_taped S) + (1 : Int32))))))
  else
  ((fX8_no S v2).bind fun u3 =>
  some (u3.1, u3.2))
def fX8_feed (S : zMd) (p1 : Int32) : Option (Int32 × zMd) :=
  if (fX8_bound p1 (0 : Int32) (255 : Int32)) = (0 : Int32) then
  (if (md_taped S) = (64 : Int32) then
  (fX8_feed_j25 p1 (-6 : Int32) S)
  else
  (fX8_feed_j25 p1 (fX8_bound p1 (0 : Int32) (255 : Int32)) S))
  else
  (fX8_feed_j25 p1 (fX8_bound p1 (0 : Int32) (255 : Int32)) S)
def fX8_sign (S : zMd) : Option (Int32) :=
  if (md_taped S) ≤ (md_reading S) then
  (some (-1 : Int32))
  else
  (ix 64 (md_reading S) (some ((md_tape S) (md_reading S).toNatClampNeg)))
def fX8_reads (S : zMd) (p1 : Int32) : Option (Int32 × zMd) :=
  (fX8_sign S).bind fun u1 =>
  if u1 = p1 then
  (some ((1 : Int32), (md_set_reading S ((md_reading S) + (1 : Int32)))))
  else
  (some ((0 : Int32), S))
def fX8_readsNumber_j52 (v2 : Int32) (v3 : Int32) (S : zMd) : Option (Int32 × zMd) :=
  ix 132 (md_telling S) (if v3 ≤ (0 : Int32) then
  (some ((0 : Int32), (md_set_telling (md_set_told S (upd (md_told S) (md_telling S).toNatClampNeg v2)) ((md_telling S) + (1 : Int32)))))
  else
  (some ((1 : Int32), (md_set_telling (md_set_told S (upd (md_told S) (md_telling S).toNatClampNeg v2)) ((md_telling S) + (1 : Int32))))))
def fX8_readsNumber_l4 (v1 : Int32) : Nat → (Int32) → (Int32) → (zMd) → Option (Int32 × zMd)
  | 0, _, _, _ => none
  | n + 1, v2, v3, S =>
  if v1 ≤ v3 then
  (fX8_readsNumber_j52 v2 v3 S)
  else
  ((fX8_sign S).bind fun u4 =>
  if (fX8_isIn u4 (48 : Int32) (57 : Int32)) = (0 : Int32) then
  (fX8_readsNumber_j52 v2 v3 S)
  else
  ((fX8_sign S).bind fun u7 =>
  fX8_readsNumber_l4 v1 n ((((10 : Int32) * v2) + u7) - (48 : Int32)) (v3 + (1 : Int32)) (md_set_reading S ((md_reading S) + (1 : Int32)))))
def fX8_readsNumber (S : zMd) (p1 : Int32) : Option (Int32 × zMd) :=
  fX8_readsNumber_l4 p1 FU (0 : Int32) (0 : Int32) S
def fX8_readsAll (S : zMd) (p1 : Int32) : Option (Int32 × zMd) :=
  if p1 = (97 : Int32) then
  ((fX8_readsNumber S (2 : Int32)).bind fun u2 =>
  if u2.1 = (0 : Int32) then
  (some ((0 : Int32), u2.2))
  else
  ((fX8_reads u2.2 (44 : Int32)).bind fun u4 =>
  if u4.1 = (0 : Int32) then
  (some ((0 : Int32), u4.2))
  else
  ((fX8_readsNumber u4.2 (2 : Int32)).bind fun u6 =>
  if u6.1 = (0 : Int32) then
  (some ((0 : Int32), u6.2))
  else
  ((fX8_reads u6.2 (44 : Int32)).bind fun u8 =>
  if u8.1 = (0 : Int32) then
  (some ((0 : Int32), u8.2))
  else
  ((fX8_readsNumber u8.2 (1 : Int32)).bind fun u10 =>
  if u10.1 = (0 : Int32) then
  (some ((0 : Int32), u10.2))
  else
  ((fX8_readsNumber u10.2 (1 : Int32)).bind fun u12 =>
  if u12.1 = (0 : Int32) then
  (some ((0 : Int32), u12.2))
  else
  (some ((1 : Int32), u12.2))))))))
  else
  (if p1 = (98 : Int32) then
  ((fX8_readsNumber S (2 : Int32)).bind fun u14 =>
  if u14.1 &&& 1 = u14.1 then some (u14.1, u14.2) else none)
  else
  (if p1 = (108 : Int32) then
  ((fX8_readsNumber S (1 : Int32)).bind fun u16 =>
  if u16.1 = (0 : Int32) then
  (some ((0 : Int32), u16.2))
  else
  ((fX8_readsNumber u16.2 (1 : Int32)).bind fun u18 =>
  if u18.1 = (0 : Int32) then
  (some ((0 : Int32), u18.2))
  else
  (some ((1 : Int32), u18.2))))
  else
  (some ((1 : Int32), S))))
def fX8_statement_j31 (v1 : Int32) (S : zMd) : Option (Int32 × zMd) :=
  ix 33 (md_statements S) ((fX8_readsAll (md_set_reading (md_set_telling (md_set_sortAt (md_set_sort S (upd (md_sort S) (md_statements S).toNatClampNeg v1)) (upd (md_sortAt S) (md_statements S).toNatClampNeg (md_reading S))) ((4 : Int32) * (md_statements S))) ((md_reading S) + (1 : Int32))) v1).bind fun u2 =>
  if u2.1 = (0 : Int32) then
  (some ((0 : Int32), u2.2))
  else
  ((fX8_reads u2.2 (59 : Int32)).bind fun u4 =>
  if u4.1 = (0 : Int32) then
  (some ((0 : Int32), u4.2))
  else
  (some ((1 : Int32), u4.2))))
def fX8_statement (S : zMd) : Option (Int32 × zMd) :=
  (fX8_sign S).bind fun u6 =>
  if u6 = (97 : Int32) then
  (fX8_statement_j31 u6 S)
  else
  (if u6 = (98 : Int32) then
  (fX8_statement_j31 u6 S)
  else
  (if u6 = (108 : Int32) then
  (fX8_statement_j31 u6 S)
  else
  (if u6 = (110 : Int32) then
  (fX8_statement_j31 u6 S)
  else
  (some ((0 : Int32), S)))))
def fX8_comesNew (S : zMd) (p1 : Int32) : Option (Int32 × zMd) :=
  ix 132 p1 (ix 132 (p1 + (1 : Int32)) ((fX8_doesStand S ((md_told S) p1.toNatClampNeg)).bind fun u3 =>
  if u3 = (0 : Int32) then
  (some ((0 : Int32), S))
  else
  ((fX8_doesStand S ((md_told S) (p1 + (1 : Int32)).toNatClampNeg)).bind fun u5 =>
  if u5 = (0 : Int32) then
  (some ((0 : Int32), S))
  else
  (ix 132 (p1 + (2 : Int32)) (if (6 : Int32) ≤ ((md_told S) (p1 + (2 : Int32)).toNatClampNeg) then
  (some ((0 : Int32), S))
  else
  ((fX8_mayBe S ((md_told S) p1.toNatClampNeg) ((md_told S) (p1 + (1 : Int32)).toNatClampNeg)).bind fun u9 =>
  if u9 = (0 : Int32) then
  (some ((0 : Int32), S))
  else
  (if (md_houses S) = (12 : Int32) then
  (some ((0 : Int32), S))
  else
  (ix 132 (p1 + (3 : Int32)) ((fX8_builds S ((md_told S) p1.toNatClampNeg) ((md_told S) (p1 + (1 : Int32)).toNatClampNeg) ((md_told S) (p1 + (2 : Int32)).toNatClampNeg) ((md_told S) (p1 + (3 : Int32)).toNatClampNeg)).bind fun u13 =>
  some ((1 : Int32), u13))))))))))
def fX8_comesFire (S : zMd) (p1 : Int32) : Option (Int32 × zMd) :=
  (fX8_doesStand S p1).bind fun u1 =>
  if u1 = (0 : Int32) then
  (some ((0 : Int32), S))
  else
  ((fX8_burns S p1).bind fun u3 =>
  some ((1 : Int32), u3))
def fX8_comesLaw (S : zMd) (p1 : Int32) (p2 : Int32) : Int32 × zMd :=
  if (2 : Int32) < p1 then
  (((0 : Int32), S))
  else
  (if p2 ≤ (1 : Int32) then
  (((1 : Int32), (md_set_falls (md_set_sums S p1) p2)))
  else
  (((0 : Int32), S)))
def fX8_comesTold (S : zMd) (p1 : Int32) : Option (Int32 × zMd) :=
  ix 33 p1 (if ((md_sort S) p1.toNatClampNeg) = (97 : Int32) then
  ((fX8_comesNew S ((4 : Int32) * p1)).bind fun u3 =>
  if u3.1 &&& 1 = u3.1 then some (u3.1, u3.2) else none)
  else
  (if ((md_sort S) p1.toNatClampNeg) = (98 : Int32) then
  (ix 132 ((4 : Int32) * p1) ((fX8_comesFire S ((md_told S) ((4 : Int32) * p1).toNatClampNeg)).bind fun u6 =>
  if u6.1 &&& 1 = u6.1 then some (u6.1, u6.2) else none))
  else
  (if ((md_sort S) p1.toNatClampNeg) = (108 : Int32) then
  (ix 132 ((4 : Int32) * p1) (ix 132 (((4 : Int32) * p1) + (1 : Int32)) (if (fX8_comesLaw S ((md_told S) ((4 : Int32) * p1).toNatClampNeg) ((md_told S) (((4 : Int32) * p1) + (1 : Int32)).toNatClampNeg)).1 &&& 1 = (fX8_comesLaw S ((md_told S) ((4 : Int32) * p1).toNatClampNeg) ((md_told S) (((4 : Int32) * p1) + (1 : Int32)).toNatClampNeg)).1 then some ((fX8_comesLaw S ((md_told S) ((4 : Int32) * p1).toNatClampNeg) ((md_told S) (((4 : Int32) * p1) + (1 : Int32)).toNatClampNeg)).1, (fX8_comesLaw S ((md_told S) ((4 : Int32) * p1).toNatClampNeg) ((md_told S) (((4 : Int32) * p1) + (1 : Int32)).toNatClampNeg)).2) else none)))
  else
  ((fX8_beginsAnew S).bind fun u12 =>
  some ((1 : Int32), u12)))))
def fX8_passOne_j38 (v2 : Int32) (S : zMd) : Option (Int32 × zMd) :=
  some (v2, (md_set_cursor S ((md_cursor S) + (1 : Int32))))
def fX8_passOne_j20 (v1 : Int32) (t0 : Int32) (S : zMd) : Option (Int32 × zMd) :=
  if (md_isKeeping S) = (0 : Int32) then
  (fX8_passOne_j38 t0 S)
  else
  (ix 400 (md_cursor S) (fX8_passOne_j38 t0 (md_set_kept S (upd (md_kept S) (md_cursor S).toNatClampNeg v1))))
def fX8_passOne (S : zMd) (p1 : Int32) : Option (Int32 × zMd) :=
  if (md_isKeeping S) = (0 : Int32) then
  (ix 400 (md_cursor S) (fX8_passOne_j20 p1 ((md_kept S) (md_cursor S).toNatClampNeg) S))
  else
  (fX8_passOne_j20 p1 p1 S)
def fX8_passes_number_j42 (v2 : Int32) (S : zMd) (k2 : (Int32) → (zMd) → Option (zMd)) : Option (zMd) :=
  k2 (v2 + (1 : Int32)) (md_set_cursor S ((md_cursor S) + (1 : Int32)))
def fX8_passes_number_l2  : Nat → (Int32) → (zMd) → Option (zMd)
  | 0, _, _ => none
  | n + 1, v2, S =>
  if (12 : Int32) ≤ v2 then
  (some S)
  else
  (if (md_isKeeping S) = (0 : Int32) then
  (ix 400 (md_cursor S) (ix 12 v2 (fX8_passes_number_j42 v2 (md_set_number S (upd (md_number S) v2.toNatClampNeg ((md_kept S) (md_cursor S).toNatClampNeg))) (fX8_passes_number_l2  n))))
  else
  (ix 12 v2 (ix 400 (md_cursor S) (fX8_passes_number_j42 v2 (md_set_kept S (upd (md_kept S) (md_cursor S).toNatClampNeg ((md_number S) v2.toNatClampNeg))) (fX8_passes_number_l2  n)))))
def fX8_passes_number (S : zMd) : Option (zMd) :=
  fX8_passes_number_l2 FU (0 : Int32) S
def fX8_passes_kind_j42 (v2 : Int32) (S : zMd) (k2 : (Int32) → (zMd) → Option (zMd)) : Option (zMd) :=
  k2 (v2 + (1 : Int32)) (md_set_cursor S ((md_cursor S) + (1 : Int32)))
def fX8_passes_kind_l2  : Nat → (Int32) → (zMd) → Option (zMd)
  | 0, _, _ => none
  | n + 1, v2, S =>
  if (12 : Int32) ≤ v2 then
  (some S)
  else
  (if (md_isKeeping S) = (0 : Int32) then
  (ix 400 (md_cursor S) (ix 12 v2 (fX8_passes_kind_j42 v2 (md_set_kind S (upd (md_kind S) v2.toNatClampNeg ((md_kept S) (md_cursor S).toNatClampNeg))) (fX8_passes_kind_l2  n))))
  else
  (ix 12 v2 (ix 400 (md_cursor S) (fX8_passes_kind_j42 v2 (md_set_kept S (upd (md_kept S) (md_cursor S).toNatClampNeg ((md_kind S) v2.toNatClampNeg))) (fX8_passes_kind_l2  n)))))
def fX8_passes_kind (S : zMd) : Option (zMd) :=
  fX8_passes_kind_l2 FU (0 : Int32) S
def fX8_passes_figure_j42 (v2 : Int32) (S : zMd) (k2 : (Int32) → (zMd) → Option (zMd)) : Option (zMd) :=
  k2 (v2 + (1 : Int32)) (md_set_cursor S ((md_cursor S) + (1 : Int32)))
def fX8_passes_figure_l2  : Nat → (Int32) → (zMd) → Option (zMd)
  | 0, _, _ => none
  | n + 1, v2, S =>
  if (12 : Int32) ≤ v2 then
  (some S)
  else
  (if (md_isKeeping S) = (0 : Int32) then
  (ix 400 (md_cursor S) (ix 12 v2 (fX8_passes_figure_j42 v2 (md_set_figure S (upd (md_figure S) v2.toNatClampNeg ((md_kept S) (md_cursor S).toNatClampNeg))) (fX8_passes_figure_l2  n))))
  else
  (ix 12 v2 (ix 400 (md_cursor S) (fX8_passes_figure_j42 v2 (md_set_kept S (upd (md_kept S) (md_cursor S).toNatClampNeg ((md_figure S) v2.toNatClampNeg))) (fX8_passes_figure_l2  n)))))
def fX8_passes_figure (S : zMd) : Option (zMd) :=
  fX8_passes_figure_l2 FU (0 : Int32) S
def fX8_passes_one_j42 (v2 : Int32) (S : zMd) (k2 : (Int32) → (zMd) → Option (zMd)) : Option (zMd) :=
  k2 (v2 + (1 : Int32)) (md_set_cursor S ((md_cursor S) + (1 : Int32)))
def fX8_passes_one_l2  : Nat → (Int32) → (zMd) → Option (zMd)
  | 0, _, _ => none
  | n + 1, v2, S =>
  if (12 : Int32) ≤ v2 then
  (some S)
  else
  (if (md_isKeeping S) = (0 : Int32) then
  (ix 400 (md_cursor S) (ix 12 v2 (fX8_passes_one_j42 v2 (md_set_one S (upd (md_one S) v2.toNatClampNeg ((md_kept S) (md_cursor S).toNatClampNeg))) (fX8_passes_one_l2  n))))
  else
  (ix 12 v2 (ix 400 (md_cursor S) (fX8_passes_one_j42 v2 (md_set_kept S (upd (md_kept S) (md_cursor S).toNatClampNeg ((md_one S) v2.toNatClampNeg))) (fX8_passes_one_l2  n)))))
def fX8_passes_one (S : zMd) : Option (zMd) :=
  fX8_passes_one_l2 FU (0 : Int32) S
def fX8_passes_other_j42 (v2 : Int32) (S : zMd) (k2 : (Int32) → (zMd) → Option (zMd)) : Option (zMd) :=
  k2 (v2 + (1 : Int32)) (md_set_cursor S ((md_cursor S) + (1 : Int32)))
def fX8_passes_other_l2  : Nat → (Int32) → (zMd) → Option (zMd)
  | 0, _, _ => none
  | n + 1, v2, S =>
  if (12 : Int32) ≤ v2 then
  (some S)
  else
  (if (md_isKeeping S) = (0 : Int32) then
  (ix 400 (md_cursor S) (ix 12 v2 (fX8_passes_other_j42 v2 (md_set_other S (upd (md_other S) v2.toNatClampNeg ((md_kept S) (md_cursor S).toNatClampNeg))) (fX8_passes_other_l2  n))))
  else
  (ix 12 v2 (ix 400 (md_cursor S) (fX8_passes_other_j42 v2 (md_set_kept S (upd (md_kept S) (md_cursor S).toNatClampNeg ((md_other S) v2.toNatClampNeg))) (fX8_passes_other_l2  n)))))
def fX8_passes_other (S : zMd) : Option (zMd) :=
  fX8_passes_other_l2 FU (0 : Int32) S
def fX8_passes_stands_j42 (v2 : Int32) (S : zMd) (k2 : (Int32) → (zMd) → Option (zMd)) : Option (zMd) :=
  k2 (v2 + (1 : Int32)) (md_set_cursor S ((md_cursor S) + (1 : Int32)))
def fX8_passes_stands_l2  : Nat → (Int32) → (zMd) → Option (zMd)
  | 0, _, _ => none
  | n + 1, v2, S =>
  if (12 : Int32) ≤ v2 then
  (some S)
  else
  (if (md_isKeeping S) = (0 : Int32) then
  (ix 400 (md_cursor S) (ix 12 v2 (fX8_passes_stands_j42 v2 (md_set_stands S (upd (md_stands S) v2.toNatClampNeg ((md_kept S) (md_cursor S).toNatClampNeg))) (fX8_passes_stands_l2  n))))
  else
  (ix 12 v2 (ix 400 (md_cursor S) (fX8_passes_stands_j42 v2 (md_set_kept S (upd (md_kept S) (md_cursor S).toNatClampNeg ((md_stands S) v2.toNatClampNeg))) (fX8_passes_stands_l2  n)))))
def fX8_passes_stands (S : zMd) : Option (zMd) :=
  fX8_passes_stands_l2 FU (0 : Int32) S
def fX8_passes_uses_j42 (v2 : Int32) (S : zMd) (k2 : (Int32) → (zMd) → Option (zMd)) : Option (zMd) :=
  k2 (v2 + (1 : Int32)) (md_set_cursor S ((md_cursor S) + (1 : Int32)))
def fX8_passes_uses_l2  : Nat → (Int32) → (zMd) → Option (zMd)
  | 0, _, _ => none
  | n + 1, v2, S =>
  if (12 : Int32) ≤ v2 then
  (some S)
  else
  (if (md_isKeeping S) = (0 : Int32) then
  (ix 400 (md_cursor S) (ix 12 v2 (fX8_passes_uses_j42 v2 (md_set_uses S (upd (md_uses S) v2.toNatClampNeg ((md_kept S) (md_cursor S).toNatClampNeg))) (fX8_passes_uses_l2  n))))
  else
  (ix 12 v2 (ix 400 (md_cursor S) (fX8_passes_uses_j42 v2 (md_set_kept S (upd (md_kept S) (md_cursor S).toNatClampNeg ((md_uses S) v2.toNatClampNeg))) (fX8_passes_uses_l2  n)))))
def fX8_passes_uses (S : zMd) : Option (zMd) :=
  fX8_passes_uses_l2 FU (0 : Int32) S
def fX8_passes_earned_j42 (v2 : Int32) (S : zMd) (k2 : (Int32) → (zMd) → Option (zMd)) : Option (zMd) :=
  k2 (v2 + (1 : Int32)) (md_set_cursor S ((md_cursor S) + (1 : Int32)))
def fX8_passes_earned_l2  : Nat → (Int32) → (zMd) → Option (zMd)
  | 0, _, _ => none
  | n + 1, v2, S =>
  if (12 : Int32) ≤ v2 then
  (some S)
  else
  (if (md_isKeeping S) = (0 : Int32) then
  (ix 400 (md_cursor S) (ix 12 v2 (fX8_passes_earned_j42 v2 (md_set_earned S (upd (md_earned S) v2.toNatClampNeg ((md_kept S) (md_cursor S).toNatClampNeg))) (fX8_passes_earned_l2  n))))
  else
  (ix 12 v2 (ix 400 (md_cursor S) (fX8_passes_earned_j42 v2 (md_set_kept S (upd (md_kept S) (md_cursor S).toNatClampNeg ((md_earned S) v2.toNatClampNeg))) (fX8_passes_earned_l2  n)))))
def fX8_passes_earned (S : zMd) : Option (zMd) :=
  fX8_passes_earned_l2 FU (0 : Int32) S
def fX8_passesAll (S : zMd) (p1 : Int32) (p2 : Int32) : Option (zMd) :=
  if p2 &&& 1 = p2 then (fX8_passes_number (md_set_isKeeping (md_set_cursor S ((100 : Int32) * p1)) p2)).bind fun u2 =>
  (fX8_passes_kind u2).bind fun u3 =>
  (fX8_passes_figure u3).bind fun u4 =>
  (fX8_passes_one u4).bind fun u5 =>
  (fX8_passes_other u5).bind fun u6 =>
  (fX8_passes_stands u6).bind fun u7 =>
  (fX8_passes_uses u7).bind fun u8 =>
  (fX8_passes_earned u8).bind fun u9 =>
  (fX8_passOne u9 (md_houses u9)).bind fun u10 =>
  (fX8_passOne (md_set_houses u10.2 u10.1) (md_sums u10.2)).bind fun u11 =>
  (fX8_passOne (md_set_sums u11.2 u11.1) (md_falls u11.2)).bind fun u12 =>
  some (md_set_falls u12.2 u12.1) else none
def fX8_street_l86  : Nat → (Int32) → (zMd) → Option (Int32 × zMd)
  | 0, _, _ => none
  | n + 1, v2, S =>
  if (md_statements S) ≤ v2 then
  (some ((md_statements S), S))
  else
  ((fX8_comesTold S v2).bind fun u2 =>
  if u2.1 = (0 : Int32) then
  ((fX8_passesAll u2.2 (1 : Int32) (0 : Int32)).bind fun u4 =>
  ix 33 v2 (some (((-2000 : Int32) - ((md_sortAt u4) v2.toNatClampNeg)), u4)))
  else
  (fX8_street_l86  n (v2 + (1 : Int32)) u2.2))
def fX8_street_j60 (v1 : Int32) (S : zMd) : Option (Int32 × zMd) :=
  if v1 = (0 : Int32) then
  (some (((-1000 : Int32) - (md_reading S)), (md_set_taped S (0 : Int32))))
  else
  ((fX8_passesAll (md_set_taped S (0 : Int32)) (1 : Int32) (1 : Int32)).bind fun u7 =>
  fX8_street_l86 FU (0 : Int32) u7)
def fX8_street_j53 (v1 : Int32) (t1 : Int32) (t2 : Int32) (S : zMd) (k12 : (Int32) → (zMd) → Option (Int32 × zMd)) : Option (Int32 × zMd) :=
  k12 v1 (md_set_statements S (t1 + t2))
def fX8_street_j34 (S : zMd) (k12 : (Int32) → (zMd) → Option (Int32 × zMd)) : Option (Int32 × zMd) :=
  (fX8_statement S).bind fun u8 =>
  if u8.1 = (0 : Int32) then
  (fX8_street_j53 u8.1 (md_statements u8.2) (0 : Int32) u8.2 (k12))
  else
  (fX8_street_j53 u8.1 (md_statements u8.2) (1 : Int32) u8.2 (k12))
def fX8_street_l12  : Nat → (Int32) → (zMd) → Option (Int32 × zMd)
  | 0, _, _ => none
  | n + 1, v1, S =>
  if v1 = (0 : Int32) then
  (fX8_street_j60 v1 S)
  else
  (if (md_reading S) < (md_taped S) then
  (fX8_street_j34 S (fX8_street_l12  n))
  else
  (if (md_statements S) = (0 : Int32) then
  (fX8_street_j34 S (fX8_street_l12  n))
  else
  (fX8_street_j60 v1 S)))
def fX8_street (S : zMd) : Option (Int32 × zMd) :=
  fX8_street_l12 FU (1 : Int32) (md_set_statements (md_set_reading S (0 : Int32)) (0 : Int32))
def fX8_image (S : zMd) : Option (Int32 × zMd) :=
  (fX8_passesAll (md_set_hasImage S (1 : Int32)) (0 : Int32) (1 : Int32)).bind fun u1 =>
  some ((md_houses u1), u1)
def fX8_restore (S : zMd) : Option (Int32 × zMd) :=
  if (md_hasImage S) = (0 : Int32) then
  ((fX8_no S (-3 : Int32)).bind fun u3 =>
  some (u3.1, u3.2))
  else
  ((fX8_passesAll S (0 : Int32) (0 : Int32)).bind fun u2 =>
  some ((md_houses u2), u2))
def fX8_house (S : zMd) (p1 : Int32) (p2 : Int32) : Option (Int32 × zMd) :=
  (fX8_isHouse S p1).bind fun u1 =>
  if u1 = (0 : Int32) then
  ((fX8_no S (-1 : Int32)).bind fun u13 =>
  some (u13.1, u13.2))
  else
  (if p2 = (0 : Int32) then
  (ix 12 p1 (some (((md_kind S) p1.toNatClampNeg), S)))
  else
  (if p2 = (1 : Int32) then
  (ix 12 p1 (some (((md_figure S) p1.toNatClampNeg), S)))
  else
  (if p2 = (2 : Int32) then
  (ix 12 p1 (some (((md_number S) p1.toNatClampNeg), S)))
  else
  (if p2 = (3 : Int32) then
  (ix 12 p1 (some (((md_one S) p1.toNatClampNeg), S)))
  else
  (if p2 = (4 : Int32) then
  (ix 12 p1 (some (((md_other S) p1.toNatClampNeg), S)))
  else
  (if p2 = (5 : Int32) then
  (ix 12 p1 (some (((md_stands S) p1.toNatClampNeg), S)))
  else
  (if p2 = (6 : Int32) then
  (ix 12 p1 (some (((md_uses S) p1.toNatClampNeg), S)))
  else
  (if p2 = (7 : Int32) then
  (ix 12 p1 (some (((md_earned S) p1.toNatClampNeg), S)))
  else
  ((fX8_no S (-2 : Int32)).bind fun u12 =>
  some (u12.1, u12.2))))))))))
def fX8_law_j48 (v1 : Int32) (v2 : Int32) (t0 : Int32) (S : zMd) : Option (Int32 × zMd) :=
  if v1 = (0 : Int32) then
  (some (t0, (md_set_sums S v2)))
  else
  (some (t0, (md_set_falls S v2)))
def fX8_law_j26 (S : zMd) : Option (Int32 × zMd) :=
  (fX8_no S (-2 : Int32)).bind fun u2 =>
  some (u2.1, u2.2)
def fX8_law_j20 (v1 : Int32) (v2 : Int32) (t0 : Int32) (t1 : Int32) (t2 : Int32) (S : zMd) : Option (Int32 × zMd) :=
  if (fX8_isIn t0 t1 t2) = (0 : Int32) then
  (fX8_law_j26 S)
  else
  (if v1 = (0 : Int32) then
  (fX8_law_j48 v1 v2 (md_sums S) S)
  else
  (fX8_law_j48 v1 v2 (md_falls S) S))
def fX8_law (S : zMd) (p1 : Int32) (p2 : Int32) : Option (Int32 × zMd) :=
  if (fX8_isIn p1 (0 : Int32) (1 : Int32)) = (0 : Int32) then
  (fX8_law_j26 S)
  else
  (if p1 = (0 : Int32) then
  (fX8_law_j20 p1 p2 p2 (0 : Int32) (2 : Int32) S)
  else
  (fX8_law_j20 p1 p2 p2 (0 : Int32) (1 : Int32) S))
def fX8_may_j42 (v1 : Int32) (v2 : Int32) (t0 : Int32) (S : zMd) : Option (Int32 × zMd) :=
  if t0 = (0 : Int32) then
  ((fX8_mayBe S v1 v2).bind fun u2 =>
  if u2 = (0 : Int32) then
  (some ((0 : Int32), S))
  else
  (some ((1 : Int32), S)))
  else
  ((fX8_no S t0).bind fun u4 =>
  some (u4.1, u4.2))
def fX8_may_j36 (v1 : Int32) (v2 : Int32) (S : zMd) : Option (Int32 × zMd) :=
  fX8_may_j42 v1 v2 (-3 : Int32) S
def fX8_may_j16 (v1 : Int32) (v2 : Int32) (S : zMd) : Option (Int32 × zMd) :=
  fX8_may_j42 v1 v2 (-1 : Int32) S
def fX8_may (S : zMd) (p1 : Int32) (p2 : Int32) : Option (Int32 × zMd) :=
  (fX8_isHouse S p1).bind fun u5 =>
  if u5 = (0 : Int32) then
  (fX8_may_j16 p1 p2 S)
  else
  ((fX8_isHouse S p2).bind fun u7 =>
  if u7 = (0 : Int32) then
  (fX8_may_j16 p1 p2 S)
  else
  ((fX8_doesStand S p1).bind fun u9 =>
  if u9 = (0 : Int32) then
  (fX8_may_j36 p1 p2 S)
  else
  ((fX8_doesStand S p2).bind fun u11 =>
  if u11 = (0 : Int32) then
  (fX8_may_j36 p1 p2 S)
  else
  (fX8_may_j42 p1 p2 (0 : Int32) S))))
def fX8_canBe (S : zMd) (p1 : Int32) (p2 : Int32) : Option (Int32) :=
  (fX8_doesStand S p1).bind fun u1 =>
  if u1 = (0 : Int32) then
  (some (0 : Int32))
  else
  ((fX8_doesStand S p2).bind fun u3 =>
  if u3 = (0 : Int32) then
  (some (0 : Int32))
  else
  ((fX8_mayBe S p1 p2).bind fun u5 =>
  if u5 = (0 : Int32) then
  (some (0 : Int32))
  else
  (some (1 : Int32))))
def fX8_cost_j35 (v1 : Int32) (v2 : Int32) (t0 : Int32) (S : zMd) : Option (Int32 × zMd) :=
  if t0 = (0 : Int32) then
  ((fX8_fee S v1).bind fun u2 =>
  (fX8_fee S v2).bind fun u3 =>
  some ((u2 + u3), S))
  else
  ((fX8_no S t0).bind fun u4 =>
  some (u4.1, u4.2))
def fX8_cost_j16 (v1 : Int32) (v2 : Int32) (S : zMd) : Option (Int32 × zMd) :=
  fX8_cost_j35 v1 v2 (-1 : Int32) S
def fX8_cost (S : zMd) (p1 : Int32) (p2 : Int32) : Option (Int32 × zMd) :=
  (fX8_isHouse S p1).bind fun u5 =>
  if u5 = (0 : Int32) then
  (fX8_cost_j16 p1 p2 S)
  else
  ((fX8_isHouse S p2).bind fun u7 =>
  if u7 = (0 : Int32) then
  (fX8_cost_j16 p1 p2 S)
  else
  ((fX8_canBe S p1 p2).bind fun u9 =>
  if u9 = (0 : Int32) then
  (fX8_cost_j35 p1 p2 (-3 : Int32) S)
  else
  (fX8_cost_j35 p1 p2 (0 : Int32) S)))
def fX8_add_j80 (v1 : Int32) (v2 : Int32) (v3 : Int32) (v4 : Int32) (v5 : Int32) (S : zMd) : Option (Int32 × zMd) :=
  if v5 = (0 : Int32) then
  ((fX8_builds S v1 v2 v3 v4).bind fun u2 =>
  some (((md_houses u2) - (1 : Int32)), u2))
  else
  ((fX8_no S v5).bind fun u3 =>
  some (u3.1, u3.2))
def fX8_add_j78 (v1 : Int32) (v2 : Int32) (v3 : Int32) (v4 : Int32) (t0 : Int32) (S : zMd) : Option (Int32 × zMd) :=
  fX8_add_j80 v1 v2 v3 v4 t0 S
def fX8_add_j42 (v1 : Int32) (v2 : Int32) (v3 : Int32) (v4 : Int32) (t0 : Int32) (S : zMd) : Option (Int32 × zMd) :=
  if t0 = (0 : Int32) then
  ((fX8_canBe S v1 v2).bind fun u5 =>
  if u5 = (0 : Int32) then
  (fX8_add_j78 v1 v2 v3 v4 (-3 : Int32) S)
  else
  (if (md_houses S) = (12 : Int32) then
  (fX8_add_j78 v1 v2 v3 v4 (-6 : Int32) S)
  else
  (fX8_add_j78 v1 v2 v3 v4 (0 : Int32) S)))
  else
  (fX8_add_j80 v1 v2 v3 v4 t0 S)
def fX8_add_j16 (v1 : Int32) (v2 : Int32) (v3 : Int32) (v4 : Int32) (S : zMd) : Option (Int32 × zMd) :=
  fX8_add_j42 v1 v2 v3 v4 (-1 : Int32) S
def fX8_add (S : zMd) (p1 : Int32) (p2 : Int32) (p3 : Int32) (p4 : Int32) : Option (Int32 × zMd) :=
  (fX8_isHouse S p1).bind fun u8 =>
  if u8 = (0 : Int32) then
  (fX8_add_j16 p1 p2 p3 p4 S)
  else
  ((fX8_isHouse S p2).bind fun u10 =>
  if u10 = (0 : Int32) then
  (fX8_add_j16 p1 p2 p3 p4 S)
  else
  (if (fX8_isIn p3 (0 : Int32) (5 : Int32)) = (0 : Int32) then
  (fX8_add_j42 p1 p2 p3 p4 (-2 : Int32) S)
  else
  (fX8_add_j42 p1 p2 p3 p4 (fX8_bound p4 (0 : Int32) (9 : Int32)) S)))
def fX8_burn_j26 (v1 : Int32) (t0 : Int32) (S : zMd) : Option (Int32 × zMd) :=
  if t0 = (0 : Int32) then
  ((fX8_standing S).bind fun u2 =>
  (fX8_bits u2).bind fun u3 =>
  (fX8_burns S v1).bind fun u4 =>
  (fX8_standing u4).bind fun u5 =>
  (fX8_bits u5).bind fun u6 =>
  some ((u3 - u6), u4))
  else
  ((fX8_no S t0).bind fun u7 =>
  some (u7.1, u7.2))
def fX8_burn (S : zMd) (p1 : Int32) : Option (Int32 × zMd) :=
  (fX8_isHouse S p1).bind fun u8 =>
  if u8 = (0 : Int32) then
  (fX8_burn_j26 p1 (-1 : Int32) S)
  else
  ((fX8_doesStand S p1).bind fun u10 =>
  if u10 = (0 : Int32) then
  (fX8_burn_j26 p1 (-3 : Int32) S)
  else
  (fX8_burn_j26 p1 (0 : Int32) S))
def fX8_hangsOn (S : zMd) (p1 : Int32) : Option (Int32 × zMd) :=
  (fX8_standing S).bind fun u1 =>
  (fX8_passesAll S (2 : Int32) (1 : Int32)).bind fun u2 =>
  (fX8_burns u2 p1).bind fun u3 =>
  (fX8_standing u3).bind fun u4 =>
  (fX8_passesAll u3 (2 : Int32) (0 : Int32)).bind fun u5 =>
  some ((u1 &&& (u4 ^^^ (-1 : Int32))), u5)
def fX8_hangs_j26 (v1 : Int32) (t0 : Int32) (S : zMd) : Option (Int32 × zMd) :=
  if t0 = (0 : Int32) then
  ((fX8_hangsOn S v1).bind fun u2 =>
  some (u2.1, u2.2))
  else
  ((fX8_no S t0).bind fun u3 =>
  some (u3.1, u3.2))
def fX8_hangs (S : zMd) (p1 : Int32) : Option (Int32 × zMd) :=
  (fX8_isHouse S p1).bind fun u4 =>
  if u4 = (0 : Int32) then
  (fX8_hangs_j26 p1 (-1 : Int32) S)
  else
  ((fX8_doesStand S p1).bind fun u6 =>
  if u6 = (0 : Int32) then
  (fX8_hangs_j26 p1 (-3 : Int32) S)
  else
  (fX8_hangs_j26 p1 (0 : Int32) S))
def fX8_save_j37 (v1 : Int32) (v2 : Int32) (v3 : Int32) (t0 : Int32) (S : zMd) (k7 : (Int32) → (Int32) → (Int32) → (zMd) → Option (Int32 × zMd)) : Option (Int32 × zMd) :=
  if v2 < t0 then
  (k7 v3 t0 (v3 + (1 : Int32)) S)
  else
  (k7 v1 v2 (v3 + (1 : Int32)) S)
def fX8_save_l7  : Nat → (Int32) → (Int32) → (Int32) → (zMd) → Option (Int32 × zMd)
  | 0, _, _, _, _ => none
  | n + 1, v1, v2, v3, S =>
  if (md_houses S) ≤ v3 then
  (some (v1, S))
  else
  (ix 12 v3 (if ((md_stands S) v3.toNatClampNeg) = (1 : Int32) then
  ((fX8_hangsOn S v3).bind fun u5 =>
  (fX8_bits u5.1).bind fun u6 =>
  fX8_save_j37 v1 v2 v3 u6 u5.2 (fX8_save_l7  n))
  else
  (fX8_save_j37 v1 v2 v3 (0 : Int32) S (fX8_save_l7  n))))
def fX8_save (S : zMd) : Option (Int32 × zMd) :=
  fX8_save_l7 FU (-9 : Int32) (0 : Int32) (0 : Int32) S
def fX8_isSum_l10 (S : zMd) (v1 : Int32) (v2 : Int32) (v3 : Int32) (k2 : (Int32) → Option (Int32)) : Nat → (Int32) → Option (Int32)
  | 0, _ => none
  | n + 1, v4 =>
  if v2 ≤ v4 then
  (k2 (v3 + (1 : Int32)))
  else
  (ix 16 v3 (ix 16 v4 (if (((md_tried S) v3.toNatClampNeg) + ((md_tried S) v4.toNatClampNeg)) = v1 then
  (some (1 : Int32))
  else
  (fX8_isSum_l10 S v1 v2 v3 k2 n (v4 + (1 : Int32))))))
def fX8_isSum_l2 (S : zMd) (v1 : Int32) (v2 : Int32) : Nat → (Int32) → Option (Int32)
  | 0, _ => none
  | n + 1, v3 =>
  if v2 ≤ v3 then
  (some (0 : Int32))
  else
  (fX8_isSum_l10 S v1 v2 v3 (fX8_isSum_l2 S v1 v2 n) FU v3)
def fX8_isSum (S : zMd) (p1 : Int32) (p2 : Int32) : Option (Int32) :=
  fX8_isSum_l2 S p1 p2 FU (0 : Int32)
def fX8_canReach_j29 (S : zMd) (v3 : Int32) : Option (Int32) :=
  if v3 < (md_goal S) then
  (some (0 : Int32))
  else
  (some (1 : Int32))
def fX8_canReach_l5 (S : zMd) (v2 : Int32) : Nat → (Int32) → (Int32) → Option (Int32)
  | 0, _, _ => none
  | n + 1, v3, v4 =>
  if v2 ≤ v4 then
  (fX8_canReach_j29 S v3)
  else
  (if (md_goal S) ≤ v3 then
  (fX8_canReach_j29 S v3)
  else
  (fX8_canReach_l5 S v2 n (v3 * (2 : Int32)) (v4 + (1 : Int32))))
def fX8_canReach (S : zMd) (p1 : Int32) (p2 : Int32) : Option (Int32) :=
  fX8_canReach_l5 S p2 FU p1 (0 : Int32)
def fX8_goesOn (S : zMd) (p1 : Int32) (p2 : Int32) (p3 : Int32) : Option (Int32) :=
  (fX8_isSum S p1 p2).bind fun u1 =>
  if u1 = (0 : Int32) then
  (some (0 : Int32))
  else
  ((fX8_canReach S p1 ((p3 - (1 : Int32)) - p2)).bind fun u3 =>
  if u3 = (0 : Int32) then
  (some (0 : Int32))
  else
  (ix 16 (p2 - (1 : Int32)) (if (md_wanted S) ≤ ((md_tried S) (p2 - (1 : Int32)).toNatClampNeg) then
  (some (1 : Int32))
  else
  (if (md_wanted S) < p1 then
  (some (0 : Int32))
  else
  (some (1 : Int32))))))
def fX8_nextTry_j65 (S : zMd) (v4 : Int32) (v5 : Int32) : Option (Int32) :=
  if v5 < v4 then
  (some ((md_goal S) + (1 : Int32)))
  else
  (some v4)
def fX8_nextTry_l41 (S : zMd) (v2 : Int32) (v3 : Int32) (v5 : Int32) : Nat → (Int32) → Option (Int32)
  | 0, _ => none
  | n + 1, v4 =>
  if v5 < v4 then
  (fX8_nextTry_j65 S v4 v5)
  else
  ((fX8_goesOn S v4 v2 v3).bind fun u3 =>
  if u3 = (0 : Int32) then
  (fX8_nextTry_l41 S v2 v3 v5 n (v4 + (1 : Int32)))
  else
  (fX8_nextTry_j65 S v4 v5))
def fX8_nextTry_j39 (S : zMd) (v2 : Int32) (v3 : Int32) (v4 : Int32) (t0 : Int32) : Option (Int32) :=
  fX8_nextTry_l41 S v2 v3 t0 FU v4
def fX8_nextTry (S : zMd) (p1 : Int32) (p2 : Int32) (p3 : Int32) : Option (Int32) :=
  ix 16 (p2 - (1 : Int32)) (if (md_goal S) ≤ ((2 : Int32) * ((md_tried S) (p2 - (1 : Int32)).toNatClampNeg)) then
  (fX8_nextTry_j39 S p2 p3 (p1 + (1 : Int32)) (md_goal S))
  else
  (fX8_nextTry_j39 S p2 p3 (p1 + (1 : Int32)) ((2 : Int32) * ((md_tried S) (p2 - (1 : Int32)).toNatClampNeg))))
def fX8_findsChain_l35 (v1 : Int32) : Nat → (Int32) → (zMd) → Option (Int32 × zMd)
  | 0, _, _ => none
  | n + 1, v2, S =>
  if v2 ≤ (0 : Int32) then
  (some ((0 : Int32), S))
  else
  (ix 16 v2 ((fX8_nextTry S ((md_tried S) v2.toNatClampNeg) v2 v1).bind fun u3 =>
  if ((upd (md_tried S) v2.toNatClampNeg u3) v2.toNatClampNeg) ≤ (md_goal S) then
  (if v2 = (v1 - (1 : Int32)) then
  (if ((upd (md_tried S) v2.toNatClampNeg u3) v2.toNatClampNeg) = (md_goal S) then
  (some ((1 : Int32), (md_set_tried S (upd (md_tried S) v2.toNatClampNeg u3))))
  else
  (fX8_findsChain_l35 v1 n v2 (md_set_tried S (upd (md_tried S) v2.toNatClampNeg u3))))
  else
  (ix 16 ((v2 + (1 : Int32)) - (1 : Int32)) (ix 16 (v2 + (1 : Int32)) (fX8_findsChain_l35 v1 n (v2 + (1 : Int32)) (md_set_tried (md_set_tried S (upd (md_tried S) v2.toNatClampNeg u3)) (upd (upd (md_tried S) v2.toNatClampNeg u3) (v2 + (1 : Int32)).toNatClampNeg ((upd (md_tried S) v2.toNatClampNeg u3) ((v2 + (1 : Int32)) - (1 : Int32)).toNatClampNeg)))))))
  else
  (fX8_findsChain_l35 v1 n (v2 + (-1 : Int32)) (md_set_tried S (upd (md_tried S) v2.toNatClampNeg u3)))))
def fX8_findsChain (S : zMd) (p1 : Int32) : Option (Int32 × zMd) :=
  ix 16 (0 : Int32) (if p1 = (1 : Int32) then
  (if (md_goal S) = (1 : Int32) then
  (some ((1 : Int32), (md_set_tried S (upd (md_tried S) (0 : Int32).toNatClampNeg (1 : Int32)))))
  else
  (some ((0 : Int32), (md_set_tried S (upd (md_tried S) (0 : Int32).toNatClampNeg (1 : Int32))))))
  else
  (ix 16 (1 : Int32) (fX8_findsChain_l35 p1 FU (1 : Int32) (md_set_tried (md_set_tried S (upd (md_tried S) (0 : Int32).toNatClampNeg (1 : Int32))) (upd (upd (md_tried S) (0 : Int32).toNatClampNeg (1 : Int32)) (1 : Int32).toNatClampNeg (1 : Int32))))))
def fX8_shortest_l12  : Nat → (Int32) → (zMd) → Option (Int32 × zMd)
  | 0, _, _ => none
  | n + 1, v3, S =>
  (fX8_findsChain S v3).bind fun u1 =>
  if u1.1 = (0 : Int32) then
  (fX8_shortest_l12  n (v3 + (1 : Int32)) u1.2)
  else
  (some (v3, u1.2))
def fX8_shortest (S : zMd) (p1 : Int32) (p2 : Int32) : Option (Int32 × zMd) :=
  fX8_shortest_l12 FU (1 : Int32) (md_set_goal (md_set_wanted S p1) p2)
def fX8_fewest (S : zMd) (p1 : Int32) : Option (Int32 × zMd) :=
  if (fX8_bound p1 (1 : Int32) (100 : Int32)) = (0 : Int32) then
  ((fX8_shortest S p1 p1).bind fun u3 =>
  some (u3.1, u3.2))
  else
  ((fX8_no S (fX8_bound p1 (1 : Int32) (100 : Int32))).bind fun u4 =>
  some (u4.1, u4.2))
def fX8_chain_j26 (v1 : Int32) (v2 : Int32) (t0 : Int32) (S : zMd) : Option (Int32 × zMd) :=
  if t0 = (0 : Int32) then
  ((fX8_shortest S v1 v1).bind fun u2 =>
  if u2.1 ≤ v2 then
  (some ((-9 : Int32), u2.2))
  else
  (ix 16 v2 (some (((md_tried u2.2) v2.toNatClampNeg), u2.2))))
  else
  ((fX8_no S t0).bind fun u5 =>
  some (u5.1, u5.2))
def fX8_chain_j9 (v1 : Int32) (v2 : Int32) (S : zMd) : Option (Int32 × zMd) :=
  fX8_chain_j26 v1 v2 (-4 : Int32) S
def fX8_chain (S : zMd) (p1 : Int32) (p2 : Int32) : Option (Int32 × zMd) :=
  if p1 < (1 : Int32) then
  (fX8_chain_j9 p1 p2 S)
  else
  (if (0 : Int32) ≤ p2 then
  (if p1 ≤ (100 : Int32) then
  (fX8_chain_j26 p1 p2 (0 : Int32) S)
  else
  (fX8_chain_j26 p1 p2 (-6 : Int32) S))
  else
  (fX8_chain_j9 p1 p2 S))
def fX8_factors_j59 (v1 : Int32) (v2 : Int32) (t1 : Int32) (t2 : Int32) (S : zMd) (k9 : (Int32) → (zMd) → Option (Int32 × zMd)) : Option (Int32 × zMd) :=
  ix 301 t1 (k9 (v2 + (1 : Int32)) (md_set_byFactors S (upd (md_byFactors S) t1.toNatClampNeg t2)))
def fX8_factors_l9 (v1 : Int32) : Nat → (Int32) → (zMd) → Option (Int32 × zMd)
  | 0, _, _ => none
  | n + 1, v2, S =>
  if v1 < v2 then
  (ix 301 v1 (some (((md_byFactors S) v1.toNatClampNeg), S)))
  else
  ((fX8_leastFactor v2).bind fun u4 =>
  if u4 = v2 then
  (ix 301 (v2 - (1 : Int32)) (fX8_factors_j59 v1 v2 v2 (((md_byFactors S) (v2 - (1 : Int32)).toNatClampNeg) + (1 : Int32)) S (fX8_factors_l9 v1 n)))
  else
  (ix 301 u4 (if u4 = 0 then none else ix 301 (v2 / u4) (fX8_factors_j59 v1 v2 v2 ((((md_byFactors S) u4.toNatClampNeg) + ((md_byFactors S) (v2 / u4).toNatClampNeg)) - (1 : Int32)) S (fX8_factors_l9 v1 n)))))
def fX8_factors (S : zMd) (p1 : Int32) : Option (Int32 × zMd) :=
  ix 301 (1 : Int32) (fX8_factors_l9 p1 FU (2 : Int32) (md_set_byFactors S (upd (md_byFactors S) (1 : Int32).toNatClampNeg (1 : Int32))))
def fX8_way_j22 (v1 : Int32) (v2 : Int32) (t0 : Int32) (S : zMd) : Option (Int32 × zMd) :=
  if t0 = (0 : Int32) then
  (if v2 = (0 : Int32) then
  ((fX8_halves v1).bind fun u4 =>
  some (u4, S))
  else
  ((fX8_factors S v1).bind fun u3 =>
  some (u3.1, u3.2)))
  else
  ((fX8_no S t0).bind fun u5 =>
  some (u5.1, u5.2))
def fX8_way (S : zMd) (p1 : Int32) (p2 : Int32) : Option (Int32 × zMd) :=
  if (fX8_isIn p2 (0 : Int32) (1 : Int32)) = (0 : Int32) then
  (fX8_way_j22 p1 p2 (-2 : Int32) S)
  else
  (fX8_way_j22 p1 p2 (fX8_bound p1 (1 : Int32) (300 : Int32)) S)
def fX8_both_j33 (v1 : Int32) (v2 : Int32) (t0 : Int32) (S : zMd) : Option (Int32 × zMd) :=
  if t0 = (0 : Int32) then
  (if v2 ≤ v1 then
  ((fX8_shortest S v2 v1).bind fun u3 =>
  some (u3.1, u3.2))
  else
  ((fX8_shortest S v1 v2).bind fun u4 =>
  some (u4.1, u4.2)))
  else
  ((fX8_no S t0).bind fun u5 =>
  some (u5.1, u5.2))
def fX8_both_j27 (v1 : Int32) (v2 : Int32) (S : zMd) : Option (Int32 × zMd) :=
  fX8_both_j33 v1 v2 (-6 : Int32) S
def fX8_both_j10 (v1 : Int32) (v2 : Int32) (S : zMd) : Option (Int32 × zMd) :=
  fX8_both_j33 v1 v2 (-4 : Int32) S
def fX8_both (S : zMd) (p1 : Int32) (p2 : Int32) : Option (Int32 × zMd) :=
  if p1 < (1 : Int32) then
  (fX8_both_j10 p1 p2 S)
  else
  (if (1 : Int32) ≤ p2 then
  (if (30 : Int32) < p1 then
  (fX8_both_j27 p1 p2 S)
  else
  (if p2 ≤ (30 : Int32) then
  (fX8_both_j33 p1 p2 (0 : Int32) S)
  else
  (fX8_both_j27 p1 p2 S)))
  else
  (fX8_both_j10 p1 p2 S))
def fX8_far (S : zMd) (p1 : Int32) : Option (Int32 × zMd) :=
  if (fX8_bound p1 (1 : Int32) (12 : Int32)) = (0 : Int32) then
  (some (((1 : Int32) <<< ((p1 - (1 : Int32)) &&& 31)), S))
  else
  ((fX8_no S (fX8_bound p1 (1 : Int32) (12 : Int32))).bind fun u3 =>
  some (u3.1, u3.2))
def fX8_isWithin_l12 (v2 : Int32) : Nat → (Int32) → (zMd) → Option (Int32 × zMd)
  | 0, _, _ => none
  | n + 1, v3, S =>
  if v2 < v3 then
  (some ((0 : Int32), S))
  else
  ((fX8_findsChain S v3).bind fun u2 =>
  if u2.1 = (0 : Int32) then
  (fX8_isWithin_l12 v2 n (v3 + (1 : Int32)) u2.2)
  else
  (some ((1 : Int32), u2.2)))
def fX8_isWithin (S : zMd) (p1 : Int32) (p2 : Int32) : Option (Int32 × zMd) :=
  fX8_isWithin_l12 p2 FU (1 : Int32) (md_set_goal (md_set_wanted S p1) p1)
def fX8_can_j69 (v1 : Int32) (v2 : Int32) (v5 : Int32) (v6 : Int32) (v7 : Int32) (t0 : Int32) (t1 : Int32) (S : zMd) (k41 : (Int32) → (Int32) → (Int32) → (zMd) → Option (Int32 × zMd)) : Option (Int32 × zMd) :=
  if v7 = (0 : Int32) then
  (if v5 = (0 : Int32) then
  (k41 (t0 + t1) v6 (v6 + (1 : Int32)) S)
  else
  (k41 (t0 + t1) v5 (v6 + (1 : Int32)) S))
  else
  (k41 (t0 + t1) v5 (v6 + (1 : Int32)) S)
def fX8_can_l41 (v1 : Int32) (v2 : Int32) : Nat → (Int32) → (Int32) → (Int32) → (zMd) → Option (Int32 × zMd)
  | 0, _, _, _, _ => none
  | n + 1, v4, v5, v6, S =>
  if (65 : Int32) < v6 then
  (if v2 = (0 : Int32) then
  (some (v4, S))
  else
  (some (v5, S)))
  else
  ((fX8_isWithin S v6 v1).bind fun u5 =>
  if u5.1 = (0 : Int32) then
  (fX8_can_j69 v1 v2 v5 v6 u5.1 v4 (0 : Int32) u5.2 (fX8_can_l41 v1 v2 n))
  else
  (fX8_can_j69 v1 v2 v5 v6 u5.1 v4 (1 : Int32) u5.2 (fX8_can_l41 v1 v2 n)))
def fX8_can_j21 (v1 : Int32) (v2 : Int32) (t0 : Int32) (S : zMd) : Option (Int32 × zMd) :=
  if t0 = (0 : Int32) then
  (fX8_can_l41 v1 v2 FU (0 : Int32) (0 : Int32) (1 : Int32) S)
  else
  ((fX8_no S t0).bind fun u8 =>
  some (u8.1, u8.2))
def fX8_can (S : zMd) (p1 : Int32) (p2 : Int32) : Option (Int32 × zMd) :=
  if (fX8_isIn p2 (0 : Int32) (1 : Int32)) = (0 : Int32) then
  (fX8_can_j21 p1 p2 (-2 : Int32) S)
  else
  (fX8_can_j21 p1 p2 (fX8_bound p1 (1 : Int32) (7 : Int32)) S)
def fX8_comesToIn1_l21 (S : zMd) (v1 : Int32) (v2 : Int32) (k2 : (Int32) → Option (Int32)) : Nat → (Int32) → Option (Int32)
  | 0, _ => none
  | n + 1, v3 =>
  if (md_houses S) ≤ v3 then
  (k2 (v2 + (1 : Int32)))
  else
  (ix 12 v2 (ix 12 v3 (if (((md_number S) v2.toNatClampNeg) + ((md_number S) v3.toNatClampNeg)) = v1 then
  ((fX8_canBe S v2 v3).bind fun u5 =>
  if u5 = (0 : Int32) then
  (fX8_comesToIn1_l21 S v1 v2 k2 n (v3 + (1 : Int32)))
  else
  (some (1 : Int32)))
  else
  (fX8_comesToIn1_l21 S v1 v2 k2 n (v3 + (1 : Int32))))))
def fX8_comesToIn1_l2 (S : zMd) (v1 : Int32) : Nat → (Int32) → Option (Int32)
  | 0, _ => none
  | n + 1, v2 =>
  if (md_houses S) ≤ v2 then
  (some (0 : Int32))
  else
  (if (12 : Int32) ≤ (md_houses S) then
  (some (0 : Int32))
  else
  (fX8_comesToIn1_l21 S v1 v2 (fX8_comesToIn1_l2 S v1 n) FU v2))
def fX8_comesToIn1 (S : zMd) (p1 : Int32) : Option (Int32) :=
  fX8_comesToIn1_l2 S p1 FU (0 : Int32)
def fX8_comesToIn2_l30 (v1 : Int32) (v3 : Int32) (v4 : Int32) (k10 : (Int32) → (Int32) → (zMd) → Option (Int32 × zMd)) : Nat → (Int32) → (Int32) → (zMd) → Option (Int32 × zMd)
  | 0, _, _, _ => none
  | n + 1, v2, v5, S =>
  if v3 ≤ v5 then
  (k10 v2 (v4 + (1 : Int32)) S)
  else
  (if v2 = (0 : Int32) then
  ((fX8_canBe S v4 v5).bind fun u3 =>
  if u3 = (0 : Int32) then
  (fX8_comesToIn2_l30 v1 v3 v4 k10 n v2 (v5 + (1 : Int32)) S)
  else
  ((fX8_passesAll S (2 : Int32) (1 : Int32)).bind fun u5 =>
  (fX8_builds u5 v4 v5 (0 : Int32) (0 : Int32)).bind fun u6 =>
  (fX8_comesToIn1 u6 v1).bind fun u7 =>
  (fX8_passesAll u6 (2 : Int32) (0 : Int32)).bind fun u8 =>
  fX8_comesToIn2_l30 v1 v3 v4 k10 n u7 (v5 + (1 : Int32)) u8))
  else
  (k10 v2 (v4 + (1 : Int32)) S))
def fX8_comesToIn2_l10 (v1 : Int32) (v3 : Int32) : Nat → (Int32) → (Int32) → (zMd) → Option (Int32 × zMd)
  | 0, _, _, _ => none
  | n + 1, v2, v4, S =>
  if v3 ≤ v4 then
  (if v2 &&& 1 = v2 then some (v2, S) else none)
  else
  (if (12 : Int32) ≤ v3 then
  (if v2 &&& 1 = v2 then some (v2, S) else none)
  else
  (if v2 = (0 : Int32) then
  (fX8_comesToIn2_l30 v1 v3 v4 (fX8_comesToIn2_l10 v1 v3 n) FU v2 v4 S)
  else
  (if v2 &&& 1 = v2 then some (v2, S) else none)))
def fX8_comesToIn2 (S : zMd) (p1 : Int32) : Option (Int32 × zMd) :=
  fX8_comesToIn2_l10 p1 (md_houses S) FU (0 : Int32) (0 : Int32) S
def fX8_more (S : zMd) (p1 : Int32) : Option (Int32 × zMd) :=
  if (fX8_bound p1 (1 : Int32) (300 : Int32)) = (0 : Int32) then
  ((fX8_isThere S p1).bind fun u3 =>
  if u3 = (0 : Int32) then
  ((fX8_comesToIn1 S p1).bind fun u5 =>
  if u5 = (0 : Int32) then
  ((fX8_comesToIn2 S p1).bind fun u7 =>
  if u7.1 = (0 : Int32) then
  (some ((-9 : Int32), u7.2))
  else
  (some ((2 : Int32), u7.2)))
  else
  (some ((1 : Int32), S)))
  else
  (some ((0 : Int32), S)))
  else
  ((fX8_no S (fX8_bound p1 (1 : Int32) (300 : Int32))).bind fun u9 =>
  some (u9.1, u9.2))
def fX8_needs_j31 (S : zMd) (v2 : Int32) : Option (Int32) :=
  (fX8_standing S).bind fun u1 =>
  some (v2 &&& u1)
def fX8_needs (S : zMd) (p1 : Int32) : Option (Int32) :=
  ix 12 p1 (if ((md_one S) p1.toNatClampNeg) < (0 : Int32) then
  (fX8_needs_j31 S (0 : Int32))
  else
  (fX8_needs_j31 S ((0 : Int32) ||| (((1 : Int32) <<< (((md_one S) p1.toNatClampNeg) &&& 31)) ||| ((1 : Int32) <<< (((md_other S) p1.toNatClampNeg) &&& 31))))))
def fX8_orders_l44 (v1 : Int32) (v2 : Int32) (k14 : (Int32) → (zMd) → Option (Int32 × zMd)) : Nat → (Int32) → (zMd) → Option (Int32 × zMd)
  | 0, _, _ => none
  | n + 1, v3, S =>
  if (md_houses S) ≤ v3 then
  (k14 (v2 + (1 : Int32)) S)
  else
  (if (fX8_has v2 v3) = (0 : Int32) then
  (fX8_orders_l44 v1 v2 k14 n (v3 + (1 : Int32)) S)
  else
  ((fX8_needs S v3).bind fun u4 =>
  if (u4 &&& ((v2 &&& (((1 : Int32) <<< (v3 &&& 31)) ^^^ (-1 : Int32))) ^^^ (-1 : Int32))) = (0 : Int32) then
  (ix 4096 v2 (ix 4096 (v2 &&& (((1 : Int32) <<< (v3 &&& 31)) ^^^ (-1 : Int32))) (fX8_orders_l44 v1 v2 k14 n (v3 + (1 : Int32)) (md_set_ways S (upd (md_ways S) v2.toNatClampNeg (((md_ways S) v2.toNatClampNeg) + ((md_ways S) (v2 &&& (((1 : Int32) <<< (v3 &&& 31)) ^^^ (-1 : Int32))).toNatClampNeg)))))))
  else
  (fX8_orders_l44 v1 v2 k14 n (v3 + (1 : Int32)) S)))
def fX8_orders_l14 (v1 : Int32) : Nat → (Int32) → (zMd) → Option (Int32 × zMd)
  | 0, _, _ => none
  | n + 1, v2, S =>
  if ((1 : Int32) <<< ((md_houses S) &&& 31)) ≤ v2 then
  (ix 4096 v1 (some (((md_ways S) v1.toNatClampNeg), S)))
  else
  (ix 4096 v2 (if (v2 &&& (v1 ^^^ (-1 : Int32))) = (0 : Int32) then
  (fX8_orders_l44 v1 v2 (fX8_orders_l14 v1 n) FU (0 : Int32) (md_set_ways S (upd (md_ways S) v2.toNatClampNeg (0 : Int32))))
  else
  (fX8_orders_l14 v1 n (v2 + (1 : Int32)) (md_set_ways S (upd (md_ways S) v2.toNatClampNeg (0 : Int32))))))
def fX8_orders (S : zMd) : Option (Int32 × zMd) :=
  (fX8_standing S).bind fun u12 =>
  ix 4096 (0 : Int32) (fX8_orders_l14 u12 FU (1 : Int32) (md_set_ways S (upd (md_ways S) (0 : Int32).toNatClampNeg (1 : Int32))))
def fX8_isSumIn_l2 (S : zMd) (v1 : Int32) (v2 : Int32) : Nat → (Int32) → Option (Int32)
  | 0, _ => none
  | n + 1, v3 =>
  if v2 < ((2 : Int32) * v3) then
  (some (0 : Int32))
  else
  (if (fX8_has v1 v3) = (0 : Int32) then
  (fX8_isSumIn_l2 S v1 v2 n (v3 + (1 : Int32)))
  else
  (if (fX8_has v1 (v2 - v3)) = (0 : Int32) then
  (fX8_isSumIn_l2 S v1 v2 n (v3 + (1 : Int32)))
  else
  (some (1 : Int32))))
def fX8_isSumIn (S : zMd) (p1 : Int32) (p2 : Int32) : Option (Int32) :=
  fX8_isSumIn_l2 S p1 p2 FU (1 : Int32)
def fX8_doesWin_l2 (S : zMd) (v1 : Int32) (v2 : Int32) : Nat → (Int32) → Option (Int32)
  | 0, _ => none
  | n + 1, v3 =>
  if v2 < v3 then
  (some (0 : Int32))
  else
  (if (fX8_has v1 v3) = (0 : Int32) then
  ((fX8_isSumIn S v1 v3).bind fun u4 =>
  if u4 = (0 : Int32) then
  (fX8_doesWin_l2 S v1 v2 n (v3 + (1 : Int32)))
  else
  (if v3 = v2 then
  (some (1 : Int32))
  else
  (ix 8192 (v1 ||| ((1 : Int32) <<< (v3 &&& 31))) (if ((md_wins S) (v1 ||| ((1 : Int32) <<< (v3 &&& 31))).toNatClampNeg) = (0 : Int32) then
  (some (1 : Int32))
  else
  (fX8_doesWin_l2 S v1 v2 n (v3 + (1 : Int32)))))))
  else
  (fX8_doesWin_l2 S v1 v2 n (v3 + (1 : Int32))))
def fX8_doesWin (S : zMd) (p1 : Int32) (p2 : Int32) : Option (Int32) :=
  fX8_doesWin_l2 S p1 p2 FU (2 : Int32)
def fX8_game_j56 (v1 : Int32) (v3 : Int32) (t1 : Int32) (t2 : Int32) (S : zMd) (k24 : (Int32) → (zMd) → Option (Int32 × zMd)) : Option (Int32 × zMd) :=
  ix 8192 t1 (k24 (v3 + (-1 : Int32)) (md_set_wins S (upd (md_wins S) t1.toNatClampNeg t2)))
def fX8_game_j55 (v1 : Int32) (v3 : Int32) (t1 : Int32) (S : zMd) (k24 : (Int32) → (zMd) → Option (Int32 × zMd)) : Option (Int32 × zMd) :=
  fX8_game_j56 v1 v3 t1 (0 : Int32) S (k24)
def fX8_game_l24 (v1 : Int32) : Nat → (Int32) → (zMd) → Option (Int32 × zMd)
  | 0, _, _ => none
  | n + 1, v3, S =>
  if v3 < (2 : Int32) then
  (ix 8192 (2 : Int32) (some (((md_wins S) (2 : Int32).toNatClampNeg), S)))
  else
  (if (fX8_has v3 (1 : Int32)) = (0 : Int32) then
  (fX8_game_j55 v1 v3 v3 S (fX8_game_l24 v1 n))
  else
  ((fX8_doesWin S v3 v1).bind fun u6 =>
  if u6 = (0 : Int32) then
  (fX8_game_j55 v1 v3 v3 S (fX8_game_l24 v1 n))
  else
  (fX8_game_j56 v1 v3 v3 (1 : Int32) S (fX8_game_l24 v1 n))))
def fX8_game (S : zMd) (p1 : Int32) : Option (Int32 × zMd) :=
  if (fX8_bound p1 (2 : Int32) (12 : Int32)) = (0 : Int32) then
  (fX8_game_l24 p1 FU (((1 : Int32) <<< (p1 &&& 31)) - (1 : Int32)) S)
  else
  ((fX8_no S (fX8_bound p1 (2 : Int32) (12 : Int32))).bind fun u10 =>
  some (u10.1, u10.2))
def fX8_row_j25 (v1 : Int32) (v2 : Int32) (S : zMd) : Option (Int32 × zMd) :=
  if v2 = (0 : Int32) then
  (ix 12 (md_rowMany S) (some (((md_rowMany S) + (1 : Int32)), (md_set_rowMany (md_set_row S (upd (md_row S) (md_rowMany S).toNatClampNeg v1)) ((md_rowMany S) + (1 : Int32))))))
  else
  ((fX8_no S v2).bind fun u3 =>
  some (u3.1, u3.2))
def fX8_row (S : zMd) (p1 : Int32) : Option (Int32 × zMd) :=
  if (fX8_bound p1 (1 : Int32) (9999 : Int32)) = (0 : Int32) then
  (if (md_rowMany S) = (12 : Int32) then
  (fX8_row_j25 p1 (-6 : Int32) S)
  else
  (fX8_row_j25 p1 (fX8_bound p1 (1 : Int32) (9999 : Int32)) S))
  else
  (fX8_row_j25 p1 (fX8_bound p1 (1 : Int32) (9999 : Int32)) S)
def fX8_isWell_l47 (S : zMd) (v1 : Int32) (v3 : Int32) (k22 : (Int32) → (Int32) → Option (Int32)) : Nat → (Int32) → (Int32) → Option (Int32)
  | 0, _, _ => none
  | n + 1, v2, v4 =>
  if v1 ≤ v4 then
  (k22 v2 (v3 + (1 : Int32)))
  else
  (ix 12 v3 (ix 12 v4 (ix 12 v1 (if (((md_row S) v3.toNatClampNeg) + ((md_row S) v4.toNatClampNeg)) = ((md_row S) v1.toNatClampNeg) then
  (fX8_isWell_l47 S v1 v3 k22 n (v2 ||| (1 : Int32)) (v4 + (1 : Int32)))
  else
  (fX8_isWell_l47 S v1 v3 k22 n (v2 ||| (0 : Int32)) (v4 + (1 : Int32)))))))
def fX8_isWell_l22 (S : zMd) (v1 : Int32) : Nat → (Int32) → (Int32) → Option (Int32)
  | 0, _, _ => none
  | n + 1, v2, v3 =>
  if v1 ≤ v3 then
  (if v2 &&& 1 = v2 then some v2 else none)
  else
  (ix 12 v3 (ix 12 v1 (if ((md_row S) v3.toNatClampNeg) = ((md_row S) v1.toNatClampNeg) then
  (some (0 : Int32))
  else
  (fX8_isWell_l47 S v1 v3 (fX8_isWell_l22 S v1 n) FU v2 v3))))
def fX8_isWell_j19 (S : zMd) (v1 : Int32) (t0 : Int32) : Option (Int32) :=
  fX8_isWell_l22 S v1 FU t0 (0 : Int32)
def fX8_isWell_j18 (S : zMd) (v1 : Int32) : Option (Int32) :=
  fX8_isWell_j19 S v1 (0 : Int32)
def fX8_isWell (S : zMd) (p1 : Int32) : Option (Int32) :=
  if p1 = (0 : Int32) then
  (ix 12 (0 : Int32) (if ((md_row S) (0 : Int32).toNatClampNeg) = (1 : Int32) then
  (fX8_isWell_j19 S p1 (1 : Int32))
  else
  (fX8_isWell_j18 S p1)))
  else
  (fX8_isWell_j18 S p1)
def fX8_judge_l12 (v1 : Int32) (S : zMd) : Nat → (Int32) → Option (Int32 × zMd)
  | 0, _ => none
  | n + 1, v2 =>
  if v1 ≤ v2 then
  (some ((-9 : Int32), S))
  else
  ((fX8_isWell S v2).bind fun u2 =>
  if u2 = (0 : Int32) then
  (some (v2, S))
  else
  (fX8_judge_l12 v1 S n (v2 + (1 : Int32))))
def fX8_judge (S : zMd) : Option (Int32 × zMd) :=
  fX8_judge_l12 (md_rowMany S) (md_set_rowMany S (0 : Int32)) FU (0 : Int32)
def fX8_draw (S : zMd) (p1 : Int32) : Option (Int32 × zMd) :=
  if p1 = 0 then none else some (((((((md_lots S) * (1103515245 : Int32)) + (12345 : Int32)) &&& (2147483647 : Int32)) / (65536 : Int32)) - (((((md_lots S) * (1103515245 : Int32)) + (12345 : Int32)) &&& (2147483647 : Int32)) / (65536 : Int32)) / p1 * p1), (md_set_lots S (((md_lots S) * (1103515245 : Int32)) + (12345 : Int32))))
def fX8_greatest_l4 (S : zMd) : Nat → (Int32) → (Int32) → Option (Int32)
  | 0, _, _ => none
  | n + 1, v1, v2 =>
  if (md_houses S) ≤ v2 then
  (some v1)
  else
  (ix 12 v2 (if ((md_stands S) v2.toNatClampNeg) = (1 : Int32) then
  (if ((md_number S) v2.toNatClampNeg) ≤ v1 then
  (fX8_greatest_l4 S n v1 (v2 + (1 : Int32)))
  else
  (fX8_greatest_l4 S n ((md_number S) v2.toNatClampNeg) (v2 + (1 : Int32))))
  else
  (fX8_greatest_l4 S n v1 (v2 + (1 : Int32)))))
def fX8_greatest (S : zMd) : Option (Int32) :=
  fX8_greatest_l4 S FU (0 : Int32) (0 : Int32)
def fX8_buildsByLot (S : zMd) : Option (zMd) :=
  (fX8_draw S (md_houses S)).bind fun u1 =>
  (fX8_draw u1.2 (md_houses u1.2)).bind fun u2 =>
  (fX8_canBe u2.2 u1.1 u2.1).bind fun u3 =>
  if u3 = (0 : Int32) then
  (some u2.2)
  else
  (if (12 : Int32) ≤ (md_houses u2.2) then
  (some u2.2)
  else
  ((fX8_builds u2.2 u1.1 u2.1 (0 : Int32) (0 : Int32)).bind fun u6 =>
  some u6))
def fX8_seeds_j83 (t0 : Int32) (S : zMd) : Option (Int32 × zMd) :=
  (fX8_passesAll S (2 : Int32) (0 : Int32)).bind fun u1 =>
  some (t0, u1)
def fX8_seeds_l49 (v1 : Int32) (v3 : Int32) : Nat → (Int32) → (zMd) → Option (Int32 × zMd)
  | 0, _, _ => none
  | n + 1, v5, S =>
  if v1 ≤ v5 then
  (if v3 = (0 : Int32) then
  ((fX8_standing S).bind fun u5 =>
  (fX8_bits u5).bind fun u6 =>
  fX8_seeds_j83 u6 S)
  else
  ((fX8_greatest S).bind fun u4 =>
  fX8_seeds_j83 u4 S))
  else
  ((fX8_buildsByLot S).bind fun u7 =>
  fX8_seeds_l49 v1 v3 n (v5 + (1 : Int32)) u7)
def fX8_seeds_j21 (v1 : Int32) (v2 : Int32) (v3 : Int32) (t0 : Int32) (S : zMd) : Option (Int32 × zMd) :=
  if t0 = (0 : Int32) then
  ((fX8_passesAll S (2 : Int32) (1 : Int32)).bind fun u9 =>
  fX8_seeds_l49 v1 v3 FU (0 : Int32) (md_set_lots u9 v2))
  else
  ((fX8_no S t0).bind fun u10 =>
  some (u10.1, u10.2))
def fX8_seeds (S : zMd) (p1 : Int32) (p2 : Int32) (p3 : Int32) : Option (Int32 × zMd) :=
  if (fX8_isIn p3 (0 : Int32) (1 : Int32)) = (0 : Int32) then
  (fX8_seeds_j21 p1 p2 p3 (-2 : Int32) S)
  else
  (fX8_seeds_j21 p1 p2 p3 (fX8_bound p1 (1 : Int32) (40 : Int32)) S)
def fX8_allEarned_l4 (S : zMd) : Nat → (Int32) → (Int32) → Option (Int32)
  | 0, _, _ => none
  | n + 1, v1, v2 =>
  if (md_houses S) ≤ v2 then
  (some v1)
  else
  (ix 12 v2 (fX8_allEarned_l4 S n (v1 + ((md_earned S) v2.toNatClampNeg)) (v2 + (1 : Int32))))
def fX8_allEarned (S : zMd) : Option (Int32) :=
  fX8_allEarned_l4 S FU (0 : Int32) (0 : Int32)
def fX8_count (S : zMd) (p1 : Int32) : Option (Int32) :=
  if (fX8_isIn p1 (11 : Int32) (16 : Int32)) = (0 : Int32) then
  (if p1 = (0 : Int32) then
  (some (md_houses S))
  else
  (if p1 = (1 : Int32) then
  ((fX8_standing S).bind fun u4 =>
  (fX8_bits u4).bind fun u5 =>
  some u5)
  else
  (if p1 = (2 : Int32) then
  ((fX8_greatest S).bind fun u6 =>
  some u6)
  else
  (if p1 = (3 : Int32) then
  (some (md_sums S))
  else
  (if p1 = (4 : Int32) then
  (some (md_falls S))
  else
  (if p1 = (5 : Int32) then
  ((fX8_allEarned S).bind fun u7 =>
  some u7)
  else
  (if p1 = (6 : Int32) then
  (some (md_taped S))
  else
  (if p1 = (7 : Int32) then
  (some (md_rowMany S))
  else
  (some (-9 : Int32))))))))))
  else
  (ix 7 (p1 - (10 : Int32)) (some ((md_refused S) (p1 - (10 : Int32)).toNatClampNeg)))
def fX7_nextSeed (p0 : Int32) : Int32 :=
  ((p0 * (1103515245 : Int32)) + (12345 : Int32))
def fX7_draw (p0 : Int32) (p1 : Int32) : Option (Int32) :=
  if (1 : Int32) ≤ p1 then
  (if p1 = 0 then none else some (((p0 &&& (2147483647 : Int32)).toUInt32 >>> ((16 : Int32).toUInt32 &&& Int32.toUInt32 31)).toInt32 - ((p0 &&& (2147483647 : Int32)).toUInt32 >>> ((16 : Int32).toUInt32 &&& Int32.toUInt32 31)).toInt32 / p1 * p1))
  else
  (some (0 : Int32))
def fX7_outside (p0 : Int32) (p1 : Int32) (p2 : Int32) : Int32 :=
  if p1 ≤ p0 then
  (if p0 ≤ p2 then
  ((0 : Int32))
  else
  ((-6 : Int32)))
  else
  ((-4 : Int32))
def fX7_isOneOfTwo (p0 : Int32) : Int32 :=
  if p0 = (0 : Int32) then
  ((1 : Int32))
  else
  (if p0 = (1 : Int32) then
  ((1 : Int32))
  else
  ((0 : Int32)))
def fX7_sow_l5 (v1 : Int32) : Nat → (Int32) → (Int32) → (zSt) → Option (zSt)
  | 0, _, _, _ => none
  | n + 1, v3, v4, S =>
  if v1 ≤ v4 then
  (some S)
  else
  ((fX7_draw (fX7_nextSeed v3) (fX5_cameCount S)).bind fun u4 =>
  (fX7_draw (fX7_nextSeed (fX7_nextSeed v3)) (fX5_cameCount S)).bind fun u7 =>
  (fX5_build S u4 u7 (0 : Int32) (0 : Int32)).bind fun u8 =>
  fX7_sow_l5 v1 n (fX7_nextSeed (fX7_nextSeed v3)) (v4 + (1 : Int32)) u8.2)
def fX7_sow (S : zSt) (p1 : Int32) (p2 : Int32) : Option (zSt) :=
  fX7_sow_l5 p1 FU p2 (0 : Int32) S
def fX7_refuse (S : zMn) (p1 : Int32) : Option (Int32 × zMn) :=
  if (0 : Int32) ≤ p1 then
  (some (p1, S))
  else
  (if p1 ≤ (-(7 : Int32)) then
  (some (p1, S))
  else
  (ix 7 (-p1) (some (p1, (mn_set_refusals S (upd (mn_refusals S) (-p1).toNatClampNeg (((mn_refusals S) (-p1).toNatClampNeg) + (1 : Int32))))))))
def fX7_comesNextButOne_l15 (v1 : Int32) (v2 : Int32) (k2 : (Int32) → (zMn) → Option (Int32 × zMn)) : Nat → (Int32) → (zMn) → Option (Int32 × zMn)
  | 0, _, _ => none
  | n + 1, v3, S =>
  if (fX5_cameCount (mn_live S)) ≤ v3 then
  (k2 (v2 + (1 : Int32)) S)
  else
  ((fX5_build (fX5_become (mn_mind S) (mn_live S)) v2 v3 (0 : Int32) (0 : Int32)).bind fun u4 =>
  if u4.1 = (0 : Int32) then
  (fX7_comesNextButOne_l15 v1 v2 k2 n (v3 + (1 : Int32)) (mn_set_mind S u4.2))
  else
  ((fX5_comesNext u4.2 v1).bind fun u6 =>
  if u6 = (0 : Int32) then
  (fX7_comesNextButOne_l15 v1 v2 k2 n (v3 + (1 : Int32)) (mn_set_mind S u4.2))
  else
  (some ((1 : Int32), (mn_set_mind S u4.2)))))
def fX7_comesNextButOne_l2 (v1 : Int32) : Nat → (Int32) → (zMn) → Option (Int32 × zMn)
  | 0, _, _ => none
  | n + 1, v2, S =>
  if (fX5_cameCount (mn_live S)) ≤ v2 then
  (some ((0 : Int32), S))
  else
  (fX7_comesNextButOne_l15 v1 v2 (fX7_comesNextButOne_l2 v1 n) FU v2 S)
def fX7_comesNextButOne (S : zMn) (p1 : Int32) : Option (Int32 × zMn) :=
  fX7_comesNextButOne_l2 p1 FU (0 : Int32) S
def fX7_feed_j28 (S : zMn) : Option (Int32 × zMn) :=
  (fX7_refuse S (-6 : Int32)).bind fun u1 =>
  some (u1.1, u1.2)
def fX7_feed (S : zMn) (p1 : Int32) : Option (Int32 × zMn) :=
  if (0 : Int32) ≤ p1 then
  (if (255 : Int32) < p1 then
  (fX7_feed_j28 S)
  else
  (if (fX6_hasRoom_L (mn_letters S)) = (0 : Int32) then
  (fX7_feed_j28 S)
  else
  ((fX6_take_L (mn_letters S) p1).bind fun u6 =>
  some (u6.1, (mn_set_letters S u6.2)))))
  else
  ((fX7_refuse S (-4 : Int32)).bind fun u7 =>
  some (u7.1, u7.2))
def fX7_street_j35 (v1 : Int32) (S : zMn) : Option (Int32 × zMn) :=
  if v1 = (0 : Int32) then
  (some ((fX2_statementCount (fX6_forget_L (mn_letters S))), (mn_set_letters (mn_set_live S (fX5_become (mn_live S) (mn_mind S))) (fX6_forget_L (mn_letters S)))))
  else
  (some (v1, (mn_set_letters S (fX6_forget_L (mn_letters S)))))
def fX7_street (S : zMn) : Option (Int32 × zMn) :=
  (fX2_faultOfForm (mn_letters S)).bind fun u6 =>
  if u6.1 = (0 : Int32) then
  ((fX2_faultOfSense u6.2 (fX5_become (mn_mind S) (mn_live S))).bind fun u8 =>
  fX7_street_j35 u8.1 (mn_set_letters (mn_set_mind S u8.2.2) u8.2.1))
  else
  (fX7_street_j35 u6.1 (mn_set_letters (mn_set_mind S (fX5_become (mn_mind S) (mn_live S))) u6.2))
def fX7_house_j27 (S : zMn) : Option (Int32 × zMn) :=
  (fX7_refuse S (-2 : Int32)).bind fun u1 =>
  some (u1.1, u1.2)
def fX7_house (S : zMn) (p1 : Int32) (p2 : Int32) : Option (Int32 × zMn) :=
  if (fX5_has (mn_live S) p1) = (0 : Int32) then
  ((fX7_refuse S (-1 : Int32)).bind fun u7 =>
  some (u7.1, u7.2))
  else
  (if p2 < (0 : Int32) then
  (fX7_house_j27 S)
  else
  (if p2 ≤ (7 : Int32) then
  ((fX5_tell (mn_live S) p1 p2).bind fun u6 =>
  some (u6, S))
  else
  (fX7_house_j27 S)))
def fX7_law_j70 (v3 : Int32) (v4 : Int32) (t0 : Int32) (S : zMn) : Option (Int32 × zMn) :=
  if (fX5_changeLaws (mn_live S) v4 t0).1 = (0 : Int32) then
  ((fX7_refuse (mn_set_live S (fX5_changeLaws (mn_live S) v4 t0).2) (-2 : Int32)).bind fun u3 =>
  some (u3.1, u3.2))
  else
  (some (v3, (mn_set_live S (fX5_changeLaws (mn_live S) v4 t0).2)))
def fX7_law_j53 (v1 : Int32) (v2 : Int32) (v3 : Int32) (t0 : Int32) (S : zMn) : Option (Int32 × zMn) :=
  if v1 = (0 : Int32) then
  (fX7_law_j70 v3 t0 (fX5_fallsLaw (mn_live S)) S)
  else
  (fX7_law_j70 v3 t0 v2 S)
def fX7_law_j37 (v1 : Int32) (v2 : Int32) (t0 : Int32) (S : zMn) : Option (Int32 × zMn) :=
  if v1 = (0 : Int32) then
  (fX7_law_j53 v1 v2 t0 v2 S)
  else
  (fX7_law_j53 v1 v2 t0 (fX5_sumsLaw (mn_live S)) S)
def fX7_law_j9 (S : zMn) : Option (Int32 × zMn) :=
  (fX7_refuse S (-2 : Int32)).bind fun u8 =>
  some (u8.1, u8.2)
def fX7_law (S : zMn) (p1 : Int32) (p2 : Int32) : Option (Int32 × zMn) :=
  if p1 < (0 : Int32) then
  (fX7_law_j9 S)
  else
  (if p1 ≤ (1 : Int32) then
  (if p1 = (0 : Int32) then
  (fX7_law_j37 p1 p2 (fX5_sumsLaw (mn_live S)) S)
  else
  (fX7_law_j37 p1 p2 (fX5_fallsLaw (mn_live S)) S))
  else
  (fX7_law_j9 S))
def fX7_may_j50 (S : zMn) : Option (Int32 × zMn) :=
  (fX7_refuse S (-3 : Int32)).bind fun u1 =>
  some (u1.1, u1.2)
def fX7_may_j22 (S : zMn) : Option (Int32 × zMn) :=
  (fX7_refuse S (-1 : Int32)).bind fun u2 =>
  some (u2.1, u2.2)
def fX7_may (S : zMn) (p1 : Int32) (p2 : Int32) : Option (Int32 × zMn) :=
  if (fX5_has (mn_live S) p1) = (0 : Int32) then
  (fX7_may_j22 S)
  else
  (if (fX5_has (mn_live S) p2) = (0 : Int32) then
  (fX7_may_j22 S)
  else
  (if (fX5_stands (mn_live S) p1) = (0 : Int32) then
  (fX7_may_j50 S)
  else
  (if (fX5_stands (mn_live S) p2) = (0 : Int32) then
  (fX7_may_j50 S)
  else
  ((fX5_mayBe (mn_live S) p1 p2).bind fun u11 =>
  if u11 = (0 : Int32) then
  (some ((0 : Int32), S))
  else
  (some ((1 : Int32), S))))))
def fX7_cost_j22 (S : zMn) : Option (Int32 × zMn) :=
  (fX7_refuse S (-1 : Int32)).bind fun u1 =>
  some (u1.1, u1.2)
def fX7_cost (S : zMn) (p1 : Int32) (p2 : Int32) : Option (Int32 × zMn) :=
  if (fX5_has (mn_live S) p1) = (0 : Int32) then
  (fX7_cost_j22 S)
  else
  (if (fX5_has (mn_live S) p2) = (0 : Int32) then
  (fX7_cost_j22 S)
  else
  ((fX5_mayBe (mn_live S) p1 p2).bind fun u6 =>
  if u6 = (0 : Int32) then
  ((fX7_refuse S (-3 : Int32)).bind fun u10 =>
  some (u10.1, u10.2))
  else
  ((fX5_fee (mn_live S) p1).bind fun u8 =>
  (fX5_fee (mn_live S) p2).bind fun u9 =>
  some ((u8 + u9), S))))
def fX7_add_j22 (S : zMn) : Option (Int32 × zMn) :=
  (fX7_refuse S (-1 : Int32)).bind fun u1 =>
  some (u1.1, u1.2)
def fX7_add (S : zMn) (p1 : Int32) (p2 : Int32) (p3 : Int32) (p4 : Int32) : Option (Int32 × zMn) :=
  if (fX5_has (mn_live S) p1) = (0 : Int32) then
  (fX7_add_j22 S)
  else
  (if (fX5_has (mn_live S) p2) = (0 : Int32) then
  (fX7_add_j22 S)
  else
  (if (fX5_isKind p3) = (0 : Int32) then
  ((fX7_refuse S (-2 : Int32)).bind fun u19 =>
  some (u19.1, u19.2))
  else
  (if (0 : Int32) ≤ p4 then
  (if p4 ≤ (9 : Int32) then
  ((fX5_mayBe (mn_live S) p1 p2).bind fun u10 =>
  if u10 = (0 : Int32) then
  ((fX7_refuse S (-3 : Int32)).bind fun u16 =>
  some (u16.1, u16.2))
  else
  ((fX5_build (mn_live S) p1 p2 p3 p4).bind fun u12 =>
  if u12.1 = (0 : Int32) then
  ((fX7_refuse (mn_set_live S u12.2) (-6 : Int32)).bind fun u15 =>
  some (u15.1, u15.2))
  else
  (some (((fX5_cameCount u12.2) - (1 : Int32)), (mn_set_live S u12.2)))))
  else
  ((fX7_refuse S (-6 : Int32)).bind fun u17 =>
  some (u17.1, u17.2)))
  else
  ((fX7_refuse S (-4 : Int32)).bind fun u18 =>
  some (u18.1, u18.2)))))
def fX7_burn (S : zMn) (p1 : Int32) : Option (Int32 × zMn) :=
  if (fX5_has (mn_live S) p1) = (0 : Int32) then
  ((fX7_refuse S (-1 : Int32)).bind fun u7 =>
  some (u7.1, u7.2))
  else
  (if (fX5_stands (mn_live S) p1) = (0 : Int32) then
  ((fX7_refuse S (-3 : Int32)).bind fun u6 =>
  some (u6.1, u6.2))
  else
  ((fX5_fire (mn_live S) p1).bind fun u5 =>
  some (u5.1, (mn_set_live S u5.2))))
def fX7_hangs (S : zMn) (p1 : Int32) : Option (Int32 × zMn) :=
  if (fX5_has (mn_live S) p1) = (0 : Int32) then
  ((fX7_refuse S (-1 : Int32)).bind fun u7 =>
  some (u7.1, u7.2))
  else
  (if (fX5_stands (mn_live S) p1) = (0 : Int32) then
  ((fX7_refuse S (-3 : Int32)).bind fun u6 =>
  some (u6.1, u6.2))
  else
  ((fX5_fallsWith (mn_live S) p1).bind fun u5 =>
  some (u5, S)))
def fX7_save_j44 (S : zMn) (v1 : Int32) (v2 : Int32) (v3 : Int32) (t0 : Int32) (k7 : (Int32) → (Int32) → (Int32) → Option (Int32)) : Option (Int32) :=
  if t0 ≤ v2 then
  (k7 v1 v2 (v3 + (1 : Int32)))
  else
  (k7 v3 t0 (v3 + (1 : Int32)))
def fX7_save_l7 (S : zMn) : Nat → (Int32) → (Int32) → (Int32) → Option (Int32)
  | 0, _, _, _ => none
  | n + 1, v1, v2, v3 =>
  if (fX5_cameCount (mn_live S)) ≤ v3 then
  (some v1)
  else
  (if (fX5_stands (mn_live S) v3) = (0 : Int32) then
  (fX7_save_j44 S v1 v2 v3 (0 : Int32) (fX7_save_l7 S n))
  else
  ((fX5_fallsWith (mn_live S) v3).bind fun u6 =>
  fX7_save_j44 S v1 v2 v3 (fJ6_bitCount_0f7a4 u6) (fX7_save_l7 S n)))
def fX7_save (S : zMn) : Option (Int32) :=
  fX7_save_l7 S FU (-9 : Int32) (0 : Int32) (0 : Int32)
def fX7_fewest (S : zMn) (p1 : Int32) : Option (Int32 × zMn) :=
  if (fX7_outside p1 (1 : Int32) (100 : Int32)) = (0 : Int32) then
  ((fX0_shortest (mn_chains S) (1 : Int32) p1).bind fun u3 =>
  some (u3.1, (mn_set_chains S u3.2)))
  else
  ((fX7_refuse S (fX7_outside p1 (1 : Int32) (100 : Int32))).bind fun u4 =>
  some (u4.1, u4.2))
def fX7_chain (S : zMn) (p1 : Int32) (p2 : Int32) : Option (Int32 × zMn) :=
  if (0 : Int32) ≤ p2 then
  (if (fX7_outside p1 (1 : Int32) (100 : Int32)) = (0 : Int32) then
  ((fX0_shortest (mn_chains S) (1 : Int32) p1).bind fun u4 =>
  if u4.1 ≤ p2 then
  (some ((-9 : Int32), (mn_set_chains S u4.2)))
  else
  ((fX0_numberAt u4.2 p2).bind fun u6 =>
  some (u6, (mn_set_chains S u4.2))))
  else
  ((fX7_refuse S (fX7_outside p1 (1 : Int32) (100 : Int32))).bind fun u7 =>
  some (u7.1, u7.2)))
  else
  ((fX7_refuse S (-4 : Int32)).bind fun u8 =>
  some (u8.1, u8.2))
def fX7_way_j20 (v1 : Int32) (v2 : Int32) (t0 : Int32) (S : zMn) : Option (Int32 × zMn) :=
  if t0 = (0 : Int32) then
  (if v2 = (0 : Int32) then
  (some ((fX0_byHalves v1), S))
  else
  ((fX0_byFactors v1).bind fun u3 =>
  some (u3, S)))
  else
  ((fX7_refuse S t0).bind fun u5 =>
  some (u5.1, u5.2))
def fX7_way (S : zMn) (p1 : Int32) (p2 : Int32) : Option (Int32 × zMn) :=
  if (fX7_isOneOfTwo p2) = (0 : Int32) then
  (fX7_way_j20 p1 p2 (-2 : Int32) S)
  else
  (fX7_way_j20 p1 p2 (fX7_outside p1 (1 : Int32) (300 : Int32)) S)
def fX7_both_j31 (v3 : Int32) (v4 : Int32) (t0 : Int32) (S : zMn) : Option (Int32 × zMn) :=
  if t0 = (0 : Int32) then
  ((fX0_shortest (mn_chains S) v3 v4).bind fun u2 =>
  some (u2.1, (mn_set_chains S u2.2)))
  else
  ((fX7_refuse S t0).bind fun u3 =>
  some (u3.1, u3.2))
def fX7_both (S : zMn) (p1 : Int32) (p2 : Int32) : Option (Int32 × zMn) :=
  if (1 : Int32) ≤ (if p2 < p1 then p2 else p1) then
  (fX7_both_j31 (if p2 < p1 then p2 else p1) (if p1 < p2 then p2 else p1) (fX7_outside (if p1 < p2 then p2 else p1) (1 : Int32) (30 : Int32)) S)
  else
  (fX7_both_j31 (if p2 < p1 then p2 else p1) (if p1 < p2 then p2 else p1) (-4 : Int32) S)
def fX7_far (S : zMn) (p1 : Int32) : Option (Int32 × zMn) :=
  if (fX7_outside p1 (1 : Int32) (12 : Int32)) = (0 : Int32) then
  (some (((1 : Int32) <<< ((p1 - (1 : Int32)) &&& 31)), S))
  else
  ((fX7_refuse S (fX7_outside p1 (1 : Int32) (12 : Int32))).bind fun u3 =>
  some (u3.1, u3.2))
def fX7_can_j19 (v1 : Int32) (v2 : Int32) (t0 : Int32) (S : zMn) : Option (Int32 × zMn) :=
  if t0 = (0 : Int32) then
  ((fX0_reachable (mn_chains S) v1).bind fun u2 =>
  if v2 = (0 : Int32) then
  (some ((fJ13_bitCount_95d88 u2.1), (mn_set_chains S u2.2)))
  else
  (some (((fJ13_numberOfTrailingZeros_95d88 (u2.1 ^^^ (-1 : Int64))) + (1 : Int32)), (mn_set_chains S u2.2))))
  else
  ((fX7_refuse S t0).bind fun u6 =>
  some (u6.1, u6.2))
def fX7_can (S : zMn) (p1 : Int32) (p2 : Int32) : Option (Int32 × zMn) :=
  if (fX7_isOneOfTwo p2) = (0 : Int32) then
  (fX7_can_j19 p1 p2 (-2 : Int32) S)
  else
  (fX7_can_j19 p1 p2 (fX7_outside p1 (1 : Int32) (7 : Int32)) S)
def fX7_more (S : zMn) (p1 : Int32) : Option (Int32 × zMn) :=
  if (fX7_outside p1 (1 : Int32) (300 : Int32)) = (0 : Int32) then
  ((fX5_isThere (mn_live S) p1).bind fun u3 =>
  if u3 = (0 : Int32) then
  ((fX5_comesNext (mn_live S) p1).bind fun u5 =>
  if u5 = (0 : Int32) then
  ((fX7_comesNextButOne S p1).bind fun u7 =>
  if u7.1 = (0 : Int32) then
  (some ((-9 : Int32), u7.2))
  else
  (some ((2 : Int32), u7.2)))
  else
  (some ((1 : Int32), S)))
  else
  (some ((0 : Int32), S)))
  else
  ((fX7_refuse S (fX7_outside p1 (1 : Int32) (300 : Int32))).bind fun u9 =>
  some (u9.1, u9.2))
def fX7_orders (S : zMn) : Option (Int32 × zMn) :=
  (fX3_of (mn_comings S) (mn_live S)).bind fun u1 =>
  some (u1.1, (mn_set_comings S u1.2))
def fX7_game (S : zMn) (p1 : Int32) : Option (Int32 × zMn) :=
  if (fX7_outside p1 (2 : Int32) (12 : Int32)) = (0 : Int32) then
  ((fX1_isWonByFirst (mn_builders S) p1).bind fun u3 =>
  if u3.1 = (0 : Int32) then
  (some ((0 : Int32), (mn_set_builders S u3.2)))
  else
  (some ((1 : Int32), (mn_set_builders S u3.2))))
  else
  ((fX7_refuse S (fX7_outside p1 (2 : Int32) (12 : Int32))).bind fun u5 =>
  some (u5.1, u5.2))
def fX7_row_j26 (v1 : Int32) (v2 : Int32) (S : zMn) : Option (Int32 × zMn) :=
  if v2 = (0 : Int32) then
  ((fX6_take_R (mn_told S) v1).bind fun u2 =>
  some (u2.1, (mn_set_told S u2.2)))
  else
  ((fX7_refuse S v2).bind fun u3 =>
  some (u3.1, u3.2))
def fX7_row (S : zMn) (p1 : Int32) : Option (Int32 × zMn) :=
  if (fX7_outside p1 (1 : Int32) (9999 : Int32)) = (0 : Int32) then
  (if (fX6_hasRoom_R (mn_told S)) = (0 : Int32) then
  (fX7_row_j26 p1 (-6 : Int32) S)
  else
  (fX7_row_j26 p1 (fX7_outside p1 (1 : Int32) (9999 : Int32)) S))
  else
  (fX7_row_j26 p1 (fX7_outside p1 (1 : Int32) (9999 : Int32)) S)
def fX7_judge (S : zMn) : Option (Int32 × zMn) :=
  (fX4_firstWrong (mn_told S)).bind fun u1 =>
  some (u1, (mn_set_told S (fX6_forget_R (mn_told S))))
def fX7_seeds_j19 (v1 : Int32) (v2 : Int32) (v3 : Int32) (t0 : Int32) (S : zMn) : Option (Int32 × zMn) :=
  if t0 = (0 : Int32) then
  ((fX7_sow (fX5_become (mn_mind S) (mn_live S)) v1 v2).bind fun u3 =>
  if v3 = (0 : Int32) then
  (some ((fX5_standingCount u3), (mn_set_mind S u3)))
  else
  ((fX5_greatest u3).bind fun u5 =>
  some (u5, (mn_set_mind S u3))))
  else
  ((fX7_refuse S t0).bind fun u7 =>
  some (u7.1, u7.2))
def fX7_seeds (S : zMn) (p1 : Int32) (p2 : Int32) (p3 : Int32) : Option (Int32 × zMn) :=
  if (fX7_isOneOfTwo p3) = (0 : Int32) then
  (fX7_seeds_j19 p1 p2 p3 (-2 : Int32) S)
  else
  (fX7_seeds_j19 p1 p2 p3 (fX7_outside p1 (1 : Int32) (40 : Int32)) S)
def fX7_image (S : zMn) : Option (Int32 × zMn) :=
  some ((fX5_cameCount (mn_live S)), (mn_set_isKept (mn_set_kept S (fX5_become (mn_kept S) (mn_live S))) (1 : Int32)))
def fX7_restore (S : zMn) : Option (Int32 × zMn) :=
  if (mn_isKept S) = (0 : Int32) then
  ((fX7_refuse S (-3 : Int32)).bind fun u4 =>
  some (u4.1, u4.2))
  else
  (some ((fX5_cameCount (fX5_become (mn_live S) (mn_kept S))), (mn_set_live S (fX5_become (mn_live S) (mn_kept S)))))
def fX7_count_j22 (S : zMn) (v1 : Int32) : Option (Int32) :=
  if v1 = (0 : Int32) then
  (some (fX5_cameCount (mn_live S)))
  else
  (if v1 = (1 : Int32) then
  (some (fX5_standingCount (mn_live S)))
  else
  (if v1 = (2 : Int32) then
  ((fX5_greatest (mn_live S)).bind fun u4 =>
  some u4)
  else
  (if v1 = (3 : Int32) then
  (some (fX5_sumsLaw (mn_live S)))
  else
  (if v1 = (4 : Int32) then
  (some (fX5_fallsLaw (mn_live S)))
  else
  (if v1 = (5 : Int32) then
  ((fX5_allEarned (mn_live S)).bind fun u7 =>
  some u7)
  else
  (if v1 = (6 : Int32) then
  (some (fX6_howMany_L (mn_letters S)))
  else
  (if v1 = (7 : Int32) then
  (some (fX6_howMany_R (mn_told S)))
  else
  (some (-9 : Int32)))))))))
def fX7_count (S : zMn) (p1 : Int32) : Option (Int32) :=
  if p1 ≤ (10 : Int32) then
  (fX7_count_j22 S p1)
  else
  (if (17 : Int32) ≤ p1 then
  (fX7_count_j22 S p1)
  else
  (ix 7 (p1 - (10 : Int32)) (some ((mn_refusals S) (p1 - (10 : Int32)).toNatClampNeg))))
def zStz : zSt := ((fun _ => 0), (fun _ => 0), (fun _ => 0), (fun _ => 0), (fun _ => 0), (fun _ => 0), (fun _ => 0), 0, 0, 0, 0)
def zLtz : zLt := ((fun _ => 0), 0, (fun _ => 0), 0, 0, 0, 0)
def zRwz : zRw := ((fun _ => 0), 0)
def zMdz : zMd := ((fun _ => 0), (fun _ => 0), (fun _ => 0), (fun _ => 0), (fun _ => 0), (fun _ => 0), (fun _ => 0), (fun _ => 0), (fun _ => 0), 0, 0, 0, (fun _ => 0), (fun _ => 0), (fun _ => 0), (fun _ => 0), 0, 0, 0, 0, (fun _ => 0), 0, 0, 0, (fun _ => 0), 0, 0, (fun _ => 0), (fun _ => 0), (fun _ => 0), (fun _ => 0), 0, 0)
def zGmz : zGm := (fun _ => 0)
def zOrz : zOr := (fun _ => 0)
def zChz : zCh := (fun _ => 0)
def zCh1 : zCh := upd (fun _ => 0) (0 : Int32).toNatClampNeg (1 : Int32)
