/-! what a setter leaves, and what it sets -/
theorem ac_number_kept (T : zMd) (v : Nat → Int32) : md_number (md_set_kept T v) = md_number T := rfl
theorem ac_kind_kept (T : zMd) (v : Nat → Int32) : md_kind (md_set_kept T v) = md_kind T := rfl
theorem ac_figure_kept (T : zMd) (v : Nat → Int32) : md_figure (md_set_kept T v) = md_figure T := rfl
theorem ac_one_kept (T : zMd) (v : Nat → Int32) : md_one (md_set_kept T v) = md_one T := rfl
theorem ac_other_kept (T : zMd) (v : Nat → Int32) : md_other (md_set_kept T v) = md_other T := rfl
theorem ac_stands_kept (T : zMd) (v : Nat → Int32) : md_stands (md_set_kept T v) = md_stands T := rfl
theorem ac_uses_kept (T : zMd) (v : Nat → Int32) : md_uses (md_set_kept T v) = md_uses T := rfl
theorem ac_earned_kept (T : zMd) (v : Nat → Int32) : md_earned (md_set_kept T v) = md_earned T := rfl
theorem ac_houses_kept (T : zMd) (v : Nat → Int32) : md_houses (md_set_kept T v) = md_houses T := rfl
theorem ac_sums_kept (T : zMd) (v : Nat → Int32) : md_sums (md_set_kept T v) = md_sums T := rfl
theorem ac_falls_kept (T : zMd) (v : Nat → Int32) : md_falls (md_set_kept T v) = md_falls T := rfl
theorem ac_kept_kept (T : zMd) (v : Nat → Int32) : md_kept (md_set_kept T v) = v := rfl
theorem ac_cursor_kept (T : zMd) (v : Nat → Int32) : md_cursor (md_set_kept T v) = md_cursor T := rfl
theorem ac_isKeeping_kept (T : zMd) (v : Nat → Int32) : md_isKeeping (md_set_kept T v) = md_isKeeping T := rfl
theorem ac_number_cursor (T : zMd) (v : Int32) : md_number (md_set_cursor T v) = md_number T := rfl
theorem ac_kind_cursor (T : zMd) (v : Int32) : md_kind (md_set_cursor T v) = md_kind T := rfl
theorem ac_figure_cursor (T : zMd) (v : Int32) : md_figure (md_set_cursor T v) = md_figure T := rfl
theorem ac_one_cursor (T : zMd) (v : Int32) : md_one (md_set_cursor T v) = md_one T := rfl
theorem ac_other_cursor (T : zMd) (v : Int32) : md_other (md_set_cursor T v) = md_other T := rfl
theorem ac_stands_cursor (T : zMd) (v : Int32) : md_stands (md_set_cursor T v) = md_stands T := rfl
theorem ac_uses_cursor (T : zMd) (v : Int32) : md_uses (md_set_cursor T v) = md_uses T := rfl
theorem ac_earned_cursor (T : zMd) (v : Int32) : md_earned (md_set_cursor T v) = md_earned T := rfl
theorem ac_houses_cursor (T : zMd) (v : Int32) : md_houses (md_set_cursor T v) = md_houses T := rfl
theorem ac_sums_cursor (T : zMd) (v : Int32) : md_sums (md_set_cursor T v) = md_sums T := rfl
theorem ac_falls_cursor (T : zMd) (v : Int32) : md_falls (md_set_cursor T v) = md_falls T := rfl
theorem ac_kept_cursor (T : zMd) (v : Int32) : md_kept (md_set_cursor T v) = md_kept T := rfl
theorem ac_cursor_cursor (T : zMd) (v : Int32) : md_cursor (md_set_cursor T v) = v := rfl
theorem ac_isKeeping_cursor (T : zMd) (v : Int32) : md_isKeeping (md_set_cursor T v) = md_isKeeping T := rfl
theorem ac_number_isKeeping (T : zMd) (v : Int32) : md_number (md_set_isKeeping T v) = md_number T := rfl
theorem ac_kind_isKeeping (T : zMd) (v : Int32) : md_kind (md_set_isKeeping T v) = md_kind T := rfl
theorem ac_figure_isKeeping (T : zMd) (v : Int32) : md_figure (md_set_isKeeping T v) = md_figure T := rfl
theorem ac_one_isKeeping (T : zMd) (v : Int32) : md_one (md_set_isKeeping T v) = md_one T := rfl
theorem ac_other_isKeeping (T : zMd) (v : Int32) : md_other (md_set_isKeeping T v) = md_other T := rfl
theorem ac_stands_isKeeping (T : zMd) (v : Int32) : md_stands (md_set_isKeeping T v) = md_stands T := rfl
theorem ac_uses_isKeeping (T : zMd) (v : Int32) : md_uses (md_set_isKeeping T v) = md_uses T := rfl
theorem ac_earned_isKeeping (T : zMd) (v : Int32) : md_earned (md_set_isKeeping T v) = md_earned T := rfl
theorem ac_houses_isKeeping (T : zMd) (v : Int32) : md_houses (md_set_isKeeping T v) = md_houses T := rfl
theorem ac_sums_isKeeping (T : zMd) (v : Int32) : md_sums (md_set_isKeeping T v) = md_sums T := rfl
theorem ac_falls_isKeeping (T : zMd) (v : Int32) : md_falls (md_set_isKeeping T v) = md_falls T := rfl
theorem ac_kept_isKeeping (T : zMd) (v : Int32) : md_kept (md_set_isKeeping T v) = md_kept T := rfl
theorem ac_cursor_isKeeping (T : zMd) (v : Int32) : md_cursor (md_set_isKeeping T v) = md_cursor T := rfl
theorem ac_isKeeping_isKeeping (T : zMd) (v : Int32) : md_isKeeping (md_set_isKeeping T v) = v := rfl
theorem ac_number_number (T : zMd) (v : Nat → Int32) : md_number (md_set_number T v) = v := rfl
theorem ac_kind_number (T : zMd) (v : Nat → Int32) : md_kind (md_set_number T v) = md_kind T := rfl
theorem ac_figure_number (T : zMd) (v : Nat → Int32) : md_figure (md_set_number T v) = md_figure T := rfl
theorem ac_one_number (T : zMd) (v : Nat → Int32) : md_one (md_set_number T v) = md_one T := rfl
theorem ac_other_number (T : zMd) (v : Nat → Int32) : md_other (md_set_number T v) = md_other T := rfl
theorem ac_stands_number (T : zMd) (v : Nat → Int32) : md_stands (md_set_number T v) = md_stands T := rfl
theorem ac_uses_number (T : zMd) (v : Nat → Int32) : md_uses (md_set_number T v) = md_uses T := rfl
theorem ac_earned_number (T : zMd) (v : Nat → Int32) : md_earned (md_set_number T v) = md_earned T := rfl
theorem ac_houses_number (T : zMd) (v : Nat → Int32) : md_houses (md_set_number T v) = md_houses T := rfl
theorem ac_sums_number (T : zMd) (v : Nat → Int32) : md_sums (md_set_number T v) = md_sums T := rfl
theorem ac_falls_number (T : zMd) (v : Nat → Int32) : md_falls (md_set_number T v) = md_falls T := rfl
theorem ac_kept_number (T : zMd) (v : Nat → Int32) : md_kept (md_set_number T v) = md_kept T := rfl
theorem ac_cursor_number (T : zMd) (v : Nat → Int32) : md_cursor (md_set_number T v) = md_cursor T := rfl
theorem ac_isKeeping_number (T : zMd) (v : Nat → Int32) : md_isKeeping (md_set_number T v) = md_isKeeping T := rfl
theorem ac_number_kind (T : zMd) (v : Nat → Int32) : md_number (md_set_kind T v) = md_number T := rfl
theorem ac_kind_kind (T : zMd) (v : Nat → Int32) : md_kind (md_set_kind T v) = v := rfl
theorem ac_figure_kind (T : zMd) (v : Nat → Int32) : md_figure (md_set_kind T v) = md_figure T := rfl
theorem ac_one_kind (T : zMd) (v : Nat → Int32) : md_one (md_set_kind T v) = md_one T := rfl
theorem ac_other_kind (T : zMd) (v : Nat → Int32) : md_other (md_set_kind T v) = md_other T := rfl
theorem ac_stands_kind (T : zMd) (v : Nat → Int32) : md_stands (md_set_kind T v) = md_stands T := rfl
theorem ac_uses_kind (T : zMd) (v : Nat → Int32) : md_uses (md_set_kind T v) = md_uses T := rfl
theorem ac_earned_kind (T : zMd) (v : Nat → Int32) : md_earned (md_set_kind T v) = md_earned T := rfl
theorem ac_houses_kind (T : zMd) (v : Nat → Int32) : md_houses (md_set_kind T v) = md_houses T := rfl
theorem ac_sums_kind (T : zMd) (v : Nat → Int32) : md_sums (md_set_kind T v) = md_sums T := rfl
theorem ac_falls_kind (T : zMd) (v : Nat → Int32) : md_falls (md_set_kind T v) = md_falls T := rfl
theorem ac_kept_kind (T : zMd) (v : Nat → Int32) : md_kept (md_set_kind T v) = md_kept T := rfl
theorem ac_cursor_kind (T : zMd) (v : Nat → Int32) : md_cursor (md_set_kind T v) = md_cursor T := rfl
theorem ac_isKeeping_kind (T : zMd) (v : Nat → Int32) : md_isKeeping (md_set_kind T v) = md_isKeeping T := rfl
theorem ac_number_figure (T : zMd) (v : Nat → Int32) : md_number (md_set_figure T v) = md_number T := rfl
theorem ac_kind_figure (T : zMd) (v : Nat → Int32) : md_kind (md_set_figure T v) = md_kind T := rfl
theorem ac_figure_figure (T : zMd) (v : Nat → Int32) : md_figure (md_set_figure T v) = v := rfl
theorem ac_one_figure (T : zMd) (v : Nat → Int32) : md_one (md_set_figure T v) = md_one T := rfl
theorem ac_other_figure (T : zMd) (v : Nat → Int32) : md_other (md_set_figure T v) = md_other T := rfl
theorem ac_stands_figure (T : zMd) (v : Nat → Int32) : md_stands (md_set_figure T v) = md_stands T := rfl
theorem ac_uses_figure (T : zMd) (v : Nat → Int32) : md_uses (md_set_figure T v) = md_uses T := rfl
theorem ac_earned_figure (T : zMd) (v : Nat → Int32) : md_earned (md_set_figure T v) = md_earned T := rfl
theorem ac_houses_figure (T : zMd) (v : Nat → Int32) : md_houses (md_set_figure T v) = md_houses T := rfl
theorem ac_sums_figure (T : zMd) (v : Nat → Int32) : md_sums (md_set_figure T v) = md_sums T := rfl
theorem ac_falls_figure (T : zMd) (v : Nat → Int32) : md_falls (md_set_figure T v) = md_falls T := rfl
theorem ac_kept_figure (T : zMd) (v : Nat → Int32) : md_kept (md_set_figure T v) = md_kept T := rfl
theorem ac_cursor_figure (T : zMd) (v : Nat → Int32) : md_cursor (md_set_figure T v) = md_cursor T := rfl
theorem ac_isKeeping_figure (T : zMd) (v : Nat → Int32) : md_isKeeping (md_set_figure T v) = md_isKeeping T := rfl
theorem ac_number_one (T : zMd) (v : Nat → Int32) : md_number (md_set_one T v) = md_number T := rfl
theorem ac_kind_one (T : zMd) (v : Nat → Int32) : md_kind (md_set_one T v) = md_kind T := rfl
theorem ac_figure_one (T : zMd) (v : Nat → Int32) : md_figure (md_set_one T v) = md_figure T := rfl
theorem ac_one_one (T : zMd) (v : Nat → Int32) : md_one (md_set_one T v) = v := rfl
theorem ac_other_one (T : zMd) (v : Nat → Int32) : md_other (md_set_one T v) = md_other T := rfl
theorem ac_stands_one (T : zMd) (v : Nat → Int32) : md_stands (md_set_one T v) = md_stands T := rfl
theorem ac_uses_one (T : zMd) (v : Nat → Int32) : md_uses (md_set_one T v) = md_uses T := rfl
theorem ac_earned_one (T : zMd) (v : Nat → Int32) : md_earned (md_set_one T v) = md_earned T := rfl
theorem ac_houses_one (T : zMd) (v : Nat → Int32) : md_houses (md_set_one T v) = md_houses T := rfl
theorem ac_sums_one (T : zMd) (v : Nat → Int32) : md_sums (md_set_one T v) = md_sums T := rfl
theorem ac_falls_one (T : zMd) (v : Nat → Int32) : md_falls (md_set_one T v) = md_falls T := rfl
theorem ac_kept_one (T : zMd) (v : Nat → Int32) : md_kept (md_set_one T v) = md_kept T := rfl
theorem ac_cursor_one (T : zMd) (v : Nat → Int32) : md_cursor (md_set_one T v) = md_cursor T := rfl
theorem ac_isKeeping_one (T : zMd) (v : Nat → Int32) : md_isKeeping (md_set_one T v) = md_isKeeping T := rfl
theorem ac_number_other (T : zMd) (v : Nat → Int32) : md_number (md_set_other T v) = md_number T := rfl
theorem ac_kind_other (T : zMd) (v : Nat → Int32) : md_kind (md_set_other T v) = md_kind T := rfl
theorem ac_figure_other (T : zMd) (v : Nat → Int32) : md_figure (md_set_other T v) = md_figure T := rfl
theorem ac_one_other (T : zMd) (v : Nat → Int32) : md_one (md_set_other T v) = md_one T := rfl
theorem ac_other_other (T : zMd) (v : Nat → Int32) : md_other (md_set_other T v) = v := rfl
theorem ac_stands_other (T : zMd) (v : Nat → Int32) : md_stands (md_set_other T v) = md_stands T := rfl
theorem ac_uses_other (T : zMd) (v : Nat → Int32) : md_uses (md_set_other T v) = md_uses T := rfl
theorem ac_earned_other (T : zMd) (v : Nat → Int32) : md_earned (md_set_other T v) = md_earned T := rfl
theorem ac_houses_other (T : zMd) (v : Nat → Int32) : md_houses (md_set_other T v) = md_houses T := rfl
theorem ac_sums_other (T : zMd) (v : Nat → Int32) : md_sums (md_set_other T v) = md_sums T := rfl
theorem ac_falls_other (T : zMd) (v : Nat → Int32) : md_falls (md_set_other T v) = md_falls T := rfl
theorem ac_kept_other (T : zMd) (v : Nat → Int32) : md_kept (md_set_other T v) = md_kept T := rfl
theorem ac_cursor_other (T : zMd) (v : Nat → Int32) : md_cursor (md_set_other T v) = md_cursor T := rfl
theorem ac_isKeeping_other (T : zMd) (v : Nat → Int32) : md_isKeeping (md_set_other T v) = md_isKeeping T := rfl
theorem ac_number_stands (T : zMd) (v : Nat → Int32) : md_number (md_set_stands T v) = md_number T := rfl
theorem ac_kind_stands (T : zMd) (v : Nat → Int32) : md_kind (md_set_stands T v) = md_kind T := rfl
theorem ac_figure_stands (T : zMd) (v : Nat → Int32) : md_figure (md_set_stands T v) = md_figure T := rfl
theorem ac_one_stands (T : zMd) (v : Nat → Int32) : md_one (md_set_stands T v) = md_one T := rfl
theorem ac_other_stands (T : zMd) (v : Nat → Int32) : md_other (md_set_stands T v) = md_other T := rfl
theorem ac_stands_stands (T : zMd) (v : Nat → Int32) : md_stands (md_set_stands T v) = v := rfl
theorem ac_uses_stands (T : zMd) (v : Nat → Int32) : md_uses (md_set_stands T v) = md_uses T := rfl
theorem ac_earned_stands (T : zMd) (v : Nat → Int32) : md_earned (md_set_stands T v) = md_earned T := rfl
theorem ac_houses_stands (T : zMd) (v : Nat → Int32) : md_houses (md_set_stands T v) = md_houses T := rfl
theorem ac_sums_stands (T : zMd) (v : Nat → Int32) : md_sums (md_set_stands T v) = md_sums T := rfl
theorem ac_falls_stands (T : zMd) (v : Nat → Int32) : md_falls (md_set_stands T v) = md_falls T := rfl
theorem ac_kept_stands (T : zMd) (v : Nat → Int32) : md_kept (md_set_stands T v) = md_kept T := rfl
theorem ac_cursor_stands (T : zMd) (v : Nat → Int32) : md_cursor (md_set_stands T v) = md_cursor T := rfl
theorem ac_isKeeping_stands (T : zMd) (v : Nat → Int32) : md_isKeeping (md_set_stands T v) = md_isKeeping T := rfl
theorem ac_number_uses (T : zMd) (v : Nat → Int32) : md_number (md_set_uses T v) = md_number T := rfl
theorem ac_kind_uses (T : zMd) (v : Nat → Int32) : md_kind (md_set_uses T v) = md_kind T := rfl
theorem ac_figure_uses (T : zMd) (v : Nat → Int32) : md_figure (md_set_uses T v) = md_figure T := rfl
theorem ac_one_uses (T : zMd) (v : Nat → Int32) : md_one (md_set_uses T v) = md_one T := rfl
theorem ac_other_uses (T : zMd) (v : Nat → Int32) : md_other (md_set_uses T v) = md_other T := rfl
theorem ac_stands_uses (T : zMd) (v : Nat → Int32) : md_stands (md_set_uses T v) = md_stands T := rfl
theorem ac_uses_uses (T : zMd) (v : Nat → Int32) : md_uses (md_set_uses T v) = v := rfl
theorem ac_earned_uses (T : zMd) (v : Nat → Int32) : md_earned (md_set_uses T v) = md_earned T := rfl
theorem ac_houses_uses (T : zMd) (v : Nat → Int32) : md_houses (md_set_uses T v) = md_houses T := rfl
theorem ac_sums_uses (T : zMd) (v : Nat → Int32) : md_sums (md_set_uses T v) = md_sums T := rfl
theorem ac_falls_uses (T : zMd) (v : Nat → Int32) : md_falls (md_set_uses T v) = md_falls T := rfl
theorem ac_kept_uses (T : zMd) (v : Nat → Int32) : md_kept (md_set_uses T v) = md_kept T := rfl
theorem ac_cursor_uses (T : zMd) (v : Nat → Int32) : md_cursor (md_set_uses T v) = md_cursor T := rfl
theorem ac_isKeeping_uses (T : zMd) (v : Nat → Int32) : md_isKeeping (md_set_uses T v) = md_isKeeping T := rfl
theorem ac_number_earned (T : zMd) (v : Nat → Int32) : md_number (md_set_earned T v) = md_number T := rfl
theorem ac_kind_earned (T : zMd) (v : Nat → Int32) : md_kind (md_set_earned T v) = md_kind T := rfl
theorem ac_figure_earned (T : zMd) (v : Nat → Int32) : md_figure (md_set_earned T v) = md_figure T := rfl
theorem ac_one_earned (T : zMd) (v : Nat → Int32) : md_one (md_set_earned T v) = md_one T := rfl
theorem ac_other_earned (T : zMd) (v : Nat → Int32) : md_other (md_set_earned T v) = md_other T := rfl
theorem ac_stands_earned (T : zMd) (v : Nat → Int32) : md_stands (md_set_earned T v) = md_stands T := rfl
theorem ac_uses_earned (T : zMd) (v : Nat → Int32) : md_uses (md_set_earned T v) = md_uses T := rfl
theorem ac_earned_earned (T : zMd) (v : Nat → Int32) : md_earned (md_set_earned T v) = v := rfl
theorem ac_houses_earned (T : zMd) (v : Nat → Int32) : md_houses (md_set_earned T v) = md_houses T := rfl
theorem ac_sums_earned (T : zMd) (v : Nat → Int32) : md_sums (md_set_earned T v) = md_sums T := rfl
theorem ac_falls_earned (T : zMd) (v : Nat → Int32) : md_falls (md_set_earned T v) = md_falls T := rfl
theorem ac_kept_earned (T : zMd) (v : Nat → Int32) : md_kept (md_set_earned T v) = md_kept T := rfl
theorem ac_cursor_earned (T : zMd) (v : Nat → Int32) : md_cursor (md_set_earned T v) = md_cursor T := rfl
theorem ac_isKeeping_earned (T : zMd) (v : Nat → Int32) : md_isKeeping (md_set_earned T v) = md_isKeeping T := rfl
theorem ac_number_houses (T : zMd) (v : Int32) : md_number (md_set_houses T v) = md_number T := rfl
theorem ac_kind_houses (T : zMd) (v : Int32) : md_kind (md_set_houses T v) = md_kind T := rfl
theorem ac_figure_houses (T : zMd) (v : Int32) : md_figure (md_set_houses T v) = md_figure T := rfl
theorem ac_one_houses (T : zMd) (v : Int32) : md_one (md_set_houses T v) = md_one T := rfl
theorem ac_other_houses (T : zMd) (v : Int32) : md_other (md_set_houses T v) = md_other T := rfl
theorem ac_stands_houses (T : zMd) (v : Int32) : md_stands (md_set_houses T v) = md_stands T := rfl
theorem ac_uses_houses (T : zMd) (v : Int32) : md_uses (md_set_houses T v) = md_uses T := rfl
theorem ac_earned_houses (T : zMd) (v : Int32) : md_earned (md_set_houses T v) = md_earned T := rfl
theorem ac_houses_houses (T : zMd) (v : Int32) : md_houses (md_set_houses T v) = v := rfl
theorem ac_sums_houses (T : zMd) (v : Int32) : md_sums (md_set_houses T v) = md_sums T := rfl
theorem ac_falls_houses (T : zMd) (v : Int32) : md_falls (md_set_houses T v) = md_falls T := rfl
theorem ac_kept_houses (T : zMd) (v : Int32) : md_kept (md_set_houses T v) = md_kept T := rfl
theorem ac_cursor_houses (T : zMd) (v : Int32) : md_cursor (md_set_houses T v) = md_cursor T := rfl
theorem ac_isKeeping_houses (T : zMd) (v : Int32) : md_isKeeping (md_set_houses T v) = md_isKeeping T := rfl
theorem ac_number_sums (T : zMd) (v : Int32) : md_number (md_set_sums T v) = md_number T := rfl
theorem ac_kind_sums (T : zMd) (v : Int32) : md_kind (md_set_sums T v) = md_kind T := rfl
theorem ac_figure_sums (T : zMd) (v : Int32) : md_figure (md_set_sums T v) = md_figure T := rfl
theorem ac_one_sums (T : zMd) (v : Int32) : md_one (md_set_sums T v) = md_one T := rfl
theorem ac_other_sums (T : zMd) (v : Int32) : md_other (md_set_sums T v) = md_other T := rfl
theorem ac_stands_sums (T : zMd) (v : Int32) : md_stands (md_set_sums T v) = md_stands T := rfl
theorem ac_uses_sums (T : zMd) (v : Int32) : md_uses (md_set_sums T v) = md_uses T := rfl
theorem ac_earned_sums (T : zMd) (v : Int32) : md_earned (md_set_sums T v) = md_earned T := rfl
theorem ac_houses_sums (T : zMd) (v : Int32) : md_houses (md_set_sums T v) = md_houses T := rfl
theorem ac_sums_sums (T : zMd) (v : Int32) : md_sums (md_set_sums T v) = v := rfl
theorem ac_falls_sums (T : zMd) (v : Int32) : md_falls (md_set_sums T v) = md_falls T := rfl
theorem ac_kept_sums (T : zMd) (v : Int32) : md_kept (md_set_sums T v) = md_kept T := rfl
theorem ac_cursor_sums (T : zMd) (v : Int32) : md_cursor (md_set_sums T v) = md_cursor T := rfl
theorem ac_isKeeping_sums (T : zMd) (v : Int32) : md_isKeeping (md_set_sums T v) = md_isKeeping T := rfl
theorem ac_number_falls (T : zMd) (v : Int32) : md_number (md_set_falls T v) = md_number T := rfl
theorem ac_kind_falls (T : zMd) (v : Int32) : md_kind (md_set_falls T v) = md_kind T := rfl
theorem ac_figure_falls (T : zMd) (v : Int32) : md_figure (md_set_falls T v) = md_figure T := rfl
theorem ac_one_falls (T : zMd) (v : Int32) : md_one (md_set_falls T v) = md_one T := rfl
theorem ac_other_falls (T : zMd) (v : Int32) : md_other (md_set_falls T v) = md_other T := rfl
theorem ac_stands_falls (T : zMd) (v : Int32) : md_stands (md_set_falls T v) = md_stands T := rfl
theorem ac_uses_falls (T : zMd) (v : Int32) : md_uses (md_set_falls T v) = md_uses T := rfl
theorem ac_earned_falls (T : zMd) (v : Int32) : md_earned (md_set_falls T v) = md_earned T := rfl
theorem ac_houses_falls (T : zMd) (v : Int32) : md_houses (md_set_falls T v) = md_houses T := rfl
theorem ac_sums_falls (T : zMd) (v : Int32) : md_sums (md_set_falls T v) = md_sums T := rfl
theorem ac_falls_falls (T : zMd) (v : Int32) : md_falls (md_set_falls T v) = v := rfl
theorem ac_kept_falls (T : zMd) (v : Int32) : md_kept (md_set_falls T v) = md_kept T := rfl
theorem ac_cursor_falls (T : zMd) (v : Int32) : md_cursor (md_set_falls T v) = md_cursor T := rfl
theorem ac_isKeeping_falls (T : zMd) (v : Int32) : md_isKeeping (md_set_falls T v) = md_isKeeping T := rfl
theorem af_kept (T : zMd) (v : Nat → Int32) : FR T (md_set_kept T v) := ⟨rfl, rfl, rfl, rfl, rfl, rfl, rfl, rfl, rfl, rfl, rfl, rfl⟩
theorem af_cursor (T : zMd) (v : Int32) : FR T (md_set_cursor T v) := ⟨rfl, rfl, rfl, rfl, rfl, rfl, rfl, rfl, rfl, rfl, rfl, rfl⟩
theorem af_isKeeping (T : zMd) (v : Int32) : FR T (md_set_isKeeping T v) := ⟨rfl, rfl, rfl, rfl, rfl, rfl, rfl, rfl, rfl, rfl, rfl, rfl⟩
theorem af_number (T : zMd) (v : Nat → Int32) : FR T (md_set_number T v) := ⟨rfl, rfl, rfl, rfl, rfl, rfl, rfl, rfl, rfl, rfl, rfl, rfl⟩
theorem af_kind (T : zMd) (v : Nat → Int32) : FR T (md_set_kind T v) := ⟨rfl, rfl, rfl, rfl, rfl, rfl, rfl, rfl, rfl, rfl, rfl, rfl⟩
theorem af_figure (T : zMd) (v : Nat → Int32) : FR T (md_set_figure T v) := ⟨rfl, rfl, rfl, rfl, rfl, rfl, rfl, rfl, rfl, rfl, rfl, rfl⟩
theorem af_one (T : zMd) (v : Nat → Int32) : FR T (md_set_one T v) := ⟨rfl, rfl, rfl, rfl, rfl, rfl, rfl, rfl, rfl, rfl, rfl, rfl⟩
theorem af_other (T : zMd) (v : Nat → Int32) : FR T (md_set_other T v) := ⟨rfl, rfl, rfl, rfl, rfl, rfl, rfl, rfl, rfl, rfl, rfl, rfl⟩
theorem af_stands (T : zMd) (v : Nat → Int32) : FR T (md_set_stands T v) := ⟨rfl, rfl, rfl, rfl, rfl, rfl, rfl, rfl, rfl, rfl, rfl, rfl⟩
theorem af_uses (T : zMd) (v : Nat → Int32) : FR T (md_set_uses T v) := ⟨rfl, rfl, rfl, rfl, rfl, rfl, rfl, rfl, rfl, rfl, rfl, rfl⟩
theorem af_earned (T : zMd) (v : Nat → Int32) : FR T (md_set_earned T v) := ⟨rfl, rfl, rfl, rfl, rfl, rfl, rfl, rfl, rfl, rfl, rfl, rfl⟩
theorem af_houses (T : zMd) (v : Int32) : FR T (md_set_houses T v) := ⟨rfl, rfl, rfl, rfl, rfl, rfl, rfl, rfl, rfl, rfl, rfl, rfl⟩
theorem af_sums (T : zMd) (v : Int32) : FR T (md_set_sums T v) := ⟨rfl, rfl, rfl, rfl, rfl, rfl, rfl, rfl, rfl, rfl, rfl, rfl⟩
theorem af_falls (T : zMd) (v : Int32) : FR T (md_set_falls T v) := ⟨rfl, rfl, rfl, rfl, rfl, rfl, rfl, rfl, rfl, rfl, rfl, rfl⟩
