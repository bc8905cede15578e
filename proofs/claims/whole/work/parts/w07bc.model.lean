theorem inX8_passes_number_X8 : ∀ w ∈ wsX80, w ∈ wsX8_passes := by decide +kernel
theorem mmX8_passes_number_0 : Cond.fieldLink RX8 188 "SumOfTwoThatStandModel" "cursor" "I" ∈ wsX8_passes := by decide +kernel
theorem mmX8_passes_number_1 : Cond.fieldLink RX8 184 "SumOfTwoThatStandModel" "isKeeping" "Z" ∈ wsX8_passes := by decide +kernel
theorem mmX8_passes_number_2 : Cond.fieldLink RX8 49 "SumOfTwoThatStandModel" "kept" "[I" ∈ wsX8_passes := by decide +kernel
theorem hdX8_passes : yX8_passes.cls ≠ "java/lang/invoke/MethodHandle" ∧ yX8_passes.cls ≠ "java/lang/invoke/VarHandle" ∧ (parseMethodDescriptor yX8_passes.desc).map (fun d => d.parameters.length) = some 1 := by decide +kernel
set_option maxHeartbeats 4000000 in
set_option maxRecDepth 100000 in
theorem kX8_passes_number (l : Launch) (K : zK) (a0 a1 a2 a3 a4 a5 a6 a7 a8 a9 a10 a11 a12 a13 a14 a15 a16 a17 a18 a19 : Nat) (S : zMd) (R : zMd) (hf : fX8_passes_number S = some R) : zC l yX8_passes wsX8_passes ({ frames := 0, cells := 0, slots := 0, locals := 0 } : Room) K [.ref a0, .ref a2] (cMd K a0 a1 a2 a3 a4 a5 a6 a7 a8 a9 a10 a11 a12 a13 a14 a15 a16 a17 a18 a19 S) none (cMd K a0 a1 a2 a3 a4 a5 a6 a7 a8 a9 a10 a11 a12 a13 a14 a15 a16 a17 a18 a19 R) := by
  refine zC_v (cc := cX8_passes) (maxL := 3) (by decide +kernel) rfl (Nat.le_of_ble_eq_true rfl) rfl rfl ?_
  intro p e s m below meth c Q A X hret ls hl hh
  have X : zX p m c cX8_passes 3 s ([.ref a0, .ref a2] : List Value).toArray wsX8_passes RX8 K A := X
  have hx := X.1.1
  have hb := X.1.2.1
  have hr2 : ∀ (pc : Nat) (ls : Array Slot) (H : Heap) (locs : List Loc) (S : zMd), some S = some R → decode cX8_passes pc = .ok (.return_, 1) → zW K A s H locs (cMd K a0 a1 a2 a3 a4 a5 a6 a7 a8 a9 a10 a11 a12 a13 a14 a15 a16 a17 a18 a19 S) → W p l e ({ frames := 0, cells := 0, slots := 0, locals := 0 } : Room) s m ([.ref a0, .ref a2] : List Value).toArray below meth c H locs 0 0 Q (F0 m pc ls []) := by
    intro pc ls H locs S h hd hh
    cases h; exact hret pc ls H locs hd hh
  have hl : lv_has ls 3 [(0, .ref a0), (1, .ref a2)] := hl
  have hJ42 : ∀ (v2 : Int32) (S : zMd) (k2 : (Int32) → (zMd) → Option (zMd)), (∀ (v2 : Int32) (S : zMd) (H : Heap) (locs : List Loc) (ls : Array Slot), k2 v2 S = some R → lv_has ls 3 [(0, .ref a0), (1, .ref a2), (2, .int v2)] → zW K A s H locs (cMd K a0 a1 a2 a3 a4 a5 a6 a7 a8 a9 a10 a11 a12 a13 a14 a15 a16 a17 a18 a19 S) → W p l e ({ frames := 0, cells := 0, slots := 0, locals := 0 } : Room) s m ([.ref a0, .ref a2] : List Value).toArray below meth c H locs 0 0 Q (F0 m 2 ls [])) → ∀ (H : Heap) (locs : List Loc) (ls : Array Slot), fX8_passes_number_j42 v2 S k2 = some R → lv_has ls 3 [(0, .ref a0), (1, .ref a2), (2, .int v2)] → zW K A s H locs (cMd K a0 a1 a2 a3 a4 a5 a6 a7 a8 a9 a10 a11 a12 a13 a14 a15 a16 a17 a18 a19 S) → W p l e ({ frames := 0, cells := 0, slots := 0, locals := 0 } : Room) s m ([.ref a0, .ref a2] : List Value).toArray below meth c H locs 0 0 Q (F0 m 42 ls []) := by
    intro v2 S k2 hk2 H locs ls hf hl hh
    unfold fX8_passes_number_j42 at hf
    refine lv_aload_n hx hb dX8_passes_42 rfl (lv_at hl 0 rfl) ?_
    refine lv_dup hx hb dX8_passes_43 rfl ?_
    refine zget (v := .int (md_cursor S)) (ref := "SumOfTwoThatStandModel") (C := RX8) (T := TX8) (N := 33) (index := 188) X hh inX8_passes_number_X8 0 rfl rfl 23 (by decide) mmX8_passes_number_0 rfl rfl dX8_passes_44 ?_
    refine lv_iconst (v := (1 : Int32)) hx hb dX8_passes_47 (by decide) ?_
    refine lv_iadd hx hb dX8_passes_48 ?_
    refine zput (v := .int ((md_cursor S) + (1 : Int32))) (ty := .int) (ref := "SumOfTwoThatStandModel") (C := RX8) (T := TX8) (N := 33) (index := 188) X hh inX8_passes_number_X8 tyX8 tyX8_ok nmX8 0 rfl rfl 23 (by decide) mmX8_passes_number_0 rfl rfl (by decide +kernel) rfl rfl (Nat.le_of_ble_eq_true rfl) dX8_passes_49 (fun H locs hh => ?_)
    have hh := hh.to (sMd_cursor K a0 a1 a2 a3 a4 a5 a6 a7 a8 a9 a10 a11 a12 a13 a14 a15 a16 a17 a18 a19 S ((md_cursor S) + (1 : Int32)))
    refine lv_iinc (v := (v2 + (1 : Int32))) (lv' := [(2, .int (v2 + (1 : Int32))), (0, .ref a0), (1, .ref a2)]) hx hb dX8_passes_52 hl (k := 2) rfl rfl (by decide) rfl (fun ls hl => ?_)
    refine lv_goto (tgt := 2) hx hb dX8_passes_55 (by decide) ?_
    exact hk2 (v2 + (1 : Int32)) (md_set_cursor S ((md_cursor S) + (1 : Int32))) H locs ls hf (lv_sub hl [1, 2, 0] rfl) hh
  have hL2 : ∀ (n : Nat) (v2 : Int32) (S : zMd), ∀ (H : Heap) (locs : List Loc) (ls : Array Slot), fX8_passes_number_l2 n v2 S = some R → lv_has ls 3 [(0, .ref a0), (1, .ref a2), (2, .int v2)] → zW K A s H locs (cMd K a0 a1 a2 a3 a4 a5 a6 a7 a8 a9 a10 a11 a12 a13 a14 a15 a16 a17 a18 a19 S) → W p l e ({ frames := 0, cells := 0, slots := 0, locals := 0 } : Room) s m ([.ref a0, .ref a2] : List Value).toArray below meth c H locs 0 0 Q (F0 m 2 ls []) := by
    intro n
    induction n with
    | zero =>
      intro v2 S H locs ls hf hl hh
      rw [fX8_passes_number_l2] at hf; cases hf
    | succ n ih =>
      intro v2 S H locs ls hf hl hh
      rw [fX8_passes_number_l2] at hf
      refine lv_iload_n hx hb dX8_passes_2 rfl (lv_at hl 2 rfl) ?_
      refine lv_aload_n hx hb dX8_passes_3 rfl (lv_at hl 1 rfl) ?_
      refine zalenI (v := (12 : Int32)) X hh 2 rfl rfl dX8_passes_4 ?_
      refine lv_icmp_ge (tgt := 58) hx hb dX8_passes_5 (by decide) (fun c1 => ?_) (fun c1 => ?_)
      · replace hf := (if_pos c1).symm.trans hf
        exact hr2 58 ls H locs S hf dX8_passes_58 hh
      · replace hf := (if_neg c1).symm.trans hf
        refine lv_aload_n hx hb dX8_passes_8 rfl (lv_at hl 0 rfl) ?_
        refine zget (v := .int (md_isKeeping S)) (ref := "SumOfTwoThatStandModel") (C := RX8) (T := TX8) (N := 33) (index := 184) X hh inX8_passes_number_X8 0 rfl rfl 22 (by decide) mmX8_passes_number_1 rfl rfl dX8_passes_9 ?_
        refine lv_if_eq (tgt := 30) hx hb dX8_passes_12 (by decide) (fun c2 => ?_) (fun c2 => ?_)
        · replace hf := (if_pos c2).symm.trans hf
          refine lv_aload_n hx hb dX8_passes_30 rfl (lv_at hl 1 rfl) ?_
          refine lv_iload_n hx hb dX8_passes_31 rfl (lv_at hl 2 rfl) ?_
          refine lv_aload_n hx hb dX8_passes_32 rfl (lv_at hl 0 rfl) ?_
          refine zget (v := .ref a14) (ref := "SumOfTwoThatStandModel") (C := RX8) (T := TX8) (N := 33) (index := 49) X hh inX8_passes_number_X8 0 rfl rfl 20 (by decide) mmX8_passes_number_2 rfl rfl dX8_passes_33 ?_
          refine lv_aload_n hx hb dX8_passes_36 rfl (lv_at hl 0 rfl) ?_
          refine zget (v := .int (md_cursor S)) (ref := "SumOfTwoThatStandModel") (C := RX8) (T := TX8) (N := 33) (index := 188) X hh inX8_passes_number_X8 0 rfl rfl 23 (by decide) mmX8_passes_number_0 rfl rfl dX8_passes_37 ?_
          obtain ⟨g3, hf⟩ := ob_ix hf
          refine ziald (f := (md_kept S)) X hh 14 rfl g3 dX8_passes_40 ?_
          obtain ⟨g4, hf⟩ := ob_ix hf
          refine ziast (f := (md_number S)) X hh 2 rfl g4 dX8_passes_41 (fun H locs hh => ?_)
          have hh := hh.to (sMd_number K a0 a1 a2 a3 a4 a5 a6 a7 a8 a9 a10 a11 a12 a13 a14 a15 a16 a17 a18 a19 S (upd (md_number S) v2.toNatClampNeg ((md_kept S) (md_cursor S).toNatClampNeg)))
          exact hJ42 v2 (md_set_number S (upd (md_number S) v2.toNatClampNeg ((md_kept S) (md_cursor S).toNatClampNeg))) (fX8_passes_number_l2  n) (ih) H locs ls hf (lv_sub hl [0, 1, 2] rfl) hh
        · replace hf := (if_neg c2).symm.trans hf
          refine lv_aload_n hx hb dX8_passes_15 rfl (lv_at hl 0 rfl) ?_
          refine zget (v := .ref a14) (ref := "SumOfTwoThatStandModel") (C := RX8) (T := TX8) (N := 33) (index := 49) X hh inX8_passes_number_X8 0 rfl rfl 20 (by decide) mmX8_passes_number_2 rfl rfl dX8_passes_16 ?_
          refine lv_aload_n hx hb dX8_passes_19 rfl (lv_at hl 0 rfl) ?_
          refine zget (v := .int (md_cursor S)) (ref := "SumOfTwoThatStandModel") (C := RX8) (T := TX8) (N := 33) (index := 188) X hh inX8_passes_number_X8 0 rfl rfl 23 (by decide) mmX8_passes_number_0 rfl rfl dX8_passes_20 ?_
          refine lv_aload_n hx hb dX8_passes_23 rfl (lv_at hl 1 rfl) ?_
          refine lv_iload_n hx hb dX8_passes_24 rfl (lv_at hl 2 rfl) ?_
          obtain ⟨g5, hf⟩ := ob_ix hf
          refine ziald (f := (md_number S)) X hh 2 rfl g5 dX8_passes_25 ?_
          obtain ⟨g6, hf⟩ := ob_ix hf
          refine ziast (f := (md_kept S)) X hh 14 rfl g6 dX8_passes_26 (fun H locs hh => ?_)
          have hh := hh.to (sMd_kept K a0 a1 a2 a3 a4 a5 a6 a7 a8 a9 a10 a11 a12 a13 a14 a15 a16 a17 a18 a19 S (upd (md_kept S) (md_cursor S).toNatClampNeg ((md_number S) v2.toNatClampNeg)))
          refine lv_goto (tgt := 42) hx hb dX8_passes_27 (by decide) ?_
          exact hJ42 v2 (md_set_kept S (upd (md_kept S) (md_cursor S).toNatClampNeg ((md_number S) v2.toNatClampNeg))) (fX8_passes_number_l2  n) (ih) H locs ls hf (lv_sub hl [0, 1, 2] rfl) hh
  unfold fX8_passes_number at hf
  refine (fun (hmain : ∀ (H : Heap) (locs : List Loc), zW K A s H locs (cMd K a0 a1 a2 a3 a4 a5 a6 a7 a8 a9 a10 a11 a12 a13 a14 a15 a16 a17 a18 a19 S) → W p l e ({ frames := 0, cells := 0, slots := 0, locals := 0 } : Room) s m ([.ref a0, .ref a2] : List Value).toArray below meth c H locs 0 0 Q (F0 m 0 ls [])) => hmain s.heap [] hh) (fun H locs hh => ?_)
  refine lv_iconst (v := (0 : Int32)) hx hb dX8_passes_0 (by decide) ?_
  refine lv_istore_n (lv' := [(2, .int (0 : Int32)), (0, .ref a0), (1, .ref a2)]) hx hb dX8_passes_1 rfl hl (by decide) rfl (fun ls hl => ?_)
  exact hL2 FU (0 : Int32) S H locs ls hf (lv_sub hl [1, 2, 0] rfl) hh
theorem inX8_passes_kind_X8 : ∀ w ∈ wsX80, w ∈ wsX8_passes := by decide +kernel
theorem mmX8_passes_kind_0 : Cond.fieldLink RX8 188 "SumOfTwoThatStandModel" "cursor" "I" ∈ wsX8_passes := by decide +kernel
theorem mmX8_passes_kind_1 : Cond.fieldLink RX8 184 "SumOfTwoThatStandModel" "isKeeping" "Z" ∈ wsX8_passes := by decide +kernel
theorem mmX8_passes_kind_2 : Cond.fieldLink RX8 49 "SumOfTwoThatStandModel" "kept" "[I" ∈ wsX8_passes := by decide +kernel
set_option maxHeartbeats 4000000 in
set_option maxRecDepth 100000 in
theorem kX8_passes_kind (l : Launch) (K : zK) (a0 a1 a2 a3 a4 a5 a6 a7 a8 a9 a10 a11 a12 a13 a14 a15 a16 a17 a18 a19 : Nat) (S : zMd) (R : zMd) (hf : fX8_passes_kind S = some R) : zC l yX8_passes wsX8_passes ({ frames := 0, cells := 0, slots := 0, locals := 0 } : Room) K [.ref a0, .ref a3] (cMd K a0 a1 a2 a3 a4 a5 a6 a7 a8 a9 a10 a11 a12 a13 a14 a15 a16 a17 a18 a19 S) none (cMd K a0 a1 a2 a3 a4 a5 a6 a7 a8 a9 a10 a11 a12 a13 a14 a15 a16 a17 a18 a19 R) := by
  refine zC_v (cc := cX8_passes) (maxL := 3) (by decide +kernel) rfl (Nat.le_of_ble_eq_true rfl) rfl rfl ?_
  intro p e s m below meth c Q A X hret ls hl hh
  have X : zX p m c cX8_passes 3 s ([.ref a0, .ref a3] : List Value).toArray wsX8_passes RX8 K A := X
  have hx := X.1.1
  have hb := X.1.2.1
  have hr2 : ∀ (pc : Nat) (ls : Array Slot) (H : Heap) (locs : List Loc) (S : zMd), some S = some R → decode cX8_passes pc = .ok (.return_, 1) → zW K A s H locs (cMd K a0 a1 a2 a3 a4 a5 a6 a7 a8 a9 a10 a11 a12 a13 a14 a15 a16 a17 a18 a19 S) → W p l e ({ frames := 0, cells := 0, slots := 0, locals := 0 } : Room) s m ([.ref a0, .ref a3] : List Value).toArray below meth c H locs 0 0 Q (F0 m pc ls []) := by
    intro pc ls H locs S h hd hh
    cases h; exact hret pc ls H locs hd hh
  have hl : lv_has ls 3 [(0, .ref a0), (1, .ref a3)] := hl
  have hJ42 : ∀ (v2 : Int32) (S : zMd) (k2 : (Int32) → (zMd) → Option (zMd)), (∀ (v2 : Int32) (S : zMd) (H : Heap) (locs : List Loc) (ls : Array Slot), k2 v2 S = some R → lv_has ls 3 [(0, .ref a0), (1, .ref a3), (2, .int v2)] → zW K A s H locs (cMd K a0 a1 a2 a3 a4 a5 a6 a7 a8 a9 a10 a11 a12 a13 a14 a15 a16 a17 a18 a19 S) → W p l e ({ frames := 0, cells := 0, slots := 0, locals := 0 } : Room) s m ([.ref a0, .ref a3] : List Value).toArray below meth c H locs 0 0 Q (F0 m 2 ls [])) → ∀ (H : Heap) (locs : List Loc) (ls : Array Slot), fX8_passes_kind_j42 v2 S k2 = some R → lv_has ls 3 [(0, .ref a0), (1, .ref a3), (2, .int v2)] → zW K A s H locs (cMd K a0 a1 a2 a3 a4 a5 a6 a7 a8 a9 a10 a11 a12 a13 a14 a15 a16 a17 a18 a19 S) → W p l e ({ frames := 0, cells := 0, slots := 0, locals := 0 } : Room) s m ([.ref a0, .ref a3] : List Value).toArray below meth c H locs 0 0 Q (F0 m 42 ls []) := by
    intro v2 S k2 hk2 H locs ls hf hl hh
    unfold fX8_passes_kind_j42 at hf
    refine lv_aload_n hx hb dX8_passes_42 rfl (lv_at hl 0 rfl) ?_
    refine lv_dup hx hb dX8_passes_43 rfl ?_
    refine zget (v := .int (md_cursor S)) (ref := "SumOfTwoThatStandModel") (C := RX8) (T := TX8) (N := 33) (index := 188) X hh inX8_passes_kind_X8 0 rfl rfl 23 (by decide) mmX8_passes_kind_0 rfl rfl dX8_passes_44 ?_
    refine lv_iconst (v := (1 : Int32)) hx hb dX8_passes_47 (by decide) ?_
    refine lv_iadd hx hb dX8_passes_48 ?_
    refine zput (v := .int ((md_cursor S) + (1 : Int32))) (ty := .int) (ref := "SumOfTwoThatStandModel") (C := RX8) (T := TX8) (N := 33) (index := 188) X hh inX8_passes_kind_X8 tyX8 tyX8_ok nmX8 0 rfl rfl 23 (by decide) mmX8_passes_kind_0 rfl rfl (by decide +kernel) rfl rfl (Nat.le_of_ble_eq_true rfl) dX8_passes_49 (fun H locs hh => ?_)
    have hh := hh.to (sMd_cursor K a0 a1 a2 a3 a4 a5 a6 a7 a8 a9 a10 a11 a12 a13 a14 a15 a16 a17 a18 a19 S ((md_cursor S) + (1 : Int32)))
    refine lv_iinc (v := (v2 + (1 : Int32))) (lv' := [(2, .int (v2 + (1 : Int32))), (0, .ref a0), (1, .ref a3)]) hx hb dX8_passes_52 hl (k := 2) rfl rfl (by decide) rfl (fun ls hl => ?_)
    refine lv_goto (tgt := 2) hx hb dX8_passes_55 (by decide) ?_
    exact hk2 (v2 + (1 : Int32)) (md_set_cursor S ((md_cursor S) + (1 : Int32))) H locs ls hf (lv_sub hl [1, 2, 0] rfl) hh
  have hL2 : ∀ (n : Nat) (v2 : Int32) (S : zMd), ∀ (H : Heap) (locs : List Loc) (ls : Array Slot), fX8_passes_kind_l2 n v2 S = some R → lv_has ls 3 [(0, .ref a0), (1, .ref a3), (2, .int v2)] → zW K A s H locs (cMd K a0 a1 a2 a3 a4 a5 a6 a7 a8 a9 a10 a11 a12 a13 a14 a15 a16 a17 a18 a19 S) → W p l e ({ frames := 0, cells := 0, slots := 0, locals := 0 } : Room) s m ([.ref a0, .ref a3] : List Value).toArray below meth c H locs 0 0 Q (F0 m 2 ls []) := by
    intro n
    induction n with
    | zero =>
      intro v2 S H locs ls hf hl hh
      rw [fX8_passes_kind_l2] at hf; cases hf
    | succ n ih =>
      intro v2 S H locs ls hf hl hh
      rw [fX8_passes_kind_l2] at hf
      refine lv_iload_n hx hb dX8_passes_2 rfl (lv_at hl 2 rfl) ?_
      refine lv_aload_n hx hb dX8_passes_3 rfl (lv_at hl 1 rfl) ?_
      refine zalenI (v := (12 : Int32)) X hh 3 rfl rfl dX8_passes_4 ?_
      refine lv_icmp_ge (tgt := 58) hx hb dX8_passes_5 (by decide) (fun c1 => ?_) (fun c1 => ?_)
      · replace hf := (if_pos c1).symm.trans hf
        exact hr2 58 ls H locs S hf dX8_passes_58 hh
      · replace hf := (if_neg c1).symm.trans hf
        refine lv_aload_n hx hb dX8_passes_8 rfl (lv_at hl 0 rfl) ?_
        refine zget (v := .int (md_isKeeping S)) (ref := "SumOfTwoThatStandModel") (C := RX8) (T := TX8) (N := 33) (index := 184) X hh inX8_passes_kind_X8 0 rfl rfl 22 (by decide) mmX8_passes_kind_1 rfl rfl dX8_passes_9 ?_
        refine lv_if_eq (tgt := 30) hx hb dX8_passes_12 (by decide) (fun c2 => ?_) (fun c2 => ?_)
        · replace hf := (if_pos c2).symm.trans hf
          refine lv_aload_n hx hb dX8_passes_30 rfl (lv_at hl 1 rfl) ?_
          refine lv_iload_n hx hb dX8_passes_31 rfl (lv_at hl 2 rfl) ?_
          refine lv_aload_n hx hb dX8_passes_32 rfl (lv_at hl 0 rfl) ?_
          refine zget (v := .ref a14) (ref := "SumOfTwoThatStandModel") (C := RX8) (T := TX8) (N := 33) (index := 49) X hh inX8_passes_kind_X8 0 rfl rfl 20 (by decide) mmX8_passes_kind_2 rfl rfl dX8_passes_33 ?_
          refine lv_aload_n hx hb dX8_passes_36 rfl (lv_at hl 0 rfl) ?_
          refine zget (v := .int (md_cursor S)) (ref := "SumOfTwoThatStandModel") (C := RX8) (T := TX8) (N := 33) (index := 188) X hh inX8_passes_kind_X8 0 rfl rfl 23 (by decide) mmX8_passes_kind_0 rfl rfl dX8_passes_37 ?_
          obtain ⟨g3, hf⟩ := ob_ix hf
          refine ziald (f := (md_kept S)) X hh 14 rfl g3 dX8_passes_40 ?_
          obtain ⟨g4, hf⟩ := ob_ix hf
          refine ziast (f := (md_kind S)) X hh 3 rfl g4 dX8_passes_41 (fun H locs hh => ?_)
          have hh := hh.to (sMd_kind K a0 a1 a2 a3 a4 a5 a6 a7 a8 a9 a10 a11 a12 a13 a14 a15 a16 a17 a18 a19 S (upd (md_kind S) v2.toNatClampNeg ((md_kept S) (md_cursor S).toNatClampNeg)))
          exact hJ42 v2 (md_set_kind S (upd (md_kind S) v2.toNatClampNeg ((md_kept S) (md_cursor S).toNatClampNeg))) (fX8_passes_kind_l2  n) (ih) H locs ls hf (lv_sub hl [0, 1, 2] rfl) hh
        · replace hf := (if_neg c2).symm.trans hf
          refine lv_aload_n hx hb dX8_passes_15 rfl (lv_at hl 0 rfl) ?_
          refine zget (v := .ref a14) (ref := "SumOfTwoThatStandModel") (C := RX8) (T := TX8) (N := 33) (index := 49) X hh inX8_passes_kind_X8 0 rfl rfl 20 (by decide) mmX8_passes_kind_2 rfl rfl dX8_passes_16 ?_
          refine lv_aload_n hx hb dX8_passes_19 rfl (lv_at hl 0 rfl) ?_
          refine zget (v := .int (md_cursor S)) (ref := "SumOfTwoThatStandModel") (C := RX8) (T := TX8) (N := 33) (index := 188) X hh inX8_passes_kind_X8 0 rfl rfl 23 (by decide) mmX8_passes_kind_0 rfl rfl dX8_passes_20 ?_
          refine lv_aload_n hx hb dX8_passes_23 rfl (lv_at hl 1 rfl) ?_
          refine lv_iload_n hx hb dX8_passes_24 rfl (lv_at hl 2 rfl) ?_
          obtain ⟨g5, hf⟩ := ob_ix hf
          refine ziald (f := (md_kind S)) X hh 3 rfl g5 dX8_passes_25 ?_
          obtain ⟨g6, hf⟩ := ob_ix hf
          refine ziast (f := (md_kept S)) X hh 14 rfl g6 dX8_passes_26 (fun H locs hh => ?_)
          have hh := hh.to (sMd_kept K a0 a1 a2 a3 a4 a5 a6 a7 a8 a9 a10 a11 a12 a13 a14 a15 a16 a17 a18 a19 S (upd (md_kept S) (md_cursor S).toNatClampNeg ((md_kind S) v2.toNatClampNeg)))
          refine lv_goto (tgt := 42) hx hb dX8_passes_27 (by decide) ?_
          exact hJ42 v2 (md_set_kept S (upd (md_kept S) (md_cursor S).toNatClampNeg ((md_kind S) v2.toNatClampNeg))) (fX8_passes_kind_l2  n) (ih) H locs ls hf (lv_sub hl [0, 1, 2] rfl) hh
  unfold fX8_passes_kind at hf
  refine (fun (hmain : ∀ (H : Heap) (locs : List Loc), zW K A s H locs (cMd K a0 a1 a2 a3 a4 a5 a6 a7 a8 a9 a10 a11 a12 a13 a14 a15 a16 a17 a18 a19 S) → W p l e ({ frames := 0, cells := 0, slots := 0, locals := 0 } : Room) s m ([.ref a0, .ref a3] : List Value).toArray below meth c H locs 0 0 Q (F0 m 0 ls [])) => hmain s.heap [] hh) (fun H locs hh => ?_)
  refine lv_iconst (v := (0 : Int32)) hx hb dX8_passes_0 (by decide) ?_
  refine lv_istore_n (lv' := [(2, .int (0 : Int32)), (0, .ref a0), (1, .ref a3)]) hx hb dX8_passes_1 rfl hl (by decide) rfl (fun ls hl => ?_)
  exact hL2 FU (0 : Int32) S H locs ls hf (lv_sub hl [1, 2, 0] rfl) hh
theorem inX8_passes_figure_X8 : ∀ w ∈ wsX80, w ∈ wsX8_passes := by decide +kernel
theorem mmX8_passes_figure_0 : Cond.fieldLink RX8 188 "SumOfTwoThatStandModel" "cursor" "I" ∈ wsX8_passes := by decide +kernel
theorem mmX8_passes_figure_1 : Cond.fieldLink RX8 184 "SumOfTwoThatStandModel" "isKeeping" "Z" ∈ wsX8_passes := by decide +kernel
theorem mmX8_passes_figure_2 : Cond.fieldLink RX8 49 "SumOfTwoThatStandModel" "kept" "[I" ∈ wsX8_passes := by decide +kernel
set_option maxHeartbeats 4000000 in
set_option maxRecDepth 100000 in
theorem kX8_passes_figure (l : Launch) (K : zK) (a0 a1 a2 a3 a4 a5 a6 a7 a8 a9 a10 a11 a12 a13 a14 a15 a16 a17 a18 a19 : Nat) (S : zMd) (R : zMd) (hf : fX8_passes_figure S = some R) : zC l yX8_passes wsX8_passes ({ frames := 0, cells := 0, slots := 0, locals := 0 } : Room) K [.ref a0, .ref a4] (cMd K a0 a1 a2 a3 a4 a5 a6 a7 a8 a9 a10 a11 a12 a13 a14 a15 a16 a17 a18 a19 S) none (cMd K a0 a1 a2 a3 a4 a5 a6 a7 a8 a9 a10 a11 a12 a13 a14 a15 a16 a17 a18 a19 R) := by
  refine zC_v (cc := cX8_passes) (maxL := 3) (by decide +kernel) rfl (Nat.le_of_ble_eq_true rfl) rfl rfl ?_
  intro p e s m below meth c Q A X hret ls hl hh
  have X : zX p m c cX8_passes 3 s ([.ref a0, .ref a4] : List Value).toArray wsX8_passes RX8 K A := X
  have hx := X.1.1
  have hb := X.1.2.1
  have hr2 : ∀ (pc : Nat) (ls : Array Slot) (H : Heap) (locs : List Loc) (S : zMd), some S = some R → decode cX8_passes pc = .ok (.return_, 1) → zW K A s H locs (cMd K a0 a1 a2 a3 a4 a5 a6 a7 a8 a9 a10 a11 a12 a13 a14 a15 a16 a17 a18 a19 S) → W p l e ({ frames := 0, cells := 0, slots := 0, locals := 0 } : Room) s m ([.ref a0, .ref a4] : List Value).toArray below meth c H locs 0 0 Q (F0 m pc ls []) := by
    intro pc ls H locs S h hd hh
    cases h; exact hret pc ls H locs hd hh
  have hl : lv_has ls 3 [(0, .ref a0), (1, .ref a4)] := hl
  have hJ42 : ∀ (v2 : Int32) (S : zMd) (k2 : (Int32) → (zMd) → Option (zMd)), (∀ (v2 : Int32) (S : zMd) (H : Heap) (locs : List Loc) (ls : Array Slot), k2 v2 S = some R → lv_has ls 3 [(0, .ref a0), (1, .ref a4), (2, .int v2)] → zW K A s H locs (cMd K a0 a1 a2 a3 a4 a5 a6 a7 a8 a9 a10 a11 a12 a13 a14 a15 a16 a17 a18 a19 S) → W p l e ({ frames := 0, cells := 0, slots := 0, locals := 0 } : Room) s m ([.ref a0, .ref a4] : List Value).toArray below meth c H locs 0 0 Q (F0 m 2 ls [])) → ∀ (H : Heap) (locs : List Loc) (ls : Array Slot), fX8_passes_figure_j42 v2 S k2 = some R → lv_has ls 3 [(0, .ref a0), (1, .ref a4), (2, .int v2)] → zW K A s H locs (cMd K a0 a1 a2 a3 a4 a5 a6 a7 a8 a9 a10 a11 a12 a13 a14 a15 a16 a17 a18 a19 S) → W p l e ({ frames := 0, cells := 0, slots := 0, locals := 0 } : Room) s m ([.ref a0, .ref a4] : List Value).toArray below meth c H locs 0 0 Q (F0 m 42 ls []) := by
    intro v2 S k2 hk2 H locs ls hf hl hh
    unfold fX8_passes_figure_j42 at hf
    refine lv_aload_n hx hb dX8_passes_42 rfl (lv_at hl 0 rfl) ?_
    refine lv_dup hx hb dX8_passes_43 rfl ?_
    refine zget (v := .int (md_cursor S)) (ref := "SumOfTwoThatStandModel") (C := RX8) (T := TX8) (N := 33) (index := 188) X hh inX8_passes_figure_X8 0 rfl rfl 23 (by decide) mmX8_passes_figure_0 rfl rfl dX8_passes_44 ?_
    refine lv_iconst (v := (1 : Int32)) hx hb dX8_passes_47 (by decide) ?_
    refine lv_iadd hx hb dX8_passes_48 ?_
    refine zput (v := .int ((md_cursor S) + (1 : Int32))) (ty := .int) (ref := "SumOfTwoThatStandModel") (C := RX8) (T := TX8) (N := 33) (index := 188) X hh inX8_passes_figure_X8 tyX8 tyX8_ok nmX8 0 rfl rfl 23 (by decide) mmX8_passes_figure_0 rfl rfl (by decide +kernel) rfl rfl (Nat.le_of_ble_eq_true rfl) dX8_passes_49 (fun H locs hh => ?_)
    have hh := hh.to (sMd_cursor K a0 a1 a2 a3 a4 a5 a6 a7 a8 a9 a10 a11 a12 a13 a14 a15 a16 a17 a18 a19 S ((md_cursor S) + (1 : Int32)))
    refine lv_iinc (v := (v2 + (1 : Int32))) (lv' := [(2, .int (v2 + (1 : Int32))), (0, .ref a0), (1, .ref a4)]) hx hb dX8_passes_52 hl (k := 2) rfl rfl (by decide) rfl (fun ls hl => ?_)
    refine lv_goto (tgt := 2) hx hb dX8_passes_55 (by decide) ?_
    exact hk2 (v2 + (1 : Int32)) (md_set_cursor S ((md_cursor S) + (1 : Int32))) H locs ls hf (lv_sub hl [1, 2, 0] rfl) hh
  have hL2 : ∀ (n : Nat) (v2 : Int32) (S : zMd), ∀ (H : Heap) (locs : List Loc) (ls : Array Slot), fX8_passes_figure_l2 n v2 S = some R → lv_has ls 3 [(0, .ref a0), (1, .ref a4), (2, .int v2)] → zW K A s H locs (cMd K a0 a1 a2 a3 a4 a5 a6 a7 a8 a9 a10 a11 a12 a13 a14 a15 a16 a17 a18 a19 S) → W p l e ({ frames := 0, cells := 0, slots := 0, locals := 0 } : Room) s m ([.ref a0, .ref a4] : List Value).toArray below meth c H locs 0 0 Q (F0 m 2 ls []) := by
    intro n
    induction n with
    | zero =>
      intro v2 S H locs ls hf hl hh
      rw [fX8_passes_figure_l2] at hf; cases hf
    | succ n ih =>
      intro v2 S H locs ls hf hl hh
      rw [fX8_passes_figure_l2] at hf
      refine lv_iload_n hx hb dX8_passes_2 rfl (lv_at hl 2 rfl) ?_
      refine lv_aload_n hx hb dX8_passes_3 rfl (lv_at hl 1 rfl) ?_
      refine zalenI (v := (12 : Int32)) X hh 4 rfl rfl dX8_passes_4 ?_
      refine lv_icmp_ge (tgt := 58) hx hb dX8_passes_5 (by decide) (fun c1 => ?_) (fun c1 => ?_)
      · replace hf := (if_pos c1).symm.trans hf
        exact hr2 58 ls H locs S hf dX8_passes_58 hh
      · replace hf := (if_neg c1).symm.trans hf
        refine lv_aload_n hx hb dX8_passes_8 rfl (lv_at hl 0 rfl) ?_
        refine zget (v := .int (md_isKeeping S)) (ref := "SumOfTwoThatStandModel") (C := RX8) (T := TX8) (N := 33) (index := 184) X hh inX8_passes_figure_X8 0 rfl rfl 22 (by decide) mmX8_passes_figure_1 rfl rfl dX8_passes_9 ?_
        refine lv_if_eq (tgt := 30) hx hb dX8_passes_12 (by decide) (fun c2 => ?_) (fun c2 => ?_)
        · replace hf := (if_pos c2).symm.trans hf
          refine lv_aload_n hx hb dX8_passes_30 rfl (lv_at hl 1 rfl) ?_
          refine lv_iload_n hx hb dX8_passes_31 rfl (lv_at hl 2 rfl) ?_
          refine lv_aload_n hx hb dX8_passes_32 rfl (lv_at hl 0 rfl) ?_
          refine zget (v := .ref a14) (ref := "SumOfTwoThatStandModel") (C := RX8) (T := TX8) (N := 33) (index := 49) X hh inX8_passes_figure_X8 0 rfl rfl 20 (by decide) mmX8_passes_figure_2 rfl rfl dX8_passes_33 ?_
          refine lv_aload_n hx hb dX8_passes_36 rfl (lv_at hl 0 rfl) ?_
          refine zget (v := .int (md_cursor S)) (ref := "SumOfTwoThatStandModel") (C := RX8) (T := TX8) (N := 33) (index := 188) X hh inX8_passes_figure_X8 0 rfl rfl 23 (by decide) mmX8_passes_figure_0 rfl rfl dX8_passes_37 ?_
          obtain ⟨g3, hf⟩ := ob_ix hf
          refine ziald (f := (md_kept S)) X hh 14 rfl g3 dX8_passes_40 ?_
          obtain ⟨g4, hf⟩ := ob_ix hf
          refine ziast (f := (md_figure S)) X hh 4 rfl g4 dX8_passes_41 (fun H locs hh => ?_)
          have hh := hh.to (sMd_figure K a0 a1 a2 a3 a4 a5 a6 a7 a8 a9 a10 a11 a12 a13 a14 a15 a16 a17 a18 a19 S (upd (md_figure S) v2.toNatClampNeg ((md_kept S) (md_cursor S).toNatClampNeg)))
          exact hJ42 v2 (md_set_figure S (upd (md_figure S) v2.toNatClampNeg ((md_kept S) (md_cursor S).toNatClampNeg))) (fX8_passes_figure_l2  n) (ih) H locs ls hf (lv_sub hl [0, 1, 2] rfl) hh
        · replace hf := (if_neg c2).symm.trans hf
          refine lv_aload_n hx hb dX8_passes_15 rfl (lv_at hl 0 rfl) ?_
          refine zget (v := .ref a14) (ref := "SumOfTwoThatStandModel") (C := RX8) (T := TX8) (N := 33) (index := 49) X hh inX8_passes_figure_X8 0 rfl rfl 20 (by decide) mmX8_passes_figure_2 rfl rfl dX8_passes_16 ?_
          refine lv_aload_n hx hb dX8_passes_19 rfl (lv_at hl 0 rfl) ?_
          refine zget (v := .int (md_cursor S)) (ref := "SumOfTwoThatStandModel") (C := RX8) (T := TX8) (N := 33) (index := 188) X hh inX8_passes_figure_X8 0 rfl rfl 23 (by decide) mmX8_passes_figure_0 rfl rfl dX8_passes_20 ?_
          refine lv_aload_n hx hb dX8_passes_23 rfl (lv_at hl 1 rfl) ?_
          refine lv_iload_n hx hb dX8_passes_24 rfl (lv_at hl 2 rfl) ?_
          obtain ⟨g5, hf⟩ := ob_ix hf
          refine ziald (f := (md_figure S)) X hh 4 rfl g5 dX8_passes_25 ?_
          obtain ⟨g6, hf⟩ := ob_ix hf
          refine ziast (f := (md_kept S)) X hh 14 rfl g6 dX8_passes_26 (fun H locs hh => ?_)
          have hh := hh.to (sMd_kept K a0 a1 a2 a3 a4 a5 a6 a7 a8 a9 a10 a11 a12 a13 a14 a15 a16 a17 a18 a19 S (upd (md_kept S) (md_cursor S).toNatClampNeg ((md_figure S) v2.toNatClampNeg)))
          refine lv_goto (tgt := 42) hx hb dX8_passes_27 (by decide) ?_
          exact hJ42 v2 (md_set_kept S (upd (md_kept S) (md_cursor S).toNatClampNeg ((md_figure S) v2.toNatClampNeg))) (fX8_passes_figure_l2  n) (ih) H locs ls hf (lv_sub hl [0, 1, 2] rfl) hh
  unfold fX8_passes_figure at hf
  refine (fun (hmain : ∀ (H : Heap) (locs : List Loc), zW K A s H locs (cMd K a0 a1 a2 a3 a4 a5 a6 a7 a8 a9 a10 a11 a12 a13 a14 a15 a16 a17 a18 a19 S) → W p l e ({ frames := 0, cells := 0, slots := 0, locals := 0 } : Room) s m ([.ref a0, .ref a4] : List Value).toArray below meth c H locs 0 0 Q (F0 m 0 ls [])) => hmain s.heap [] hh) (fun H locs hh => ?_)
  refine lv_iconst (v := (0 : Int32)) hx hb dX8_passes_0 (by decide) ?_
  refine lv_istore_n (lv' := [(2, .int (0 : Int32)), (0, .ref a0), (1, .ref a4)]) hx hb dX8_passes_1 rfl hl (by decide) rfl (fun ls hl => ?_)
  exact hL2 FU (0 : Int32) S H locs ls hf (lv_sub hl [1, 2, 0] rfl) hh
theorem inX8_passes_one_X8 : ∀ w ∈ wsX80, w ∈ wsX8_passes := by decide +kernel
theorem mmX8_passes_one_0 : Cond.fieldLink RX8 188 "SumOfTwoThatStandModel" "cursor" "I" ∈ wsX8_passes := by decide +kernel
theorem mmX8_passes_one_1 : Cond.fieldLink RX8 184 "SumOfTwoThatStandModel" "isKeeping" "Z" ∈ wsX8_passes := by decide +kernel
theorem mmX8_passes_one_2 : Cond.fieldLink RX8 49 "SumOfTwoThatStandModel" "kept" "[I" ∈ wsX8_passes := by decide +kernel
set_option maxHeartbeats 4000000 in
set_option maxRecDepth 100000 in
theorem kX8_passes_one (l : Launch) (K : zK) (a0 a1 a2 a3 a4 a5 a6 a7 a8 a9 a10 a11 a12 a13 a14 a15 a16 a17 a18 a19 : Nat) (S : zMd) (R : zMd) (hf : fX8_passes_one S = some R) : zC l yX8_passes wsX8_passes ({ frames := 0, cells := 0, slots := 0, locals := 0 } : Room) K [.ref a0, .ref a5] (cMd K a0 a1 a2 a3 a4 a5 a6 a7 a8 a9 a10 a11 a12 a13 a14 a15 a16 a17 a18 a19 S) none (cMd K a0 a1 a2 a3 a4 a5 a6 a7 a8 a9 a10 a11 a12 a13 a14 a15 a16 a17 a18 a19 R) := by
  refine zC_v (cc := cX8_passes) (maxL := 3) (by decide +kernel) rfl (Nat.le_of_ble_eq_true rfl) rfl rfl ?_
  intro p e s m below meth c Q A X hret ls hl hh
  have X : zX p m c cX8_passes 3 s ([.ref a0, .ref a5] : List Value).toArray wsX8_passes RX8 K A := X
  have hx := X.1.1
  have hb := X.1.2.1
  have hr2 : ∀ (pc : Nat) (ls : Array Slot) (H : Heap) (locs : List Loc) (S : zMd), some S = some R → decode cX8_passes pc = .ok (.return_, 1) → zW K A s H locs (cMd K a0 a1 a2 a3 a4 a5 a6 a7 a8 a9 a10 a11 a12 a13 a14 a15 a16 a17 a18 a19 S) → W p l e ({ frames := 0, cells := 0, slots := 0, locals := 0 } : Room) s m ([.ref a0, .ref a5] : List Value).toArray below meth c H locs 0 0 Q (F0 m pc ls []) := by
    intro pc ls H locs S h hd hh
    cases h; exact hret pc ls H locs hd hh
  have hl : lv_has ls 3 [(0, .ref a0), (1, .ref a5)] := hl
  have hJ42 : ∀ (v2 : Int32) (S : zMd) (k2 : (Int32) → (zMd) → Option (zMd)), (∀ (v2 : Int32) (S : zMd) (H : Heap) (locs : List Loc) (ls : Array Slot), k2 v2 S = some R → lv_has ls 3 [(0, .ref a0), (1, .ref a5), (2, .int v2)] → zW K A s H locs (cMd K a0 a1 a2 a3 a4 a5 a6 a7 a8 a9 a10 a11 a12 a13 a14 a15 a16 a17 a18 a19 S) → W p l e ({ frames := 0, cells := 0, slots := 0, locals := 0 } : Room) s m ([.ref a0, .ref a5] : List Value).toArray below meth c H locs 0 0 Q (F0 m 2 ls [])) → ∀ (H : Heap) (locs : List Loc) (ls : Array Slot), fX8_passes_one_j42 v2 S k2 = some R → lv_has ls 3 [(0, .ref a0), (1, .ref a5), (2, .int v2)] → zW K A s H locs (cMd K a0 a1 a2 a3 a4 a5 a6 a7 a8 a9 a10 a11 a12 a13 a14 a15 a16 a17 a18 a19 S) → W p l e ({ frames := 0, cells := 0, slots := 0, locals := 0 } : Room) s m ([.ref a0, .ref a5] : List Value).toArray below meth c H locs 0 0 Q (F0 m 42 ls []) := by
    intro v2 S k2 hk2 H locs ls hf hl hh
    unfold fX8_passes_one_j42 at hf
    refine lv_aload_n hx hb dX8_passes_42 rfl (lv_at hl 0 rfl) ?_
    refine lv_dup hx hb dX8_passes_43 rfl ?_
    refine zget (v := .int (md_cursor S)) (ref := "SumOfTwoThatStandModel") (C := RX8) (T := TX8) (N := 33) (index := 188) X hh inX8_passes_one_X8 0 rfl rfl 23 (by decide) mmX8_passes_one_0 rfl rfl dX8_passes_44 ?_
    refine lv_iconst (v := (1 : Int32)) hx hb dX8_passes_47 (by decide) ?_
    refine lv_iadd hx hb dX8_passes_48 ?_
    refine zput (v := .int ((md_cursor S) + (1 : Int32))) (ty := .int) (ref := "SumOfTwoThatStandModel") (C := RX8) (T := TX8) (N := 33) (index := 188) X hh inX8_passes_one_X8 tyX8 tyX8_ok nmX8 0 rfl rfl 23 (by decide) mmX8_passes_one_0 rfl rfl (by decide +kernel) rfl rfl (Nat.le_of_ble_eq_true rfl) dX8_passes_49 (fun H locs hh => ?_)
    have hh := hh.to (sMd_cursor K a0 a1 a2 a3 a4 a5 a6 a7 a8 a9 a10 a11 a12 a13 a14 a15 a16 a17 a18 a19 S ((md_cursor S) + (1 : Int32)))
    refine lv_iinc (v := (v2 + (1 : Int32))) (lv' := [(2, .int (v2 + (1 : Int32))), (0, .ref a0), (1, .ref a5)]) hx hb dX8_passes_52 hl (k := 2) rfl rfl (by decide) rfl (fun ls hl => ?_)
    refine lv_goto (tgt := 2) hx hb dX8_passes_55 (by decide) ?_
    exact hk2 (v2 + (1 : Int32)) (md_set_cursor S ((md_cursor S) + (1 : Int32))) H locs ls hf (lv_sub hl [1, 2, 0] rfl) hh
  have hL2 : ∀ (n : Nat) (v2 : Int32) (S : zMd), ∀ (H : Heap) (locs : List Loc) (ls : Array Slot), fX8_passes_one_l2 n v2 S = some R → lv_has ls 3 [(0, .ref a0), (1, .ref a5), (2, .int v2)] → zW K A s H locs (cMd K a0 a1 a2 a3 a4 a5 a6 a7 a8 a9 a10 a11 a12 a13 a14 a15 a16 a17 a18 a19 S) → W p l e ({ frames := 0, cells := 0, slots := 0, locals := 0 } : Room) s m ([.ref a0, .ref a5] : List Value).toArray below meth c H locs 0 0 Q (F0 m 2 ls []) := by
    intro n
    induction n with
    | zero =>
      intro v2 S H locs ls hf hl hh
      rw [fX8_passes_one_l2] at hf; cases hf
    | succ n ih =>
      intro v2 S H locs ls hf hl hh
      rw [fX8_passes_one_l2] at hf
      refine lv_iload_n hx hb dX8_passes_2 rfl (lv_at hl 2 rfl) ?_
      refine lv_aload_n hx hb dX8_passes_3 rfl (lv_at hl 1 rfl) ?_
      refine zalenI (v := (12 : Int32)) X hh 5 rfl rfl dX8_passes_4 ?_
      refine lv_icmp_ge (tgt := 58) hx hb dX8_passes_5 (by decide) (fun c1 => ?_) (fun c1 => ?_)
      · replace hf := (if_pos c1).symm.trans hf
        exact hr2 58 ls H locs S hf dX8_passes_58 hh
      · replace hf := (if_neg c1).symm.trans hf
        refine lv_aload_n hx hb dX8_passes_8 rfl (lv_at hl 0 rfl) ?_
        refine zget (v := .int (md_isKeeping S)) (ref := "SumOfTwoThatStandModel") (C := RX8) (T := TX8) (N := 33) (index := 184) X hh inX8_passes_one_X8 0 rfl rfl 22 (by decide) mmX8_passes_one_1 rfl rfl dX8_passes_9 ?_
        refine lv_if_eq (tgt := 30) hx hb dX8_passes_12 (by decide) (fun c2 => ?_) (fun c2 => ?_)
        · replace hf := (if_pos c2).symm.trans hf
          refine lv_aload_n hx hb dX8_passes_30 rfl (lv_at hl 1 rfl) ?_
          refine lv_iload_n hx hb dX8_passes_31 rfl (lv_at hl 2 rfl) ?_
          refine lv_aload_n hx hb dX8_passes_32 rfl (lv_at hl 0 rfl) ?_
          refine zget (v := .ref a14) (ref := "SumOfTwoThatStandModel") (C := RX8) (T := TX8) (N := 33) (index := 49) X hh inX8_passes_one_X8 0 rfl rfl 20 (by decide) mmX8_passes_one_2 rfl rfl dX8_passes_33 ?_
          refine lv_aload_n hx hb dX8_passes_36 rfl (lv_at hl 0 rfl) ?_
          refine zget (v := .int (md_cursor S)) (ref := "SumOfTwoThatStandModel") (C := RX8) (T := TX8) (N := 33) (index := 188) X hh inX8_passes_one_X8 0 rfl rfl 23 (by decide) mmX8_passes_one_0 rfl rfl dX8_passes_37 ?_
          obtain ⟨g3, hf⟩ := ob_ix hf
          refine ziald (f := (md_kept S)) X hh 14 rfl g3 dX8_passes_40 ?_
          obtain ⟨g4, hf⟩ := ob_ix hf
          refine ziast (f := (md_one S)) X hh 5 rfl g4 dX8_passes_41 (fun H locs hh => ?_)
          have hh := hh.to (sMd_one K a0 a1 a2 a3 a4 a5 a6 a7 a8 a9 a10 a11 a12 a13 a14 a15 a16 a17 a18 a19 S (upd (md_one S) v2.toNatClampNeg ((md_kept S) (md_cursor S).toNatClampNeg)))
          exact hJ42 v2 (md_set_one S (upd (md_one S) v2.toNatClampNeg ((md_kept S) (md_cursor S).toNatClampNeg))) (fX8_passes_one_l2  n) (ih) H locs ls hf (lv_sub hl [0, 1, 2] rfl) hh
        · replace hf := (if_neg c2).symm.trans hf
          refine lv_aload_n hx hb dX8_passes_15 rfl (lv_at hl 0 rfl) ?_
          refine zget (v := .ref a14) (ref := "SumOfTwoThatStandModel") (C := RX8) (T := TX8) (N := 33) (index := 49) X hh inX8_passes_one_X8 0 rfl rfl 20 (by decide) mmX8_passes_one_2 rfl rfl dX8_passes_16 ?_
          refine lv_aload_n hx hb dX8_passes_19 rfl (lv_at hl 0 rfl) ?_
          refine zget (v := .int (md_cursor S)) (ref := "SumOfTwoThatStandModel") (C := RX8) (T := TX8) (N := 33) (index := 188) X hh inX8_passes_one_X8 0 rfl rfl 23 (by decide) mmX8_passes_one_0 rfl rfl dX8_passes_20 ?_
          refine lv_aload_n hx hb dX8_passes_23 rfl (lv_at hl 1 rfl) ?_
          refine lv_iload_n hx hb dX8_passes_24 rfl (lv_at hl 2 rfl) ?_
          obtain ⟨g5, hf⟩ := ob_ix hf
          refine ziald (f := (md_one S)) X hh 5 rfl g5 dX8_passes_25 ?_
          obtain ⟨g6, hf⟩ := ob_ix hf
          refine ziast (f := (md_kept S)) X hh 14 rfl g6 dX8_passes_26 (fun H locs hh => ?_)
          have hh := hh.to (sMd_kept K a0 a1 a2 a3 a4 a5 a6 a7 a8 a9 a10 a11 a12 a13 a14 a15 a16 a17 a18 a19 S (upd (md_kept S) (md_cursor S).toNatClampNeg ((md_one S) v2.toNatClampNeg)))
          refine lv_goto (tgt := 42) hx hb dX8_passes_27 (by decide) ?_
          exact hJ42 v2 (md_set_kept S (upd (md_kept S) (md_cursor S).toNatClampNeg ((md_one S) v2.toNatClampNeg))) (fX8_passes_one_l2  n) (ih) H locs ls hf (lv_sub hl [0, 1, 2] rfl) hh
  unfold fX8_passes_one at hf
  refine (fun (hmain : ∀ (H : Heap) (locs : List Loc), zW K A s H locs (cMd K a0 a1 a2 a3 a4 a5 a6 a7 a8 a9 a10 a11 a12 a13 a14 a15 a16 a17 a18 a19 S) → W p l e ({ frames := 0, cells := 0, slots := 0, locals := 0 } : Room) s m ([.ref a0, .ref a5] : List Value).toArray below meth c H locs 0 0 Q (F0 m 0 ls [])) => hmain s.heap [] hh) (fun H locs hh => ?_)
  refine lv_iconst (v := (0 : Int32)) hx hb dX8_passes_0 (by decide) ?_
  refine lv_istore_n (lv' := [(2, .int (0 : Int32)), (0, .ref a0), (1, .ref a5)]) hx hb dX8_passes_1 rfl hl (by decide) rfl (fun ls hl => ?_)
  exact hL2 FU (0 : Int32) S H locs ls hf (lv_sub hl [1, 2, 0] rfl) hh
theorem inX8_passes_other_X8 : ∀ w ∈ wsX80, w ∈ wsX8_passes := by decide +kernel
theorem mmX8_passes_other_0 : Cond.fieldLink RX8 188 "SumOfTwoThatStandModel" "cursor" "I" ∈ wsX8_passes := by decide +kernel
theorem mmX8_passes_other_1 : Cond.fieldLink RX8 184 "SumOfTwoThatStandModel" "isKeeping" "Z" ∈ wsX8_passes := by decide +kernel
theorem mmX8_passes_other_2 : Cond.fieldLink RX8 49 "SumOfTwoThatStandModel" "kept" "[I" ∈ wsX8_passes := by decide +kernel
set_option maxHeartbeats 4000000 in
set_option maxRecDepth 100000 in
theorem kX8_passes_other (l : Launch) (K : zK) (a0 a1 a2 a3 a4 a5 a6 a7 a8 a9 a10 a11 a12 a13 a14 a15 a16 a17 a18 a19 : Nat) (S : zMd) (R : zMd) (hf : fX8_passes_other S = some R) : zC l yX8_passes wsX8_passes ({ frames := 0, cells := 0, slots := 0, locals := 0 } : Room) K [.ref a0, .ref a6] (cMd K a0 a1 a2 a3 a4 a5 a6 a7 a8 a9 a10 a11 a12 a13 a14 a15 a16 a17 a18 a19 S) none (cMd K a0 a1 a2 a3 a4 a5 a6 a7 a8 a9 a10 a11 a12 a13 a14 a15 a16 a17 a18 a19 R) := by
  refine zC_v (cc := cX8_passes) (maxL := 3) (by decide +kernel) rfl (Nat.le_of_ble_eq_true rfl) rfl rfl ?_
  intro p e s m below meth c Q A X hret ls hl hh
  have X : zX p m c cX8_passes 3 s ([.ref a0, .ref a6] : List Value).toArray wsX8_passes RX8 K A := X
  have hx := X.1.1
  have hb := X.1.2.1
  have hr2 : ∀ (pc : Nat) (ls : Array Slot) (H : Heap) (locs : List Loc) (S : zMd), some S = some R → decode cX8_passes pc = .ok (.return_, 1) → zW K A s H locs (cMd K a0 a1 a2 a3 a4 a5 a6 a7 a8 a9 a10 a11 a12 a13 a14 a15 a16 a17 a18 a19 S) → W p l e ({ frames := 0, cells := 0, slots := 0, locals := 0 } : Room) s m ([.ref a0, .ref a6] : List Value).toArray below meth c H locs 0 0 Q (F0 m pc ls []) := by
    intro pc ls H locs S h hd hh
    cases h; exact hret pc ls H locs hd hh
  have hl : lv_has ls 3 [(0, .ref a0), (1, .ref a6)] := hl
  have hJ42 : ∀ (v2 : Int32) (S : zMd) (k2 : (Int32) → (zMd) → Option (zMd)), (∀ (v2 : Int32) (S : zMd) (H : Heap) (locs : List Loc) (ls : Array Slot), k2 v2 S = some R → lv_has ls 3 [(0, .ref a0), (1, .ref a6), (2, .int v2)] → zW K A s H locs (cMd K a0 a1 a2 a3 a4 a5 a6 a7 a8 a9 a10 a11 a12 a13 a14 a15 a16 a17 a18 a19 S) → W p l e ({ frames := 0, cells := 0, slots := 0, locals := 0 } : Room) s m ([.ref a0, .ref a6] : List Value).toArray below meth c H locs 0 0 Q (F0 m 2 ls [])) → ∀ (H : Heap) (locs : List Loc) (ls : Array Slot), fX8_passes_other_j42 v2 S k2 = some R → lv_has ls 3 [(0, .ref a0), (1, .ref a6), (2, .int v2)] → zW K A s H locs (cMd K a0 a1 a2 a3 a4 a5 a6 a7 a8 a9 a10 a11 a12 a13 a14 a15 a16 a17 a18 a19 S) → W p l e ({ frames := 0, cells := 0, slots := 0, locals := 0 } : Room) s m ([.ref a0, .ref a6] : List Value).toArray below meth c H locs 0 0 Q (F0 m 42 ls []) := by
    intro v2 S k2 hk2 H locs ls hf hl hh
    unfold fX8_passes_other_j42 at hf
    refine lv_aload_n hx hb dX8_passes_42 rfl (lv_at hl 0 rfl) ?_
    refine lv_dup hx hb dX8_passes_43 rfl ?_
    refine zget (v := .int (md_cursor S)) (ref := "SumOfTwoThatStandModel") (C := RX8) (T := TX8) (N := 33) (index := 188) X hh inX8_passes_other_X8 0 rfl rfl 23 (by decide) mmX8_passes_other_0 rfl rfl dX8_passes_44 ?_
    refine lv_iconst (v := (1 : Int32)) hx hb dX8_passes_47 (by decide) ?_
    refine lv_iadd hx hb dX8_passes_48 ?_
    refine zput (v := .int ((md_cursor S) + (1 : Int32))) (ty := .int) (ref := "SumOfTwoThatStandModel") (C := RX8) (T := TX8) (N := 33) (index := 188) X hh inX8_passes_other_X8 tyX8 tyX8_ok nmX8 0 rfl rfl 23 (by decide) mmX8_passes_other_0 rfl rfl (by decide +kernel) rfl rfl (Nat.le_of_ble_eq_true rfl) dX8_passes_49 (fun H locs hh => ?_)
    have hh := hh.to (sMd_cursor K a0 a1 a2 a3 a4 a5 a6 a7 a8 a9 a10 a11 a12 a13 a14 a15 a16 a17 a18 a19 S ((md_cursor S) + (1 : Int32)))
    refine lv_iinc (v := (v2 + (1 : Int32))) (lv' := [(2, .int (v2 + (1 : Int32))), (0, .ref a0), (1, .ref a6)]) hx hb dX8_passes_52 hl (k := 2) rfl rfl (by decide) rfl (fun ls hl => ?_)
    refine lv_goto (tgt := 2) hx hb dX8_passes_55 (by decide) ?_
    exact hk2 (v2 + (1 : Int32)) (md_set_cursor S ((md_cursor S) + (1 : Int32))) H locs ls hf (lv_sub hl [1, 2, 0] rfl) hh
  have hL2 : ∀ (n : Nat) (v2 : Int32) (S : zMd), ∀ (H : Heap) (locs : List Loc) (ls : Array Slot), fX8_passes_other_l2 n v2 S = some R → lv_has ls 3 [(0, .ref a0), (1, .ref a6), (2, .int v2)] → zW K A s H locs (cMd K a0 a1 a2 a3 a4 a5 a6 a7 a8 a9 a10 a11 a12 a13 a14 a15 a16 a17 a18 a19 S) → W p l e ({ frames := 0, cells := 0, slots := 0, locals := 0 } : Room) s m ([.ref a0, .ref a6] : List Value).toArray below meth c H locs 0 0 Q (F0 m 2 ls []) := by
    intro n
    induction n with
    | zero =>
      intro v2 S H locs ls hf hl hh
      rw [fX8_passes_other_l2] at hf; cases hf
    | succ n ih =>
      intro v2 S H locs ls hf hl hh
      rw [fX8_passes_other_l2] at hf
      refine lv_iload_n hx hb dX8_passes_2 rfl (lv_at hl 2 rfl) ?_
      refine lv_aload_n hx hb dX8_passes_3 rfl (lv_at hl 1 rfl) ?_
      refine zalenI (v := (12 : Int32)) X hh 6 rfl rfl dX8_passes_4 ?_
      refine lv_icmp_ge (tgt := 58) hx hb dX8_passes_5 (by decide) (fun c1 => ?_) (fun c1 => ?_)
      · replace hf := (if_pos c1).symm.trans hf
        exact hr2 58 ls H locs S hf dX8_passes_58 hh
      · replace hf := (if_neg c1).symm.trans hf
        refine lv_aload_n hx hb dX8_passes_8 rfl (lv_at hl 0 rfl) ?_
        refine zget (v := .int (md_isKeeping S)) (ref := "SumOfTwoThatStandModel") (C := RX8) (T := TX8) (N := 33) (index := 184) X hh inX8_passes_other_X8 0 rfl rfl 22 (by decide) mmX8_passes_other_1 rfl rfl dX8_passes_9 ?_
        refine lv_if_eq (tgt := 30) hx hb dX8_passes_12 (by decide) (fun c2 => ?_) (fun c2 => ?_)
        · replace hf := (if_pos c2).symm.trans hf
          refine lv_aload_n hx hb dX8_passes_30 rfl (lv_at hl 1 rfl) ?_
          refine lv_iload_n hx hb dX8_passes_31 rfl (lv_at hl 2 rfl) ?_
          refine lv_aload_n hx hb dX8_passes_32 rfl (lv_at hl 0 rfl) ?_
          refine zget (v := .ref a14) (ref := "SumOfTwoThatStandModel") (C := RX8) (T := TX8) (N := 33) (index := 49) X hh inX8_passes_other_X8 0 rfl rfl 20 (by decide) mmX8_passes_other_2 rfl rfl dX8_passes_33 ?_
          refine lv_aload_n hx hb dX8_passes_36 rfl (lv_at hl 0 rfl) ?_
          refine zget (v := .int (md_cursor S)) (ref := "SumOfTwoThatStandModel") (C := RX8) (T := TX8) (N := 33) (index := 188) X hh inX8_passes_other_X8 0 rfl rfl 23 (by decide) mmX8_passes_other_0 rfl rfl dX8_passes_37 ?_
          obtain ⟨g3, hf⟩ := ob_ix hf
          refine ziald (f := (md_kept S)) X hh 14 rfl g3 dX8_passes_40 ?_
          obtain ⟨g4, hf⟩ := ob_ix hf
          refine ziast (f := (md_other S)) X hh 6 rfl g4 dX8_passes_41 (fun H locs hh => ?_)
          have hh := hh.to (sMd_other K a0 a1 a2 a3 a4 a5 a6 a7 a8 a9 a10 a11 a12 a13 a14 a15 a16 a17 a18 a19 S (upd (md_other S) v2.toNatClampNeg ((md_kept S) (md_cursor S).toNatClampNeg)))
          exact hJ42 v2 (md_set_other S (upd (md_other S) v2.toNatClampNeg ((md_kept S) (md_cursor S).toNatClampNeg))) (fX8_passes_other_l2  n) (ih) H locs ls hf (lv_sub hl [0, 1, 2] rfl) hh
        · replace hf := (if_neg c2).symm.trans hf
          refine lv_aload_n hx hb dX8_passes_15 rfl (lv_at hl 0 rfl) ?_
          refine zget (v := .ref a14) (ref := "SumOfTwoThatStandModel") (C := RX8) (T := TX8) (N := 33) (index := 49) X hh inX8_passes_other_X8 0 rfl rfl 20 (by decide) mmX8_passes_other_2 rfl rfl dX8_passes_16 ?_
          refine lv_aload_n hx hb dX8_passes_19 rfl (lv_at hl 0 rfl) ?_
          refine zget (v := .int (md_cursor S)) (ref := "SumOfTwoThatStandModel") (C := RX8) (T := TX8) (N := 33) (index := 188) X hh inX8_passes_other_X8 0 rfl rfl 23 (by decide) mmX8_passes_other_0 rfl rfl dX8_passes_20 ?_
          refine lv_aload_n hx hb dX8_passes_23 rfl (lv_at hl 1 rfl) ?_
          refine lv_iload_n hx hb dX8_passes_24 rfl (lv_at hl 2 rfl) ?_
          obtain ⟨g5, hf⟩ := ob_ix hf
          refine ziald (f := (md_other S)) X hh 6 rfl g5 dX8_passes_25 ?_
          obtain ⟨g6, hf⟩ := ob_ix hf
          refine ziast (f := (md_kept S)) X hh 14 rfl g6 dX8_passes_26 (fun H locs hh => ?_)
          have hh := hh.to (sMd_kept K a0 a1 a2 a3 a4 a5 a6 a7 a8 a9 a10 a11 a12 a13 a14 a15 a16 a17 a18 a19 S (upd (md_kept S) (md_cursor S).toNatClampNeg ((md_other S) v2.toNatClampNeg)))
          refine lv_goto (tgt := 42) hx hb dX8_passes_27 (by decide) ?_
          exact hJ42 v2 (md_set_kept S (upd (md_kept S) (md_cursor S).toNatClampNeg ((md_other S) v2.toNatClampNeg))) (fX8_passes_other_l2  n) (ih) H locs ls hf (lv_sub hl [0, 1, 2] rfl) hh
  unfold fX8_passes_other at hf
  refine (fun (hmain : ∀ (H : Heap) (locs : List Loc), zW K A s H locs (cMd K a0 a1 a2 a3 a4 a5 a6 a7 a8 a9 a10 a11 a12 a13 a14 a15 a16 a17 a18 a19 S) → W p l e ({ frames := 0, cells := 0, slots := 0, locals := 0 } : Room) s m ([.ref a0, .ref a6] : List Value).toArray below meth c H locs 0 0 Q (F0 m 0 ls [])) => hmain s.heap [] hh) (fun H locs hh => ?_)
  refine lv_iconst (v := (0 : Int32)) hx hb dX8_passes_0 (by decide) ?_
  refine lv_istore_n (lv' := [(2, .int (0 : Int32)), (0, .ref a0), (1, .ref a6)]) hx hb dX8_passes_1 rfl hl (by decide) rfl (fun ls hl => ?_)
  exact hL2 FU (0 : Int32) S H locs ls hf (lv_sub hl [1, 2, 0] rfl) hh
theorem inX8_passes_stands_X8 : ∀ w ∈ wsX80, w ∈ wsX8_passes := by decide +kernel
theorem mmX8_passes_stands_0 : Cond.fieldLink RX8 188 "SumOfTwoThatStandModel" "cursor" "I" ∈ wsX8_passes := by decide +kernel
theorem mmX8_passes_stands_1 : Cond.fieldLink RX8 184 "SumOfTwoThatStandModel" "isKeeping" "Z" ∈ wsX8_passes := by decide +kernel
theorem mmX8_passes_stands_2 : Cond.fieldLink RX8 49 "SumOfTwoThatStandModel" "kept" "[I" ∈ wsX8_passes := by decide +kernel
set_option maxHeartbeats 4000000 in
set_option maxRecDepth 100000 in
theorem kX8_passes_stands (l : Launch) (K : zK) (a0 a1 a2 a3 a4 a5 a6 a7 a8 a9 a10 a11 a12 a13 a14 a15 a16 a17 a18 a19 : Nat) (S : zMd) (R : zMd) (hf : fX8_passes_stands S = some R) : zC l yX8_passes wsX8_passes ({ frames := 0, cells := 0, slots := 0, locals := 0 } : Room) K [.ref a0, .ref a7] (cMd K a0 a1 a2 a3 a4 a5 a6 a7 a8 a9 a10 a11 a12 a13 a14 a15 a16 a17 a18 a19 S) none (cMd K a0 a1 a2 a3 a4 a5 a6 a7 a8 a9 a10 a11 a12 a13 a14 a15 a16 a17 a18 a19 R) := by
  refine zC_v (cc := cX8_passes) (maxL := 3) (by decide +kernel) rfl (Nat.le_of_ble_eq_true rfl) rfl rfl ?_
  intro p e s m below meth c Q A X hret ls hl hh
  have X : zX p m c cX8_passes 3 s ([.ref a0, .ref a7] : List Value).toArray wsX8_passes RX8 K A := X
  have hx := X.1.1
  have hb := X.1.2.1
  have hr2 : ∀ (pc : Nat) (ls : Array Slot) (H : Heap) (locs : List Loc) (S : zMd), some S = some R → decode cX8_passes pc = .ok (.return_, 1) → zW K A s H locs (cMd K a0 a1 a2 a3 a4 a5 a6 a7 a8 a9 a10 a11 a12 a13 a14 a15 a16 a17 a18 a19 S) → W p l e ({ frames := 0, cells := 0, slots := 0, locals := 0 } : Room) s m ([.ref a0, .ref a7] : List Value).toArray below meth c H locs 0 0 Q (F0 m pc ls []) := by
    intro pc ls H locs S h hd hh
    cases h; exact hret pc ls H locs hd hh
  have hl : lv_has ls 3 [(0, .ref a0), (1, .ref a7)] := hl
  have hJ42 : ∀ (v2 : Int32) (S : zMd) (k2 : (Int32) → (zMd) → Option (zMd)), (∀ (v2 : Int32) (S : zMd) (H : Heap) (locs : List Loc) (ls : Array Slot), k2 v2 S = some R → lv_has ls 3 [(0, .ref a0), (1, .ref a7), (2, .int v2)] → zW K A s H locs (cMd K a0 a1 a2 a3 a4 a5 a6 a7 a8 a9 a10 a11 a12 a13 a14 a15 a16 a17 a18 a19 S) → W p l e ({ frames := 0, cells := 0, slots := 0, locals := 0 } : Room) s m ([.ref a0, .ref a7] : List Value).toArray below meth c H locs 0 0 Q (F0 m 2 ls [])) → ∀ (H : Heap) (locs : List Loc) (ls : Array Slot), fX8_passes_stands_j42 v2 S k2 = some R → lv_has ls 3 [(0, .ref a0), (1, .ref a7), (2, .int v2)] → zW K A s H locs (cMd K a0 a1 a2 a3 a4 a5 a6 a7 a8 a9 a10 a11 a12 a13 a14 a15 a16 a17 a18 a19 S) → W p l e ({ frames := 0, cells := 0, slots := 0, locals := 0 } : Room) s m ([.ref a0, .ref a7] : List Value).toArray below meth c H locs 0 0 Q (F0 m 42 ls []) := by
    intro v2 S k2 hk2 H locs ls hf hl hh
    unfold fX8_passes_stands_j42 at hf
    refine lv_aload_n hx hb dX8_passes_42 rfl (lv_at hl 0 rfl) ?_
    refine lv_dup hx hb dX8_passes_43 rfl ?_
    refine zget (v := .int (md_cursor S)) (ref := "SumOfTwoThatStandModel") (C := RX8) (T := TX8) (N := 33) (index := 188) X hh inX8_passes_stands_X8 0 rfl rfl 23 (by decide) mmX8_passes_stands_0 rfl rfl dX8_passes_44 ?_
    refine lv_iconst (v := (1 : Int32)) hx hb dX8_passes_47 (by decide) ?_
    refine lv_iadd hx hb dX8_passes_48 ?_
    refine zput (v := .int ((md_cursor S) + (1 : Int32))) (ty := .int) (ref := "SumOfTwoThatStandModel") (C := RX8) (T := TX8) (N := 33) (index := 188) X hh inX8_passes_stands_X8 tyX8 tyX8_ok nmX8 0 rfl rfl 23 (by decide) mmX8_passes_stands_0 rfl rfl (by decide +kernel) rfl rfl (Nat.le_of_ble_eq_true rfl) dX8_passes_49 (fun H locs hh => ?_)
    have hh := hh.to (sMd_cursor K a0 a1 a2 a3 a4 a5 a6 a7 a8 a9 a10 a11 a12 a13 a14 a15 a16 a17 a18 a19 S ((md_cursor S) + (1 : Int32)))
    refine lv_iinc (v := (v2 + (1 : Int32))) (lv' := [(2, .int (v2 + (1 : Int32))), (0, .ref a0), (1, .ref a7)]) hx hb dX8_passes_52 hl (k := 2) rfl rfl (by decide) rfl (fun ls hl => ?_)
    refine lv_goto (tgt := 2) hx hb dX8_passes_55 (by decide) ?_
    exact hk2 (v2 + (1 : Int32)) (md_set_cursor S ((md_cursor S) + (1 : Int32))) H locs ls hf (lv_sub hl [1, 2, 0] rfl) hh
  have hL2 : ∀ (n : Nat) (v2 : Int32) (S : zMd), ∀ (H : Heap) (locs : List Loc) (ls : Array Slot), fX8_passes_stands_l2 n v2 S = some R → lv_has ls 3 [(0, .ref a0), (1, .ref a7), (2, .int v2)] → zW K A s H locs (cMd K a0 a1 a2 a3 a4 a5 a6 a7 a8 a9 a10 a11 a12 a13 a14 a15 a16 a17 a18 a19 S) → W p l e ({ frames := 0, cells := 0, slots := 0, locals := 0 } : Room) s m ([.ref a0, .ref a7] : List Value).toArray below meth c H locs 0 0 Q (F0 m 2 ls []) := by
    intro n
    induction n with
    | zero =>
      intro v2 S H locs ls hf hl hh
      rw [fX8_passes_stands_l2] at hf; cases hf
    | succ n ih =>
      intro v2 S H locs ls hf hl hh
      rw [fX8_passes_stands_l2] at hf
      refine lv_iload_n hx hb dX8_passes_2 rfl (lv_at hl 2 rfl) ?_
      refine lv_aload_n hx hb dX8_passes_3 rfl (lv_at hl 1 rfl) ?_
      refine zalenI (v := (12 : Int32)) X hh 7 rfl rfl dX8_passes_4 ?_
      refine lv_icmp_ge (tgt := 58) hx hb dX8_passes_5 (by decide) (fun c1 => ?_) (fun c1 => ?_)
      · replace hf := (if_pos c1).symm.trans hf
        exact hr2 58 ls H locs S hf dX8_passes_58 hh
      · replace hf := (if_neg c1).symm.trans hf
        refine lv_aload_n hx hb dX8_passes_8 rfl (lv_at hl 0 rfl) ?_
        refine zget (v := .int (md_isKeeping S)) (ref := "SumOfTwoThatStandModel") (C := RX8) (T := TX8) (N := 33) (index := 184) X hh inX8_passes_stands_X8 0 rfl rfl 22 (by decide) mmX8_passes_stands_1 rfl rfl dX8_passes_9 ?_
        refine lv_if_eq (tgt := 30) hx hb dX8_passes_12 (by decide) (fun c2 => ?_) (fun c2 => ?_)
        · replace hf := (if_pos c2).symm.trans hf
          refine lv_aload_n hx hb dX8_passes_30 rfl (lv_at hl 1 rfl) ?_
          refine lv_iload_n hx hb dX8_passes_31 rfl (lv_at hl 2 rfl) ?_
          refine lv_aload_n hx hb dX8_passes_32 rfl (lv_at hl 0 rfl) ?_
          refine zget (v := .ref a14) (ref := "SumOfTwoThatStandModel") (C := RX8) (T := TX8) (N := 33) (index := 49) X hh inX8_passes_stands_X8 0 rfl rfl 20 (by decide) mmX8_passes_stands_2 rfl rfl dX8_passes_33 ?_
          refine lv_aload_n hx hb dX8_passes_36 rfl (lv_at hl 0 rfl) ?_
          refine zget (v := .int (md_cursor S)) (ref := "SumOfTwoThatStandModel") (C := RX8) (T := TX8) (N := 33) (index := 188) X hh inX8_passes_stands_X8 0 rfl rfl 23 (by decide) mmX8_passes_stands_0 rfl rfl dX8_passes_37 ?_
          obtain ⟨g3, hf⟩ := ob_ix hf
          refine ziald (f := (md_kept S)) X hh 14 rfl g3 dX8_passes_40 ?_
          obtain ⟨g4, hf⟩ := ob_ix hf
          refine ziast (f := (md_stands S)) X hh 7 rfl g4 dX8_passes_41 (fun H locs hh => ?_)
          have hh := hh.to (sMd_stands K a0 a1 a2 a3 a4 a5 a6 a7 a8 a9 a10 a11 a12 a13 a14 a15 a16 a17 a18 a19 S (upd (md_stands S) v2.toNatClampNeg ((md_kept S) (md_cursor S).toNatClampNeg)))
          exact hJ42 v2 (md_set_stands S (upd (md_stands S) v2.toNatClampNeg ((md_kept S) (md_cursor S).toNatClampNeg))) (fX8_passes_stands_l2  n) (ih) H locs ls hf (lv_sub hl [0, 1, 2] rfl) hh
        · replace hf := (if_neg c2).symm.trans hf
          refine lv_aload_n hx hb dX8_passes_15 rfl (lv_at hl 0 rfl) ?_
          refine zget (v := .ref a14) (ref := "SumOfTwoThatStandModel") (C := RX8) (T := TX8) (N := 33) (index := 49) X hh inX8_passes_stands_X8 0 rfl rfl 20 (by decide) mmX8_passes_stands_2 rfl rfl dX8_passes_16 ?_
          refine lv_aload_n hx hb dX8_passes_19 rfl (lv_at hl 0 rfl) ?_
          refine zget (v := .int (md_cursor S)) (ref := "SumOfTwoThatStandModel") (C := RX8) (T := TX8) (N := 33) (index := 188) X hh inX8_passes_stands_X8 0 rfl rfl 23 (by decide) mmX8_passes_stands_0 rfl rfl dX8_passes_20 ?_
          refine lv_aload_n hx hb dX8_passes_23 rfl (lv_at hl 1 rfl) ?_
          refine lv_iload_n hx hb dX8_passes_24 rfl (lv_at hl 2 rfl) ?_
          obtain ⟨g5, hf⟩ := ob_ix hf
          refine ziald (f := (md_stands S)) X hh 7 rfl g5 dX8_passes_25 ?_
          obtain ⟨g6, hf⟩ := ob_ix hf
          refine ziast (f := (md_kept S)) X hh 14 rfl g6 dX8_passes_26 (fun H locs hh => ?_)
          have hh := hh.to (sMd_kept K a0 a1 a2 a3 a4 a5 a6 a7 a8 a9 a10 a11 a12 a13 a14 a15 a16 a17 a18 a19 S (upd (md_kept S) (md_cursor S).toNatClampNeg ((md_stands S) v2.toNatClampNeg)))
          refine lv_goto (tgt := 42) hx hb dX8_passes_27 (by decide) ?_
          exact hJ42 v2 (md_set_kept S (upd (md_kept S) (md_cursor S).toNatClampNeg ((md_stands S) v2.toNatClampNeg))) (fX8_passes_stands_l2  n) (ih) H locs ls hf (lv_sub hl [0, 1, 2] rfl) hh
  unfold fX8_passes_stands at hf
  refine (fun (hmain : ∀ (H : Heap) (locs : List Loc), zW K A s H locs (cMd K a0 a1 a2 a3 a4 a5 a6 a7 a8 a9 a10 a11 a12 a13 a14 a15 a16 a17 a18 a19 S) → W p l e ({ frames := 0, cells := 0, slots := 0, locals := 0 } : Room) s m ([.ref a0, .ref a7] : List Value).toArray below meth c H locs 0 0 Q (F0 m 0 ls [])) => hmain s.heap [] hh) (fun H locs hh => ?_)
  refine lv_iconst (v := (0 : Int32)) hx hb dX8_passes_0 (by decide) ?_
  refine lv_istore_n (lv' := [(2, .int (0 : Int32)), (0, .ref a0), (1, .ref a7)]) hx hb dX8_passes_1 rfl hl (by decide) rfl (fun ls hl => ?_)
  exact hL2 FU (0 : Int32) S H locs ls hf (lv_sub hl [1, 2, 0] rfl) hh
theorem inX8_passes_uses_X8 : ∀ w ∈ wsX80, w ∈ wsX8_passes := by decide +kernel
theorem mmX8_passes_uses_0 : Cond.fieldLink RX8 188 "SumOfTwoThatStandModel" "cursor" "I" ∈ wsX8_passes := by decide +kernel
theorem mmX8_passes_uses_1 : Cond.fieldLink RX8 184 "SumOfTwoThatStandModel" "isKeeping" "Z" ∈ wsX8_passes := by decide +kernel
theorem mmX8_passes_uses_2 : Cond.fieldLink RX8 49 "SumOfTwoThatStandModel" "kept" "[I" ∈ wsX8_passes := by decide +kernel
set_option maxHeartbeats 4000000 in
set_option maxRecDepth 100000 in
theorem kX8_passes_uses (l : Launch) (K : zK) (a0 a1 a2 a3 a4 a5 a6 a7 a8 a9 a10 a11 a12 a13 a14 a15 a16 a17 a18 a19 : Nat) (S : zMd) (R : zMd) (hf : fX8_passes_uses S = some R) : zC l yX8_passes wsX8_passes ({ frames := 0, cells := 0, slots := 0, locals := 0 } : Room) K [.ref a0, .ref a8] (cMd K a0 a1 a2 a3 a4 a5 a6 a7 a8 a9 a10 a11 a12 a13 a14 a15 a16 a17 a18 a19 S) none (cMd K a0 a1 a2 a3 a4 a5 a6 a7 a8 a9 a10 a11 a12 a13 a14 a15 a16 a17 a18 a19 R) := by
  refine zC_v (cc := cX8_passes) (maxL := 3) (by decide +kernel) rfl (Nat.le_of_ble_eq_true rfl) rfl rfl ?_
  intro p e s m below meth c Q A X hret ls hl hh
  have X : zX p m c cX8_passes 3 s ([.ref a0, .ref a8] : List Value).toArray wsX8_passes RX8 K A := X
  have hx := X.1.1
  have hb := X.1.2.1
  have hr2 : ∀ (pc : Nat) (ls : Array Slot) (H : Heap) (locs : List Loc) (S : zMd), some S = some R → decode cX8_passes pc = .ok (.return_, 1) → zW K A s H locs (cMd K a0 a1 a2 a3 a4 a5 a6 a7 a8 a9 a10 a11 a12 a13 a14 a15 a16 a17 a18 a19 S) → W p l e ({ frames := 0, cells := 0, slots := 0, locals := 0 } : Room) s m ([.ref a0, .ref a8] : List Value).toArray below meth c H locs 0 0 Q (F0 m pc ls []) := by
    intro pc ls H locs S h hd hh
    cases h; exact hret pc ls H locs hd hh
  have hl : lv_has ls 3 [(0, .ref a0), (1, .ref a8)] := hl
  have hJ42 : ∀ (v2 : Int32) (S : zMd) (k2 : (Int32) → (zMd) → Option (zMd)), (∀ (v2 : Int32) (S : zMd) (H : Heap) (locs : List Loc) (ls : Array Slot), k2 v2 S = some R → lv_has ls 3 [(0, .ref a0), (1, .ref a8), (2, .int v2)] → zW K A s H locs (cMd K a0 a1 a2 a3 a4 a5 a6 a7 a8 a9 a10 a11 a12 a13 a14 a15 a16 a17 a18 a19 S) → W p l e ({ frames := 0, cells := 0, slots := 0, locals := 0 } : Room) s m ([.ref a0, .ref a8] : List Value).toArray below meth c H locs 0 0 Q (F0 m 2 ls [])) → ∀ (H : Heap) (locs : List Loc) (ls : Array Slot), fX8_passes_uses_j42 v2 S k2 = some R → lv_has ls 3 [(0, .ref a0), (1, .ref a8), (2, .int v2)] → zW K A s H locs (cMd K a0 a1 a2 a3 a4 a5 a6 a7 a8 a9 a10 a11 a12 a13 a14 a15 a16 a17 a18 a19 S) → W p l e ({ frames := 0, cells := 0, slots := 0, locals := 0 } : Room) s m ([.ref a0, .ref a8] : List Value).toArray below meth c H locs 0 0 Q (F0 m 42 ls []) := by
    intro v2 S k2 hk2 H locs ls hf hl hh
    unfold fX8_passes_uses_j42 at hf
    refine lv_aload_n hx hb dX8_passes_42 rfl (lv_at hl 0 rfl) ?_
    refine lv_dup hx hb dX8_passes_43 rfl ?_
    refine zget (v := .int (md_cursor S)) (ref := "SumOfTwoThatStandModel") (C := RX8) (T := TX8) (N := 33) (index := 188) X hh inX8_passes_uses_X8 0 rfl rfl 23 (by decide) mmX8_passes_uses_0 rfl rfl dX8_passes_44 ?_
    refine lv_iconst (v := (1 : Int32)) hx hb dX8_passes_47 (by decide) ?_
    refine lv_iadd hx hb dX8_passes_48 ?_
    refine zput (v := .int ((md_cursor S) + (1 : Int32))) (ty := .int) (ref := "SumOfTwoThatStandModel") (C := RX8) (T := TX8) (N := 33) (index := 188) X hh inX8_passes_uses_X8 tyX8 tyX8_ok nmX8 0 rfl rfl 23 (by decide) mmX8_passes_uses_0 rfl rfl (by decide +kernel) rfl rfl (Nat.le_of_ble_eq_true rfl) dX8_passes_49 (fun H locs hh => ?_)
    have hh := hh.to (sMd_cursor K a0 a1 a2 a3 a4 a5 a6 a7 a8 a9 a10 a11 a12 a13 a14 a15 a16 a17 a18 a19 S ((md_cursor S) + (1 : Int32)))
    refine lv_iinc (v := (v2 + (1 : Int32))) (lv' := [(2, .int (v2 + (1 : Int32))), (0, .ref a0), (1, .ref a8)]) hx hb dX8_passes_52 hl (k := 2) rfl rfl (by decide) rfl (fun ls hl => ?_)
    refine lv_goto (tgt := 2) hx hb dX8_passes_55 (by decide) ?_
    exact hk2 (v2 + (1 : Int32)) (md_set_cursor S ((md_cursor S) + (1 : Int32))) H locs ls hf (lv_sub hl [1, 2, 0] rfl) hh
  have hL2 : ∀ (n : Nat) (v2 : Int32) (S : zMd), ∀ (H : Heap) (locs : List Loc) (ls : Array Slot), fX8_passes_uses_l2 n v2 S = some R → lv_has ls 3 [(0, .ref a0), (1, .ref a8), (2, .int v2)] → zW K A s H locs (cMd K a0 a1 a2 a3 a4 a5 a6 a7 a8 a9 a10 a11 a12 a13 a14 a15 a16 a17 a18 a19 S) → W p l e ({ frames := 0, cells := 0, slots := 0, locals := 0 } : Room) s m ([.ref a0, .ref a8] : List Value).toArray below meth c H locs 0 0 Q (F0 m 2 ls []) := by
    intro n
    induction n with
    | zero =>
      intro v2 S H locs ls hf hl hh
      rw [fX8_passes_uses_l2] at hf; cases hf
    | succ n ih =>
      intro v2 S H locs ls hf hl hh
      rw [fX8_passes_uses_l2] at hf
      refine lv_iload_n hx hb dX8_passes_2 rfl (lv_at hl 2 rfl) ?_
      refine lv_aload_n hx hb dX8_passes_3 rfl (lv_at hl 1 rfl) ?_
      refine zalenI (v := (12 : Int32)) X hh 8 rfl rfl dX8_passes_4 ?_
      refine lv_icmp_ge (tgt := 58) hx hb dX8_passes_5 (by decide) (fun c1 => ?_) (fun c1 => ?_)
      · replace hf := (if_pos c1).symm.trans hf
        exact hr2 58 ls H locs S hf dX8_passes_58 hh
      · replace hf := (if_neg c1).symm.trans hf
        refine lv_aload_n hx hb dX8_passes_8 rfl (lv_at hl 0 rfl) ?_
        refine zget (v := .int (md_isKeeping S)) (ref := "SumOfTwoThatStandModel") (C := RX8) (T := TX8) (N := 33) (index := 184) X hh inX8_passes_uses_X8 0 rfl rfl 22 (by decide) mmX8_passes_uses_1 rfl rfl dX8_passes_9 ?_
        refine lv_if_eq (tgt := 30) hx hb dX8_passes_12 (by decide) (fun c2 => ?_) (fun c2 => ?_)
        · replace hf := (if_pos c2).symm.trans hf
          refine lv_aload_n hx hb dX8_passes_30 rfl (lv_at hl 1 rfl) ?_
          refine lv_iload_n hx hb dX8_passes_31 rfl (lv_at hl 2 rfl) ?_
          refine lv_aload_n hx hb dX8_passes_32 rfl (lv_at hl 0 rfl) ?_
          refine zget (v := .ref a14) (ref := "SumOfTwoThatStandModel") (C := RX8) (T := TX8) (N := 33) (index := 49) X hh inX8_passes_uses_X8 0 rfl rfl 20 (by decide) mmX8_passes_uses_2 rfl rfl dX8_passes_33 ?_
          refine lv_aload_n hx hb dX8_passes_36 rfl (lv_at hl 0 rfl) ?_
          refine zget (v := .int (md_cursor S)) (ref := "SumOfTwoThatStandModel") (C := RX8) (T := TX8) (N := 33) (index := 188) X hh inX8_passes_uses_X8 0 rfl rfl 23 (by decide) mmX8_passes_uses_0 rfl rfl dX8_passes_37 ?_
          obtain ⟨g3, hf⟩ := ob_ix hf
          refine ziald (f := (md_kept S)) X hh 14 rfl g3 dX8_passes_40 ?_
          obtain ⟨g4, hf⟩ := ob_ix hf
          refine ziast (f := (md_uses S)) X hh 8 rfl g4 dX8_passes_41 (fun H locs hh => ?_)
          have hh := hh.to (sMd_uses K a0 a1 a2 a3 a4 a5 a6 a7 a8 a9 a10 a11 a12 a13 a14 a15 a16 a17 a18 a19 S (upd (md_uses S) v2.toNatClampNeg ((md_kept S) (md_cursor S).toNatClampNeg)))
          exact hJ42 v2 (md_set_uses S (upd (md_uses S) v2.toNatClampNeg ((md_kept S) (md_cursor S).toNatClampNeg))) (fX8_passes_uses_l2  n) (ih) H locs ls hf (lv_sub hl [0, 1, 2] rfl) hh
        · replace hf := (if_neg c2).symm.trans hf
          refine lv_aload_n hx hb dX8_passes_15 rfl (lv_at hl 0 rfl) ?_
          refine zget (v := .ref a14) (ref := "SumOfTwoThatStandModel") (C := RX8) (T := TX8) (N := 33) (index := 49) X hh inX8_passes_uses_X8 0 rfl rfl 20 (by decide) mmX8_passes_uses_2 rfl rfl dX8_passes_16 ?_
          refine lv_aload_n hx hb dX8_passes_19 rfl (lv_at hl 0 rfl) ?_
          refine zget (v := .int (md_cursor S)) (ref := "SumOfTwoThatStandModel") (C := RX8) (T := TX8) (N := 33) (index := 188) X hh inX8_passes_uses_X8 0 rfl rfl 23 (by decide) mmX8_passes_uses_0 rfl rfl dX8_passes_20 ?_
          refine lv_aload_n hx hb dX8_passes_23 rfl (lv_at hl 1 rfl) ?_
          refine lv_iload_n hx hb dX8_passes_24 rfl (lv_at hl 2 rfl) ?_
          obtain ⟨g5, hf⟩ := ob_ix hf
          refine ziald (f := (md_uses S)) X hh 8 rfl g5 dX8_passes_25 ?_
          obtain ⟨g6, hf⟩ := ob_ix hf
          refine ziast (f := (md_kept S)) X hh 14 rfl g6 dX8_passes_26 (fun H locs hh => ?_)
          have hh := hh.to (sMd_kept K a0 a1 a2 a3 a4 a5 a6 a7 a8 a9 a10 a11 a12 a13 a14 a15 a16 a17 a18 a19 S (upd (md_kept S) (md_cursor S).toNatClampNeg ((md_uses S) v2.toNatClampNeg)))
          refine lv_goto (tgt := 42) hx hb dX8_passes_27 (by decide) ?_
          exact hJ42 v2 (md_set_kept S (upd (md_kept S) (md_cursor S).toNatClampNeg ((md_uses S) v2.toNatClampNeg))) (fX8_passes_uses_l2  n) (ih) H locs ls hf (lv_sub hl [0, 1, 2] rfl) hh
  unfold fX8_passes_uses at hf
  refine (fun (hmain : ∀ (H : Heap) (locs : List Loc), zW K A s H locs (cMd K a0 a1 a2 a3 a4 a5 a6 a7 a8 a9 a10 a11 a12 a13 a14 a15 a16 a17 a18 a19 S) → W p l e ({ frames := 0, cells := 0, slots := 0, locals := 0 } : Room) s m ([.ref a0, .ref a8] : List Value).toArray below meth c H locs 0 0 Q (F0 m 0 ls [])) => hmain s.heap [] hh) (fun H locs hh => ?_)
  refine lv_iconst (v := (0 : Int32)) hx hb dX8_passes_0 (by decide) ?_
  refine lv_istore_n (lv' := [(2, .int (0 : Int32)), (0, .ref a0), (1, .ref a8)]) hx hb dX8_passes_1 rfl hl (by decide) rfl (fun ls hl => ?_)
  exact hL2 FU (0 : Int32) S H locs ls hf (lv_sub hl [1, 2, 0] rfl) hh
theorem inX8_passes_earned_X8 : ∀ w ∈ wsX80, w ∈ wsX8_passes := by decide +kernel
theorem mmX8_passes_earned_0 : Cond.fieldLink RX8 188 "SumOfTwoThatStandModel" "cursor" "I" ∈ wsX8_passes := by decide +kernel
theorem mmX8_passes_earned_1 : Cond.fieldLink RX8 184 "SumOfTwoThatStandModel" "isKeeping" "Z" ∈ wsX8_passes := by decide +kernel
theorem mmX8_passes_earned_2 : Cond.fieldLink RX8 49 "SumOfTwoThatStandModel" "kept" "[I" ∈ wsX8_passes := by decide +kernel
set_option maxHeartbeats 4000000 in
set_option maxRecDepth 100000 in
theorem kX8_passes_earned (l : Launch) (K : zK) (a0 a1 a2 a3 a4 a5 a6 a7 a8 a9 a10 a11 a12 a13 a14 a15 a16 a17 a18 a19 : Nat) (S : zMd) (R : zMd) (hf : fX8_passes_earned S = some R) : zC l yX8_passes wsX8_passes ({ frames := 0, cells := 0, slots := 0, locals := 0 } : Room) K [.ref a0, .ref a9] (cMd K a0 a1 a2 a3 a4 a5 a6 a7 a8 a9 a10 a11 a12 a13 a14 a15 a16 a17 a18 a19 S) none (cMd K a0 a1 a2 a3 a4 a5 a6 a7 a8 a9 a10 a11 a12 a13 a14 a15 a16 a17 a18 a19 R) := by
  refine zC_v (cc := cX8_passes) (maxL := 3) (by decide +kernel) rfl (Nat.le_of_ble_eq_true rfl) rfl rfl ?_
  intro p e s m below meth c Q A X hret ls hl hh
  have X : zX p m c cX8_passes 3 s ([.ref a0, .ref a9] : List Value).toArray wsX8_passes RX8 K A := X
  have hx := X.1.1
  have hb := X.1.2.1
  have hr2 : ∀ (pc : Nat) (ls : Array Slot) (H : Heap) (locs : List Loc) (S : zMd), some S = some R → decode cX8_passes pc = .ok (.return_, 1) → zW K A s H locs (cMd K a0 a1 a2 a3 a4 a5 a6 a7 a8 a9 a10 a11 a12 a13 a14 a15 a16 a17 a18 a19 S) → W p l e ({ frames := 0, cells := 0, slots := 0, locals := 0 } : Room) s m ([.ref a0, .ref a9] : List Value).toArray below meth c H locs 0 0 Q (F0 m pc ls []) := by
    intro pc ls H locs S h hd hh
    cases h; exact hret pc ls H locs hd hh
  have hl : lv_has ls 3 [(0, .ref a0), (1, .ref a9)] := hl
  have hJ42 : ∀ (v2 : Int32) (S : zMd) (k2 : (Int32) → (zMd) → Option (zMd)), (∀ (v2 : Int32) (S : zMd) (H : Heap) (locs : List Loc) (ls : Array Slot), k2 v2 S = some R → lv_has ls 3 [(0, .ref a0), (1, .ref a9), (2, .int v2)] → zW K A s H locs (cMd K a0 a1 a2 a3 a4 a5 a6 a7 a8 a9 a10 a11 a12 a13 a14 a15 a16 a17 a18 a19 S) → W p l e ({ frames := 0, cells := 0, slots := 0, locals := 0 } : Room) s m ([.ref a0, .ref a9] : List Value).toArray below meth c H locs 0 0 Q (F0 m 2 ls [])) → ∀ (H : Heap) (locs : List Loc) (ls : Array Slot), fX8_passes_earned_j42 v2 S k2 = some R → lv_has ls 3 [(0, .ref a0), (1, .ref a9), (2, .int v2)] → zW K A s H locs (cMd K a0 a1 a2 a3 a4 a5 a6 a7 a8 a9 a10 a11 a12 a13 a14 a15 a16 a17 a18 a19 S) → W p l e ({ frames := 0, cells := 0, slots := 0, locals := 0 } : Room) s m ([.ref a0, .ref a9] : List Value).toArray below meth c H locs 0 0 Q (F0 m 42 ls []) := by
    intro v2 S k2 hk2 H locs ls hf hl hh
    unfold fX8_passes_earned_j42 at hf
    refine lv_aload_n hx hb dX8_passes_42 rfl (lv_at hl 0 rfl) ?_
    refine lv_dup hx hb dX8_passes_43 rfl ?_
    refine zget (v := .int (md_cursor S)) (ref := "SumOfTwoThatStandModel") (C := RX8) (T := TX8) (N := 33) (index := 188) X hh inX8_passes_earned_X8 0 rfl rfl 23 (by decide) mmX8_passes_earned_0 rfl rfl dX8_passes_44 ?_
    refine lv_iconst (v := (1 : Int32)) hx hb dX8_passes_47 (by decide) ?_
    refine lv_iadd hx hb dX8_passes_48 ?_
    refine zput (v := .int ((md_cursor S) + (1 : Int32))) (ty := .int) (ref := "SumOfTwoThatStandModel") (C := RX8) (T := TX8) (N := 33) (index := 188) X hh inX8_passes_earned_X8 tyX8 tyX8_ok nmX8 0 rfl rfl 23 (by decide) mmX8_passes_earned_0 rfl rfl (by decide +kernel) rfl rfl (Nat.le_of_ble_eq_true rfl) dX8_passes_49 (fun H locs hh => ?_)
    have hh := hh.to (sMd_cursor K a0 a1 a2 a3 a4 a5 a6 a7 a8 a9 a10 a11 a12 a13 a14 a15 a16 a17 a18 a19 S ((md_cursor S) + (1 : Int32)))
    refine lv_iinc (v := (v2 + (1 : Int32))) (lv' := [(2, .int (v2 + (1 : Int32))), (0, .ref a0), (1, .ref a9)]) hx hb dX8_passes_52 hl (k := 2) rfl rfl (by decide) rfl (fun ls hl => ?_)
    refine lv_goto (tgt := 2) hx hb dX8_passes_55 (by decide) ?_
    exact hk2 (v2 + (1 : Int32)) (md_set_cursor S ((md_cursor S) + (1 : Int32))) H locs ls hf (lv_sub hl [1, 2, 0] rfl) hh
  have hL2 : ∀ (n : Nat) (v2 : Int32) (S : zMd), ∀ (H : Heap) (locs : List Loc) (ls : Array Slot), fX8_passes_earned_l2 n v2 S = some R → lv_has ls 3 [(0, .ref a0), (1, .ref a9), (2, .int v2)] → zW K A s H locs (cMd K a0 a1 a2 a3 a4 a5 a6 a7 a8 a9 a10 a11 a12 a13 a14 a15 a16 a17 a18 a19 S) → W p l e ({ frames := 0, cells := 0, slots := 0, locals := 0 } : Room) s m ([.ref a0, .ref a9] : List Value).toArray below meth c H locs 0 0 Q (F0 m 2 ls []) := by
    intro n
    induction n with
    | zero =>
      intro v2 S H locs ls hf hl hh
      rw [fX8_passes_earned_l2] at hf; cases hf
    | succ n ih =>
      intro v2 S H locs ls hf hl hh
      rw [fX8_passes_earned_l2] at hf
      refine lv_iload_n hx hb dX8_passes_2 rfl (lv_at hl 2 rfl) ?_
      refine lv_aload_n hx hb dX8_passes_3 rfl (lv_at hl 1 rfl) ?_
      refine zalenI (v := (12 : Int32)) X hh 9 rfl rfl dX8_passes_4 ?_
      refine lv_icmp_ge (tgt := 58) hx hb dX8_passes_5 (by decide) (fun c1 => ?_) (fun c1 => ?_)
      · replace hf := (if_pos c1).symm.trans hf
        exact hr2 58 ls H locs S hf dX8_passes_58 hh
      · replace hf := (if_neg c1).symm.trans hf
        refine lv_aload_n hx hb dX8_passes_8 rfl (lv_at hl 0 rfl) ?_
        refine zget (v := .int (md_isKeeping S)) (ref := "SumOfTwoThatStandModel") (C := RX8) (T := TX8) (N := 33) (index := 184) X hh inX8_passes_earned_X8 0 rfl rfl 22 (by decide) mmX8_passes_earned_1 rfl rfl dX8_passes_9 ?_
        refine lv_if_eq (tgt := 30) hx hb dX8_passes_12 (by decide) (fun c2 => ?_) (fun c2 => ?_)
        · replace hf := (if_pos c2).symm.trans hf
          refine lv_aload_n hx hb dX8_passes_30 rfl (lv_at hl 1 rfl) ?_
          refine lv_iload_n hx hb dX8_passes_31 rfl (lv_at hl 2 rfl) ?_
          refine lv_aload_n hx hb dX8_passes_32 rfl (lv_at hl 0 rfl) ?_
          refine zget (v := .ref a14) (ref := "SumOfTwoThatStandModel") (C := RX8) (T := TX8) (N := 33) (index := 49) X hh inX8_passes_earned_X8 0 rfl rfl 20 (by decide) mmX8_passes_earned_2 rfl rfl dX8_passes_33 ?_
          refine lv_aload_n hx hb dX8_passes_36 rfl (lv_at hl 0 rfl) ?_
          refine zget (v := .int (md_cursor S)) (ref := "SumOfTwoThatStandModel") (C := RX8) (T := TX8) (N := 33) (index := 188) X hh inX8_passes_earned_X8 0 rfl rfl 23 (by decide) mmX8_passes_earned_0 rfl rfl dX8_passes_37 ?_
          obtain ⟨g3, hf⟩ := ob_ix hf
          refine ziald (f := (md_kept S)) X hh 14 rfl g3 dX8_passes_40 ?_
          obtain ⟨g4, hf⟩ := ob_ix hf
          refine ziast (f := (md_earned S)) X hh 9 rfl g4 dX8_passes_41 (fun H locs hh => ?_)
          have hh := hh.to (sMd_earned K a0 a1 a2 a3 a4 a5 a6 a7 a8 a9 a10 a11 a12 a13 a14 a15 a16 a17 a18 a19 S (upd (md_earned S) v2.toNatClampNeg ((md_kept S) (md_cursor S).toNatClampNeg)))
          exact hJ42 v2 (md_set_earned S (upd (md_earned S) v2.toNatClampNeg ((md_kept S) (md_cursor S).toNatClampNeg))) (fX8_passes_earned_l2  n) (ih) H locs ls hf (lv_sub hl [0, 1, 2] rfl) hh
        · replace hf := (if_neg c2).symm.trans hf
          refine lv_aload_n hx hb dX8_passes_15 rfl (lv_at hl 0 rfl) ?_
          refine zget (v := .ref a14) (ref := "SumOfTwoThatStandModel") (C := RX8) (T := TX8) (N := 33) (index := 49) X hh inX8_passes_earned_X8 0 rfl rfl 20 (by decide) mmX8_passes_earned_2 rfl rfl dX8_passes_16 ?_
          refine lv_aload_n hx hb dX8_passes_19 rfl (lv_at hl 0 rfl) ?_
          refine zget (v := .int (md_cursor S)) (ref := "SumOfTwoThatStandModel") (C := RX8) (T := TX8) (N := 33) (index := 188) X hh inX8_passes_earned_X8 0 rfl rfl 23 (by decide) mmX8_passes_earned_0 rfl rfl dX8_passes_20 ?_
          refine lv_aload_n hx hb dX8_passes_23 rfl (lv_at hl 1 rfl) ?_
          refine lv_iload_n hx hb dX8_passes_24 rfl (lv_at hl 2 rfl) ?_
          obtain ⟨g5, hf⟩ := ob_ix hf
          refine ziald (f := (md_earned S)) X hh 9 rfl g5 dX8_passes_25 ?_
          obtain ⟨g6, hf⟩ := ob_ix hf
          refine ziast (f := (md_kept S)) X hh 14 rfl g6 dX8_passes_26 (fun H locs hh => ?_)
          have hh := hh.to (sMd_kept K a0 a1 a2 a3 a4 a5 a6 a7 a8 a9 a10 a11 a12 a13 a14 a15 a16 a17 a18 a19 S (upd (md_kept S) (md_cursor S).toNatClampNeg ((md_earned S) v2.toNatClampNeg)))
          refine lv_goto (tgt := 42) hx hb dX8_passes_27 (by decide) ?_
          exact hJ42 v2 (md_set_kept S (upd (md_kept S) (md_cursor S).toNatClampNeg ((md_earned S) v2.toNatClampNeg))) (fX8_passes_earned_l2  n) (ih) H locs ls hf (lv_sub hl [0, 1, 2] rfl) hh
  unfold fX8_passes_earned at hf
  refine (fun (hmain : ∀ (H : Heap) (locs : List Loc), zW K A s H locs (cMd K a0 a1 a2 a3 a4 a5 a6 a7 a8 a9 a10 a11 a12 a13 a14 a15 a16 a17 a18 a19 S) → W p l e ({ frames := 0, cells := 0, slots := 0, locals := 0 } : Room) s m ([.ref a0, .ref a9] : List Value).toArray below meth c H locs 0 0 Q (F0 m 0 ls [])) => hmain s.heap [] hh) (fun H locs hh => ?_)
  refine lv_iconst (v := (0 : Int32)) hx hb dX8_passes_0 (by decide) ?_
  refine lv_istore_n (lv' := [(2, .int (0 : Int32)), (0, .ref a0), (1, .ref a9)]) hx hb dX8_passes_1 rfl hl (by decide) rfl (fun ls hl => ?_)
  exact hL2 FU (0 : Int32) S H locs ls hf (lv_sub hl [1, 2, 0] rfl) hh
theorem inX8_passesAll_X8 : ∀ w ∈ wsX80, w ∈ wsX8_passesAll := by decide +kernel
theorem mmX8_passesAll_0 : Cond.fieldLink RX8 188 "SumOfTwoThatStandModel" "cursor" "I" ∈ wsX8_passesAll := by decide +kernel
theorem mmX8_passesAll_1 : Cond.fieldLink RX8 184 "SumOfTwoThatStandModel" "isKeeping" "Z" ∈ wsX8_passesAll := by decide +kernel
theorem mmX8_passesAll_2 : Cond.fieldLink RX8 13 "SumOfTwoThatStandModel" "number" "[I" ∈ wsX8_passesAll := by decide +kernel
theorem mmX8_passesAll_3 : Cond.fieldLink RX8 16 "SumOfTwoThatStandModel" "kind" "[I" ∈ wsX8_passesAll := by decide +kernel
theorem mmX8_passesAll_4 : Cond.fieldLink RX8 19 "SumOfTwoThatStandModel" "figure" "[I" ∈ wsX8_passesAll := by decide +kernel
theorem mmX8_passesAll_5 : Cond.fieldLink RX8 22 "SumOfTwoThatStandModel" "one" "[I" ∈ wsX8_passesAll := by decide +kernel
theorem mmX8_passesAll_6 : Cond.fieldLink RX8 25 "SumOfTwoThatStandModel" "other" "[I" ∈ wsX8_passesAll := by decide +kernel
theorem mmX8_passesAll_7 : Cond.fieldLink RX8 28 "SumOfTwoThatStandModel" "stands" "[I" ∈ wsX8_passesAll := by decide +kernel
theorem mmX8_passesAll_8 : Cond.fieldLink RX8 31 "SumOfTwoThatStandModel" "uses" "[I" ∈ wsX8_passesAll := by decide +kernel
theorem mmX8_passesAll_9 : Cond.fieldLink RX8 34 "SumOfTwoThatStandModel" "earned" "[I" ∈ wsX8_passesAll := by decide +kernel
theorem mmX8_passesAll_10 : Cond.fieldLink RX8 70 "SumOfTwoThatStandModel" "houses" "I" ∈ wsX8_passesAll := by decide +kernel
theorem mmX8_passesAll_11 : Cond.fieldLink RX8 86 "SumOfTwoThatStandModel" "sums" "I" ∈ wsX8_passesAll := by decide +kernel
theorem mmX8_passesAll_12 : Cond.fieldLink RX8 111 "SumOfTwoThatStandModel" "falls" "I" ∈ wsX8_passesAll := by decide +kernel
theorem hdX8_passesAll : yX8_passesAll.cls ≠ "java/lang/invoke/MethodHandle" ∧ yX8_passesAll.cls ≠ "java/lang/invoke/VarHandle" ∧ (parseMethodDescriptor yX8_passesAll.desc).map (fun d => d.parameters.length) = some 2 := by decide +kernel
set_option maxHeartbeats 4000000 in
set_option maxRecDepth 100000 in
theorem kX8_passesAll (l : Launch) (K : zK) (a0 a1 a2 a3 a4 a5 a6 a7 a8 a9 a10 a11 a12 a13 a14 a15 a16 a17 a18 a19 : Nat) (S : zMd) (p1 : Int32) (p2 : Int32) (R : zMd) (hf : fX8_passesAll S p1 p2 = some R) : zC l yX8_passesAll wsX8_passesAll ({ frames := 1, cells := 0, slots := 0, locals := 22 } : Room) K [.ref a0, .int p1, .int p2] (cMd K a0 a1 a2 a3 a4 a5 a6 a7 a8 a9 a10 a11 a12 a13 a14 a15 a16 a17 a18 a19 S) none (cMd K a0 a1 a2 a3 a4 a5 a6 a7 a8 a9 a10 a11 a12 a13 a14 a15 a16 a17 a18 a19 R) := by
  refine zC_v (cc := cX8_passesAll) (maxL := 3) (by decide +kernel) rfl (Nat.le_of_ble_eq_true rfl) rfl rfl ?_
  intro p e s m below meth c Q A X hret ls hl hh
  have X : zX p m c cX8_passesAll 3 s ([.ref a0, .int p1, .int p2] : List Value).toArray wsX8_passesAll RX8 K A := X
  have hx := X.1.1
  have hb := X.1.2.1
  have hr2 : ∀ (pc : Nat) (ls : Array Slot) (H : Heap) (locs : List Loc) (S : zMd), some S = some R → decode cX8_passesAll pc = .ok (.return_, 1) → zW K A s H locs (cMd K a0 a1 a2 a3 a4 a5 a6 a7 a8 a9 a10 a11 a12 a13 a14 a15 a16 a17 a18 a19 S) → W p l e ({ frames := 1, cells := 0, slots := 0, locals := 22 } : Room) s m ([.ref a0, .int p1, .int p2] : List Value).toArray below meth c H locs 0 0 Q (F0 m pc ls []) := by
    intro pc ls H locs S h hd hh
    cases h; exact hret pc ls H locs hd hh
  have hl : lv_has ls 3 [(0, .ref a0), (1, .int p1), (2, .int p2)] := hl
  unfold fX8_passesAll at hf
  refine (fun (hmain : ∀ (H : Heap) (locs : List Loc), zW K A s H locs (cMd K a0 a1 a2 a3 a4 a5 a6 a7 a8 a9 a10 a11 a12 a13 a14 a15 a16 a17 a18 a19 S) → W p l e ({ frames := 1, cells := 0, slots := 0, locals := 22 } : Room) s m ([.ref a0, .int p1, .int p2] : List Value).toArray below meth c H locs 0 0 Q (F0 m 0 ls [])) => hmain s.heap [] hh) (fun H locs hh => ?_)
  refine lv_aload_n hx hb dX8_passesAll_0 rfl (lv_at hl 0 rfl) ?_
  refine lv_bipush (v := (100 : Int32)) hx hb dX8_passesAll_1 (by decide) ?_
  refine lv_iload_n hx hb dX8_passesAll_3 rfl (lv_at hl 1 rfl) ?_
  refine lv_imul hx hb dX8_passesAll_4 ?_
  refine zput (v := .int ((100 : Int32) * p1)) (ty := .int) (ref := "SumOfTwoThatStandModel") (C := RX8) (T := TX8) (N := 33) (index := 188) X hh inX8_passesAll_X8 tyX8 tyX8_ok nmX8 0 rfl rfl 23 (by decide) mmX8_passesAll_0 rfl rfl (by decide +kernel) rfl rfl (Nat.le_of_ble_eq_true rfl) dX8_passesAll_5 (fun H locs hh => ?_)
  have hh := hh.to (sMd_cursor K a0 a1 a2 a3 a4 a5 a6 a7 a8 a9 a10 a11 a12 a13 a14 a15 a16 a17 a18 a19 S ((100 : Int32) * p1))
  refine lv_aload_n hx hb dX8_passesAll_8 rfl (lv_at hl 0 rfl) ?_
  refine lv_iload_n hx hb dX8_passesAll_9 rfl (lv_at hl 2 rfl) ?_
  obtain ⟨g1, hf⟩ := ob_ck hf
  refine zput (v := .int p2) (ty := .boolean) (ref := "SumOfTwoThatStandModel") (C := RX8) (T := TX8) (N := 33) (index := 184) X hh inX8_passesAll_X8 tyX8 tyX8_ok nmX8 0 rfl rfl 22 (by decide) mmX8_passesAll_1 rfl rfl (by decide +kernel) (nar_ok g1) (fit_ok g1) (Nat.le_of_ble_eq_true rfl) dX8_passesAll_10 (fun H locs hh => ?_)
  have hh := hh.to (sMd_isKeeping K a0 a1 a2 a3 a4 a5 a6 a7 a8 a9 a10 a11 a12 a13 a14 a15 a16 a17 a18 a19 (md_set_cursor S ((100 : Int32) * p1)) p2)
  refine lv_aload_n hx hb dX8_passesAll_13 rfl (lv_at hl 0 rfl) ?_
  refine lv_aload_n hx hb dX8_passesAll_14 rfl (lv_at hl 0 rfl) ?_
  refine zget (v := .ref a2) (ref := "SumOfTwoThatStandModel") (C := RX8) (T := TX8) (N := 33) (index := 13) X hh inX8_passesAll_X8 0 rfl rfl 1 (by decide) mmX8_passesAll_2 rfl rfl dX8_passesAll_15 ?_
  obtain ⟨u2, hu2, hf⟩ := ob_bind hf
  refine zcallV (ci := 7) (q0 := 0) (As := [.ref a2]) (rest := []) (wr := []) (ws' := cMd K a0 a1 a2 a3 a4 a5 a6 a7 a8 a9 a10 a11 a12 a13 a14 a15 a16 a17 a18 a19 u2) (ov := none) X hh hl (kX8_passes_number l K a0 a1 a2 a3 a4 a5 a6 a7 a8 a9 a10 a11 a12 a13 a14 a15 a16 a17 a18 a19 (md_set_isKeeping (md_set_cursor S ((100 : Int32) * p1)) p2) u2 hu2) (fun ht => cwV 1 ht gX8_passesAll_X8_passes rfl rfl rfl ⟨rfl, hdX8_passes⟩ ⟨Nat.le_of_ble_eq_true rfl, Nat.le_of_ble_eq_true rfl⟩) [0, 1, 2, 3, 4, 5, 6, 7, 8, 9, 10, 11, 12, 13, 14, 15, 16, 17, 18, 19] [] [0, 1, 2, 3, 4, 5, 6, 7, 8, 9, 10, 11, 12, 13, 14, 15, 16, 17, 18, 19] rfl rfl rfl rfl (by decide) rfl rfl rfl rfl rfl rfl (Nat.le_of_ble_eq_true rfl) dX8_passesAll_18 ⟨Nat.zero_le _, Nat.zero_le _⟩ (fun H locs hh => ?_)
  refine lv_aload_n hx hb dX8_passesAll_21 rfl (lv_at hl 0 rfl) ?_
  refine lv_aload_n hx hb dX8_passesAll_22 rfl (lv_at hl 0 rfl) ?_
  refine zget (v := .ref a3) (ref := "SumOfTwoThatStandModel") (C := RX8) (T := TX8) (N := 33) (index := 16) X hh inX8_passesAll_X8 0 rfl rfl 2 (by decide) mmX8_passesAll_3 rfl rfl dX8_passesAll_23 ?_
  obtain ⟨u3, hu3, hf⟩ := ob_bind hf
  refine zcallV (ci := 7) (q0 := 0) (As := [.ref a3]) (rest := []) (wr := []) (ws' := cMd K a0 a1 a2 a3 a4 a5 a6 a7 a8 a9 a10 a11 a12 a13 a14 a15 a16 a17 a18 a19 u3) (ov := none) X hh hl (kX8_passes_kind l K a0 a1 a2 a3 a4 a5 a6 a7 a8 a9 a10 a11 a12 a13 a14 a15 a16 a17 a18 a19 u2 u3 hu3) (fun ht => cwV 1 ht gX8_passesAll_X8_passes rfl rfl rfl ⟨rfl, hdX8_passes⟩ ⟨Nat.le_of_ble_eq_true rfl, Nat.le_of_ble_eq_true rfl⟩) [0, 1, 2, 3, 4, 5, 6, 7, 8, 9, 10, 11, 12, 13, 14, 15, 16, 17, 18, 19] [] [0, 1, 2, 3, 4, 5, 6, 7, 8, 9, 10, 11, 12, 13, 14, 15, 16, 17, 18, 19] rfl rfl rfl rfl (by decide) rfl rfl rfl rfl rfl rfl (Nat.le_of_ble_eq_true rfl) dX8_passesAll_26 ⟨Nat.zero_le _, Nat.zero_le _⟩ (fun H locs hh => ?_)
  refine lv_aload_n hx hb dX8_passesAll_29 rfl (lv_at hl 0 rfl) ?_
  refine lv_aload_n hx hb dX8_passesAll_30 rfl (lv_at hl 0 rfl) ?_
  refine zget (v := .ref a4) (ref := "SumOfTwoThatStandModel") (C := RX8) (T := TX8) (N := 33) (index := 19) X hh inX8_passesAll_X8 0 rfl rfl 3 (by decide) mmX8_passesAll_4 rfl rfl dX8_passesAll_31 ?_
  obtain ⟨u4, hu4, hf⟩ := ob_bind hf
  refine zcallV (ci := 7) (q0 := 0) (As := [.ref a4]) (rest := []) (wr := []) (ws' := cMd K a0 a1 a2 a3 a4 a5 a6 a7 a8 a9 a10 a11 a12 a13 a14 a15 a16 a17 a18 a19 u4) (ov := none) X hh hl (kX8_passes_figure l K a0 a1 a2 a3 a4 a5 a6 a7 a8 a9 a10 a11 a12 a13 a14 a15 a16 a17 a18 a19 u3 u4 hu4) (fun ht => cwV 1 ht gX8_passesAll_X8_passes rfl rfl rfl ⟨rfl, hdX8_passes⟩ ⟨Nat.le_of_ble_eq_true rfl, Nat.le_of_ble_eq_true rfl⟩) [0, 1, 2, 3, 4, 5, 6, 7, 8, 9, 10, 11, 12, 13, 14, 15, 16, 17, 18, 19] [] [0, 1, 2, 3, 4, 5, 6, 7, 8, 9, 10, 11, 12, 13, 14, 15, 16, 17, 18, 19] rfl rfl rfl rfl (by decide) rfl rfl rfl rfl rfl rfl (Nat.le_of_ble_eq_true rfl) dX8_passesAll_34 ⟨Nat.zero_le _, Nat.zero_le _⟩ (fun H locs hh => ?_)
  refine lv_aload_n hx hb dX8_passesAll_37 rfl (lv_at hl 0 rfl) ?_
  refine lv_aload_n hx hb dX8_passesAll_38 rfl (lv_at hl 0 rfl) ?_
  refine zget (v := .ref a5) (ref := "SumOfTwoThatStandModel") (C := RX8) (T := TX8) (N := 33) (index := 22) X hh inX8_passesAll_X8 0 rfl rfl 4 (by decide) mmX8_passesAll_5 rfl rfl dX8_passesAll_39 ?_
  obtain ⟨u5, hu5, hf⟩ := ob_bind hf
  refine zcallV (ci := 7) (q0 := 0) (As := [.ref a5]) (rest := []) (wr := []) (ws' := cMd K a0 a1 a2 a3 a4 a5 a6 a7 a8 a9 a10 a11 a12 a13 a14 a15 a16 a17 a18 a19 u5) (ov := none) X hh hl (kX8_passes_one l K a0 a1 a2 a3 a4 a5 a6 a7 a8 a9 a10 a11 a12 a13 a14 a15 a16 a17 a18 a19 u4 u5 hu5) (fun ht => cwV 1 ht gX8_passesAll_X8_passes rfl rfl rfl ⟨rfl, hdX8_passes⟩ ⟨Nat.le_of_ble_eq_true rfl, Nat.le_of_ble_eq_true rfl⟩) [0, 1, 2, 3, 4, 5, 6, 7, 8, 9, 10, 11, 12, 13, 14, 15, 16, 17, 18, 19] [] [0, 1, 2, 3, 4, 5, 6, 7, 8, 9, 10, 11, 12, 13, 14, 15, 16, 17, 18, 19] rfl rfl rfl rfl (by decide) rfl rfl rfl rfl rfl rfl (Nat.le_of_ble_eq_true rfl) dX8_passesAll_42 ⟨Nat.zero_le _, Nat.zero_le _⟩ (fun H locs hh => ?_)
  refine lv_aload_n hx hb dX8_passesAll_45 rfl (lv_at hl 0 rfl) ?_
  refine lv_aload_n hx hb dX8_passesAll_46 rfl (lv_at hl 0 rfl) ?_
  refine zget (v := .ref a6) (ref := "SumOfTwoThatStandModel") (C := RX8) (T := TX8) (N := 33) (index := 25) X hh inX8_passesAll_X8 0 rfl rfl 5 (by decide) mmX8_passesAll_6 rfl rfl dX8_passesAll_47 ?_
  obtain ⟨u6, hu6, hf⟩ := ob_bind hf
  refine zcallV (ci := 7) (q0 := 0) (As := [.ref a6]) (rest := []) (wr := []) (ws' := cMd K a0 a1 a2 a3 a4 a5 a6 a7 a8 a9 a10 a11 a12 a13 a14 a15 a16 a17 a18 a19 u6) (ov := none) X hh hl (kX8_passes_other l K a0 a1 a2 a3 a4 a5 a6 a7 a8 a9 a10 a11 a12 a13 a14 a15 a16 a17 a18 a19 u5 u6 hu6) (fun ht => cwV 1 ht gX8_passesAll_X8_passes rfl rfl rfl ⟨rfl, hdX8_passes⟩ ⟨Nat.le_of_ble_eq_true rfl, Nat.le_of_ble_eq_true rfl⟩) [0, 1, 2, 3, 4, 5, 6, 7, 8, 9, 10, 11, 12, 13, 14, 15, 16, 17, 18, 19] [] [0, 1, 2, 3, 4, 5, 6, 7, 8, 9, 10, 11, 12, 13, 14, 15, 16, 17, 18, 19] rfl rfl rfl rfl (by decide) rfl rfl rfl rfl rfl rfl (Nat.le_of_ble_eq_true rfl) dX8_passesAll_50 ⟨Nat.zero_le _, Nat.zero_le _⟩ (fun H locs hh => ?_)
  refine lv_aload_n hx hb dX8_passesAll_53 rfl (lv_at hl 0 rfl) ?_
  refine lv_aload_n hx hb dX8_passesAll_54 rfl (lv_at hl 0 rfl) ?_
  refine zget (v := .ref a7) (ref := "SumOfTwoThatStandModel") (C := RX8) (T := TX8) (N := 33) (index := 28) X hh inX8_passesAll_X8 0 rfl rfl 6 (by decide) mmX8_passesAll_7 rfl rfl dX8_passesAll_55 ?_
  obtain ⟨u7, hu7, hf⟩ := ob_bind hf
  refine zcallV (ci := 7) (q0 := 0) (As := [.ref a7]) (rest := []) (wr := []) (ws' := cMd K a0 a1 a2 a3 a4 a5 a6 a7 a8 a9 a10 a11 a12 a13 a14 a15 a16 a17 a18 a19 u7) (ov := none) X hh hl (kX8_passes_stands l K a0 a1 a2 a3 a4 a5 a6 a7 a8 a9 a10 a11 a12 a13 a14 a15 a16 a17 a18 a19 u6 u7 hu7) (fun ht => cwV 1 ht gX8_passesAll_X8_passes rfl rfl rfl ⟨rfl, hdX8_passes⟩ ⟨Nat.le_of_ble_eq_true rfl, Nat.le_of_ble_eq_true rfl⟩) [0, 1, 2, 3, 4, 5, 6, 7, 8, 9, 10, 11, 12, 13, 14, 15, 16, 17, 18, 19] [] [0, 1, 2, 3, 4, 5, 6, 7, 8, 9, 10, 11, 12, 13, 14, 15, 16, 17, 18, 19] rfl rfl rfl rfl (by decide) rfl rfl rfl rfl rfl rfl (Nat.le_of_ble_eq_true rfl) dX8_passesAll_58 ⟨Nat.zero_le _, Nat.zero_le _⟩ (fun H locs hh => ?_)
  refine lv_aload_n hx hb dX8_passesAll_61 rfl (lv_at hl 0 rfl) ?_
  refine lv_aload_n hx hb dX8_passesAll_62 rfl (lv_at hl 0 rfl) ?_
  refine zget (v := .ref a8) (ref := "SumOfTwoThatStandModel") (C := RX8) (T := TX8) (N := 33) (index := 31) X hh inX8_passesAll_X8 0 rfl rfl 7 (by decide) mmX8_passesAll_8 rfl rfl dX8_passesAll_63 ?_
  obtain ⟨u8, hu8, hf⟩ := ob_bind hf
  refine zcallV (ci := 7) (q0 := 0) (As := [.ref a8]) (rest := []) (wr := []) (ws' := cMd K a0 a1 a2 a3 a4 a5 a6 a7 a8 a9 a10 a11 a12 a13 a14 a15 a16 a17 a18 a19 u8) (ov := none) X hh hl (kX8_passes_uses l K a0 a1 a2 a3 a4 a5 a6 a7 a8 a9 a10 a11 a12 a13 a14 a15 a16 a17 a18 a19 u7 u8 hu8) (fun ht => cwV 1 ht gX8_passesAll_X8_passes rfl rfl rfl ⟨rfl, hdX8_passes⟩ ⟨Nat.le_of_ble_eq_true rfl, Nat.le_of_ble_eq_true rfl⟩) [0, 1, 2, 3, 4, 5, 6, 7, 8, 9, 10, 11, 12, 13, 14, 15, 16, 17, 18, 19] [] [0, 1, 2, 3, 4, 5, 6, 7, 8, 9, 10, 11, 12, 13, 14, 15, 16, 17, 18, 19] rfl rfl rfl rfl (by decide) rfl rfl rfl rfl rfl rfl (Nat.le_of_ble_eq_true rfl) dX8_passesAll_66 ⟨Nat.zero_le _, Nat.zero_le _⟩ (fun H locs hh => ?_)
  refine lv_aload_n hx hb dX8_passesAll_69 rfl (lv_at hl 0 rfl) ?_
  refine lv_aload_n hx hb dX8_passesAll_70 rfl (lv_at hl 0 rfl) ?_
  refine zget (v := .ref a9) (ref := "SumOfTwoThatStandModel") (C := RX8) (T := TX8) (N := 33) (index := 34) X hh inX8_passesAll_X8 0 rfl rfl 8 (by decide) mmX8_passesAll_9 rfl rfl dX8_passesAll_71 ?_
  obtain ⟨u9, hu9, hf⟩ := ob_bind hf
  refine zcallV (ci := 7) (q0 := 0) (As := [.ref a9]) (rest := []) (wr := []) (ws' := cMd K a0 a1 a2 a3 a4 a5 a6 a7 a8 a9 a10 a11 a12 a13 a14 a15 a16 a17 a18 a19 u9) (ov := none) X hh hl (kX8_passes_earned l K a0 a1 a2 a3 a4 a5 a6 a7 a8 a9 a10 a11 a12 a13 a14 a15 a16 a17 a18 a19 u8 u9 hu9) (fun ht => cwV 1 ht gX8_passesAll_X8_passes rfl rfl rfl ⟨rfl, hdX8_passes⟩ ⟨Nat.le_of_ble_eq_true rfl, Nat.le_of_ble_eq_true rfl⟩) [0, 1, 2, 3, 4, 5, 6, 7, 8, 9, 10, 11, 12, 13, 14, 15, 16, 17, 18, 19] [] [0, 1, 2, 3, 4, 5, 6, 7, 8, 9, 10, 11, 12, 13, 14, 15, 16, 17, 18, 19] rfl rfl rfl rfl (by decide) rfl rfl rfl rfl rfl rfl (Nat.le_of_ble_eq_true rfl) dX8_passesAll_74 ⟨Nat.zero_le _, Nat.zero_le _⟩ (fun H locs hh => ?_)
  refine lv_aload_n hx hb dX8_passesAll_77 rfl (lv_at hl 0 rfl) ?_
  refine lv_aload_n hx hb dX8_passesAll_78 rfl (lv_at hl 0 rfl) ?_
  refine lv_aload_n hx hb dX8_passesAll_79 rfl (lv_at hl 0 rfl) ?_
  refine zget (v := .int (md_houses u9)) (ref := "SumOfTwoThatStandModel") (C := RX8) (T := TX8) (N := 33) (index := 70) X hh inX8_passesAll_X8 0 rfl rfl 9 (by decide) mmX8_passesAll_10 rfl rfl dX8_passesAll_80 ?_
  obtain ⟨u10, hu10, hf⟩ := ob_bind hf
  refine zcallV (ci := 7) (q0 := 0) (As := [.int (md_houses u9)]) (rest := [.ref a0]) (wr := []) (ws' := cMd K a0 a1 a2 a3 a4 a5 a6 a7 a8 a9 a10 a11 a12 a13 a14 a15 a16 a17 a18 a19 u10.2) (ov := some (.int u10.1)) X hh hl (kX8_passOne l K a0 a1 a2 a3 a4 a5 a6 a7 a8 a9 a10 a11 a12 a13 a14 a15 a16 a17 a18 a19 u9 (md_houses u9) u10 hu10) (fun ht => cwV 1 ht gX8_passesAll_X8_passOne rfl rfl rfl ⟨rfl, hdX8_passOne⟩ ⟨Nat.le_of_ble_eq_true rfl, Nat.le_of_ble_eq_true rfl⟩) [0, 1, 2, 3, 4, 5, 6, 7, 8, 9, 10, 11, 12, 13, 14, 15, 16, 17, 18, 19] [] [0, 1, 2, 3, 4, 5, 6, 7, 8, 9, 10, 11, 12, 13, 14, 15, 16, 17, 18, 19] rfl rfl rfl rfl (by decide) rfl rfl rfl rfl rfl rfl (Nat.le_of_ble_eq_true rfl) dX8_passesAll_83 ⟨Nat.zero_le _, Nat.zero_le _⟩ (fun H locs hh => ?_)
  refine zput (v := .int u10.1) (ty := .int) (ref := "SumOfTwoThatStandModel") (C := RX8) (T := TX8) (N := 33) (index := 70) X hh inX8_passesAll_X8 tyX8 tyX8_ok nmX8 0 rfl rfl 9 (by decide) mmX8_passesAll_10 rfl rfl (by decide +kernel) rfl rfl (Nat.le_of_ble_eq_true rfl) dX8_passesAll_86 (fun H locs hh => ?_)
  have hh := hh.to (sMd_houses K a0 a1 a2 a3 a4 a5 a6 a7 a8 a9 a10 a11 a12 a13 a14 a15 a16 a17 a18 a19 u10.2 u10.1)
  refine lv_aload_n hx hb dX8_passesAll_89 rfl (lv_at hl 0 rfl) ?_
  refine lv_aload_n hx hb dX8_passesAll_90 rfl (lv_at hl 0 rfl) ?_
  refine lv_aload_n hx hb dX8_passesAll_91 rfl (lv_at hl 0 rfl) ?_
  refine zget (v := .int (md_sums u10.2)) (ref := "SumOfTwoThatStandModel") (C := RX8) (T := TX8) (N := 33) (index := 86) X hh inX8_passesAll_X8 0 rfl rfl 10 (by decide) mmX8_passesAll_11 rfl rfl dX8_passesAll_92 ?_
  obtain ⟨u11, hu11, hf⟩ := ob_bind hf
  refine zcallV (ci := 7) (q0 := 0) (As := [.int (md_sums u10.2)]) (rest := [.ref a0]) (wr := []) (ws' := cMd K a0 a1 a2 a3 a4 a5 a6 a7 a8 a9 a10 a11 a12 a13 a14 a15 a16 a17 a18 a19 u11.2) (ov := some (.int u11.1)) X hh hl (kX8_passOne l K a0 a1 a2 a3 a4 a5 a6 a7 a8 a9 a10 a11 a12 a13 a14 a15 a16 a17 a18 a19 (md_set_houses u10.2 u10.1) (md_sums u10.2) u11 hu11) (fun ht => cwV 1 ht gX8_passesAll_X8_passOne rfl rfl rfl ⟨rfl, hdX8_passOne⟩ ⟨Nat.le_of_ble_eq_true rfl, Nat.le_of_ble_eq_true rfl⟩) [0, 1, 2, 3, 4, 5, 6, 7, 8, 9, 10, 11, 12, 13, 14, 15, 16, 17, 18, 19] [] [0, 1, 2, 3, 4, 5, 6, 7, 8, 9, 10, 11, 12, 13, 14, 15, 16, 17, 18, 19] rfl rfl rfl rfl (by decide) rfl rfl rfl rfl rfl rfl (Nat.le_of_ble_eq_true rfl) dX8_passesAll_95 ⟨Nat.zero_le _, Nat.zero_le _⟩ (fun H locs hh => ?_)
  refine zput (v := .int u11.1) (ty := .int) (ref := "SumOfTwoThatStandModel") (C := RX8) (T := TX8) (N := 33) (index := 86) X hh inX8_passesAll_X8 tyX8 tyX8_ok nmX8 0 rfl rfl 10 (by decide) mmX8_passesAll_11 rfl rfl (by decide +kernel) rfl rfl (Nat.le_of_ble_eq_true rfl) dX8_passesAll_98 (fun H locs hh => ?_)
  have hh := hh.to (sMd_sums K a0 a1 a2 a3 a4 a5 a6 a7 a8 a9 a10 a11 a12 a13 a14 a15 a16 a17 a18 a19 u11.2 u11.1)
  refine lv_aload_n hx hb dX8_passesAll_101 rfl (lv_at hl 0 rfl) ?_
  refine lv_aload_n hx hb dX8_passesAll_102 rfl (lv_at hl 0 rfl) ?_
  refine lv_aload_n hx hb dX8_passesAll_103 rfl (lv_at hl 0 rfl) ?_
  refine zget (v := .int (md_falls u11.2)) (ref := "SumOfTwoThatStandModel") (C := RX8) (T := TX8) (N := 33) (index := 111) X hh inX8_passesAll_X8 0 rfl rfl 11 (by decide) mmX8_passesAll_12 rfl rfl dX8_passesAll_104 ?_
  obtain ⟨u12, hu12, hf⟩ := ob_bind hf
  refine zcallV (ci := 7) (q0 := 0) (As := [.int (md_falls u11.2)]) (rest := [.ref a0]) (wr := []) (ws' := cMd K a0 a1 a2 a3 a4 a5 a6 a7 a8 a9 a10 a11 a12 a13 a14 a15 a16 a17 a18 a19 u12.2) (ov := some (.int u12.1)) X hh hl (kX8_passOne l K a0 a1 a2 a3 a4 a5 a6 a7 a8 a9 a10 a11 a12 a13 a14 a15 a16 a17 a18 a19 (md_set_sums u11.2 u11.1) (md_falls u11.2) u12 hu12) (fun ht => cwV 1 ht gX8_passesAll_X8_passOne rfl rfl rfl ⟨rfl, hdX8_passOne⟩ ⟨Nat.le_of_ble_eq_true rfl, Nat.le_of_ble_eq_true rfl⟩) [0, 1, 2, 3, 4, 5, 6, 7, 8, 9, 10, 11, 12, 13, 14, 15, 16, 17, 18, 19] [] [0, 1, 2, 3, 4, 5, 6, 7, 8, 9, 10, 11, 12, 13, 14, 15, 16, 17, 18, 19] rfl rfl rfl rfl (by decide) rfl rfl rfl rfl rfl rfl (Nat.le_of_ble_eq_true rfl) dX8_passesAll_107 ⟨Nat.zero_le _, Nat.zero_le _⟩ (fun H locs hh => ?_)
  refine zput (v := .int u12.1) (ty := .int) (ref := "SumOfTwoThatStandModel") (C := RX8) (T := TX8) (N := 33) (index := 111) X hh inX8_passesAll_X8 tyX8 tyX8_ok nmX8 0 rfl rfl 11 (by decide) mmX8_passesAll_12 rfl rfl (by decide +kernel) rfl rfl (Nat.le_of_ble_eq_true rfl) dX8_passesAll_110 (fun H locs hh => ?_)
  have hh := hh.to (sMd_falls K a0 a1 a2 a3 a4 a5 a6 a7 a8 a9 a10 a11 a12 a13 a14 a15 a16 a17 a18 a19 u12.2 u12.1)
  exact hr2 113 ls H locs (md_set_falls u12.2 u12.1) hf dX8_passesAll_113 hh
