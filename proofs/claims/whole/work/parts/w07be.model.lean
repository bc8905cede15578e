theorem inX8_isSum_X8 : ∀ w ∈ wsX80, w ∈ wsX8_isSum := by decide +kernel
theorem mmX8_isSum_0 : Cond.fieldLink RX8 52 "SumOfTwoThatStandModel" "tried" "[I" ∈ wsX8_isSum := by decide +kernel
theorem hdX8_isSum : yX8_isSum.cls ≠ "java/lang/invoke/MethodHandle" ∧ yX8_isSum.cls ≠ "java/lang/invoke/VarHandle" ∧ (parseMethodDescriptor yX8_isSum.desc).map (fun d => d.parameters.length) = some 2 := by decide +kernel
set_option maxHeartbeats 4000000 in
set_option maxRecDepth 100000 in
theorem kX8_isSum (l : Launch) (K : zK) (a0 a1 a2 a3 a4 a5 a6 a7 a8 a9 a10 a11 a12 a13 a14 a15 a16 a17 a18 a19 : Nat) (S : zMd) (p1 : Int32) (p2 : Int32) (R : Int32) (hf : fX8_isSum S p1 p2 = some R) : zC l yX8_isSum wsX8_isSum ({ frames := 0, cells := 0, slots := 0, locals := 0 } : Room) K [.ref a0, .int p1, .int p2] (cMd K a0 a1 a2 a3 a4 a5 a6 a7 a8 a9 a10 a11 a12 a13 a14 a15 a16 a17 a18 a19 S) (some (.int R)) (cMd K a0 a1 a2 a3 a4 a5 a6 a7 a8 a9 a10 a11 a12 a13 a14 a15 a16 a17 a18 a19 S) := by
  refine zC_z .boolean R (cc := cX8_isSum) (maxL := 5) (by decide +kernel) rfl (Nat.le_of_ble_eq_true rfl) rfl rfl ?_
  intro p e s m below meth c Q A X hret ls hl hh
  have X : zX p m c cX8_isSum 5 s ([.ref a0, .int p1, .int p2] : List Value).toArray wsX8_isSum RX8 K A := X
  have hx := X.1.1
  have hb := X.1.2.1
  have hr2 : ∀ (pc : Nat) (ls : Array Slot) (H : Heap) (locs : List Loc) (v : Int32), some v = some R → narrow .boolean (.int v) = .int v → decode cX8_isSum pc = .ok (.ireturn, 1) → zW K A s H locs (cMd K a0 a1 a2 a3 a4 a5 a6 a7 a8 a9 a10 a11 a12 a13 a14 a15 a16 a17 a18 a19 S) → W p l e ({ frames := 0, cells := 0, slots := 0, locals := 0 } : Room) s m ([.ref a0, .int p1, .int p2] : List Value).toArray below meth c H locs 0 0 Q (F0 m pc ls [.int v]) := by
    intro pc ls H locs v h hn hd hh
    cases h; exact hret pc ls H locs _ rfl hn hd hh
  have hl : lv_has ls 5 [(0, .ref a0), (1, .int p1), (2, .int p2)] := hl
  have hL10 : ∀ (v1 : Int32) (v2 : Int32) (v3 : Int32) (k2 : (Int32) → Option (Int32)), (∀ (v3 : Int32) (H : Heap) (locs : List Loc) (ls : Array Slot), k2 v3 = some R → lv_has ls 5 [(0, .ref a0), (1, .int v1), (2, .int v2), (3, .int v3)] → zW K A s H locs (cMd K a0 a1 a2 a3 a4 a5 a6 a7 a8 a9 a10 a11 a12 a13 a14 a15 a16 a17 a18 a19 S) → W p l e ({ frames := 0, cells := 0, slots := 0, locals := 0 } : Room) s m ([.ref a0, .int p1, .int p2] : List Value).toArray below meth c H locs 0 0 Q (F0 m 2 ls [])) → ∀ (n : Nat) (v4 : Int32), ∀ (H : Heap) (locs : List Loc) (ls : Array Slot), fX8_isSum_l10 S v1 v2 v3 k2 n v4 = some R → lv_has ls 5 [(0, .ref a0), (1, .int v1), (2, .int v2), (3, .int v3), (4, .int v4)] → zW K A s H locs (cMd K a0 a1 a2 a3 a4 a5 a6 a7 a8 a9 a10 a11 a12 a13 a14 a15 a16 a17 a18 a19 S) → W p l e ({ frames := 0, cells := 0, slots := 0, locals := 0 } : Room) s m ([.ref a0, .int p1, .int p2] : List Value).toArray below meth c H locs 0 0 Q (F0 m 10 ls []) := by
    intro v1 v2 v3 k2 hk2 n
    induction n with
    | zero =>
      intro v4 H locs ls hf hl hh
      rw [fX8_isSum_l10] at hf; cases hf
    | succ n ih =>
      intro v4 H locs ls hf hl hh
      rw [fX8_isSum_l10] at hf
      refine lv_iload hx hb dX8_isSum_10 (lv_at hl 4 rfl) ?_
      refine lv_iload_n hx hb dX8_isSum_12 rfl (lv_at hl 2 rfl) ?_
      refine lv_icmp_ge (tgt := 42) hx hb dX8_isSum_13 (by decide) (fun c1 => ?_) (fun c1 => ?_)
      · replace hf := (if_pos c1).symm.trans hf
        refine lv_iinc (v := (v3 + (1 : Int32))) (lv' := [(3, .int (v3 + (1 : Int32))), (0, .ref a0), (1, .int v1), (2, .int v2), (4, .int v4)]) hx hb dX8_isSum_42 hl (k := 3) rfl rfl (by decide) rfl (fun ls hl => ?_)
        refine lv_goto (tgt := 2) hx hb dX8_isSum_45 (by decide) ?_
        exact hk2 (v3 + (1 : Int32)) H locs ls hf (lv_sub hl [1, 2, 3, 0] rfl) hh
      · replace hf := (if_neg c1).symm.trans hf
        refine lv_aload_n hx hb dX8_isSum_16 rfl (lv_at hl 0 rfl) ?_
        refine zget (v := .ref a15) (ref := "SumOfTwoThatStandModel") (C := RX8) (T := TX8) (N := 33) (index := 52) X hh inX8_isSum_X8 0 rfl rfl 24 (by decide) mmX8_isSum_0 rfl rfl dX8_isSum_17 ?_
        refine lv_iload_n hx hb dX8_isSum_20 rfl (lv_at hl 3 rfl) ?_
        obtain ⟨g2, hf⟩ := ob_ix hf
        refine ziald (f := (md_tried S)) X hh 15 rfl g2 dX8_isSum_21 ?_
        refine lv_aload_n hx hb dX8_isSum_22 rfl (lv_at hl 0 rfl) ?_
        refine zget (v := .ref a15) (ref := "SumOfTwoThatStandModel") (C := RX8) (T := TX8) (N := 33) (index := 52) X hh inX8_isSum_X8 0 rfl rfl 24 (by decide) mmX8_isSum_0 rfl rfl dX8_isSum_23 ?_
        refine lv_iload hx hb dX8_isSum_26 (lv_at hl 4 rfl) ?_
        obtain ⟨g3, hf⟩ := ob_ix hf
        refine ziald (f := (md_tried S)) X hh 15 rfl g3 dX8_isSum_28 ?_
        refine lv_iadd hx hb dX8_isSum_29 ?_
        refine lv_iload_n hx hb dX8_isSum_30 rfl (lv_at hl 1 rfl) ?_
        refine lv_icmp_ne (tgt := 36) hx hb dX8_isSum_31 (by decide) (fun c4 => ?_) (fun c4 => ?_)
        · replace hf := (if_neg c4).symm.trans hf
          refine lv_iinc (v := (v4 + (1 : Int32))) (lv' := [(4, .int (v4 + (1 : Int32))), (0, .ref a0), (1, .int v1), (2, .int v2), (3, .int v3)]) hx hb dX8_isSum_36 hl (k := 4) rfl rfl (by decide) rfl (fun ls hl => ?_)
          refine lv_goto (tgt := 10) hx hb dX8_isSum_39 (by decide) ?_
          exact ih (v4 + (1 : Int32)) H locs ls hf (lv_sub hl [1, 2, 3, 4, 0] rfl) hh
        · replace hf := (if_pos c4).symm.trans hf
          refine lv_iconst (v := (1 : Int32)) hx hb dX8_isSum_34 (by decide) ?_
          exact hr2 35 ls H locs (1 : Int32) hf rfl dX8_isSum_35 hh
  have hL2 : ∀ (v1 : Int32) (v2 : Int32), ∀ (n : Nat) (v3 : Int32), ∀ (H : Heap) (locs : List Loc) (ls : Array Slot), fX8_isSum_l2 S v1 v2 n v3 = some R → lv_has ls 5 [(0, .ref a0), (1, .int v1), (2, .int v2), (3, .int v3)] → zW K A s H locs (cMd K a0 a1 a2 a3 a4 a5 a6 a7 a8 a9 a10 a11 a12 a13 a14 a15 a16 a17 a18 a19 S) → W p l e ({ frames := 0, cells := 0, slots := 0, locals := 0 } : Room) s m ([.ref a0, .int p1, .int p2] : List Value).toArray below meth c H locs 0 0 Q (F0 m 2 ls []) := by
    intro v1 v2 n
    induction n with
    | zero =>
      intro v3 H locs ls hf hl hh
      rw [fX8_isSum_l2] at hf; cases hf
    | succ n ih =>
      intro v3 H locs ls hf hl hh
      rw [fX8_isSum_l2] at hf
      refine lv_iload_n hx hb dX8_isSum_2 rfl (lv_at hl 3 rfl) ?_
      refine lv_iload_n hx hb dX8_isSum_3 rfl (lv_at hl 2 rfl) ?_
      refine lv_icmp_ge (tgt := 48) hx hb dX8_isSum_4 (by decide) (fun c5 => ?_) (fun c5 => ?_)
      · replace hf := (if_pos c5).symm.trans hf
        refine lv_iconst (v := (0 : Int32)) hx hb dX8_isSum_48 (by decide) ?_
        exact hr2 49 ls H locs (0 : Int32) hf rfl dX8_isSum_49 hh
      · replace hf := (if_neg c5).symm.trans hf
        refine lv_iload_n hx hb dX8_isSum_7 rfl (lv_at hl 3 rfl) ?_
        refine lv_istore (lv' := [(4, .int v3), (0, .ref a0), (1, .int v1), (2, .int v2), (3, .int v3)]) hx hb dX8_isSum_8 hl (by decide) rfl (fun ls hl => ?_)
        exact hL10 v1 v2 v3 (fX8_isSum_l2 S v1 v2 n) (ih) FU v3 H locs ls hf (lv_sub hl [1, 2, 3, 4, 0] rfl) hh
  unfold fX8_isSum at hf
  refine (fun (hmain : ∀ (H : Heap) (locs : List Loc), zW K A s H locs (cMd K a0 a1 a2 a3 a4 a5 a6 a7 a8 a9 a10 a11 a12 a13 a14 a15 a16 a17 a18 a19 S) → W p l e ({ frames := 0, cells := 0, slots := 0, locals := 0 } : Room) s m ([.ref a0, .int p1, .int p2] : List Value).toArray below meth c H locs 0 0 Q (F0 m 0 ls [])) => hmain s.heap [] hh) (fun H locs hh => ?_)
  refine lv_iconst (v := (0 : Int32)) hx hb dX8_isSum_0 (by decide) ?_
  refine lv_istore_n (lv' := [(3, .int (0 : Int32)), (0, .ref a0), (1, .int p1), (2, .int p2)]) hx hb dX8_isSum_1 rfl hl (by decide) rfl (fun ls hl => ?_)
  exact hL2 p1 p2 FU (0 : Int32) H locs ls hf (lv_sub hl [1, 2, 3, 0] rfl) hh
theorem inX8_canReach_X8 : ∀ w ∈ wsX80, w ∈ wsX8_canReach := by decide +kernel
theorem mmX8_canReach_0 : Cond.fieldLink RX8 213 "SumOfTwoThatStandModel" "goal" "I" ∈ wsX8_canReach := by decide +kernel
theorem hdX8_canReach : yX8_canReach.cls ≠ "java/lang/invoke/MethodHandle" ∧ yX8_canReach.cls ≠ "java/lang/invoke/VarHandle" ∧ (parseMethodDescriptor yX8_canReach.desc).map (fun d => d.parameters.length) = some 2 := by decide +kernel
set_option maxHeartbeats 4000000 in
set_option maxRecDepth 100000 in
theorem kX8_canReach (l : Launch) (K : zK) (a0 a1 a2 a3 a4 a5 a6 a7 a8 a9 a10 a11 a12 a13 a14 a15 a16 a17 a18 a19 : Nat) (S : zMd) (p1 : Int32) (p2 : Int32) (R : Int32) (hf : fX8_canReach S p1 p2 = some R) : zC l yX8_canReach wsX8_canReach ({ frames := 0, cells := 0, slots := 0, locals := 0 } : Room) K [.ref a0, .int p1, .int p2] (cMd K a0 a1 a2 a3 a4 a5 a6 a7 a8 a9 a10 a11 a12 a13 a14 a15 a16 a17 a18 a19 S) (some (.int R)) (cMd K a0 a1 a2 a3 a4 a5 a6 a7 a8 a9 a10 a11 a12 a13 a14 a15 a16 a17 a18 a19 S) := by
  refine zC_z .boolean R (cc := cX8_canReach) (maxL := 5) (by decide +kernel) rfl (Nat.le_of_ble_eq_true rfl) rfl rfl ?_
  intro p e s m below meth c Q A X hret ls hl hh
  have X : zX p m c cX8_canReach 5 s ([.ref a0, .int p1, .int p2] : List Value).toArray wsX8_canReach RX8 K A := X
  have hx := X.1.1
  have hb := X.1.2.1
  have hr2 : ∀ (pc : Nat) (ls : Array Slot) (H : Heap) (locs : List Loc) (v : Int32), some v = some R → narrow .boolean (.int v) = .int v → decode cX8_canReach pc = .ok (.ireturn, 1) → zW K A s H locs (cMd K a0 a1 a2 a3 a4 a5 a6 a7 a8 a9 a10 a11 a12 a13 a14 a15 a16 a17 a18 a19 S) → W p l e ({ frames := 0, cells := 0, slots := 0, locals := 0 } : Room) s m ([.ref a0, .int p1, .int p2] : List Value).toArray below meth c H locs 0 0 Q (F0 m pc ls [.int v]) := by
    intro pc ls H locs v h hn hd hh
    cases h; exact hret pc ls H locs _ rfl hn hd hh
  have hl : lv_has ls 5 [(0, .ref a0), (1, .int p1), (2, .int p2)] := hl
  have hJ29 : ∀ (v3 : Int32), ∀ (H : Heap) (locs : List Loc) (ls : Array Slot), fX8_canReach_j29 S v3 = some R → lv_has ls 5 [(0, .ref a0), (3, .int v3)] → zW K A s H locs (cMd K a0 a1 a2 a3 a4 a5 a6 a7 a8 a9 a10 a11 a12 a13 a14 a15 a16 a17 a18 a19 S) → W p l e ({ frames := 0, cells := 0, slots := 0, locals := 0 } : Room) s m ([.ref a0, .int p1, .int p2] : List Value).toArray below meth c H locs 0 0 Q (F0 m 29 ls []) := by
    intro v3 H locs ls hf hl hh
    unfold fX8_canReach_j29 at hf
    refine lv_iload_n hx hb dX8_canReach_29 rfl (lv_at hl 1 rfl) ?_
    refine lv_aload_n hx hb dX8_canReach_30 rfl (lv_at hl 0 rfl) ?_
    refine zget (v := .int (md_goal S)) (ref := "SumOfTwoThatStandModel") (C := RX8) (T := TX8) (N := 33) (index := 213) X hh inX8_canReach_X8 0 rfl rfl 26 (by decide) mmX8_canReach_0 rfl rfl dX8_canReach_31 ?_
    refine lv_icmp_lt (tgt := 41) hx hb dX8_canReach_34 (by decide) (fun c1 => ?_) (fun c1 => ?_)
    · replace hf := (if_pos c1).symm.trans hf
      refine lv_iconst (v := (0 : Int32)) hx hb dX8_canReach_41 (by decide) ?_
      exact hr2 42 ls H locs (0 : Int32) hf rfl dX8_canReach_42 hh
    · replace hf := (if_neg c1).symm.trans hf
      refine lv_iconst (v := (1 : Int32)) hx hb dX8_canReach_37 (by decide) ?_
      refine lv_goto (tgt := 42) hx hb dX8_canReach_38 (by decide) ?_
      exact hr2 42 ls H locs (1 : Int32) hf rfl dX8_canReach_42 hh
  have hL5 : ∀ (v2 : Int32), ∀ (n : Nat) (v3 : Int32) (v4 : Int32), ∀ (H : Heap) (locs : List Loc) (ls : Array Slot), fX8_canReach_l5 S v2 n v3 v4 = some R → lv_has ls 5 [(0, .ref a0), (2, .int v2), (3, .int v3), (4, .int v4)] → zW K A s H locs (cMd K a0 a1 a2 a3 a4 a5 a6 a7 a8 a9 a10 a11 a12 a13 a14 a15 a16 a17 a18 a19 S) → W p l e ({ frames := 0, cells := 0, slots := 0, locals := 0 } : Room) s m ([.ref a0, .int p1, .int p2] : List Value).toArray below meth c H locs 0 0 Q (F0 m 5 ls []) := by
    intro v2 n
    induction n with
    | zero =>
      intro v3 v4 H locs ls hf hl hh
      rw [fX8_canReach_l5] at hf; cases hf
    | succ n ih =>
      intro v3 v4 H locs ls hf hl hh
      rw [fX8_canReach_l5] at hf
      refine lv_iload hx hb dX8_canReach_5 (lv_at hl 3 rfl) ?_
      refine lv_iload_n hx hb dX8_canReach_7 rfl (lv_at hl 1 rfl) ?_
      refine lv_icmp_ge (tgt := 29) hx hb dX8_canReach_8 (by decide) (fun c2 => ?_) (fun c2 => ?_)
      · replace hf := (if_pos c2).symm.trans hf
        exact hJ29 v3 H locs ls hf (lv_sub hl [0, 2] rfl) hh
      · replace hf := (if_neg c2).symm.trans hf
        refine lv_iload_n hx hb dX8_canReach_11 rfl (lv_at hl 2 rfl) ?_
        refine lv_aload_n hx hb dX8_canReach_12 rfl (lv_at hl 0 rfl) ?_
        refine zget (v := .int (md_goal S)) (ref := "SumOfTwoThatStandModel") (C := RX8) (T := TX8) (N := 33) (index := 213) X hh inX8_canReach_X8 0 rfl rfl 26 (by decide) mmX8_canReach_0 rfl rfl dX8_canReach_13 ?_
        refine lv_icmp_ge (tgt := 29) hx hb dX8_canReach_16 (by decide) (fun c3 => ?_) (fun c3 => ?_)
        · replace hf := (if_pos c3).symm.trans hf
          exact hJ29 v3 H locs ls hf (lv_sub hl [0, 2] rfl) hh
        · replace hf := (if_neg c3).symm.trans hf
          refine lv_iload_n hx hb dX8_canReach_19 rfl (lv_at hl 2 rfl) ?_
          refine lv_iconst (v := (2 : Int32)) hx hb dX8_canReach_20 (by decide) ?_
          refine lv_imul hx hb dX8_canReach_21 ?_
          refine lv_istore_n (lv' := [(3, .int (v3 * (2 : Int32))), (0, .ref a0), (2, .int v2), (4, .int v4)]) hx hb dX8_canReach_22 rfl hl (by decide) rfl (fun ls hl => ?_)
          refine lv_iinc (v := (v4 + (1 : Int32))) (lv' := [(4, .int (v4 + (1 : Int32))), (3, .int (v3 * (2 : Int32))), (0, .ref a0), (2, .int v2)]) hx hb dX8_canReach_23 hl (k := 3) rfl rfl (by decide) rfl (fun ls hl => ?_)
          refine lv_goto (tgt := 5) hx hb dX8_canReach_26 (by decide) ?_
          exact ih (v3 * (2 : Int32)) (v4 + (1 : Int32)) H locs ls hf (lv_sub hl [2, 3, 1, 0] rfl) hh
  unfold fX8_canReach at hf
  refine (fun (hmain : ∀ (H : Heap) (locs : List Loc), zW K A s H locs (cMd K a0 a1 a2 a3 a4 a5 a6 a7 a8 a9 a10 a11 a12 a13 a14 a15 a16 a17 a18 a19 S) → W p l e ({ frames := 0, cells := 0, slots := 0, locals := 0 } : Room) s m ([.ref a0, .int p1, .int p2] : List Value).toArray below meth c H locs 0 0 Q (F0 m 0 ls [])) => hmain s.heap [] hh) (fun H locs hh => ?_)
  refine lv_iload_n hx hb dX8_canReach_0 rfl (lv_at hl 1 rfl) ?_
  refine lv_istore_n (lv' := [(3, .int p1), (0, .ref a0), (1, .int p1), (2, .int p2)]) hx hb dX8_canReach_1 rfl hl (by decide) rfl (fun ls hl => ?_)
  refine lv_iconst (v := (0 : Int32)) hx hb dX8_canReach_2 (by decide) ?_
  refine lv_istore (lv' := [(4, .int (0 : Int32)), (3, .int p1), (0, .ref a0), (1, .int p1), (2, .int p2)]) hx hb dX8_canReach_3 hl (by decide) rfl (fun ls hl => ?_)
  exact hL5 p2 FU p1 (0 : Int32) H locs ls hf (lv_sub hl [2, 4, 1, 0] rfl) hh
theorem inX8_goesOn_X8 : ∀ w ∈ wsX80, w ∈ wsX8_goesOn := by decide +kernel
theorem mmX8_goesOn_0 : Cond.fieldLink RX8 52 "SumOfTwoThatStandModel" "tried" "[I" ∈ wsX8_goesOn := by decide +kernel
theorem mmX8_goesOn_1 : Cond.fieldLink RX8 222 "SumOfTwoThatStandModel" "wanted" "I" ∈ wsX8_goesOn := by decide +kernel
theorem hdX8_goesOn : yX8_goesOn.cls ≠ "java/lang/invoke/MethodHandle" ∧ yX8_goesOn.cls ≠ "java/lang/invoke/VarHandle" ∧ (parseMethodDescriptor yX8_goesOn.desc).map (fun d => d.parameters.length) = some 3 := by decide +kernel
set_option maxHeartbeats 4000000 in
set_option maxRecDepth 100000 in
theorem kX8_goesOn (l : Launch) (K : zK) (a0 a1 a2 a3 a4 a5 a6 a7 a8 a9 a10 a11 a12 a13 a14 a15 a16 a17 a18 a19 : Nat) (S : zMd) (p1 : Int32) (p2 : Int32) (p3 : Int32) (R : Int32) (hf : fX8_goesOn S p1 p2 p3 = some R) : zC l yX8_goesOn wsX8_goesOn ({ frames := 1, cells := 0, slots := 0, locals := 24 } : Room) K [.ref a0, .int p1, .int p2, .int p3] (cMd K a0 a1 a2 a3 a4 a5 a6 a7 a8 a9 a10 a11 a12 a13 a14 a15 a16 a17 a18 a19 S) (some (.int R)) (cMd K a0 a1 a2 a3 a4 a5 a6 a7 a8 a9 a10 a11 a12 a13 a14 a15 a16 a17 a18 a19 S) := by
  refine zC_z .boolean R (cc := cX8_goesOn) (maxL := 4) (by decide +kernel) rfl (Nat.le_of_ble_eq_true rfl) rfl rfl ?_
  intro p e s m below meth c Q A X hret ls hl hh
  have X : zX p m c cX8_goesOn 4 s ([.ref a0, .int p1, .int p2, .int p3] : List Value).toArray wsX8_goesOn RX8 K A := X
  have hx := X.1.1
  have hb := X.1.2.1
  have hr2 : ∀ (pc : Nat) (ls : Array Slot) (H : Heap) (locs : List Loc) (v : Int32), some v = some R → narrow .boolean (.int v) = .int v → decode cX8_goesOn pc = .ok (.ireturn, 1) → zW K A s H locs (cMd K a0 a1 a2 a3 a4 a5 a6 a7 a8 a9 a10 a11 a12 a13 a14 a15 a16 a17 a18 a19 S) → W p l e ({ frames := 1, cells := 0, slots := 0, locals := 24 } : Room) s m ([.ref a0, .int p1, .int p2, .int p3] : List Value).toArray below meth c H locs 0 0 Q (F0 m pc ls [.int v]) := by
    intro pc ls H locs v h hn hd hh
    cases h; exact hret pc ls H locs _ rfl hn hd hh
  have hl : lv_has ls 4 [(0, .ref a0), (1, .int p1), (2, .int p2), (3, .int p3)] := hl
  unfold fX8_goesOn at hf
  refine (fun (hmain : ∀ (H : Heap) (locs : List Loc), zW K A s H locs (cMd K a0 a1 a2 a3 a4 a5 a6 a7 a8 a9 a10 a11 a12 a13 a14 a15 a16 a17 a18 a19 S) → W p l e ({ frames := 1, cells := 0, slots := 0, locals := 24 } : Room) s m ([.ref a0, .int p1, .int p2, .int p3] : List Value).toArray below meth c H locs 0 0 Q (F0 m 0 ls [])) => hmain s.heap [] hh) (fun H locs hh => ?_)
  refine lv_aload_n hx hb dX8_goesOn_0 rfl (lv_at hl 0 rfl) ?_
  refine lv_iload_n hx hb dX8_goesOn_1 rfl (lv_at hl 1 rfl) ?_
  refine lv_iload_n hx hb dX8_goesOn_2 rfl (lv_at hl 2 rfl) ?_
  obtain ⟨u1, hu1, hf⟩ := ob_bind hf
  refine zcallV (ci := 7) (q0 := 0) (As := [.int p1, .int p2]) (rest := []) (wr := []) (ws' := cMd K a0 a1 a2 a3 a4 a5 a6 a7 a8 a9 a10 a11 a12 a13 a14 a15 a16 a17 a18 a19 S) (ov := some (.int u1)) X hh hl (kX8_isSum l K a0 a1 a2 a3 a4 a5 a6 a7 a8 a9 a10 a11 a12 a13 a14 a15 a16 a17 a18 a19 S p1 p2 u1 hu1) (fun ht => cwV 2 ht gX8_goesOn_X8_isSum rfl rfl rfl ⟨rfl, hdX8_isSum⟩ ⟨Nat.le_of_ble_eq_true rfl, Nat.le_of_ble_eq_true rfl⟩) [0, 1, 2, 3, 4, 5, 6, 7, 8, 9, 10, 11, 12, 13, 14, 15, 16, 17, 18, 19] [] [0, 1, 2, 3, 4, 5, 6, 7, 8, 9, 10, 11, 12, 13, 14, 15, 16, 17, 18, 19] rfl rfl rfl rfl (by decide) rfl rfl rfl rfl rfl rfl (Nat.le_of_ble_eq_true rfl) dX8_goesOn_3 ⟨Nat.zero_le _, Nat.zero_le _⟩ (fun H locs hh => ?_)
  refine lv_if_eq (tgt := 22) hx hb dX8_goesOn_6 (by decide) (fun c2 => ?_) (fun c2 => ?_)
  · replace hf := (if_pos c2).symm.trans hf
    refine lv_iconst (v := (0 : Int32)) hx hb dX8_goesOn_22 (by decide) ?_
    exact hr2 23 ls H locs (0 : Int32) hf rfl dX8_goesOn_23 hh
  · replace hf := (if_neg c2).symm.trans hf
    refine lv_aload_n hx hb dX8_goesOn_9 rfl (lv_at hl 0 rfl) ?_
    refine lv_iload_n hx hb dX8_goesOn_10 rfl (lv_at hl 1 rfl) ?_
    refine lv_iload_n hx hb dX8_goesOn_11 rfl (lv_at hl 3 rfl) ?_
    refine lv_iconst (v := (1 : Int32)) hx hb dX8_goesOn_12 (by decide) ?_
    refine lv_isub hx hb dX8_goesOn_13 ?_
    refine lv_iload_n hx hb dX8_goesOn_14 rfl (lv_at hl 2 rfl) ?_
    refine lv_isub hx hb dX8_goesOn_15 ?_
    obtain ⟨u3, hu3, hf⟩ := ob_bind hf
    refine zcallV (ci := 7) (q0 := 0) (As := [.int p1, .int ((p3 - (1 : Int32)) - p2)]) (rest := []) (wr := []) (ws' := cMd K a0 a1 a2 a3 a4 a5 a6 a7 a8 a9 a10 a11 a12 a13 a14 a15 a16 a17 a18 a19 S) (ov := some (.int u3)) X hh hl (kX8_canReach l K a0 a1 a2 a3 a4 a5 a6 a7 a8 a9 a10 a11 a12 a13 a14 a15 a16 a17 a18 a19 S p1 ((p3 - (1 : Int32)) - p2) u3 hu3) (fun ht => cwV 2 ht gX8_goesOn_X8_canReach rfl rfl rfl ⟨rfl, hdX8_canReach⟩ ⟨Nat.le_of_ble_eq_true rfl, Nat.le_of_ble_eq_true rfl⟩) [0, 1, 2, 3, 4, 5, 6, 7, 8, 9, 10, 11, 12, 13, 14, 15, 16, 17, 18, 19] [] [0, 1, 2, 3, 4, 5, 6, 7, 8, 9, 10, 11, 12, 13, 14, 15, 16, 17, 18, 19] rfl rfl rfl rfl (by decide) rfl rfl rfl rfl rfl rfl (Nat.le_of_ble_eq_true rfl) dX8_goesOn_16 ⟨Nat.zero_le _, Nat.zero_le _⟩ (fun H locs hh => ?_)
    refine lv_if_ne (tgt := 24) hx hb dX8_goesOn_19 (by decide) (fun c4 => ?_) (fun c4 => ?_)
    · replace hf := (if_neg c4).symm.trans hf
      refine lv_aload_n hx hb dX8_goesOn_24 rfl (lv_at hl 0 rfl) ?_
      refine zget (v := .ref a15) (ref := "SumOfTwoThatStandModel") (C := RX8) (T := TX8) (N := 33) (index := 52) X hh inX8_goesOn_X8 0 rfl rfl 24 (by decide) mmX8_goesOn_0 rfl rfl dX8_goesOn_25 ?_
      refine lv_iload_n hx hb dX8_goesOn_28 rfl (lv_at hl 2 rfl) ?_
      refine lv_iconst (v := (1 : Int32)) hx hb dX8_goesOn_29 (by decide) ?_
      refine lv_isub hx hb dX8_goesOn_30 ?_
      obtain ⟨g5, hf⟩ := ob_ix hf
      refine ziald (f := (md_tried S)) X hh 15 rfl g5 dX8_goesOn_31 ?_
      refine lv_aload_n hx hb dX8_goesOn_32 rfl (lv_at hl 0 rfl) ?_
      refine zget (v := .int (md_wanted S)) (ref := "SumOfTwoThatStandModel") (C := RX8) (T := TX8) (N := 33) (index := 222) X hh inX8_goesOn_X8 0 rfl rfl 25 (by decide) mmX8_goesOn_1 rfl rfl dX8_goesOn_33 ?_
      refine lv_icmp_ge (tgt := 47) hx hb dX8_goesOn_36 (by decide) (fun c6 => ?_) (fun c6 => ?_)
      · replace hf := (if_pos c6).symm.trans hf
        refine lv_iconst (v := (1 : Int32)) hx hb dX8_goesOn_47 (by decide) ?_
        refine lv_goto (tgt := 52) hx hb dX8_goesOn_48 (by decide) ?_
        exact hr2 52 ls H locs (1 : Int32) hf rfl dX8_goesOn_52 hh
      · replace hf := (if_neg c6).symm.trans hf
        refine lv_iload_n hx hb dX8_goesOn_39 rfl (lv_at hl 1 rfl) ?_
        refine lv_aload_n hx hb dX8_goesOn_40 rfl (lv_at hl 0 rfl) ?_
        refine zget (v := .int (md_wanted S)) (ref := "SumOfTwoThatStandModel") (C := RX8) (T := TX8) (N := 33) (index := 222) X hh inX8_goesOn_X8 0 rfl rfl 25 (by decide) mmX8_goesOn_1 rfl rfl dX8_goesOn_41 ?_
        refine lv_icmp_gt (tgt := 51) hx hb dX8_goesOn_44 (by decide) (fun c7 => ?_) (fun c7 => ?_)
        · replace hf := (if_pos c7).symm.trans hf
          refine lv_iconst (v := (0 : Int32)) hx hb dX8_goesOn_51 (by decide) ?_
          exact hr2 52 ls H locs (0 : Int32) hf rfl dX8_goesOn_52 hh
        · replace hf := (if_neg c7).symm.trans hf
          refine lv_iconst (v := (1 : Int32)) hx hb dX8_goesOn_47 (by decide) ?_
          refine lv_goto (tgt := 52) hx hb dX8_goesOn_48 (by decide) ?_
          exact hr2 52 ls H locs (1 : Int32) hf rfl dX8_goesOn_52 hh
    · replace hf := (if_pos c4).symm.trans hf
      refine lv_iconst (v := (0 : Int32)) hx hb dX8_goesOn_22 (by decide) ?_
      exact hr2 23 ls H locs (0 : Int32) hf rfl dX8_goesOn_23 hh
theorem inX8_nextTry_X8 : ∀ w ∈ wsX80, w ∈ wsX8_nextTry := by decide +kernel
theorem mmX8_nextTry_0 : Cond.fieldLink RX8 213 "SumOfTwoThatStandModel" "goal" "I" ∈ wsX8_nextTry := by decide +kernel
theorem mmX8_nextTry_1 : Cond.fieldLink RX8 52 "SumOfTwoThatStandModel" "tried" "[I" ∈ wsX8_nextTry := by decide +kernel
theorem hdX8_nextTry : yX8_nextTry.cls ≠ "java/lang/invoke/MethodHandle" ∧ yX8_nextTry.cls ≠ "java/lang/invoke/VarHandle" ∧ (parseMethodDescriptor yX8_nextTry.desc).map (fun d => d.parameters.length) = some 3 := by decide +kernel
set_option maxHeartbeats 4000000 in
set_option maxRecDepth 100000 in
theorem kX8_nextTry (l : Launch) (K : zK) (a0 a1 a2 a3 a4 a5 a6 a7 a8 a9 a10 a11 a12 a13 a14 a15 a16 a17 a18 a19 : Nat) (S : zMd) (p1 : Int32) (p2 : Int32) (p3 : Int32) (R : Int32) (hf : fX8_nextTry S p1 p2 p3 = some R) : zC l yX8_nextTry wsX8_nextTry ({ frames := 2, cells := 0, slots := 0, locals := 47 } : Room) K [.ref a0, .int p1, .int p2, .int p3] (cMd K a0 a1 a2 a3 a4 a5 a6 a7 a8 a9 a10 a11 a12 a13 a14 a15 a16 a17 a18 a19 S) (some (.int R)) (cMd K a0 a1 a2 a3 a4 a5 a6 a7 a8 a9 a10 a11 a12 a13 a14 a15 a16 a17 a18 a19 S) := by
  refine zC_i R (cc := cX8_nextTry) (maxL := 6) (by decide +kernel) rfl (Nat.le_of_ble_eq_true rfl) rfl rfl ?_
  intro p e s m below meth c Q A X hret ls hl hh
  have X : zX p m c cX8_nextTry 6 s ([.ref a0, .int p1, .int p2, .int p3] : List Value).toArray wsX8_nextTry RX8 K A := X
  have hx := X.1.1
  have hb := X.1.2.1
  have hr2 : ∀ (pc : Nat) (ls : Array Slot) (H : Heap) (locs : List Loc) (v : Int32), some v = some R → decode cX8_nextTry pc = .ok (.ireturn, 1) → zW K A s H locs (cMd K a0 a1 a2 a3 a4 a5 a6 a7 a8 a9 a10 a11 a12 a13 a14 a15 a16 a17 a18 a19 S) → W p l e ({ frames := 2, cells := 0, slots := 0, locals := 47 } : Room) s m ([.ref a0, .int p1, .int p2, .int p3] : List Value).toArray below meth c H locs 0 0 Q (F0 m pc ls [.int v]) := by
    intro pc ls H locs v h hd hh
    cases h; exact hret pc ls H locs _ rfl hd hh
  have hl : lv_has ls 6 [(0, .ref a0), (1, .int p1), (2, .int p2), (3, .int p3)] := hl
  have hJ65 : ∀ (v4 : Int32) (v5 : Int32), ∀ (H : Heap) (locs : List Loc) (ls : Array Slot), fX8_nextTry_j65 S v4 v5 = some R → lv_has ls 6 [(0, .ref a0), (4, .int v4), (5, .int v5)] → zW K A s H locs (cMd K a0 a1 a2 a3 a4 a5 a6 a7 a8 a9 a10 a11 a12 a13 a14 a15 a16 a17 a18 a19 S) → W p l e ({ frames := 2, cells := 0, slots := 0, locals := 47 } : Room) s m ([.ref a0, .int p1, .int p2, .int p3] : List Value).toArray below meth c H locs 0 0 Q (F0 m 65 ls []) := by
    intro v4 v5 H locs ls hf hl hh
    unfold fX8_nextTry_j65 at hf
    refine lv_iload hx hb dX8_nextTry_65 (lv_at hl 1 rfl) ?_
    refine lv_iload hx hb dX8_nextTry_67 (lv_at hl 2 rfl) ?_
    refine lv_icmp_gt (tgt := 77) hx hb dX8_nextTry_69 (by decide) (fun c1 => ?_) (fun c1 => ?_)
    · replace hf := (if_pos c1).symm.trans hf
      refine lv_aload_n hx hb dX8_nextTry_77 rfl (lv_at hl 0 rfl) ?_
      refine zget (v := .int (md_goal S)) (ref := "SumOfTwoThatStandModel") (C := RX8) (T := TX8) (N := 33) (index := 213) X hh inX8_nextTry_X8 0 rfl rfl 26 (by decide) mmX8_nextTry_0 rfl rfl dX8_nextTry_78 ?_
      refine lv_iconst (v := (1 : Int32)) hx hb dX8_nextTry_81 (by decide) ?_
      refine lv_iadd hx hb dX8_nextTry_82 ?_
      exact hr2 83 ls H locs ((md_goal S) + (1 : Int32)) hf dX8_nextTry_83 hh
    · replace hf := (if_neg c1).symm.trans hf
      refine lv_iload hx hb dX8_nextTry_72 (lv_at hl 1 rfl) ?_
      refine lv_goto (tgt := 83) hx hb dX8_nextTry_74 (by decide) ?_
      exact hr2 83 ls H locs v4 hf dX8_nextTry_83 hh
  have hL41 : ∀ (v2 : Int32) (v3 : Int32) (v5 : Int32), ∀ (n : Nat) (v4 : Int32), ∀ (H : Heap) (locs : List Loc) (ls : Array Slot), fX8_nextTry_l41 S v2 v3 v5 n v4 = some R → lv_has ls 6 [(0, .ref a0), (2, .int v2), (3, .int v3), (4, .int v4), (5, .int v5)] → zW K A s H locs (cMd K a0 a1 a2 a3 a4 a5 a6 a7 a8 a9 a10 a11 a12 a13 a14 a15 a16 a17 a18 a19 S) → W p l e ({ frames := 2, cells := 0, slots := 0, locals := 47 } : Room) s m ([.ref a0, .int p1, .int p2, .int p3] : List Value).toArray below meth c H locs 0 0 Q (F0 m 41 ls []) := by
    intro v2 v3 v5 n
    induction n with
    | zero =>
      intro v4 H locs ls hf hl hh
      rw [fX8_nextTry_l41] at hf; cases hf
    | succ n ih =>
      intro v4 H locs ls hf hl hh
      rw [fX8_nextTry_l41] at hf
      refine lv_iload hx hb dX8_nextTry_41 (lv_at hl 3 rfl) ?_
      refine lv_iload hx hb dX8_nextTry_43 (lv_at hl 4 rfl) ?_
      refine lv_icmp_gt (tgt := 65) hx hb dX8_nextTry_45 (by decide) (fun c2 => ?_) (fun c2 => ?_)
      · replace hf := (if_pos c2).symm.trans hf
        exact hJ65 v4 v5 H locs ls hf (lv_sub hl [0, 3, 4] rfl) hh
      · replace hf := (if_neg c2).symm.trans hf
        refine lv_aload_n hx hb dX8_nextTry_48 rfl (lv_at hl 0 rfl) ?_
        refine lv_iload hx hb dX8_nextTry_49 (lv_at hl 3 rfl) ?_
        refine lv_iload_n hx hb dX8_nextTry_51 rfl (lv_at hl 1 rfl) ?_
        refine lv_iload_n hx hb dX8_nextTry_52 rfl (lv_at hl 2 rfl) ?_
        obtain ⟨u3, hu3, hf⟩ := ob_bind hf
        refine zcallV (ci := 7) (q0 := 0) (As := [.int v4, .int v2, .int v3]) (rest := []) (wr := []) (ws' := cMd K a0 a1 a2 a3 a4 a5 a6 a7 a8 a9 a10 a11 a12 a13 a14 a15 a16 a17 a18 a19 S) (ov := some (.int u3)) X hh hl (kX8_goesOn l K a0 a1 a2 a3 a4 a5 a6 a7 a8 a9 a10 a11 a12 a13 a14 a15 a16 a17 a18 a19 S v4 v2 v3 u3 hu3) (fun ht => cwV 3 ht gX8_nextTry_X8_goesOn rfl rfl rfl ⟨rfl, hdX8_goesOn⟩ ⟨Nat.le_of_ble_eq_true rfl, Nat.le_of_ble_eq_true rfl⟩) [0, 1, 2, 3, 4, 5, 6, 7, 8, 9, 10, 11, 12, 13, 14, 15, 16, 17, 18, 19] [] [0, 1, 2, 3, 4, 5, 6, 7, 8, 9, 10, 11, 12, 13, 14, 15, 16, 17, 18, 19] rfl rfl rfl rfl (by decide) rfl rfl rfl rfl rfl rfl (Nat.le_of_ble_eq_true rfl) dX8_nextTry_53 ⟨Nat.zero_le _, Nat.zero_le _⟩ (fun H locs hh => ?_)
        refine lv_if_ne (tgt := 65) hx hb dX8_nextTry_56 (by decide) (fun c4 => ?_) (fun c4 => ?_)
        · replace hf := (if_neg c4).symm.trans hf
          exact hJ65 v4 v5 H locs ls hf (lv_sub hl [0, 3, 4] rfl) hh
        · replace hf := (if_pos c4).symm.trans hf
          refine lv_iinc (v := (v4 + (1 : Int32))) (lv' := [(4, .int (v4 + (1 : Int32))), (0, .ref a0), (2, .int v2), (3, .int v3), (5, .int v5)]) hx hb dX8_nextTry_59 hl (k := 3) rfl rfl (by decide) rfl (fun ls hl => ?_)
          refine lv_goto (tgt := 41) hx hb dX8_nextTry_62 (by decide) ?_
          exact ih (v4 + (1 : Int32)) H locs ls hf (lv_sub hl [1, 2, 3, 0, 4] rfl) hh
  have hJ39 : ∀ (v2 : Int32) (v3 : Int32) (v4 : Int32) (t0 : Int32), ∀ (H : Heap) (locs : List Loc) (ls : Array Slot), fX8_nextTry_j39 S v2 v3 v4 t0 = some R → lv_has ls 6 [(0, .ref a0), (2, .int v2), (3, .int v3), (4, .int v4)] → zW K A s H locs (cMd K a0 a1 a2 a3 a4 a5 a6 a7 a8 a9 a10 a11 a12 a13 a14 a15 a16 a17 a18 a19 S) → W p l e ({ frames := 2, cells := 0, slots := 0, locals := 47 } : Room) s m ([.ref a0, .int p1, .int p2, .int p3] : List Value).toArray below meth c H locs 0 0 Q (F0 m 39 ls [.int t0]) := by
    intro v2 v3 v4 t0 H locs ls hf hl hh
    unfold fX8_nextTry_j39 at hf
    refine lv_istore (lv' := [(5, .int t0), (0, .ref a0), (2, .int v2), (3, .int v3), (4, .int v4)]) hx hb dX8_nextTry_39 hl (by decide) rfl (fun ls hl => ?_)
    exact hL41 v2 v3 t0 FU v4 H locs ls hf (lv_sub hl [1, 2, 3, 4, 0] rfl) hh
  unfold fX8_nextTry at hf
  refine (fun (hmain : ∀ (H : Heap) (locs : List Loc), zW K A s H locs (cMd K a0 a1 a2 a3 a4 a5 a6 a7 a8 a9 a10 a11 a12 a13 a14 a15 a16 a17 a18 a19 S) → W p l e ({ frames := 2, cells := 0, slots := 0, locals := 47 } : Room) s m ([.ref a0, .int p1, .int p2, .int p3] : List Value).toArray below meth c H locs 0 0 Q (F0 m 0 ls [])) => hmain s.heap [] hh) (fun H locs hh => ?_)
  refine lv_iload_n hx hb dX8_nextTry_0 rfl (lv_at hl 1 rfl) ?_
  refine lv_iconst (v := (1 : Int32)) hx hb dX8_nextTry_1 (by decide) ?_
  refine lv_iadd hx hb dX8_nextTry_2 ?_
  refine lv_istore (lv' := [(4, .int (p1 + (1 : Int32))), (0, .ref a0), (1, .int p1), (2, .int p2), (3, .int p3)]) hx hb dX8_nextTry_3 hl (by decide) rfl (fun ls hl => ?_)
  refine lv_iconst (v := (2 : Int32)) hx hb dX8_nextTry_5 (by decide) ?_
  refine lv_aload_n hx hb dX8_nextTry_6 rfl (lv_at hl 1 rfl) ?_
  refine zget (v := .ref a15) (ref := "SumOfTwoThatStandModel") (C := RX8) (T := TX8) (N := 33) (index := 52) X hh inX8_nextTry_X8 0 rfl rfl 24 (by decide) mmX8_nextTry_1 rfl rfl dX8_nextTry_7 ?_
  refine lv_iload_n hx hb dX8_nextTry_10 rfl (lv_at hl 3 rfl) ?_
  refine lv_iconst (v := (1 : Int32)) hx hb dX8_nextTry_11 (by decide) ?_
  refine lv_isub hx hb dX8_nextTry_12 ?_
  obtain ⟨g5, hf⟩ := ob_ix hf
  refine ziald (f := (md_tried S)) X hh 15 rfl g5 dX8_nextTry_13 ?_
  refine lv_imul hx hb dX8_nextTry_14 ?_
  refine lv_aload_n hx hb dX8_nextTry_15 rfl (lv_at hl 1 rfl) ?_
  refine zget (v := .int (md_goal S)) (ref := "SumOfTwoThatStandModel") (C := RX8) (T := TX8) (N := 33) (index := 213) X hh inX8_nextTry_X8 0 rfl rfl 26 (by decide) mmX8_nextTry_0 rfl rfl dX8_nextTry_16 ?_
  refine lv_icmp_ge (tgt := 35) hx hb dX8_nextTry_19 (by decide) (fun c6 => ?_) (fun c6 => ?_)
  · replace hf := (if_pos c6).symm.trans hf
    refine lv_aload_n hx hb dX8_nextTry_35 rfl (lv_at hl 1 rfl) ?_
    refine zget (v := .int (md_goal S)) (ref := "SumOfTwoThatStandModel") (C := RX8) (T := TX8) (N := 33) (index := 213) X hh inX8_nextTry_X8 0 rfl rfl 26 (by decide) mmX8_nextTry_0 rfl rfl dX8_nextTry_36 ?_
    exact hJ39 p2 p3 (p1 + (1 : Int32)) (md_goal S) H locs ls hf (lv_sub hl [1, 3, 4, 0] rfl) hh
  · replace hf := (if_neg c6).symm.trans hf
    refine lv_iconst (v := (2 : Int32)) hx hb dX8_nextTry_22 (by decide) ?_
    refine lv_aload_n hx hb dX8_nextTry_23 rfl (lv_at hl 1 rfl) ?_
    refine zget (v := .ref a15) (ref := "SumOfTwoThatStandModel") (C := RX8) (T := TX8) (N := 33) (index := 52) X hh inX8_nextTry_X8 0 rfl rfl 24 (by decide) mmX8_nextTry_1 rfl rfl dX8_nextTry_24 ?_
    refine lv_iload_n hx hb dX8_nextTry_27 rfl (lv_at hl 3 rfl) ?_
    refine lv_iconst (v := (1 : Int32)) hx hb dX8_nextTry_28 (by decide) ?_
    refine lv_isub hx hb dX8_nextTry_29 ?_
    refine ziald (f := (md_tried S)) X hh 15 rfl g5 dX8_nextTry_30 ?_
    refine lv_imul hx hb dX8_nextTry_31 ?_
    refine lv_goto (tgt := 39) hx hb dX8_nextTry_32 (by decide) ?_
    exact hJ39 p2 p3 (p1 + (1 : Int32)) ((2 : Int32) * ((md_tried S) (p2 - (1 : Int32)).toNatClampNeg)) H locs ls hf (lv_sub hl [1, 3, 4, 0] rfl) hh
theorem inX8_findsChain_X8 : ∀ w ∈ wsX80, w ∈ wsX8_findsChain := by decide +kernel
theorem mmX8_findsChain_0 : Cond.fieldLink RX8 52 "SumOfTwoThatStandModel" "tried" "[I" ∈ wsX8_findsChain := by decide +kernel
theorem mmX8_findsChain_1 : Cond.fieldLink RX8 213 "SumOfTwoThatStandModel" "goal" "I" ∈ wsX8_findsChain := by decide +kernel
theorem hdX8_findsChain : yX8_findsChain.cls ≠ "java/lang/invoke/MethodHandle" ∧ yX8_findsChain.cls ≠ "java/lang/invoke/VarHandle" ∧ (parseMethodDescriptor yX8_findsChain.desc).map (fun d => d.parameters.length) = some 1 := by decide +kernel
set_option maxHeartbeats 4000000 in
set_option maxRecDepth 100000 in
theorem kX8_findsChain (l : Launch) (K : zK) (a0 a1 a2 a3 a4 a5 a6 a7 a8 a9 a10 a11 a12 a13 a14 a15 a16 a17 a18 a19 : Nat) (S : zMd) (p1 : Int32) (R : Int32 × zMd) (hf : fX8_findsChain S p1 = some R) : zC l yX8_findsChain wsX8_findsChain ({ frames := 3, cells := 0, slots := 0, locals := 72 } : Room) K [.ref a0, .int p1] (cMd K a0 a1 a2 a3 a4 a5 a6 a7 a8 a9 a10 a11 a12 a13 a14 a15 a16 a17 a18 a19 S) (some (.int R.1)) (cMd K a0 a1 a2 a3 a4 a5 a6 a7 a8 a9 a10 a11 a12 a13 a14 a15 a16 a17 a18 a19 R.2) := by
  refine zC_z .boolean R.1 (cc := cX8_findsChain) (maxL := 3) (by decide +kernel) rfl (Nat.le_of_ble_eq_true rfl) rfl rfl ?_
  intro p e s m below meth c Q A X hret ls hl hh
  have X : zX p m c cX8_findsChain 3 s ([.ref a0, .int p1] : List Value).toArray wsX8_findsChain RX8 K A := X
  have hx := X.1.1
  have hb := X.1.2.1
  have hr2 : ∀ (pc : Nat) (ls : Array Slot) (H : Heap) (locs : List Loc) (v : Int32) (S : zMd), some (v, S) = some R → narrow .boolean (.int v) = .int v → decode cX8_findsChain pc = .ok (.ireturn, 1) → zW K A s H locs (cMd K a0 a1 a2 a3 a4 a5 a6 a7 a8 a9 a10 a11 a12 a13 a14 a15 a16 a17 a18 a19 S) → W p l e ({ frames := 3, cells := 0, slots := 0, locals := 72 } : Room) s m ([.ref a0, .int p1] : List Value).toArray below meth c H locs 0 0 Q (F0 m pc ls [.int v]) := by
    intro pc ls H locs v S h hn hd hh
    cases h; exact hret pc ls H locs _ rfl hn hd hh
  have hl : lv_has ls 3 [(0, .ref a0), (1, .int p1)] := hl
  have hL35 : ∀ (v1 : Int32), ∀ (n : Nat) (v2 : Int32) (S : zMd), ∀ (H : Heap) (locs : List Loc) (ls : Array Slot), fX8_findsChain_l35 v1 n v2 S = some R → lv_has ls 3 [(0, .ref a0), (1, .int v1), (2, .int v2)] → zW K A s H locs (cMd K a0 a1 a2 a3 a4 a5 a6 a7 a8 a9 a10 a11 a12 a13 a14 a15 a16 a17 a18 a19 S) → W p l e ({ frames := 3, cells := 0, slots := 0, locals := 72 } : Room) s m ([.ref a0, .int p1] : List Value).toArray below meth c H locs 0 0 Q (F0 m 35 ls []) := by
    intro v1 n
    induction n with
    | zero =>
      intro v2 S H locs ls hf hl hh
      rw [fX8_findsChain_l35] at hf; cases hf
    | succ n ih =>
      intro v2 S H locs ls hf hl hh
      rw [fX8_findsChain_l35] at hf
      refine lv_iload_n hx hb dX8_findsChain_35 rfl (lv_at hl 2 rfl) ?_
      refine lv_if_le (tgt := 118) hx hb dX8_findsChain_36 (by decide) (fun c1 => ?_) (fun c1 => ?_)
      · replace hf := (if_pos c1).symm.trans hf
        refine lv_iconst (v := (0 : Int32)) hx hb dX8_findsChain_118 (by decide) ?_
        exact hr2 119 ls H locs (0 : Int32) S hf rfl dX8_findsChain_119 hh
      · replace hf := (if_neg c1).symm.trans hf
        refine lv_aload_n hx hb dX8_findsChain_39 rfl (lv_at hl 0 rfl) ?_
        refine zget (v := .ref a15) (ref := "SumOfTwoThatStandModel") (C := RX8) (T := TX8) (N := 33) (index := 52) X hh inX8_findsChain_X8 0 rfl rfl 24 (by decide) mmX8_findsChain_0 rfl rfl dX8_findsChain_40 ?_
        refine lv_iload_n hx hb dX8_findsChain_43 rfl (lv_at hl 2 rfl) ?_
        refine lv_aload_n hx hb dX8_findsChain_44 rfl (lv_at hl 0 rfl) ?_
        refine lv_aload_n hx hb dX8_findsChain_45 rfl (lv_at hl 0 rfl) ?_
        refine zget (v := .ref a15) (ref := "SumOfTwoThatStandModel") (C := RX8) (T := TX8) (N := 33) (index := 52) X hh inX8_findsChain_X8 0 rfl rfl 24 (by decide) mmX8_findsChain_0 rfl rfl dX8_findsChain_46 ?_
        refine lv_iload_n hx hb dX8_findsChain_49 rfl (lv_at hl 2 rfl) ?_
        obtain ⟨g2, hf⟩ := ob_ix hf
        refine ziald (f := (md_tried S)) X hh 15 rfl g2 dX8_findsChain_50 ?_
        refine lv_iload_n hx hb dX8_findsChain_51 rfl (lv_at hl 2 rfl) ?_
        refine lv_iload_n hx hb dX8_findsChain_52 rfl (lv_at hl 1 rfl) ?_
        obtain ⟨u3, hu3, hf⟩ := ob_bind hf
        refine zcallV (ci := 7) (q0 := 0) (As := [.int ((md_tried S) v2.toNatClampNeg), .int v2, .int v1]) (rest := [.int v2, .ref a15]) (wr := []) (ws' := cMd K a0 a1 a2 a3 a4 a5 a6 a7 a8 a9 a10 a11 a12 a13 a14 a15 a16 a17 a18 a19 S) (ov := some (.int u3)) X hh hl (kX8_nextTry l K a0 a1 a2 a3 a4 a5 a6 a7 a8 a9 a10 a11 a12 a13 a14 a15 a16 a17 a18 a19 S ((md_tried S) v2.toNatClampNeg) v2 v1 u3 hu3) (fun ht => cwV 3 ht gX8_findsChain_X8_nextTry rfl rfl rfl ⟨rfl, hdX8_nextTry⟩ ⟨Nat.le_of_ble_eq_true rfl, Nat.le_of_ble_eq_true rfl⟩) [0, 1, 2, 3, 4, 5, 6, 7, 8, 9, 10, 11, 12, 13, 14, 15, 16, 17, 18, 19] [] [0, 1, 2, 3, 4, 5, 6, 7, 8, 9, 10, 11, 12, 13, 14, 15, 16, 17, 18, 19] rfl rfl rfl rfl (by decide) rfl rfl rfl rfl rfl rfl (Nat.le_of_ble_eq_true rfl) dX8_findsChain_53 ⟨Nat.zero_le _, Nat.zero_le _⟩ (fun H locs hh => ?_)
        refine ziast (f := (md_tried S)) X hh 15 rfl g2 dX8_findsChain_56 (fun H locs hh => ?_)
        have hh := hh.to (sMd_tried K a0 a1 a2 a3 a4 a5 a6 a7 a8 a9 a10 a11 a12 a13 a14 a15 a16 a17 a18 a19 S (upd (md_tried S) v2.toNatClampNeg u3))
        refine lv_aload_n hx hb dX8_findsChain_57 rfl (lv_at hl 0 rfl) ?_
        refine zget (v := .ref a15) (ref := "SumOfTwoThatStandModel") (C := RX8) (T := TX8) (N := 33) (index := 52) X hh inX8_findsChain_X8 0 rfl rfl 24 (by decide) mmX8_findsChain_0 rfl rfl dX8_findsChain_58 ?_
        refine lv_iload_n hx hb dX8_findsChain_61 rfl (lv_at hl 2 rfl) ?_
        refine ziald (f := (upd (md_tried S) v2.toNatClampNeg u3)) X hh 15 rfl g2 dX8_findsChain_62 ?_
        refine lv_aload_n hx hb dX8_findsChain_63 rfl (lv_at hl 0 rfl) ?_
        refine zget (v := .int (md_goal S)) (ref := "SumOfTwoThatStandModel") (C := RX8) (T := TX8) (N := 33) (index := 213) X hh inX8_findsChain_X8 0 rfl rfl 26 (by decide) mmX8_findsChain_1 rfl rfl dX8_findsChain_64 ?_
        refine lv_icmp_le (tgt := 76) hx hb dX8_findsChain_67 (by decide) (fun c4 => ?_) (fun c4 => ?_)
        · replace hf := (if_pos c4).symm.trans hf
          refine lv_iload_n hx hb dX8_findsChain_76 rfl (lv_at hl 2 rfl) ?_
          refine lv_iload_n hx hb dX8_findsChain_77 rfl (lv_at hl 1 rfl) ?_
          refine lv_iconst (v := (1 : Int32)) hx hb dX8_findsChain_78 (by decide) ?_
          refine lv_isub hx hb dX8_findsChain_79 ?_
          refine lv_icmp_ne (tgt := 98) hx hb dX8_findsChain_80 (by decide) (fun c5 => ?_) (fun c5 => ?_)
          · replace hf := (if_neg c5).symm.trans hf
            refine lv_iinc (v := (v2 + (1 : Int32))) (lv' := [(2, .int (v2 + (1 : Int32))), (0, .ref a0), (1, .int v1)]) hx hb dX8_findsChain_98 hl (k := 2) rfl rfl (by decide) rfl (fun ls hl => ?_)
            refine lv_aload_n hx hb dX8_findsChain_101 rfl (lv_at hl 1 rfl) ?_
            refine zget (v := .ref a15) (ref := "SumOfTwoThatStandModel") (C := RX8) (T := TX8) (N := 33) (index := 52) X hh inX8_findsChain_X8 0 rfl rfl 24 (by decide) mmX8_findsChain_0 rfl rfl dX8_findsChain_102 ?_
            refine lv_iload_n hx hb dX8_findsChain_105 rfl (lv_at hl 0 rfl) ?_
            refine lv_aload_n hx hb dX8_findsChain_106 rfl (lv_at hl 1 rfl) ?_
            refine zget (v := .ref a15) (ref := "SumOfTwoThatStandModel") (C := RX8) (T := TX8) (N := 33) (index := 52) X hh inX8_findsChain_X8 0 rfl rfl 24 (by decide) mmX8_findsChain_0 rfl rfl dX8_findsChain_107 ?_
            refine lv_iload_n hx hb dX8_findsChain_110 rfl (lv_at hl 0 rfl) ?_
            refine lv_iconst (v := (1 : Int32)) hx hb dX8_findsChain_111 (by decide) ?_
            refine lv_isub hx hb dX8_findsChain_112 ?_
            obtain ⟨g6, hf⟩ := ob_ix hf
            refine ziald (f := (upd (md_tried S) v2.toNatClampNeg u3)) X hh 15 rfl g6 dX8_findsChain_113 ?_
            obtain ⟨g7, hf⟩ := ob_ix hf
            refine ziast (f := (upd (md_tried S) v2.toNatClampNeg u3)) X hh 15 rfl g7 dX8_findsChain_114 (fun H locs hh => ?_)
            have hh := hh.to (sMd_tried K a0 a1 a2 a3 a4 a5 a6 a7 a8 a9 a10 a11 a12 a13 a14 a15 a16 a17 a18 a19 (md_set_tried S (upd (md_tried S) v2.toNatClampNeg u3)) (upd (upd (md_tried S) v2.toNatClampNeg u3) (v2 + (1 : Int32)).toNatClampNeg ((upd (md_tried S) v2.toNatClampNeg u3) ((v2 + (1 : Int32)) - (1 : Int32)).toNatClampNeg)))
            refine lv_goto (tgt := 35) hx hb dX8_findsChain_115 (by decide) ?_
            exact ih (v2 + (1 : Int32)) (md_set_tried (md_set_tried S (upd (md_tried S) v2.toNatClampNeg u3)) (upd (upd (md_tried S) v2.toNatClampNeg u3) (v2 + (1 : Int32)).toNatClampNeg ((upd (md_tried S) v2.toNatClampNeg u3) ((v2 + (1 : Int32)) - (1 : Int32)).toNatClampNeg))) H locs ls hf (lv_sub hl [1, 2, 0] rfl) hh
          · replace hf := (if_pos c5).symm.trans hf
            refine lv_aload_n hx hb dX8_findsChain_83 rfl (lv_at hl 0 rfl) ?_
            refine zget (v := .ref a15) (ref := "SumOfTwoThatStandModel") (C := RX8) (T := TX8) (N := 33) (index := 52) X hh inX8_findsChain_X8 0 rfl rfl 24 (by decide) mmX8_findsChain_0 rfl rfl dX8_findsChain_84 ?_
            refine lv_iload_n hx hb dX8_findsChain_87 rfl (lv_at hl 2 rfl) ?_
            refine ziald (f := (upd (md_tried S) v2.toNatClampNeg u3)) X hh 15 rfl g2 dX8_findsChain_88 ?_
            refine lv_aload_n hx hb dX8_findsChain_89 rfl (lv_at hl 0 rfl) ?_
            refine zget (v := .int (md_goal S)) (ref := "SumOfTwoThatStandModel") (C := RX8) (T := TX8) (N := 33) (index := 213) X hh inX8_findsChain_X8 0 rfl rfl 26 (by decide) mmX8_findsChain_1 rfl rfl dX8_findsChain_90 ?_
            refine lv_icmp_ne (tgt := 35) hx hb dX8_findsChain_93 (by decide) (fun c8 => ?_) (fun c8 => ?_)
            · replace hf := (if_neg c8).symm.trans hf
              exact ih v2 (md_set_tried S (upd (md_tried S) v2.toNatClampNeg u3)) H locs ls hf (lv_sub hl [0, 1, 2] rfl) hh
            · replace hf := (if_pos c8).symm.trans hf
              refine lv_iconst (v := (1 : Int32)) hx hb dX8_findsChain_96 (by decide) ?_
              exact hr2 97 ls H locs (1 : Int32) (md_set_tried S (upd (md_tried S) v2.toNatClampNeg u3)) hf rfl dX8_findsChain_97 hh
        · replace hf := (if_neg c4).symm.trans hf
          refine lv_iinc (v := (v2 + (-1 : Int32))) (lv' := [(2, .int (v2 + (-1 : Int32))), (0, .ref a0), (1, .int v1)]) hx hb dX8_findsChain_70 hl (k := 2) rfl rfl (by decide) rfl (fun ls hl => ?_)
          refine lv_goto (tgt := 35) hx hb dX8_findsChain_73 (by decide) ?_
          exact ih (v2 + (-1 : Int32)) (md_set_tried S (upd (md_tried S) v2.toNatClampNeg u3)) H locs ls hf (lv_sub hl [1, 2, 0] rfl) hh
  unfold fX8_findsChain at hf
  refine (fun (hmain : ∀ (H : Heap) (locs : List Loc), zW K A s H locs (cMd K a0 a1 a2 a3 a4 a5 a6 a7 a8 a9 a10 a11 a12 a13 a14 a15 a16 a17 a18 a19 S) → W p l e ({ frames := 3, cells := 0, slots := 0, locals := 72 } : Room) s m ([.ref a0, .int p1] : List Value).toArray below meth c H locs 0 0 Q (F0 m 0 ls [])) => hmain s.heap [] hh) (fun H locs hh => ?_)
  refine lv_aload_n hx hb dX8_findsChain_0 rfl (lv_at hl 0 rfl) ?_
  refine zget (v := .ref a15) (ref := "SumOfTwoThatStandModel") (C := RX8) (T := TX8) (N := 33) (index := 52) X hh inX8_findsChain_X8 0 rfl rfl 24 (by decide) mmX8_findsChain_0 rfl rfl dX8_findsChain_1 ?_
  refine lv_iconst (v := (0 : Int32)) hx hb dX8_findsChain_4 (by decide) ?_
  refine lv_iconst (v := (1 : Int32)) hx hb dX8_findsChain_5 (by decide) ?_
  obtain ⟨g9, hf⟩ := ob_ix hf
  refine ziast (f := (md_tried S)) X hh 15 rfl g9 dX8_findsChain_6 (fun H locs hh => ?_)
  have hh := hh.to (sMd_tried K a0 a1 a2 a3 a4 a5 a6 a7 a8 a9 a10 a11 a12 a13 a14 a15 a16 a17 a18 a19 S (upd (md_tried S) (0 : Int32).toNatClampNeg (1 : Int32)))
  refine lv_iload_n hx hb dX8_findsChain_7 rfl (lv_at hl 1 rfl) ?_
  refine lv_iconst (v := (1 : Int32)) hx hb dX8_findsChain_8 (by decide) ?_
  refine lv_icmp_ne (tgt := 26) hx hb dX8_findsChain_9 (by decide) (fun c10 => ?_) (fun c10 => ?_)
  · replace hf := (if_neg c10).symm.trans hf
    refine lv_iconst (v := (1 : Int32)) hx hb dX8_findsChain_26 (by decide) ?_
    refine lv_istore_n (lv' := [(2, .int (1 : Int32)), (0, .ref a0), (1, .int p1)]) hx hb dX8_findsChain_27 rfl hl (by decide) rfl (fun ls hl => ?_)
    refine lv_aload_n hx hb dX8_findsChain_28 rfl (lv_at hl 1 rfl) ?_
    refine zget (v := .ref a15) (ref := "SumOfTwoThatStandModel") (C := RX8) (T := TX8) (N := 33) (index := 52) X hh inX8_findsChain_X8 0 rfl rfl 24 (by decide) mmX8_findsChain_0 rfl rfl dX8_findsChain_29 ?_
    refine lv_iconst (v := (1 : Int32)) hx hb dX8_findsChain_32 (by decide) ?_
    refine lv_iconst (v := (1 : Int32)) hx hb dX8_findsChain_33 (by decide) ?_
    obtain ⟨g11, hf⟩ := ob_ix hf
    refine ziast (f := (upd (md_tried S) (0 : Int32).toNatClampNeg (1 : Int32))) X hh 15 rfl g11 dX8_findsChain_34 (fun H locs hh => ?_)
    have hh := hh.to (sMd_tried K a0 a1 a2 a3 a4 a5 a6 a7 a8 a9 a10 a11 a12 a13 a14 a15 a16 a17 a18 a19 (md_set_tried S (upd (md_tried S) (0 : Int32).toNatClampNeg (1 : Int32))) (upd (upd (md_tried S) (0 : Int32).toNatClampNeg (1 : Int32)) (1 : Int32).toNatClampNeg (1 : Int32)))
    exact hL35 p1 FU (1 : Int32) (md_set_tried (md_set_tried S (upd (md_tried S) (0 : Int32).toNatClampNeg (1 : Int32))) (upd (upd (md_tried S) (0 : Int32).toNatClampNeg (1 : Int32)) (1 : Int32).toNatClampNeg (1 : Int32))) H locs ls hf (lv_sub hl [1, 2, 0] rfl) hh
  · replace hf := (if_pos c10).symm.trans hf
    refine lv_aload_n hx hb dX8_findsChain_12 rfl (lv_at hl 0 rfl) ?_
    refine zget (v := .int (md_goal S)) (ref := "SumOfTwoThatStandModel") (C := RX8) (T := TX8) (N := 33) (index := 213) X hh inX8_findsChain_X8 0 rfl rfl 26 (by decide) mmX8_findsChain_1 rfl rfl dX8_findsChain_13 ?_
    refine lv_iconst (v := (1 : Int32)) hx hb dX8_findsChain_16 (by decide) ?_
    refine lv_icmp_ne (tgt := 24) hx hb dX8_findsChain_17 (by decide) (fun c12 => ?_) (fun c12 => ?_)
    · replace hf := (if_neg c12).symm.trans hf
      refine lv_iconst (v := (0 : Int32)) hx hb dX8_findsChain_24 (by decide) ?_
      exact hr2 25 ls H locs (0 : Int32) (md_set_tried S (upd (md_tried S) (0 : Int32).toNatClampNeg (1 : Int32))) hf rfl dX8_findsChain_25 hh
    · replace hf := (if_pos c12).symm.trans hf
      refine lv_iconst (v := (1 : Int32)) hx hb dX8_findsChain_20 (by decide) ?_
      refine lv_goto (tgt := 25) hx hb dX8_findsChain_21 (by decide) ?_
      exact hr2 25 ls H locs (1 : Int32) (md_set_tried S (upd (md_tried S) (0 : Int32).toNatClampNeg (1 : Int32))) hf rfl dX8_findsChain_25 hh
theorem inX8_shortest_X8 : ∀ w ∈ wsX80, w ∈ wsX8_shortest := by decide +kernel
theorem mmX8_shortest_0 : Cond.fieldLink RX8 222 "SumOfTwoThatStandModel" "wanted" "I" ∈ wsX8_shortest := by decide +kernel
theorem mmX8_shortest_1 : Cond.fieldLink RX8 213 "SumOfTwoThatStandModel" "goal" "I" ∈ wsX8_shortest := by decide +kernel
theorem hdX8_shortest : yX8_shortest.cls ≠ "java/lang/invoke/MethodHandle" ∧ yX8_shortest.cls ≠ "java/lang/invoke/VarHandle" ∧ (parseMethodDescriptor yX8_shortest.desc).map (fun d => d.parameters.length) = some 2 := by decide +kernel
set_option maxHeartbeats 4000000 in
set_option maxRecDepth 100000 in
theorem kX8_shortest (l : Launch) (K : zK) (a0 a1 a2 a3 a4 a5 a6 a7 a8 a9 a10 a11 a12 a13 a14 a15 a16 a17 a18 a19 : Nat) (S : zMd) (p1 : Int32) (p2 : Int32) (R : Int32 × zMd) (hf : fX8_shortest S p1 p2 = some R) : zC l yX8_shortest wsX8_shortest ({ frames := 4, cells := 0, slots := 0, locals := 94 } : Room) K [.ref a0, .int p1, .int p2] (cMd K a0 a1 a2 a3 a4 a5 a6 a7 a8 a9 a10 a11 a12 a13 a14 a15 a16 a17 a18 a19 S) (some (.int R.1)) (cMd K a0 a1 a2 a3 a4 a5 a6 a7 a8 a9 a10 a11 a12 a13 a14 a15 a16 a17 a18 a19 R.2) := by
  refine zC_i R.1 (cc := cX8_shortest) (maxL := 4) (by decide +kernel) rfl (Nat.le_of_ble_eq_true rfl) rfl rfl ?_
  intro p e s m below meth c Q A X hret ls hl hh
  have X : zX p m c cX8_shortest 4 s ([.ref a0, .int p1, .int p2] : List Value).toArray wsX8_shortest RX8 K A := X
  have hx := X.1.1
  have hb := X.1.2.1
  have hr2 : ∀ (pc : Nat) (ls : Array Slot) (H : Heap) (locs : List Loc) (v : Int32) (S : zMd), some (v, S) = some R → decode cX8_shortest pc = .ok (.ireturn, 1) → zW K A s H locs (cMd K a0 a1 a2 a3 a4 a5 a6 a7 a8 a9 a10 a11 a12 a13 a14 a15 a16 a17 a18 a19 S) → W p l e ({ frames := 4, cells := 0, slots := 0, locals := 94 } : Room) s m ([.ref a0, .int p1, .int p2] : List Value).toArray below meth c H locs 0 0 Q (F0 m pc ls [.int v]) := by
    intro pc ls H locs v S h hd hh
    cases h; exact hret pc ls H locs _ rfl hd hh
  have hl : lv_has ls 4 [(0, .ref a0), (1, .int p1), (2, .int p2)] := hl
  have hL12 : ∀ (n : Nat) (v3 : Int32) (S : zMd), ∀ (H : Heap) (locs : List Loc) (ls : Array Slot), fX8_shortest_l12 n v3 S = some R → lv_has ls 4 [(0, .ref a0), (3, .int v3)] → zW K A s H locs (cMd K a0 a1 a2 a3 a4 a5 a6 a7 a8 a9 a10 a11 a12 a13 a14 a15 a16 a17 a18 a19 S) → W p l e ({ frames := 4, cells := 0, slots := 0, locals := 94 } : Room) s m ([.ref a0, .int p1, .int p2] : List Value).toArray below meth c H locs 0 0 Q (F0 m 12 ls []) := by
    intro n
    induction n with
    | zero =>
      intro v3 S H locs ls hf hl hh
      rw [fX8_shortest_l12] at hf; cases hf
    | succ n ih =>
      intro v3 S H locs ls hf hl hh
      rw [fX8_shortest_l12] at hf
      refine lv_aload_n hx hb dX8_shortest_12 rfl (lv_at hl 0 rfl) ?_
      refine lv_iload_n hx hb dX8_shortest_13 rfl (lv_at hl 1 rfl) ?_
      obtain ⟨u1, hu1, hf⟩ := ob_bind hf
      refine zcallV (ci := 7) (q0 := 0) (As := [.int v3]) (rest := []) (wr := []) (ws' := cMd K a0 a1 a2 a3 a4 a5 a6 a7 a8 a9 a10 a11 a12 a13 a14 a15 a16 a17 a18 a19 u1.2) (ov := some (.int u1.1)) X hh hl (kX8_findsChain l K a0 a1 a2 a3 a4 a5 a6 a7 a8 a9 a10 a11 a12 a13 a14 a15 a16 a17 a18 a19 S v3 u1 hu1) (fun ht => cwV 1 ht gX8_shortest_X8_findsChain rfl rfl rfl ⟨rfl, hdX8_findsChain⟩ ⟨Nat.le_of_ble_eq_true rfl, Nat.le_of_ble_eq_true rfl⟩) [0, 1, 2, 3, 4, 5, 6, 7, 8, 9, 10, 11, 12, 13, 14, 15, 16, 17, 18, 19] [] [0, 1, 2, 3, 4, 5, 6, 7, 8, 9, 10, 11, 12, 13, 14, 15, 16, 17, 18, 19] rfl rfl rfl rfl (by decide) rfl rfl rfl rfl rfl rfl (Nat.le_of_ble_eq_true rfl) dX8_shortest_14 ⟨Nat.zero_le _, Nat.zero_le _⟩ (fun H locs hh => ?_)
      refine lv_if_ne (tgt := 26) hx hb dX8_shortest_17 (by decide) (fun c2 => ?_) (fun c2 => ?_)
      · replace hf := (if_neg c2).symm.trans hf
        refine lv_iload_n hx hb dX8_shortest_26 rfl (lv_at hl 1 rfl) ?_
        exact hr2 27 ls H locs v3 u1.2 hf dX8_shortest_27 hh
      · replace hf := (if_pos c2).symm.trans hf
        refine lv_iinc (v := (v3 + (1 : Int32))) (lv' := [(3, .int (v3 + (1 : Int32))), (0, .ref a0)]) hx hb dX8_shortest_20 hl (k := 1) rfl rfl (by decide) rfl (fun ls hl => ?_)
        refine lv_goto (tgt := 12) hx hb dX8_shortest_23 (by decide) ?_
        exact ih (v3 + (1 : Int32)) u1.2 H locs ls hf (lv_sub hl [1, 0] rfl) hh
  unfold fX8_shortest at hf
  refine (fun (hmain : ∀ (H : Heap) (locs : List Loc), zW K A s H locs (cMd K a0 a1 a2 a3 a4 a5 a6 a7 a8 a9 a10 a11 a12 a13 a14 a15 a16 a17 a18 a19 S) → W p l e ({ frames := 4, cells := 0, slots := 0, locals := 94 } : Room) s m ([.ref a0, .int p1, .int p2] : List Value).toArray below meth c H locs 0 0 Q (F0 m 0 ls [])) => hmain s.heap [] hh) (fun H locs hh => ?_)
  refine lv_aload_n hx hb dX8_shortest_0 rfl (lv_at hl 0 rfl) ?_
  refine lv_iload_n hx hb dX8_shortest_1 rfl (lv_at hl 1 rfl) ?_
  refine zput (v := .int p1) (ty := .int) (ref := "SumOfTwoThatStandModel") (C := RX8) (T := TX8) (N := 33) (index := 222) X hh inX8_shortest_X8 tyX8 tyX8_ok nmX8 0 rfl rfl 25 (by decide) mmX8_shortest_0 rfl rfl (by decide +kernel) rfl rfl (Nat.le_of_ble_eq_true rfl) dX8_shortest_2 (fun H locs hh => ?_)
  have hh := hh.to (sMd_wanted K a0 a1 a2 a3 a4 a5 a6 a7 a8 a9 a10 a11 a12 a13 a14 a15 a16 a17 a18 a19 S p1)
  refine lv_aload_n hx hb dX8_shortest_5 rfl (lv_at hl 0 rfl) ?_
  refine lv_iload_n hx hb dX8_shortest_6 rfl (lv_at hl 2 rfl) ?_
  refine zput (v := .int p2) (ty := .int) (ref := "SumOfTwoThatStandModel") (C := RX8) (T := TX8) (N := 33) (index := 213) X hh inX8_shortest_X8 tyX8 tyX8_ok nmX8 0 rfl rfl 26 (by decide) mmX8_shortest_1 rfl rfl (by decide +kernel) rfl rfl (Nat.le_of_ble_eq_true rfl) dX8_shortest_7 (fun H locs hh => ?_)
  have hh := hh.to (sMd_goal K a0 a1 a2 a3 a4 a5 a6 a7 a8 a9 a10 a11 a12 a13 a14 a15 a16 a17 a18 a19 (md_set_wanted S p1) p2)
  refine lv_iconst (v := (1 : Int32)) hx hb dX8_shortest_10 (by decide) ?_
  refine lv_istore_n (lv' := [(3, .int (1 : Int32)), (0, .ref a0), (1, .int p1), (2, .int p2)]) hx hb dX8_shortest_11 rfl hl (by decide) rfl (fun ls hl => ?_)
  exact hL12 FU (1 : Int32) (md_set_goal (md_set_wanted S p1) p2) H locs ls hf (lv_sub hl [1, 0] rfl) hh
theorem hdX8_fewest : yX8_fewest.cls ≠ "java/lang/invoke/MethodHandle" ∧ yX8_fewest.cls ≠ "java/lang/invoke/VarHandle" ∧ (parseMethodDescriptor yX8_fewest.desc).map (fun d => d.parameters.length) = some 1 := by decide +kernel
set_option maxHeartbeats 4000000 in
set_option maxRecDepth 100000 in
theorem kX8_fewest (l : Launch) (K : zK) (a0 a1 a2 a3 a4 a5 a6 a7 a8 a9 a10 a11 a12 a13 a14 a15 a16 a17 a18 a19 : Nat) (S : zMd) (p1 : Int32) (R : Int32 × zMd) (hf : fX8_fewest S p1 = some R) : zC l yX8_fewest wsX8_fewest ({ frames := 5, cells := 0, slots := 0, locals := 117 } : Room) K [.ref a0, .int p1] (cMd K a0 a1 a2 a3 a4 a5 a6 a7 a8 a9 a10 a11 a12 a13 a14 a15 a16 a17 a18 a19 S) (some (.int R.1)) (cMd K a0 a1 a2 a3 a4 a5 a6 a7 a8 a9 a10 a11 a12 a13 a14 a15 a16 a17 a18 a19 R.2) := by
  refine zC_i R.1 (cc := cX8_fewest) (maxL := 3) (by decide +kernel) rfl (Nat.le_of_ble_eq_true rfl) rfl rfl ?_
  intro p e s m below meth c Q A X hret ls hl hh
  have X : zX p m c cX8_fewest 3 s ([.ref a0, .int p1] : List Value).toArray wsX8_fewest RX8 K A := X
  have hx := X.1.1
  have hb := X.1.2.1
  have hr2 : ∀ (pc : Nat) (ls : Array Slot) (H : Heap) (locs : List Loc) (v : Int32) (S : zMd), some (v, S) = some R → decode cX8_fewest pc = .ok (.ireturn, 1) → zW K A s H locs (cMd K a0 a1 a2 a3 a4 a5 a6 a7 a8 a9 a10 a11 a12 a13 a14 a15 a16 a17 a18 a19 S) → W p l e ({ frames := 5, cells := 0, slots := 0, locals := 117 } : Room) s m ([.ref a0, .int p1] : List Value).toArray below meth c H locs 0 0 Q (F0 m pc ls [.int v]) := by
    intro pc ls H locs v S h hd hh
    cases h; exact hret pc ls H locs _ rfl hd hh
  have hl : lv_has ls 3 [(0, .ref a0), (1, .int p1)] := hl
  unfold fX8_fewest at hf
  refine (fun (hmain : ∀ (H : Heap) (locs : List Loc), zW K A s H locs (cMd K a0 a1 a2 a3 a4 a5 a6 a7 a8 a9 a10 a11 a12 a13 a14 a15 a16 a17 a18 a19 S) → W p l e ({ frames := 5, cells := 0, slots := 0, locals := 117 } : Room) s m ([.ref a0, .int p1] : List Value).toArray below meth c H locs 0 0 Q (F0 m 0 ls [])) => hmain s.heap [] hh) (fun H locs hh => ?_)
  refine lv_iload_n hx hb dX8_fewest_0 rfl (lv_at hl 1 rfl) ?_
  refine lv_iconst (v := (1 : Int32)) hx hb dX8_fewest_1 (by decide) ?_
  refine lv_bipush (v := (100 : Int32)) hx hb dX8_fewest_2 (by decide) ?_
  refine zcallS (As := [.int p1, .int (1 : Int32), .int (100 : Int32)]) (rest := []) (wr := cMd K a0 a1 a2 a3 a4 a5 a6 a7 a8 a9 a10 a11 a12 a13 a14 a15 a16 a17 a18 a19 S) (ws' := cMd K a0 a1 a2 a3 a4 a5 a6 a7 a8 a9 a10 a11 a12 a13 a14 a15 a16 a17 a18 a19 S) (ov := some (.int (fX8_bound p1 (1 : Int32) (100 : Int32)))) X hh hl (kX8_bound l K p1 (1 : Int32) (100 : Int32) (fX8_bound p1 (1 : Int32) (100 : Int32)) rfl) (fun ht => va_cwS 3 ht gX8_fewest_X8_bound rfl rfl rfl hdX8_bound ⟨Nat.le_of_ble_eq_true rfl, Nat.le_of_ble_eq_true rfl⟩) [] [0, 1, 2, 3, 4, 5, 6, 7, 8, 9, 10, 11, 12, 13, 14, 15, 16, 17, 18, 19] [0, 1, 2, 3, 4, 5, 6, 7, 8, 9, 10, 11, 12, 13, 14, 15, 16, 17, 18, 19] rfl rfl rfl rfl (by decide) rfl rfl rfl rfl (Nat.le_of_ble_eq_true rfl) dX8_fewest_4 ⟨Nat.zero_le _, Nat.zero_le _⟩ (fun H locs hh => ?_)
  refine lv_istore_n (lv' := [(2, .int (fX8_bound p1 (1 : Int32) (100 : Int32))), (0, .ref a0), (1, .int p1)]) hx hb dX8_fewest_7 rfl hl (by decide) rfl (fun ls hl => ?_)
  refine lv_iload_n hx hb dX8_fewest_8 rfl (lv_at hl 0 rfl) ?_
  refine lv_if_eq (tgt := 20) hx hb dX8_fewest_9 (by decide) (fun c2 => ?_) (fun c2 => ?_)
  · replace hf := (if_pos c2).symm.trans hf
    refine lv_aload_n hx hb dX8_fewest_20 rfl (lv_at hl 1 rfl) ?_
    refine lv_iload_n hx hb dX8_fewest_21 rfl (lv_at hl 2 rfl) ?_
    refine lv_iload_n hx hb dX8_fewest_22 rfl (lv_at hl 2 rfl) ?_
    obtain ⟨u3, hu3, hf⟩ := ob_bind hf
    refine zcallV (ci := 7) (q0 := 0) (As := [.int p1, .int p1]) (rest := []) (wr := []) (ws' := cMd K a0 a1 a2 a3 a4 a5 a6 a7 a8 a9 a10 a11 a12 a13 a14 a15 a16 a17 a18 a19 u3.2) (ov := some (.int u3.1)) X hh hl (kX8_shortest l K a0 a1 a2 a3 a4 a5 a6 a7 a8 a9 a10 a11 a12 a13 a14 a15 a16 a17 a18 a19 S p1 p1 u3 hu3) (fun ht => cwV 2 ht gX8_fewest_X8_shortest rfl rfl rfl ⟨rfl, hdX8_shortest⟩ ⟨Nat.le_of_ble_eq_true rfl, Nat.le_of_ble_eq_true rfl⟩) [0, 1, 2, 3, 4, 5, 6, 7, 8, 9, 10, 11, 12, 13, 14, 15, 16, 17, 18, 19] [] [0, 1, 2, 3, 4, 5, 6, 7, 8, 9, 10, 11, 12, 13, 14, 15, 16, 17, 18, 19] rfl rfl rfl rfl (by decide) rfl rfl rfl rfl rfl rfl (Nat.le_of_ble_eq_true rfl) dX8_fewest_23 ⟨Nat.zero_le _, Nat.zero_le _⟩ (fun H locs hh => ?_)
    exact hr2 26 ls H locs u3.1 u3.2 hf dX8_fewest_26 hh
  · replace hf := (if_neg c2).symm.trans hf
    refine lv_aload_n hx hb dX8_fewest_12 rfl (lv_at hl 1 rfl) ?_
    refine lv_iload_n hx hb dX8_fewest_13 rfl (lv_at hl 0 rfl) ?_
    obtain ⟨u4, hu4, hf⟩ := ob_bind hf
    refine zcallV (ci := 7) (q0 := 0) (As := [.int (fX8_bound p1 (1 : Int32) (100 : Int32))]) (rest := []) (wr := []) (ws' := cMd K a0 a1 a2 a3 a4 a5 a6 a7 a8 a9 a10 a11 a12 a13 a14 a15 a16 a17 a18 a19 u4.2) (ov := some (.int u4.1)) X hh hl (kX8_no l K a0 a1 a2 a3 a4 a5 a6 a7 a8 a9 a10 a11 a12 a13 a14 a15 a16 a17 a18 a19 S (fX8_bound p1 (1 : Int32) (100 : Int32)) u4 hu4) (fun ht => cwV 1 ht gX8_fewest_X8_no rfl rfl rfl ⟨rfl, hdX8_no⟩ ⟨Nat.le_of_ble_eq_true rfl, Nat.le_of_ble_eq_true rfl⟩) [0, 1, 2, 3, 4, 5, 6, 7, 8, 9, 10, 11, 12, 13, 14, 15, 16, 17, 18, 19] [] [0, 1, 2, 3, 4, 5, 6, 7, 8, 9, 10, 11, 12, 13, 14, 15, 16, 17, 18, 19] rfl rfl rfl rfl (by decide) rfl rfl rfl rfl rfl rfl (Nat.le_of_ble_eq_true rfl) dX8_fewest_14 ⟨Nat.zero_le _, Nat.zero_le _⟩ (fun H locs hh => ?_)
    refine lv_goto (tgt := 26) hx hb dX8_fewest_17 (by decide) ?_
    exact hr2 26 ls H locs u4.1 u4.2 hf dX8_fewest_26 hh
theorem inX8_chain_X8 : ∀ w ∈ wsX80, w ∈ wsX8_chain := by decide +kernel
theorem mmX8_chain_0 : Cond.fieldLink RX8 52 "SumOfTwoThatStandModel" "tried" "[I" ∈ wsX8_chain := by decide +kernel
theorem hdX8_chain : yX8_chain.cls ≠ "java/lang/invoke/MethodHandle" ∧ yX8_chain.cls ≠ "java/lang/invoke/VarHandle" ∧ (parseMethodDescriptor yX8_chain.desc).map (fun d => d.parameters.length) = some 2 := by decide +kernel
set_option maxHeartbeats 4000000 in
set_option maxRecDepth 100000 in
theorem kX8_chain (l : Launch) (K : zK) (a0 a1 a2 a3 a4 a5 a6 a7 a8 a9 a10 a11 a12 a13 a14 a15 a16 a17 a18 a19 : Nat) (S : zMd) (p1 : Int32) (p2 : Int32) (R : Int32 × zMd) (hf : fX8_chain S p1 p2 = some R) : zC l yX8_chain wsX8_chain ({ frames := 5, cells := 0, slots := 0, locals := 117 } : Room) K [.ref a0, .int p1, .int p2] (cMd K a0 a1 a2 a3 a4 a5 a6 a7 a8 a9 a10 a11 a12 a13 a14 a15 a16 a17 a18 a19 S) (some (.int R.1)) (cMd K a0 a1 a2 a3 a4 a5 a6 a7 a8 a9 a10 a11 a12 a13 a14 a15 a16 a17 a18 a19 R.2) := by
  refine zC_i R.1 (cc := cX8_chain) (maxL := 5) (by decide +kernel) rfl (Nat.le_of_ble_eq_true rfl) rfl rfl ?_
  intro p e s m below meth c Q A X hret ls hl hh
  have X : zX p m c cX8_chain 5 s ([.ref a0, .int p1, .int p2] : List Value).toArray wsX8_chain RX8 K A := X
  have hx := X.1.1
  have hb := X.1.2.1
  have hr2 : ∀ (pc : Nat) (ls : Array Slot) (H : Heap) (locs : List Loc) (v : Int32) (S : zMd), some (v, S) = some R → decode cX8_chain pc = .ok (.ireturn, 1) → zW K A s H locs (cMd K a0 a1 a2 a3 a4 a5 a6 a7 a8 a9 a10 a11 a12 a13 a14 a15 a16 a17 a18 a19 S) → W p l e ({ frames := 5, cells := 0, slots := 0, locals := 117 } : Room) s m ([.ref a0, .int p1, .int p2] : List Value).toArray below meth c H locs 0 0 Q (F0 m pc ls [.int v]) := by
    intro pc ls H locs v S h hd hh
    cases h; exact hret pc ls H locs _ rfl hd hh
  have hl : lv_has ls 5 [(0, .ref a0), (1, .int p1), (2, .int p2)] := hl
  have hJ26 : ∀ (v1 : Int32) (v2 : Int32) (t0 : Int32) (S : zMd), ∀ (H : Heap) (locs : List Loc) (ls : Array Slot), fX8_chain_j26 v1 v2 t0 S = some R → lv_has ls 5 [(0, .ref a0), (1, .int v1), (2, .int v2)] → zW K A s H locs (cMd K a0 a1 a2 a3 a4 a5 a6 a7 a8 a9 a10 a11 a12 a13 a14 a15 a16 a17 a18 a19 S) → W p l e ({ frames := 5, cells := 0, slots := 0, locals := 117 } : Room) s m ([.ref a0, .int p1, .int p2] : List Value).toArray below meth c H locs 0 0 Q (F0 m 26 ls [.int t0]) := by
    intro v1 v2 t0 S H locs ls hf hl hh
    unfold fX8_chain_j26 at hf
    refine lv_istore_n (lv' := [(3, .int t0), (0, .ref a0), (1, .int v1), (2, .int v2)]) hx hb dX8_chain_26 rfl hl (by decide) rfl (fun ls hl => ?_)
    refine lv_iload_n hx hb dX8_chain_27 rfl (lv_at hl 0 rfl) ?_
    refine lv_if_eq (tgt := 37) hx hb dX8_chain_28 (by decide) (fun c1 => ?_) (fun c1 => ?_)
    · replace hf := (if_pos c1).symm.trans hf
      refine lv_aload_n hx hb dX8_chain_37 rfl (lv_at hl 1 rfl) ?_
      refine lv_iload_n hx hb dX8_chain_38 rfl (lv_at hl 2 rfl) ?_
      refine lv_iload_n hx hb dX8_chain_39 rfl (lv_at hl 2 rfl) ?_
      obtain ⟨u2, hu2, hf⟩ := ob_bind hf
      refine zcallV (ci := 7) (q0 := 0) (As := [.int v1, .int v1]) (rest := []) (wr := []) (ws' := cMd K a0 a1 a2 a3 a4 a5 a6 a7 a8 a9 a10 a11 a12 a13 a14 a15 a16 a17 a18 a19 u2.2) (ov := some (.int u2.1)) X hh hl (kX8_shortest l K a0 a1 a2 a3 a4 a5 a6 a7 a8 a9 a10 a11 a12 a13 a14 a15 a16 a17 a18 a19 S v1 v1 u2 hu2) (fun ht => cwV 2 ht gX8_chain_X8_shortest rfl rfl rfl ⟨rfl, hdX8_shortest⟩ ⟨Nat.le_of_ble_eq_true rfl, Nat.le_of_ble_eq_true rfl⟩) [0, 1, 2, 3, 4, 5, 6, 7, 8, 9, 10, 11, 12, 13, 14, 15, 16, 17, 18, 19] [] [0, 1, 2, 3, 4, 5, 6, 7, 8, 9, 10, 11, 12, 13, 14, 15, 16, 17, 18, 19] rfl rfl rfl rfl (by decide) rfl rfl rfl rfl rfl rfl (Nat.le_of_ble_eq_true rfl) dX8_chain_40 ⟨Nat.zero_le _, Nat.zero_le _⟩ (fun H locs hh => ?_)
      refine lv_istore (lv' := [(4, .int u2.1), (3, .int t0), (0, .ref a0), (1, .int v1), (2, .int v2)]) hx hb dX8_chain_43 hl (by decide) rfl (fun ls hl => ?_)
      refine lv_iload_n hx hb dX8_chain_45 rfl (lv_at hl 4 rfl) ?_
      refine lv_iload hx hb dX8_chain_46 (lv_at hl 0 rfl) ?_
      refine lv_icmp_ge (tgt := 60) hx hb dX8_chain_48 (by decide) (fun c3 => ?_) (fun c3 => ?_)
      · replace hf := (if_pos c3).symm.trans hf
        refine lv_bipush (v := (-9 : Int32)) hx hb dX8_chain_60 (by decide) ?_
        exact hr2 62 ls H locs (-9 : Int32) u2.2 hf dX8_chain_62 hh
      · replace hf := (if_neg c3).symm.trans hf
        refine lv_aload_n hx hb dX8_chain_51 rfl (lv_at hl 2 rfl) ?_
        refine zget (v := .ref a15) (ref := "SumOfTwoThatStandModel") (C := RX8) (T := TX8) (N := 33) (index := 52) X hh inX8_chain_X8 0 rfl rfl 24 (by decide) mmX8_chain_0 rfl rfl dX8_chain_52 ?_
        refine lv_iload_n hx hb dX8_chain_55 rfl (lv_at hl 4 rfl) ?_
        obtain ⟨g4, hf⟩ := ob_ix hf
        refine ziald (f := (md_tried u2.2)) X hh 15 rfl g4 dX8_chain_56 ?_
        refine lv_goto (tgt := 62) hx hb dX8_chain_57 (by decide) ?_
        exact hr2 62 ls H locs ((md_tried u2.2) v2.toNatClampNeg) u2.2 hf dX8_chain_62 hh
    · replace hf := (if_neg c1).symm.trans hf
      refine lv_aload_n hx hb dX8_chain_31 rfl (lv_at hl 1 rfl) ?_
      refine lv_iload_n hx hb dX8_chain_32 rfl (lv_at hl 0 rfl) ?_
      obtain ⟨u5, hu5, hf⟩ := ob_bind hf
      refine zcallV (ci := 7) (q0 := 0) (As := [.int t0]) (rest := []) (wr := []) (ws' := cMd K a0 a1 a2 a3 a4 a5 a6 a7 a8 a9 a10 a11 a12 a13 a14 a15 a16 a17 a18 a19 u5.2) (ov := some (.int u5.1)) X hh hl (kX8_no l K a0 a1 a2 a3 a4 a5 a6 a7 a8 a9 a10 a11 a12 a13 a14 a15 a16 a17 a18 a19 S t0 u5 hu5) (fun ht => cwV 1 ht gX8_chain_X8_no rfl rfl rfl ⟨rfl, hdX8_no⟩ ⟨Nat.le_of_ble_eq_true rfl, Nat.le_of_ble_eq_true rfl⟩) [0, 1, 2, 3, 4, 5, 6, 7, 8, 9, 10, 11, 12, 13, 14, 15, 16, 17, 18, 19] [] [0, 1, 2, 3, 4, 5, 6, 7, 8, 9, 10, 11, 12, 13, 14, 15, 16, 17, 18, 19] rfl rfl rfl rfl (by decide) rfl rfl rfl rfl rfl rfl (Nat.le_of_ble_eq_true rfl) dX8_chain_33 ⟨Nat.zero_le _, Nat.zero_le _⟩ (fun H locs hh => ?_)
      exact hr2 36 ls H locs u5.1 u5.2 hf dX8_chain_36 hh
  have hJ9 : ∀ (v1 : Int32) (v2 : Int32) (S : zMd), ∀ (H : Heap) (locs : List Loc) (ls : Array Slot), fX8_chain_j9 v1 v2 S = some R → lv_has ls 5 [(0, .ref a0), (1, .int v1), (2, .int v2)] → zW K A s H locs (cMd K a0 a1 a2 a3 a4 a5 a6 a7 a8 a9 a10 a11 a12 a13 a14 a15 a16 a17 a18 a19 S) → W p l e ({ frames := 5, cells := 0, slots := 0, locals := 117 } : Room) s m ([.ref a0, .int p1, .int p2] : List Value).toArray below meth c H locs 0 0 Q (F0 m 9 ls []) := by
    intro v1 v2 S H locs ls hf hl hh
    unfold fX8_chain_j9 at hf
    refine lv_bipush (v := (-4 : Int32)) hx hb dX8_chain_9 (by decide) ?_
    refine lv_goto (tgt := 26) hx hb dX8_chain_11 (by decide) ?_
    exact hJ26 v1 v2 (-4 : Int32) S H locs ls hf (lv_sub hl [0, 1, 2] rfl) hh
  unfold fX8_chain at hf
  refine (fun (hmain : ∀ (H : Heap) (locs : List Loc), zW K A s H locs (cMd K a0 a1 a2 a3 a4 a5 a6 a7 a8 a9 a10 a11 a12 a13 a14 a15 a16 a17 a18 a19 S) → W p l e ({ frames := 5, cells := 0, slots := 0, locals := 117 } : Room) s m ([.ref a0, .int p1, .int p2] : List Value).toArray below meth c H locs 0 0 Q (F0 m 0 ls [])) => hmain s.heap [] hh) (fun H locs hh => ?_)
  refine lv_iload_n hx hb dX8_chain_0 rfl (lv_at hl 1 rfl) ?_
  refine lv_iconst (v := (1 : Int32)) hx hb dX8_chain_1 (by decide) ?_
  refine lv_icmp_lt (tgt := 9) hx hb dX8_chain_2 (by decide) (fun c6 => ?_) (fun c6 => ?_)
  · replace hf := (if_pos c6).symm.trans hf
    exact hJ9 p1 p2 S H locs ls hf (lv_sub hl [0, 1, 2] rfl) hh
  · replace hf := (if_neg c6).symm.trans hf
    refine lv_iload_n hx hb dX8_chain_5 rfl (lv_at hl 2 rfl) ?_
    refine lv_if_ge (tgt := 14) hx hb dX8_chain_6 (by decide) (fun c7 => ?_) (fun c7 => ?_)
    · replace hf := (if_pos c7).symm.trans hf
      refine lv_iload_n hx hb dX8_chain_14 rfl (lv_at hl 1 rfl) ?_
      refine lv_bipush (v := (100 : Int32)) hx hb dX8_chain_15 (by decide) ?_
      refine lv_icmp_le (tgt := 25) hx hb dX8_chain_17 (by decide) (fun c8 => ?_) (fun c8 => ?_)
      · replace hf := (if_pos c8).symm.trans hf
        refine lv_iconst (v := (0 : Int32)) hx hb dX8_chain_25 (by decide) ?_
        exact hJ26 p1 p2 (0 : Int32) S H locs ls hf (lv_sub hl [0, 1, 2] rfl) hh
      · replace hf := (if_neg c8).symm.trans hf
        refine lv_bipush (v := (-6 : Int32)) hx hb dX8_chain_20 (by decide) ?_
        refine lv_goto (tgt := 26) hx hb dX8_chain_22 (by decide) ?_
        exact hJ26 p1 p2 (-6 : Int32) S H locs ls hf (lv_sub hl [0, 1, 2] rfl) hh
    · replace hf := (if_neg c7).symm.trans hf
      exact hJ9 p1 p2 S H locs ls hf (lv_sub hl [0, 1, 2] rfl) hh
theorem inX8_factors_X8 : ∀ w ∈ wsX80, w ∈ wsX8_factors := by decide +kernel
theorem mmX8_factors_0 : Cond.fieldLink RX8 55 "SumOfTwoThatStandModel" "byFactors" "[I" ∈ wsX8_factors := by decide +kernel
theorem hdX8_factors : yX8_factors.cls ≠ "java/lang/invoke/MethodHandle" ∧ yX8_factors.cls ≠ "java/lang/invoke/VarHandle" ∧ (parseMethodDescriptor yX8_factors.desc).map (fun d => d.parameters.length) = some 1 := by decide +kernel
set_option maxHeartbeats 4000000 in
set_option maxRecDepth 100000 in
theorem kX8_factors (l : Launch) (K : zK) (a0 a1 a2 a3 a4 a5 a6 a7 a8 a9 a10 a11 a12 a13 a14 a15 a16 a17 a18 a19 : Nat) (S : zMd) (p1 : Int32) (R : Int32 × zMd) (hf : fX8_factors S p1 = some R) : zC l yX8_factors wsX8_factors ({ frames := 1, cells := 0, slots := 0, locals := 21 } : Room) K [.ref a0, .int p1] (cMd K a0 a1 a2 a3 a4 a5 a6 a7 a8 a9 a10 a11 a12 a13 a14 a15 a16 a17 a18 a19 S) (some (.int R.1)) (cMd K a0 a1 a2 a3 a4 a5 a6 a7 a8 a9 a10 a11 a12 a13 a14 a15 a16 a17 a18 a19 R.2) := by
  refine zC_i R.1 (cc := cX8_factors) (maxL := 4) (by decide +kernel) rfl (Nat.le_of_ble_eq_true rfl) rfl rfl ?_
  intro p e s m below meth c Q A X hret ls hl hh
  have X : zX p m c cX8_factors 4 s ([.ref a0, .int p1] : List Value).toArray wsX8_factors RX8 K A := X
  have hx := X.1.1
  have hb := X.1.2.1
  have hr2 : ∀ (pc : Nat) (ls : Array Slot) (H : Heap) (locs : List Loc) (v : Int32) (S : zMd), some (v, S) = some R → decode cX8_factors pc = .ok (.ireturn, 1) → zW K A s H locs (cMd K a0 a1 a2 a3 a4 a5 a6 a7 a8 a9 a10 a11 a12 a13 a14 a15 a16 a17 a18 a19 S) → W p l e ({ frames := 1, cells := 0, slots := 0, locals := 21 } : Room) s m ([.ref a0, .int p1] : List Value).toArray below meth c H locs 0 0 Q (F0 m pc ls [.int v]) := by
    intro pc ls H locs v S h hd hh
    cases h; exact hret pc ls H locs _ rfl hd hh
  have hl : lv_has ls 4 [(0, .ref a0), (1, .int p1)] := hl
  have hJ59 : ∀ (v1 : Int32) (v2 : Int32) (t1 : Int32) (t2 : Int32) (S : zMd) (k9 : (Int32) → (zMd) → Option (Int32 × zMd)), (∀ (v2 : Int32) (S : zMd) (H : Heap) (locs : List Loc) (ls : Array Slot), k9 v2 S = some R → lv_has ls 4 [(0, .ref a0), (1, .int v1), (2, .int v2)] → zW K A s H locs (cMd K a0 a1 a2 a3 a4 a5 a6 a7 a8 a9 a10 a11 a12 a13 a14 a15 a16 a17 a18 a19 S) → W p l e ({ frames := 1, cells := 0, slots := 0, locals := 21 } : Room) s m ([.ref a0, .int p1] : List Value).toArray below meth c H locs 0 0 Q (F0 m 9 ls [])) → ∀ (H : Heap) (locs : List Loc) (ls : Array Slot), fX8_factors_j59 v1 v2 t1 t2 S k9 = some R → lv_has ls 4 [(0, .ref a0), (1, .int v1), (2, .int v2)] → zW K A s H locs (cMd K a0 a1 a2 a3 a4 a5 a6 a7 a8 a9 a10 a11 a12 a13 a14 a15 a16 a17 a18 a19 S) → W p l e ({ frames := 1, cells := 0, slots := 0, locals := 21 } : Room) s m ([.ref a0, .int p1] : List Value).toArray below meth c H locs 0 0 Q (F0 m 59 ls [.int t2, .int t1, .ref a16]) := by
    intro v1 v2 t1 t2 S k9 hk9 H locs ls hf hl hh
    unfold fX8_factors_j59 at hf
    obtain ⟨g1, hf⟩ := ob_ix hf
    refine ziast (f := (md_byFactors S)) X hh 16 rfl g1 dX8_factors_59 (fun H locs hh => ?_)
    have hh := hh.to (sMd_byFactors K a0 a1 a2 a3 a4 a5 a6 a7 a8 a9 a10 a11 a12 a13 a14 a15 a16 a17 a18 a19 S (upd (md_byFactors S) t1.toNatClampNeg t2))
    refine lv_iinc (v := (v2 + (1 : Int32))) (lv' := [(2, .int (v2 + (1 : Int32))), (0, .ref a0), (1, .int v1)]) hx hb dX8_factors_60 hl (k := 2) rfl rfl (by decide) rfl (fun ls hl => ?_)
    refine lv_goto (tgt := 9) hx hb dX8_factors_63 (by decide) ?_
    exact hk9 (v2 + (1 : Int32)) (md_set_byFactors S (upd (md_byFactors S) t1.toNatClampNeg t2)) H locs ls hf (lv_sub hl [1, 2, 0] rfl) hh
  have hL9 : ∀ (v1 : Int32), ∀ (n : Nat) (v2 : Int32) (S : zMd), ∀ (H : Heap) (locs : List Loc) (ls : Array Slot), fX8_factors_l9 v1 n v2 S = some R → lv_has ls 4 [(0, .ref a0), (1, .int v1), (2, .int v2)] → zW K A s H locs (cMd K a0 a1 a2 a3 a4 a5 a6 a7 a8 a9 a10 a11 a12 a13 a14 a15 a16 a17 a18 a19 S) → W p l e ({ frames := 1, cells := 0, slots := 0, locals := 21 } : Room) s m ([.ref a0, .int p1] : List Value).toArray below meth c H locs 0 0 Q (F0 m 9 ls []) := by
    intro v1 n
    induction n with
    | zero =>
      intro v2 S H locs ls hf hl hh
      rw [fX8_factors_l9] at hf; cases hf
    | succ n ih =>
      intro v2 S H locs ls hf hl hh
      rw [fX8_factors_l9] at hf
      refine lv_iload_n hx hb dX8_factors_9 rfl (lv_at hl 2 rfl) ?_
      refine lv_iload_n hx hb dX8_factors_10 rfl (lv_at hl 1 rfl) ?_
      refine lv_icmp_gt (tgt := 66) hx hb dX8_factors_11 (by decide) (fun c2 => ?_) (fun c2 => ?_)
      · replace hf := (if_pos c2).symm.trans hf
        refine lv_aload_n hx hb dX8_factors_66 rfl (lv_at hl 0 rfl) ?_
        refine zget (v := .ref a16) (ref := "SumOfTwoThatStandModel") (C := RX8) (T := TX8) (N := 33) (index := 55) X hh inX8_factors_X8 0 rfl rfl 27 (by decide) mmX8_factors_0 rfl rfl dX8_factors_67 ?_
        refine lv_iload_n hx hb dX8_factors_70 rfl (lv_at hl 1 rfl) ?_
        obtain ⟨g3, hf⟩ := ob_ix hf
        refine ziald (f := (md_byFactors S)) X hh 16 rfl g3 dX8_factors_71 ?_
        exact hr2 72 ls H locs ((md_byFactors S) v1.toNatClampNeg) S hf dX8_factors_72 hh
      · replace hf := (if_neg c2).symm.trans hf
        refine lv_iload_n hx hb dX8_factors_14 rfl (lv_at hl 2 rfl) ?_
        obtain ⟨u4, hu4, hf⟩ := ob_bind hf
        refine zcallS (As := [.int v2]) (rest := []) (wr := cMd K a0 a1 a2 a3 a4 a5 a6 a7 a8 a9 a10 a11 a12 a13 a14 a15 a16 a17 a18 a19 S) (ws' := cMd K a0 a1 a2 a3 a4 a5 a6 a7 a8 a9 a10 a11 a12 a13 a14 a15 a16 a17 a18 a19 S) (ov := some (.int u4)) X hh hl (kX8_leastFactor l K v2 u4 hu4) (fun ht => va_cwS 1 ht gX8_factors_X8_leastFactor rfl rfl rfl hdX8_leastFactor ⟨Nat.le_of_ble_eq_true rfl, Nat.le_of_ble_eq_true rfl⟩) [] [0, 1, 2, 3, 4, 5, 6, 7, 8, 9, 10, 11, 12, 13, 14, 15, 16, 17, 18, 19] [0, 1, 2, 3, 4, 5, 6, 7, 8, 9, 10, 11, 12, 13, 14, 15, 16, 17, 18, 19] rfl rfl rfl rfl (by decide) rfl rfl rfl rfl (Nat.le_of_ble_eq_true rfl) dX8_factors_15 ⟨Nat.zero_le _, Nat.zero_le _⟩ (fun H locs hh => ?_)
        refine lv_istore_n (lv' := [(3, .int u4), (0, .ref a0), (1, .int v1), (2, .int v2)]) hx hb dX8_factors_18 rfl hl (by decide) rfl (fun ls hl => ?_)
        refine lv_aload_n hx hb dX8_factors_19 rfl (lv_at hl 1 rfl) ?_
        refine zget (v := .ref a16) (ref := "SumOfTwoThatStandModel") (C := RX8) (T := TX8) (N := 33) (index := 55) X hh inX8_factors_X8 0 rfl rfl 27 (by decide) mmX8_factors_0 rfl rfl dX8_factors_20 ?_
        refine lv_iload_n hx hb dX8_factors_23 rfl (lv_at hl 3 rfl) ?_
        refine lv_iload_n hx hb dX8_factors_24 rfl (lv_at hl 0 rfl) ?_
        refine lv_iload_n hx hb dX8_factors_25 rfl (lv_at hl 3 rfl) ?_
        refine lv_icmp_ne (tgt := 42) hx hb dX8_factors_26 (by decide) (fun c5 => ?_) (fun c5 => ?_)
        · replace hf := (if_neg c5).symm.trans hf
          refine lv_aload_n hx hb dX8_factors_42 rfl (lv_at hl 1 rfl) ?_
          refine zget (v := .ref a16) (ref := "SumOfTwoThatStandModel") (C := RX8) (T := TX8) (N := 33) (index := 55) X hh inX8_factors_X8 0 rfl rfl 27 (by decide) mmX8_factors_0 rfl rfl dX8_factors_43 ?_
          refine lv_iload_n hx hb dX8_factors_46 rfl (lv_at hl 0 rfl) ?_
          obtain ⟨g6, hf⟩ := ob_ix hf
          refine ziald (f := (md_byFactors S)) X hh 16 rfl g6 dX8_factors_47 ?_
          refine lv_aload_n hx hb dX8_factors_48 rfl (lv_at hl 1 rfl) ?_
          refine zget (v := .ref a16) (ref := "SumOfTwoThatStandModel") (C := RX8) (T := TX8) (N := 33) (index := 55) X hh inX8_factors_X8 0 rfl rfl 27 (by decide) mmX8_factors_0 rfl rfl dX8_factors_49 ?_
          refine lv_iload_n hx hb dX8_factors_52 rfl (lv_at hl 3 rfl) ?_
          refine lv_iload_n hx hb dX8_factors_53 rfl (lv_at hl 0 rfl) ?_
          obtain ⟨g7, hf⟩ := ob_gd hf
          refine lv_idiv hx hb dX8_factors_54 g7 ?_
          obtain ⟨g8, hf⟩ := ob_ix hf
          refine ziald (f := (md_byFactors S)) X hh 16 rfl g8 dX8_factors_55 ?_
          refine lv_iadd hx hb dX8_factors_56 ?_
          refine lv_iconst (v := (1 : Int32)) hx hb dX8_factors_57 (by decide) ?_
          refine lv_isub hx hb dX8_factors_58 ?_
          exact hJ59 v1 v2 v2 ((((md_byFactors S) u4.toNatClampNeg) + ((md_byFactors S) (v2 / u4).toNatClampNeg)) - (1 : Int32)) S (fX8_factors_l9 v1 n) (ih) H locs ls hf (lv_sub hl [1, 2, 3] rfl) hh
        · replace hf := (if_pos c5).symm.trans hf
          refine lv_aload_n hx hb dX8_factors_29 rfl (lv_at hl 1 rfl) ?_
          refine zget (v := .ref a16) (ref := "SumOfTwoThatStandModel") (C := RX8) (T := TX8) (N := 33) (index := 55) X hh inX8_factors_X8 0 rfl rfl 27 (by decide) mmX8_factors_0 rfl rfl dX8_factors_30 ?_
          refine lv_iload_n hx hb dX8_factors_33 rfl (lv_at hl 3 rfl) ?_
          refine lv_iconst (v := (1 : Int32)) hx hb dX8_factors_34 (by decide) ?_
          refine lv_isub hx hb dX8_factors_35 ?_
          obtain ⟨g9, hf⟩ := ob_ix hf
          refine ziald (f := (md_byFactors S)) X hh 16 rfl g9 dX8_factors_36 ?_
          refine lv_iconst (v := (1 : Int32)) hx hb dX8_factors_37 (by decide) ?_
          refine lv_iadd hx hb dX8_factors_38 ?_
          refine lv_goto (tgt := 59) hx hb dX8_factors_39 (by decide) ?_
          exact hJ59 v1 v2 v2 (((md_byFactors S) (v2 - (1 : Int32)).toNatClampNeg) + (1 : Int32)) S (fX8_factors_l9 v1 n) (ih) H locs ls hf (lv_sub hl [1, 2, 3] rfl) hh
  unfold fX8_factors at hf
  refine (fun (hmain : ∀ (H : Heap) (locs : List Loc), zW K A s H locs (cMd K a0 a1 a2 a3 a4 a5 a6 a7 a8 a9 a10 a11 a12 a13 a14 a15 a16 a17 a18 a19 S) → W p l e ({ frames := 1, cells := 0, slots := 0, locals := 21 } : Room) s m ([.ref a0, .int p1] : List Value).toArray below meth c H locs 0 0 Q (F0 m 0 ls [])) => hmain s.heap [] hh) (fun H locs hh => ?_)
  refine lv_aload_n hx hb dX8_factors_0 rfl (lv_at hl 0 rfl) ?_
  refine zget (v := .ref a16) (ref := "SumOfTwoThatStandModel") (C := RX8) (T := TX8) (N := 33) (index := 55) X hh inX8_factors_X8 0 rfl rfl 27 (by decide) mmX8_factors_0 rfl rfl dX8_factors_1 ?_
  refine lv_iconst (v := (1 : Int32)) hx hb dX8_factors_4 (by decide) ?_
  refine lv_iconst (v := (1 : Int32)) hx hb dX8_factors_5 (by decide) ?_
  obtain ⟨g10, hf⟩ := ob_ix hf
  refine ziast (f := (md_byFactors S)) X hh 16 rfl g10 dX8_factors_6 (fun H locs hh => ?_)
  have hh := hh.to (sMd_byFactors K a0 a1 a2 a3 a4 a5 a6 a7 a8 a9 a10 a11 a12 a13 a14 a15 a16 a17 a18 a19 S (upd (md_byFactors S) (1 : Int32).toNatClampNeg (1 : Int32)))
  refine lv_iconst (v := (2 : Int32)) hx hb dX8_factors_7 (by decide) ?_
  refine lv_istore_n (lv' := [(2, .int (2 : Int32)), (0, .ref a0), (1, .int p1)]) hx hb dX8_factors_8 rfl hl (by decide) rfl (fun ls hl => ?_)
  exact hL9 p1 FU (2 : Int32) (md_set_byFactors S (upd (md_byFactors S) (1 : Int32).toNatClampNeg (1 : Int32))) H locs ls hf (lv_sub hl [1, 2, 0] rfl) hh
theorem hdX8_way : yX8_way.cls ≠ "java/lang/invoke/MethodHandle" ∧ yX8_way.cls ≠ "java/lang/invoke/VarHandle" ∧ (parseMethodDescriptor yX8_way.desc).map (fun d => d.parameters.length) = some 2 := by decide +kernel
set_option maxHeartbeats 4000000 in
set_option maxRecDepth 100000 in
theorem kX8_way (l : Launch) (K : zK) (a0 a1 a2 a3 a4 a5 a6 a7 a8 a9 a10 a11 a12 a13 a14 a15 a16 a17 a18 a19 : Nat) (S : zMd) (p1 : Int32) (p2 : Int32) (R : Int32 × zMd) (hf : fX8_way S p1 p2 = some R) : zC l yX8_way wsX8_way ({ frames := 2, cells := 0, slots := 0, locals := 44 } : Room) K [.ref a0, .int p1, .int p2] (cMd K a0 a1 a2 a3 a4 a5 a6 a7 a8 a9 a10 a11 a12 a13 a14 a15 a16 a17 a18 a19 S) (some (.int R.1)) (cMd K a0 a1 a2 a3 a4 a5 a6 a7 a8 a9 a10 a11 a12 a13 a14 a15 a16 a17 a18 a19 R.2) := by
  refine zC_i R.1 (cc := cX8_way) (maxL := 4) (by decide +kernel) rfl (Nat.le_of_ble_eq_true rfl) rfl rfl ?_
  intro p e s m below meth c Q A X hret ls hl hh
  have X : zX p m c cX8_way 4 s ([.ref a0, .int p1, .int p2] : List Value).toArray wsX8_way RX8 K A := X
  have hx := X.1.1
  have hb := X.1.2.1
  have hr2 : ∀ (pc : Nat) (ls : Array Slot) (H : Heap) (locs : List Loc) (v : Int32) (S : zMd), some (v, S) = some R → decode cX8_way pc = .ok (.ireturn, 1) → zW K A s H locs (cMd K a0 a1 a2 a3 a4 a5 a6 a7 a8 a9 a10 a11 a12 a13 a14 a15 a16 a17 a18 a19 S) → W p l e ({ frames := 2, cells := 0, slots := 0, locals := 44 } : Room) s m ([.ref a0, .int p1, .int p2] : List Value).toArray below meth c H locs 0 0 Q (F0 m pc ls [.int v]) := by
    intro pc ls H locs v S h hd hh
    cases h; exact hret pc ls H locs _ rfl hd hh
  have hl : lv_has ls 4 [(0, .ref a0), (1, .int p1), (2, .int p2)] := hl
  have hJ22 : ∀ (v1 : Int32) (v2 : Int32) (t0 : Int32) (S : zMd), ∀ (H : Heap) (locs : List Loc) (ls : Array Slot), fX8_way_j22 v1 v2 t0 S = some R → lv_has ls 4 [(0, .ref a0), (1, .int v1), (2, .int v2)] → zW K A s H locs (cMd K a0 a1 a2 a3 a4 a5 a6 a7 a8 a9 a10 a11 a12 a13 a14 a15 a16 a17 a18 a19 S) → W p l e ({ frames := 2, cells := 0, slots := 0, locals := 44 } : Room) s m ([.ref a0, .int p1, .int p2] : List Value).toArray below meth c H locs 0 0 Q (F0 m 22 ls [.int t0]) := by
    intro v1 v2 t0 S H locs ls hf hl hh
    unfold fX8_way_j22 at hf
    refine lv_istore_n (lv' := [(3, .int t0), (0, .ref a0), (1, .int v1), (2, .int v2)]) hx hb dX8_way_22 rfl hl (by decide) rfl (fun ls hl => ?_)
    refine lv_iload_n hx hb dX8_way_23 rfl (lv_at hl 0 rfl) ?_
    refine lv_if_eq (tgt := 35) hx hb dX8_way_24 (by decide) (fun c1 => ?_) (fun c1 => ?_)
    · replace hf := (if_pos c1).symm.trans hf
      refine lv_iload_n hx hb dX8_way_35 rfl (lv_at hl 3 rfl) ?_
      refine lv_if_ne (tgt := 46) hx hb dX8_way_36 (by decide) (fun c2 => ?_) (fun c2 => ?_)
      · replace hf := (if_neg c2).symm.trans hf
        refine lv_aload_n hx hb dX8_way_46 rfl (lv_at hl 1 rfl) ?_
        refine lv_iload_n hx hb dX8_way_47 rfl (lv_at hl 2 rfl) ?_
        obtain ⟨u3, hu3, hf⟩ := ob_bind hf
        refine zcallV (ci := 7) (q0 := 0) (As := [.int v1]) (rest := []) (wr := []) (ws' := cMd K a0 a1 a2 a3 a4 a5 a6 a7 a8 a9 a10 a11 a12 a13 a14 a15 a16 a17 a18 a19 u3.2) (ov := some (.int u3.1)) X hh hl (kX8_factors l K a0 a1 a2 a3 a4 a5 a6 a7 a8 a9 a10 a11 a12 a13 a14 a15 a16 a17 a18 a19 S v1 u3 hu3) (fun ht => cwV 1 ht gX8_way_X8_factors rfl rfl rfl ⟨rfl, hdX8_factors⟩ ⟨Nat.le_of_ble_eq_true rfl, Nat.le_of_ble_eq_true rfl⟩) [0, 1, 2, 3, 4, 5, 6, 7, 8, 9, 10, 11, 12, 13, 14, 15, 16, 17, 18, 19] [] [0, 1, 2, 3, 4, 5, 6, 7, 8, 9, 10, 11, 12, 13, 14, 15, 16, 17, 18, 19] rfl rfl rfl rfl (by decide) rfl rfl rfl rfl rfl rfl (Nat.le_of_ble_eq_true rfl) dX8_way_48 ⟨Nat.zero_le _, Nat.zero_le _⟩ (fun H locs hh => ?_)
        exact hr2 51 ls H locs u3.1 u3.2 hf dX8_way_51 hh
      · replace hf := (if_pos c2).symm.trans hf
        refine lv_iload_n hx hb dX8_way_39 rfl (lv_at hl 2 rfl) ?_
        obtain ⟨u4, hu4, hf⟩ := ob_bind hf
        refine zcallS (As := [.int v1]) (rest := []) (wr := cMd K a0 a1 a2 a3 a4 a5 a6 a7 a8 a9 a10 a11 a12 a13 a14 a15 a16 a17 a18 a19 S) (ws' := cMd K a0 a1 a2 a3 a4 a5 a6 a7 a8 a9 a10 a11 a12 a13 a14 a15 a16 a17 a18 a19 S) (ov := some (.int u4)) X hh hl (kX8_halves l K v1 u4 hu4) (fun ht => va_cwS 1 ht gX8_way_X8_halves rfl rfl rfl hdX8_halves ⟨Nat.le_of_ble_eq_true rfl, Nat.le_of_ble_eq_true rfl⟩) [] [0, 1, 2, 3, 4, 5, 6, 7, 8, 9, 10, 11, 12, 13, 14, 15, 16, 17, 18, 19] [0, 1, 2, 3, 4, 5, 6, 7, 8, 9, 10, 11, 12, 13, 14, 15, 16, 17, 18, 19] rfl rfl rfl rfl (by decide) rfl rfl rfl rfl (Nat.le_of_ble_eq_true rfl) dX8_way_40 ⟨Nat.zero_le _, Nat.zero_le _⟩ (fun H locs hh => ?_)
        refine lv_goto (tgt := 51) hx hb dX8_way_43 (by decide) ?_
        exact hr2 51 ls H locs u4 S hf dX8_way_51 hh
    · replace hf := (if_neg c1).symm.trans hf
      refine lv_aload_n hx hb dX8_way_27 rfl (lv_at hl 1 rfl) ?_
      refine lv_iload_n hx hb dX8_way_28 rfl (lv_at hl 0 rfl) ?_
      obtain ⟨u5, hu5, hf⟩ := ob_bind hf
      refine zcallV (ci := 7) (q0 := 0) (As := [.int t0]) (rest := []) (wr := []) (ws' := cMd K a0 a1 a2 a3 a4 a5 a6 a7 a8 a9 a10 a11 a12 a13 a14 a15 a16 a17 a18 a19 u5.2) (ov := some (.int u5.1)) X hh hl (kX8_no l K a0 a1 a2 a3 a4 a5 a6 a7 a8 a9 a10 a11 a12 a13 a14 a15 a16 a17 a18 a19 S t0 u5 hu5) (fun ht => cwV 1 ht gX8_way_X8_no rfl rfl rfl ⟨rfl, hdX8_no⟩ ⟨Nat.le_of_ble_eq_true rfl, Nat.le_of_ble_eq_true rfl⟩) [0, 1, 2, 3, 4, 5, 6, 7, 8, 9, 10, 11, 12, 13, 14, 15, 16, 17, 18, 19] [] [0, 1, 2, 3, 4, 5, 6, 7, 8, 9, 10, 11, 12, 13, 14, 15, 16, 17, 18, 19] rfl rfl rfl rfl (by decide) rfl rfl rfl rfl rfl rfl (Nat.le_of_ble_eq_true rfl) dX8_way_29 ⟨Nat.zero_le _, Nat.zero_le _⟩ (fun H locs hh => ?_)
      refine lv_goto (tgt := 51) hx hb dX8_way_32 (by decide) ?_
      exact hr2 51 ls H locs u5.1 u5.2 hf dX8_way_51 hh
  unfold fX8_way at hf
  refine (fun (hmain : ∀ (H : Heap) (locs : List Loc), zW K A s H locs (cMd K a0 a1 a2 a3 a4 a5 a6 a7 a8 a9 a10 a11 a12 a13 a14 a15 a16 a17 a18 a19 S) → W p l e ({ frames := 2, cells := 0, slots := 0, locals := 44 } : Room) s m ([.ref a0, .int p1, .int p2] : List Value).toArray below meth c H locs 0 0 Q (F0 m 0 ls [])) => hmain s.heap [] hh) (fun H locs hh => ?_)
  refine lv_iload_n hx hb dX8_way_0 rfl (lv_at hl 2 rfl) ?_
  refine lv_iconst (v := (0 : Int32)) hx hb dX8_way_1 (by decide) ?_
  refine lv_iconst (v := (1 : Int32)) hx hb dX8_way_2 (by decide) ?_
  refine zcallS (As := [.int p2, .int (0 : Int32), .int (1 : Int32)]) (rest := []) (wr := cMd K a0 a1 a2 a3 a4 a5 a6 a7 a8 a9 a10 a11 a12 a13 a14 a15 a16 a17 a18 a19 S) (ws' := cMd K a0 a1 a2 a3 a4 a5 a6 a7 a8 a9 a10 a11 a12 a13 a14 a15 a16 a17 a18 a19 S) (ov := some (.int (fX8_isIn p2 (0 : Int32) (1 : Int32)))) X hh hl (kX8_isIn l K p2 (0 : Int32) (1 : Int32) (fX8_isIn p2 (0 : Int32) (1 : Int32)) rfl) (fun ht => va_cwS 3 ht gX8_way_X8_isIn rfl rfl rfl hdX8_isIn ⟨Nat.le_of_ble_eq_true rfl, Nat.le_of_ble_eq_true rfl⟩) [] [0, 1, 2, 3, 4, 5, 6, 7, 8, 9, 10, 11, 12, 13, 14, 15, 16, 17, 18, 19] [0, 1, 2, 3, 4, 5, 6, 7, 8, 9, 10, 11, 12, 13, 14, 15, 16, 17, 18, 19] rfl rfl rfl rfl (by decide) rfl rfl rfl rfl (Nat.le_of_ble_eq_true rfl) dX8_way_3 ⟨Nat.zero_le _, Nat.zero_le _⟩ (fun H locs hh => ?_)
  refine lv_if_ne (tgt := 14) hx hb dX8_way_6 (by decide) (fun c7 => ?_) (fun c7 => ?_)
  · replace hf := (if_neg c7).symm.trans hf
    refine lv_iload_n hx hb dX8_way_14 rfl (lv_at hl 1 rfl) ?_
    refine lv_iconst (v := (1 : Int32)) hx hb dX8_way_15 (by decide) ?_
    refine lv_sipush (v := (300 : Int32)) hx hb dX8_way_16 (by decide) ?_
    refine zcallS (As := [.int p1, .int (1 : Int32), .int (300 : Int32)]) (rest := []) (wr := cMd K a0 a1 a2 a3 a4 a5 a6 a7 a8 a9 a10 a11 a12 a13 a14 a15 a16 a17 a18 a19 S) (ws' := cMd K a0 a1 a2 a3 a4 a5 a6 a7 a8 a9 a10 a11 a12 a13 a14 a15 a16 a17 a18 a19 S) (ov := some (.int (fX8_bound p1 (1 : Int32) (300 : Int32)))) X hh hl (kX8_bound l K p1 (1 : Int32) (300 : Int32) (fX8_bound p1 (1 : Int32) (300 : Int32)) rfl) (fun ht => va_cwS 3 ht gX8_way_X8_bound rfl rfl rfl hdX8_bound ⟨Nat.le_of_ble_eq_true rfl, Nat.le_of_ble_eq_true rfl⟩) [] [0, 1, 2, 3, 4, 5, 6, 7, 8, 9, 10, 11, 12, 13, 14, 15, 16, 17, 18, 19] [0, 1, 2, 3, 4, 5, 6, 7, 8, 9, 10, 11, 12, 13, 14, 15, 16, 17, 18, 19] rfl rfl rfl rfl (by decide) rfl rfl rfl rfl (Nat.le_of_ble_eq_true rfl) dX8_way_19 ⟨Nat.zero_le _, Nat.zero_le _⟩ (fun H locs hh => ?_)
    exact hJ22 p1 p2 (fX8_bound p1 (1 : Int32) (300 : Int32)) S H locs ls hf (lv_sub hl [0, 1, 2] rfl) hh
  · replace hf := (if_pos c7).symm.trans hf
    refine lv_bipush (v := (-2 : Int32)) hx hb dX8_way_9 (by decide) ?_
    refine lv_goto (tgt := 22) hx hb dX8_way_11 (by decide) ?_
    exact hJ22 p1 p2 (-2 : Int32) S H locs ls hf (lv_sub hl [0, 1, 2] rfl) hh
theorem hdX8_both : yX8_both.cls ≠ "java/lang/invoke/MethodHandle" ∧ yX8_both.cls ≠ "java/lang/invoke/VarHandle" ∧ (parseMethodDescriptor yX8_both.desc).map (fun d => d.parameters.length) = some 2 := by decide +kernel
set_option maxHeartbeats 4000000 in
set_option maxRecDepth 100000 in
theorem kX8_both (l : Launch) (K : zK) (a0 a1 a2 a3 a4 a5 a6 a7 a8 a9 a10 a11 a12 a13 a14 a15 a16 a17 a18 a19 : Nat) (S : zMd) (p1 : Int32) (p2 : Int32) (R : Int32 × zMd) (hf : fX8_both S p1 p2 = some R) : zC l yX8_both wsX8_both ({ frames := 5, cells := 0, slots := 0, locals := 117 } : Room) K [.ref a0, .int p1, .int p2] (cMd K a0 a1 a2 a3 a4 a5 a6 a7 a8 a9 a10 a11 a12 a13 a14 a15 a16 a17 a18 a19 S) (some (.int R.1)) (cMd K a0 a1 a2 a3 a4 a5 a6 a7 a8 a9 a10 a11 a12 a13 a14 a15 a16 a17 a18 a19 R.2) := by
  refine zC_i R.1 (cc := cX8_both) (maxL := 4) (by decide +kernel) rfl (Nat.le_of_ble_eq_true rfl) rfl rfl ?_
  intro p e s m below meth c Q A X hret ls hl hh
  have X : zX p m c cX8_both 4 s ([.ref a0, .int p1, .int p2] : List Value).toArray wsX8_both RX8 K A := X
  have hx := X.1.1
  have hb := X.1.2.1
  have hr2 : ∀ (pc : Nat) (ls : Array Slot) (H : Heap) (locs : List Loc) (v : Int32) (S : zMd), some (v, S) = some R → decode cX8_both pc = .ok (.ireturn, 1) → zW K A s H locs (cMd K a0 a1 a2 a3 a4 a5 a6 a7 a8 a9 a10 a11 a12 a13 a14 a15 a16 a17 a18 a19 S) → W p l e ({ frames := 5, cells := 0, slots := 0, locals := 117 } : Room) s m ([.ref a0, .int p1, .int p2] : List Value).toArray below meth c H locs 0 0 Q (F0 m pc ls [.int v]) := by
    intro pc ls H locs v S h hd hh
    cases h; exact hret pc ls H locs _ rfl hd hh
  have hl : lv_has ls 4 [(0, .ref a0), (1, .int p1), (2, .int p2)] := hl
  have hJ33 : ∀ (v1 : Int32) (v2 : Int32) (t0 : Int32) (S : zMd), ∀ (H : Heap) (locs : List Loc) (ls : Array Slot), fX8_both_j33 v1 v2 t0 S = some R → lv_has ls 4 [(0, .ref a0), (1, .int v1), (2, .int v2)] → zW K A s H locs (cMd K a0 a1 a2 a3 a4 a5 a6 a7 a8 a9 a10 a11 a12 a13 a14 a15 a16 a17 a18 a19 S) → W p l e ({ frames := 5, cells := 0, slots := 0, locals := 117 } : Room) s m ([.ref a0, .int p1, .int p2] : List Value).toArray below meth c H locs 0 0 Q (F0 m 33 ls [.int t0]) := by
    intro v1 v2 t0 S H locs ls hf hl hh
    unfold fX8_both_j33 at hf
    refine lv_istore_n (lv' := [(3, .int t0), (0, .ref a0), (1, .int v1), (2, .int v2)]) hx hb dX8_both_33 rfl hl (by decide) rfl (fun ls hl => ?_)
    refine lv_iload_n hx hb dX8_both_34 rfl (lv_at hl 0 rfl) ?_
    refine lv_if_eq (tgt := 46) hx hb dX8_both_35 (by decide) (fun c1 => ?_) (fun c1 => ?_)
    · replace hf := (if_pos c1).symm.trans hf
      refine lv_iload_n hx hb dX8_both_46 rfl (lv_at hl 2 rfl) ?_
      refine lv_iload_n hx hb dX8_both_47 rfl (lv_at hl 3 rfl) ?_
      refine lv_icmp_ge (tgt := 60) hx hb dX8_both_48 (by decide) (fun c2 => ?_) (fun c2 => ?_)
      · replace hf := (if_pos c2).symm.trans hf
        refine lv_aload_n hx hb dX8_both_60 rfl (lv_at hl 1 rfl) ?_
        refine lv_iload_n hx hb dX8_both_61 rfl (lv_at hl 3 rfl) ?_
        refine lv_iload_n hx hb dX8_both_62 rfl (lv_at hl 2 rfl) ?_
        obtain ⟨u3, hu3, hf⟩ := ob_bind hf
        refine zcallV (ci := 7) (q0 := 0) (As := [.int v2, .int v1]) (rest := []) (wr := []) (ws' := cMd K a0 a1 a2 a3 a4 a5 a6 a7 a8 a9 a10 a11 a12 a13 a14 a15 a16 a17 a18 a19 u3.2) (ov := some (.int u3.1)) X hh hl (kX8_shortest l K a0 a1 a2 a3 a4 a5 a6 a7 a8 a9 a10 a11 a12 a13 a14 a15 a16 a17 a18 a19 S v2 v1 u3 hu3) (fun ht => cwV 2 ht gX8_both_X8_shortest rfl rfl rfl ⟨rfl, hdX8_shortest⟩ ⟨Nat.le_of_ble_eq_true rfl, Nat.le_of_ble_eq_true rfl⟩) [0, 1, 2, 3, 4, 5, 6, 7, 8, 9, 10, 11, 12, 13, 14, 15, 16, 17, 18, 19] [] [0, 1, 2, 3, 4, 5, 6, 7, 8, 9, 10, 11, 12, 13, 14, 15, 16, 17, 18, 19] rfl rfl rfl rfl (by decide) rfl rfl rfl rfl rfl rfl (Nat.le_of_ble_eq_true rfl) dX8_both_63 ⟨Nat.zero_le _, Nat.zero_le _⟩ (fun H locs hh => ?_)
        exact hr2 66 ls H locs u3.1 u3.2 hf dX8_both_66 hh
      · replace hf := (if_neg c2).symm.trans hf
        refine lv_aload_n hx hb dX8_both_51 rfl (lv_at hl 1 rfl) ?_
        refine lv_iload_n hx hb dX8_both_52 rfl (lv_at hl 2 rfl) ?_
        refine lv_iload_n hx hb dX8_both_53 rfl (lv_at hl 3 rfl) ?_
        obtain ⟨u4, hu4, hf⟩ := ob_bind hf
        refine zcallV (ci := 7) (q0 := 0) (As := [.int v1, .int v2]) (rest := []) (wr := []) (ws' := cMd K a0 a1 a2 a3 a4 a5 a6 a7 a8 a9 a10 a11 a12 a13 a14 a15 a16 a17 a18 a19 u4.2) (ov := some (.int u4.1)) X hh hl (kX8_shortest l K a0 a1 a2 a3 a4 a5 a6 a7 a8 a9 a10 a11 a12 a13 a14 a15 a16 a17 a18 a19 S v1 v2 u4 hu4) (fun ht => cwV 2 ht gX8_both_X8_shortest rfl rfl rfl ⟨rfl, hdX8_shortest⟩ ⟨Nat.le_of_ble_eq_true rfl, Nat.le_of_ble_eq_true rfl⟩) [0, 1, 2, 3, 4, 5, 6, 7, 8, 9, 10, 11, 12, 13, 14, 15, 16, 17, 18, 19] [] [0, 1, 2, 3, 4, 5, 6, 7, 8, 9, 10, 11, 12, 13, 14, 15, 16, 17, 18, 19] rfl rfl rfl rfl (by decide) rfl rfl rfl rfl rfl rfl (Nat.le_of_ble_eq_true rfl) dX8_both_54 ⟨Nat.zero_le _, Nat.zero_le _⟩ (fun H locs hh => ?_)
        refine lv_goto (tgt := 66) hx hb dX8_both_57 (by decide) ?_
        exact hr2 66 ls H locs u4.1 u4.2 hf dX8_both_66 hh
    · replace hf := (if_neg c1).symm.trans hf
      refine lv_aload_n hx hb dX8_both_38 rfl (lv_at hl 1 rfl) ?_
      refine lv_iload_n hx hb dX8_both_39 rfl (lv_at hl 0 rfl) ?_
      obtain ⟨u5, hu5, hf⟩ := ob_bind hf
      refine zcallV (ci := 7) (q0 := 0) (As := [.int t0]) (rest := []) (wr := []) (ws' := cMd K a0 a1 a2 a3 a4 a5 a6 a7 a8 a9 a10 a11 a12 a13 a14 a15 a16 a17 a18 a19 u5.2) (ov := some (.int u5.1)) X hh hl (kX8_no l K a0 a1 a2 a3 a4 a5 a6 a7 a8 a9 a10 a11 a12 a13 a14 a15 a16 a17 a18 a19 S t0 u5 hu5) (fun ht => cwV 1 ht gX8_both_X8_no rfl rfl rfl ⟨rfl, hdX8_no⟩ ⟨Nat.le_of_ble_eq_true rfl, Nat.le_of_ble_eq_true rfl⟩) [0, 1, 2, 3, 4, 5, 6, 7, 8, 9, 10, 11, 12, 13, 14, 15, 16, 17, 18, 19] [] [0, 1, 2, 3, 4, 5, 6, 7, 8, 9, 10, 11, 12, 13, 14, 15, 16, 17, 18, 19] rfl rfl rfl rfl (by decide) rfl rfl rfl rfl rfl rfl (Nat.le_of_ble_eq_true rfl) dX8_both_40 ⟨Nat.zero_le _, Nat.zero_le _⟩ (fun H locs hh => ?_)
      refine lv_goto (tgt := 66) hx hb dX8_both_43 (by decide) ?_
      exact hr2 66 ls H locs u5.1 u5.2 hf dX8_both_66 hh
  have hJ27 : ∀ (v1 : Int32) (v2 : Int32) (S : zMd), ∀ (H : Heap) (locs : List Loc) (ls : Array Slot), fX8_both_j27 v1 v2 S = some R → lv_has ls 4 [(0, .ref a0), (1, .int v1), (2, .int v2)] → zW K A s H locs (cMd K a0 a1 a2 a3 a4 a5 a6 a7 a8 a9 a10 a11 a12 a13 a14 a15 a16 a17 a18 a19 S) → W p l e ({ frames := 5, cells := 0, slots := 0, locals := 117 } : Room) s m ([.ref a0, .int p1, .int p2] : List Value).toArray below meth c H locs 0 0 Q (F0 m 27 ls []) := by
    intro v1 v2 S H locs ls hf hl hh
    unfold fX8_both_j27 at hf
    refine lv_bipush (v := (-6 : Int32)) hx hb dX8_both_27 (by decide) ?_
    refine lv_goto (tgt := 33) hx hb dX8_both_29 (by decide) ?_
    exact hJ33 v1 v2 (-6 : Int32) S H locs ls hf (lv_sub hl [0, 1, 2] rfl) hh
  have hJ10 : ∀ (v1 : Int32) (v2 : Int32) (S : zMd), ∀ (H : Heap) (locs : List Loc) (ls : Array Slot), fX8_both_j10 v1 v2 S = some R → lv_has ls 4 [(0, .ref a0), (1, .int v1), (2, .int v2)] → zW K A s H locs (cMd K a0 a1 a2 a3 a4 a5 a6 a7 a8 a9 a10 a11 a12 a13 a14 a15 a16 a17 a18 a19 S) → W p l e ({ frames := 5, cells := 0, slots := 0, locals := 117 } : Room) s m ([.ref a0, .int p1, .int p2] : List Value).toArray below meth c H locs 0 0 Q (F0 m 10 ls []) := by
    intro v1 v2 S H locs ls hf hl hh
    unfold fX8_both_j10 at hf
    refine lv_bipush (v := (-4 : Int32)) hx hb dX8_both_10 (by decide) ?_
    refine lv_goto (tgt := 33) hx hb dX8_both_12 (by decide) ?_
    exact hJ33 v1 v2 (-4 : Int32) S H locs ls hf (lv_sub hl [0, 1, 2] rfl) hh
  unfold fX8_both at hf
  refine (fun (hmain : ∀ (H : Heap) (locs : List Loc), zW K A s H locs (cMd K a0 a1 a2 a3 a4 a5 a6 a7 a8 a9 a10 a11 a12 a13 a14 a15 a16 a17 a18 a19 S) → W p l e ({ frames := 5, cells := 0, slots := 0, locals := 117 } : Room) s m ([.ref a0, .int p1, .int p2] : List Value).toArray below meth c H locs 0 0 Q (F0 m 0 ls [])) => hmain s.heap [] hh) (fun H locs hh => ?_)
  refine lv_iload_n hx hb dX8_both_0 rfl (lv_at hl 1 rfl) ?_
  refine lv_iconst (v := (1 : Int32)) hx hb dX8_both_1 (by decide) ?_
  refine lv_icmp_lt (tgt := 10) hx hb dX8_both_2 (by decide) (fun c6 => ?_) (fun c6 => ?_)
  · replace hf := (if_pos c6).symm.trans hf
    exact hJ10 p1 p2 S H locs ls hf (lv_sub hl [0, 1, 2] rfl) hh
  · replace hf := (if_neg c6).symm.trans hf
    refine lv_iload_n hx hb dX8_both_5 rfl (lv_at hl 2 rfl) ?_
    refine lv_iconst (v := (1 : Int32)) hx hb dX8_both_6 (by decide) ?_
    refine lv_icmp_ge (tgt := 15) hx hb dX8_both_7 (by decide) (fun c7 => ?_) (fun c7 => ?_)
    · replace hf := (if_pos c7).symm.trans hf
      refine lv_iload_n hx hb dX8_both_15 rfl (lv_at hl 1 rfl) ?_
      refine lv_bipush (v := (30 : Int32)) hx hb dX8_both_16 (by decide) ?_
      refine lv_icmp_gt (tgt := 27) hx hb dX8_both_18 (by decide) (fun c8 => ?_) (fun c8 => ?_)
      · replace hf := (if_pos c8).symm.trans hf
        exact hJ27 p1 p2 S H locs ls hf (lv_sub hl [0, 1, 2] rfl) hh
      · replace hf := (if_neg c8).symm.trans hf
        refine lv_iload_n hx hb dX8_both_21 rfl (lv_at hl 2 rfl) ?_
        refine lv_bipush (v := (30 : Int32)) hx hb dX8_both_22 (by decide) ?_
        refine lv_icmp_le (tgt := 32) hx hb dX8_both_24 (by decide) (fun c9 => ?_) (fun c9 => ?_)
        · replace hf := (if_pos c9).symm.trans hf
          refine lv_iconst (v := (0 : Int32)) hx hb dX8_both_32 (by decide) ?_
          exact hJ33 p1 p2 (0 : Int32) S H locs ls hf (lv_sub hl [0, 1, 2] rfl) hh
        · replace hf := (if_neg c9).symm.trans hf
          exact hJ27 p1 p2 S H locs ls hf (lv_sub hl [0, 1, 2] rfl) hh
    · replace hf := (if_neg c7).symm.trans hf
      exact hJ10 p1 p2 S H locs ls hf (lv_sub hl [0, 1, 2] rfl) hh
theorem hdX8_far : yX8_far.cls ≠ "java/lang/invoke/MethodHandle" ∧ yX8_far.cls ≠ "java/lang/invoke/VarHandle" ∧ (parseMethodDescriptor yX8_far.desc).map (fun d => d.parameters.length) = some 1 := by decide +kernel
set_option maxHeartbeats 4000000 in
set_option maxRecDepth 100000 in
theorem kX8_far (l : Launch) (K : zK) (a0 a1 a2 a3 a4 a5 a6 a7 a8 a9 a10 a11 a12 a13 a14 a15 a16 a17 a18 a19 : Nat) (S : zMd) (p1 : Int32) (R : Int32 × zMd) (hf : fX8_far S p1 = some R) : zC l yX8_far wsX8_far ({ frames := 1, cells := 0, slots := 0, locals := 22 } : Room) K [.ref a0, .int p1] (cMd K a0 a1 a2 a3 a4 a5 a6 a7 a8 a9 a10 a11 a12 a13 a14 a15 a16 a17 a18 a19 S) (some (.int R.1)) (cMd K a0 a1 a2 a3 a4 a5 a6 a7 a8 a9 a10 a11 a12 a13 a14 a15 a16 a17 a18 a19 R.2) := by
  refine zC_i R.1 (cc := cX8_far) (maxL := 3) (by decide +kernel) rfl (Nat.le_of_ble_eq_true rfl) rfl rfl ?_
  intro p e s m below meth c Q A X hret ls hl hh
  have X : zX p m c cX8_far 3 s ([.ref a0, .int p1] : List Value).toArray wsX8_far RX8 K A := X
  have hx := X.1.1
  have hb := X.1.2.1
  have hr2 : ∀ (pc : Nat) (ls : Array Slot) (H : Heap) (locs : List Loc) (v : Int32) (S : zMd), some (v, S) = some R → decode cX8_far pc = .ok (.ireturn, 1) → zW K A s H locs (cMd K a0 a1 a2 a3 a4 a5 a6 a7 a8 a9 a10 a11 a12 a13 a14 a15 a16 a17 a18 a19 S) → W p l e ({ frames := 1, cells := 0, slots := 0, locals := 22 } : Room) s m ([.ref a0, .int p1] : List Value).toArray below meth c H locs 0 0 Q (F0 m pc ls [.int v]) := by
    intro pc ls H locs v S h hd hh
    cases h; exact hret pc ls H locs _ rfl hd hh
  have hl : lv_has ls 3 [(0, .ref a0), (1, .int p1)] := hl
  unfold fX8_far at hf
  refine (fun (hmain : ∀ (H : Heap) (locs : List Loc), zW K A s H locs (cMd K a0 a1 a2 a3 a4 a5 a6 a7 a8 a9 a10 a11 a12 a13 a14 a15 a16 a17 a18 a19 S) → W p l e ({ frames := 1, cells := 0, slots := 0, locals := 22 } : Room) s m ([.ref a0, .int p1] : List Value).toArray below meth c H locs 0 0 Q (F0 m 0 ls [])) => hmain s.heap [] hh) (fun H locs hh => ?_)
  refine lv_iload_n hx hb dX8_far_0 rfl (lv_at hl 1 rfl) ?_
  refine lv_iconst (v := (1 : Int32)) hx hb dX8_far_1 (by decide) ?_
  refine lv_bipush (v := (12 : Int32)) hx hb dX8_far_2 (by decide) ?_
  refine zcallS (As := [.int p1, .int (1 : Int32), .int (12 : Int32)]) (rest := []) (wr := cMd K a0 a1 a2 a3 a4 a5 a6 a7 a8 a9 a10 a11 a12 a13 a14 a15 a16 a17 a18 a19 S) (ws' := cMd K a0 a1 a2 a3 a4 a5 a6 a7 a8 a9 a10 a11 a12 a13 a14 a15 a16 a17 a18 a19 S) (ov := some (.int (fX8_bound p1 (1 : Int32) (12 : Int32)))) X hh hl (kX8_bound l K p1 (1 : Int32) (12 : Int32) (fX8_bound p1 (1 : Int32) (12 : Int32)) rfl) (fun ht => va_cwS 3 ht gX8_far_X8_bound rfl rfl rfl hdX8_bound ⟨Nat.le_of_ble_eq_true rfl, Nat.le_of_ble_eq_true rfl⟩) [] [0, 1, 2, 3, 4, 5, 6, 7, 8, 9, 10, 11, 12, 13, 14, 15, 16, 17, 18, 19] [0, 1, 2, 3, 4, 5, 6, 7, 8, 9, 10, 11, 12, 13, 14, 15, 16, 17, 18, 19] rfl rfl rfl rfl (by decide) rfl rfl rfl rfl (Nat.le_of_ble_eq_true rfl) dX8_far_4 ⟨Nat.zero_le _, Nat.zero_le _⟩ (fun H locs hh => ?_)
  refine lv_istore_n (lv' := [(2, .int (fX8_bound p1 (1 : Int32) (12 : Int32))), (0, .ref a0), (1, .int p1)]) hx hb dX8_far_7 rfl hl (by decide) rfl (fun ls hl => ?_)
  refine lv_iload_n hx hb dX8_far_8 rfl (lv_at hl 0 rfl) ?_
  refine lv_if_eq (tgt := 20) hx hb dX8_far_9 (by decide) (fun c2 => ?_) (fun c2 => ?_)
  · replace hf := (if_pos c2).symm.trans hf
    refine lv_iconst (v := (1 : Int32)) hx hb dX8_far_20 (by decide) ?_
    refine lv_iload_n hx hb dX8_far_21 rfl (lv_at hl 2 rfl) ?_
    refine lv_iconst (v := (1 : Int32)) hx hb dX8_far_22 (by decide) ?_
    refine lv_isub hx hb dX8_far_23 ?_
    refine lv_ishl hx hb dX8_far_24 ?_
    exact hr2 25 ls H locs ((1 : Int32) <<< ((p1 - (1 : Int32)) &&& 31)) S hf dX8_far_25 hh
  · replace hf := (if_neg c2).symm.trans hf
    refine lv_aload_n hx hb dX8_far_12 rfl (lv_at hl 1 rfl) ?_
    refine lv_iload_n hx hb dX8_far_13 rfl (lv_at hl 0 rfl) ?_
    obtain ⟨u3, hu3, hf⟩ := ob_bind hf
    refine zcallV (ci := 7) (q0 := 0) (As := [.int (fX8_bound p1 (1 : Int32) (12 : Int32))]) (rest := []) (wr := []) (ws' := cMd K a0 a1 a2 a3 a4 a5 a6 a7 a8 a9 a10 a11 a12 a13 a14 a15 a16 a17 a18 a19 u3.2) (ov := some (.int u3.1)) X hh hl (kX8_no l K a0 a1 a2 a3 a4 a5 a6 a7 a8 a9 a10 a11 a12 a13 a14 a15 a16 a17 a18 a19 S (fX8_bound p1 (1 : Int32) (12 : Int32)) u3 hu3) (fun ht => cwV 1 ht gX8_far_X8_no rfl rfl rfl ⟨rfl, hdX8_no⟩ ⟨Nat.le_of_ble_eq_true rfl, Nat.le_of_ble_eq_true rfl⟩) [0, 1, 2, 3, 4, 5, 6, 7, 8, 9, 10, 11, 12, 13, 14, 15, 16, 17, 18, 19] [] [0, 1, 2, 3, 4, 5, 6, 7, 8, 9, 10, 11, 12, 13, 14, 15, 16, 17, 18, 19] rfl rfl rfl rfl (by decide) rfl rfl rfl rfl rfl rfl (Nat.le_of_ble_eq_true rfl) dX8_far_14 ⟨Nat.zero_le _, Nat.zero_le _⟩ (fun H locs hh => ?_)
    refine lv_goto (tgt := 25) hx hb dX8_far_17 (by decide) ?_
    exact hr2 25 ls H locs u3.1 u3.2 hf dX8_far_25 hh
theorem inX8_isWithin_X8 : ∀ w ∈ wsX80, w ∈ wsX8_isWithin := by decide +kernel
theorem mmX8_isWithin_0 : Cond.fieldLink RX8 222 "SumOfTwoThatStandModel" "wanted" "I" ∈ wsX8_isWithin := by decide +kernel
theorem mmX8_isWithin_1 : Cond.fieldLink RX8 213 "SumOfTwoThatStandModel" "goal" "I" ∈ wsX8_isWithin := by decide +kernel
theorem hdX8_isWithin : yX8_isWithin.cls ≠ "java/lang/invoke/MethodHandle" ∧ yX8_isWithin.cls ≠ "java/lang/invoke/VarHandle" ∧ (parseMethodDescriptor yX8_isWithin.desc).map (fun d => d.parameters.length) = some 2 := by decide +kernel
set_option maxHeartbeats 4000000 in
set_option maxRecDepth 100000 in
theorem kX8_isWithin (l : Launch) (K : zK) (a0 a1 a2 a3 a4 a5 a6 a7 a8 a9 a10 a11 a12 a13 a14 a15 a16 a17 a18 a19 : Nat) (S : zMd) (p1 : Int32) (p2 : Int32) (R : Int32 × zMd) (hf : fX8_isWithin S p1 p2 = some R) : zC l yX8_isWithin wsX8_isWithin ({ frames := 4, cells := 0, slots := 0, locals := 94 } : Room) K [.ref a0, .int p1, .int p2] (cMd K a0 a1 a2 a3 a4 a5 a6 a7 a8 a9 a10 a11 a12 a13 a14 a15 a16 a17 a18 a19 S) (some (.int R.1)) (cMd K a0 a1 a2 a3 a4 a5 a6 a7 a8 a9 a10 a11 a12 a13 a14 a15 a16 a17 a18 a19 R.2) := by
  refine zC_z .boolean R.1 (cc := cX8_isWithin) (maxL := 4) (by decide +kernel) rfl (Nat.le_of_ble_eq_true rfl) rfl rfl ?_
  intro p e s m below meth c Q A X hret ls hl hh
  have X : zX p m c cX8_isWithin 4 s ([.ref a0, .int p1, .int p2] : List Value).toArray wsX8_isWithin RX8 K A := X
  have hx := X.1.1
  have hb := X.1.2.1
  have hr2 : ∀ (pc : Nat) (ls : Array Slot) (H : Heap) (locs : List Loc) (v : Int32) (S : zMd), some (v, S) = some R → narrow .boolean (.int v) = .int v → decode cX8_isWithin pc = .ok (.ireturn, 1) → zW K A s H locs (cMd K a0 a1 a2 a3 a4 a5 a6 a7 a8 a9 a10 a11 a12 a13 a14 a15 a16 a17 a18 a19 S) → W p l e ({ frames := 4, cells := 0, slots := 0, locals := 94 } : Room) s m ([.ref a0, .int p1, .int p2] : List Value).toArray below meth c H locs 0 0 Q (F0 m pc ls [.int v]) := by
    intro pc ls H locs v S h hn hd hh
    cases h; exact hret pc ls H locs _ rfl hn hd hh
  have hl : lv_has ls 4 [(0, .ref a0), (1, .int p1), (2, .int p2)] := hl
  have hL12 : ∀ (v2 : Int32), ∀ (n : Nat) (v3 : Int32) (S : zMd), ∀ (H : Heap) (locs : List Loc) (ls : Array Slot), fX8_isWithin_l12 v2 n v3 S = some R → lv_has ls 4 [(0, .ref a0), (2, .int v2), (3, .int v3)] → zW K A s H locs (cMd K a0 a1 a2 a3 a4 a5 a6 a7 a8 a9 a10 a11 a12 a13 a14 a15 a16 a17 a18 a19 S) → W p l e ({ frames := 4, cells := 0, slots := 0, locals := 94 } : Room) s m ([.ref a0, .int p1, .int p2] : List Value).toArray below meth c H locs 0 0 Q (F0 m 12 ls []) := by
    intro v2 n
    induction n with
    | zero =>
      intro v3 S H locs ls hf hl hh
      rw [fX8_isWithin_l12] at hf; cases hf
    | succ n ih =>
      intro v3 S H locs ls hf hl hh
      rw [fX8_isWithin_l12] at hf
      refine lv_iload_n hx hb dX8_isWithin_12 rfl (lv_at hl 2 rfl) ?_
      refine lv_iload_n hx hb dX8_isWithin_13 rfl (lv_at hl 1 rfl) ?_
      refine lv_icmp_gt (tgt := 33) hx hb dX8_isWithin_14 (by decide) (fun c1 => ?_) (fun c1 => ?_)
      · replace hf := (if_pos c1).symm.trans hf
        refine lv_iconst (v := (0 : Int32)) hx hb dX8_isWithin_33 (by decide) ?_
        exact hr2 34 ls H locs (0 : Int32) S hf rfl dX8_isWithin_34 hh
      · replace hf := (if_neg c1).symm.trans hf
        refine lv_aload_n hx hb dX8_isWithin_17 rfl (lv_at hl 0 rfl) ?_
        refine lv_iload_n hx hb dX8_isWithin_18 rfl (lv_at hl 2 rfl) ?_
        obtain ⟨u2, hu2, hf⟩ := ob_bind hf
        refine zcallV (ci := 7) (q0 := 0) (As := [.int v3]) (rest := []) (wr := []) (ws' := cMd K a0 a1 a2 a3 a4 a5 a6 a7 a8 a9 a10 a11 a12 a13 a14 a15 a16 a17 a18 a19 u2.2) (ov := some (.int u2.1)) X hh hl (kX8_findsChain l K a0 a1 a2 a3 a4 a5 a6 a7 a8 a9 a10 a11 a12 a13 a14 a15 a16 a17 a18 a19 S v3 u2 hu2) (fun ht => cwV 1 ht gX8_isWithin_X8_findsChain rfl rfl rfl ⟨rfl, hdX8_findsChain⟩ ⟨Nat.le_of_ble_eq_true rfl, Nat.le_of_ble_eq_true rfl⟩) [0, 1, 2, 3, 4, 5, 6, 7, 8, 9, 10, 11, 12, 13, 14, 15, 16, 17, 18, 19] [] [0, 1, 2, 3, 4, 5, 6, 7, 8, 9, 10, 11, 12, 13, 14, 15, 16, 17, 18, 19] rfl rfl rfl rfl (by decide) rfl rfl rfl rfl rfl rfl (Nat.le_of_ble_eq_true rfl) dX8_isWithin_19 ⟨Nat.zero_le _, Nat.zero_le _⟩ (fun H locs hh => ?_)
        refine lv_if_eq (tgt := 27) hx hb dX8_isWithin_22 (by decide) (fun c3 => ?_) (fun c3 => ?_)
        · replace hf := (if_pos c3).symm.trans hf
          refine lv_iinc (v := (v3 + (1 : Int32))) (lv' := [(3, .int (v3 + (1 : Int32))), (0, .ref a0), (2, .int v2)]) hx hb dX8_isWithin_27 hl (k := 2) rfl rfl (by decide) rfl (fun ls hl => ?_)
          refine lv_goto (tgt := 12) hx hb dX8_isWithin_30 (by decide) ?_
          exact ih (v3 + (1 : Int32)) u2.2 H locs ls hf (lv_sub hl [1, 2, 0] rfl) hh
        · replace hf := (if_neg c3).symm.trans hf
          refine lv_iconst (v := (1 : Int32)) hx hb dX8_isWithin_25 (by decide) ?_
          exact hr2 26 ls H locs (1 : Int32) u2.2 hf rfl dX8_isWithin_26 hh
  unfold fX8_isWithin at hf
  refine (fun (hmain : ∀ (H : Heap) (locs : List Loc), zW K A s H locs (cMd K a0 a1 a2 a3 a4 a5 a6 a7 a8 a9 a10 a11 a12 a13 a14 a15 a16 a17 a18 a19 S) → W p l e ({ frames := 4, cells := 0, slots := 0, locals := 94 } : Room) s m ([.ref a0, .int p1, .int p2] : List Value).toArray below meth c H locs 0 0 Q (F0 m 0 ls [])) => hmain s.heap [] hh) (fun H locs hh => ?_)
  refine lv_aload_n hx hb dX8_isWithin_0 rfl (lv_at hl 0 rfl) ?_
  refine lv_iload_n hx hb dX8_isWithin_1 rfl (lv_at hl 1 rfl) ?_
  refine zput (v := .int p1) (ty := .int) (ref := "SumOfTwoThatStandModel") (C := RX8) (T := TX8) (N := 33) (index := 222) X hh inX8_isWithin_X8 tyX8 tyX8_ok nmX8 0 rfl rfl 25 (by decide) mmX8_isWithin_0 rfl rfl (by decide +kernel) rfl rfl (Nat.le_of_ble_eq_true rfl) dX8_isWithin_2 (fun H locs hh => ?_)
  have hh := hh.to (sMd_wanted K a0 a1 a2 a3 a4 a5 a6 a7 a8 a9 a10 a11 a12 a13 a14 a15 a16 a17 a18 a19 S p1)
  refine lv_aload_n hx hb dX8_isWithin_5 rfl (lv_at hl 0 rfl) ?_
  refine lv_iload_n hx hb dX8_isWithin_6 rfl (lv_at hl 1 rfl) ?_
  refine zput (v := .int p1) (ty := .int) (ref := "SumOfTwoThatStandModel") (C := RX8) (T := TX8) (N := 33) (index := 213) X hh inX8_isWithin_X8 tyX8 tyX8_ok nmX8 0 rfl rfl 26 (by decide) mmX8_isWithin_1 rfl rfl (by decide +kernel) rfl rfl (Nat.le_of_ble_eq_true rfl) dX8_isWithin_7 (fun H locs hh => ?_)
  have hh := hh.to (sMd_goal K a0 a1 a2 a3 a4 a5 a6 a7 a8 a9 a10 a11 a12 a13 a14 a15 a16 a17 a18 a19 (md_set_wanted S p1) p1)
  refine lv_iconst (v := (1 : Int32)) hx hb dX8_isWithin_10 (by decide) ?_
  refine lv_istore_n (lv' := [(3, .int (1 : Int32)), (0, .ref a0), (1, .int p1), (2, .int p2)]) hx hb dX8_isWithin_11 rfl hl (by decide) rfl (fun ls hl => ?_)
  exact hL12 p2 FU (1 : Int32) (md_set_goal (md_set_wanted S p1) p1) H locs ls hf (lv_sub hl [1, 3, 0] rfl) hh
theorem hdX8_can : yX8_can.cls ≠ "java/lang/invoke/MethodHandle" ∧ yX8_can.cls ≠ "java/lang/invoke/VarHandle" ∧ (parseMethodDescriptor yX8_can.desc).map (fun d => d.parameters.length) = some 2 := by decide +kernel
set_option maxHeartbeats 4000000 in
set_option maxRecDepth 100000 in
theorem kX8_can (l : Launch) (K : zK) (a0 a1 a2 a3 a4 a5 a6 a7 a8 a9 a10 a11 a12 a13 a14 a15 a16 a17 a18 a19 : Nat) (S : zMd) (p1 : Int32) (p2 : Int32) (R : Int32 × zMd) (hf : fX8_can S p1 p2 = some R) : zC l yX8_can wsX8_can ({ frames := 5, cells := 0, slots := 0, locals := 117 } : Room) K [.ref a0, .int p1, .int p2] (cMd K a0 a1 a2 a3 a4 a5 a6 a7 a8 a9 a10 a11 a12 a13 a14 a15 a16 a17 a18 a19 S) (some (.int R.1)) (cMd K a0 a1 a2 a3 a4 a5 a6 a7 a8 a9 a10 a11 a12 a13 a14 a15 a16 a17 a18 a19 R.2) := by
  refine zC_i R.1 (cc := cX8_can) (maxL := 8) (by decide +kernel) rfl (Nat.le_of_ble_eq_true rfl) rfl rfl ?_
  intro p e s m below meth c Q A X hret ls hl hh
  have X : zX p m c cX8_can 8 s ([.ref a0, .int p1, .int p2] : List Value).toArray wsX8_can RX8 K A := X
  have hx := X.1.1
  have hb := X.1.2.1
  have hr2 : ∀ (pc : Nat) (ls : Array Slot) (H : Heap) (locs : List Loc) (v : Int32) (S : zMd), some (v, S) = some R → decode cX8_can pc = .ok (.ireturn, 1) → zW K A s H locs (cMd K a0 a1 a2 a3 a4 a5 a6 a7 a8 a9 a10 a11 a12 a13 a14 a15 a16 a17 a18 a19 S) → W p l e ({ frames := 5, cells := 0, slots := 0, locals := 117 } : Room) s m ([.ref a0, .int p1, .int p2] : List Value).toArray below meth c H locs 0 0 Q (F0 m pc ls [.int v]) := by
    intro pc ls H locs v S h hd hh
    cases h; exact hret pc ls H locs _ rfl hd hh
  have hl : lv_has ls 8 [(0, .ref a0), (1, .int p1), (2, .int p2)] := hl
  have hJ69 : ∀ (v1 : Int32) (v2 : Int32) (v5 : Int32) (v6 : Int32) (v7 : Int32) (t0 : Int32) (t1 : Int32) (S : zMd) (k41 : (Int32) → (Int32) → (Int32) → (zMd) → Option (Int32 × zMd)), (∀ (v4 : Int32) (v5 : Int32) (v6 : Int32) (S : zMd) (H : Heap) (locs : List Loc) (ls : Array Slot), k41 v4 v5 v6 S = some R → lv_has ls 8 [(0, .ref a0), (1, .int v1), (2, .int v2), (4, .int v4), (5, .int v5), (6, .int v6)] → zW K A s H locs (cMd K a0 a1 a2 a3 a4 a5 a6 a7 a8 a9 a10 a11 a12 a13 a14 a15 a16 a17 a18 a19 S) → W p l e ({ frames := 5, cells := 0, slots := 0, locals := 117 } : Room) s m ([.ref a0, .int p1, .int p2] : List Value).toArray below meth c H locs 0 0 Q (F0 m 41 ls [])) → ∀ (H : Heap) (locs : List Loc) (ls : Array Slot), fX8_can_j69 v1 v2 v5 v6 v7 t0 t1 S k41 = some R → lv_has ls 8 [(0, .ref a0), (1, .int v1), (2, .int v2), (5, .int v5), (6, .int v6), (7, .int v7)] → zW K A s H locs (cMd K a0 a1 a2 a3 a4 a5 a6 a7 a8 a9 a10 a11 a12 a13 a14 a15 a16 a17 a18 a19 S) → W p l e ({ frames := 5, cells := 0, slots := 0, locals := 117 } : Room) s m ([.ref a0, .int p1, .int p2] : List Value).toArray below meth c H locs 0 0 Q (F0 m 69 ls [.int t1, .int t0]) := by
    intro v1 v2 v5 v6 v7 t0 t1 S k41 hk41 H locs ls hf hl hh
    unfold fX8_can_j69 at hf
    refine lv_iadd hx hb dX8_can_69 ?_
    refine lv_istore (lv' := [(4, .int (t0 + t1)), (0, .ref a0), (1, .int v1), (2, .int v2), (5, .int v5), (6, .int v6), (7, .int v7)]) hx hb dX8_can_70 hl (by decide) rfl (fun ls hl => ?_)
    refine lv_iload hx hb dX8_can_72 (lv_at hl 6 rfl) ?_
    refine lv_if_ne (tgt := 86) hx hb dX8_can_74 (by decide) (fun c1 => ?_) (fun c1 => ?_)
    · replace hf := (if_neg c1).symm.trans hf
      refine lv_iinc (v := (v6 + (1 : Int32))) (lv' := [(6, .int (v6 + (1 : Int32))), (4, .int (t0 + t1)), (0, .ref a0), (1, .int v1), (2, .int v2), (5, .int v5), (7, .int v7)]) hx hb dX8_can_86 hl (k := 5) rfl rfl (by decide) rfl (fun ls hl => ?_)
      refine lv_goto (tgt := 41) hx hb dX8_can_89 (by decide) ?_
      exact hk41 (t0 + t1) v5 (v6 + (1 : Int32)) S H locs ls hf (lv_sub hl [2, 3, 4, 1, 5, 0] rfl) hh
    · replace hf := (if_pos c1).symm.trans hf
      refine lv_iload hx hb dX8_can_77 (lv_at hl 4 rfl) ?_
      refine lv_if_ne (tgt := 86) hx hb dX8_can_79 (by decide) (fun c2 => ?_) (fun c2 => ?_)
      · replace hf := (if_neg c2).symm.trans hf
        refine lv_iinc (v := (v6 + (1 : Int32))) (lv' := [(6, .int (v6 + (1 : Int32))), (4, .int (t0 + t1)), (0, .ref a0), (1, .int v1), (2, .int v2), (5, .int v5), (7, .int v7)]) hx hb dX8_can_86 hl (k := 5) rfl rfl (by decide) rfl (fun ls hl => ?_)
        refine lv_goto (tgt := 41) hx hb dX8_can_89 (by decide) ?_
        exact hk41 (t0 + t1) v5 (v6 + (1 : Int32)) S H locs ls hf (lv_sub hl [2, 3, 4, 1, 5, 0] rfl) hh
      · replace hf := (if_pos c2).symm.trans hf
        refine lv_iload hx hb dX8_can_82 (lv_at hl 5 rfl) ?_
        refine lv_istore (lv' := [(5, .int v6), (4, .int (t0 + t1)), (0, .ref a0), (1, .int v1), (2, .int v2), (6, .int v6), (7, .int v7)]) hx hb dX8_can_84 hl (by decide) rfl (fun ls hl => ?_)
        refine lv_iinc (v := (v6 + (1 : Int32))) (lv' := [(6, .int (v6 + (1 : Int32))), (5, .int v6), (4, .int (t0 + t1)), (0, .ref a0), (1, .int v1), (2, .int v2), (7, .int v7)]) hx hb dX8_can_86 hl (k := 5) rfl rfl (by decide) rfl (fun ls hl => ?_)
        refine lv_goto (tgt := 41) hx hb dX8_can_89 (by decide) ?_
        exact hk41 (t0 + t1) v6 (v6 + (1 : Int32)) S H locs ls hf (lv_sub hl [3, 4, 5, 2, 1, 0] rfl) hh
  have hL41 : ∀ (v1 : Int32) (v2 : Int32), ∀ (n : Nat) (v4 : Int32) (v5 : Int32) (v6 : Int32) (S : zMd), ∀ (H : Heap) (locs : List Loc) (ls : Array Slot), fX8_can_l41 v1 v2 n v4 v5 v6 S = some R → lv_has ls 8 [(0, .ref a0), (1, .int v1), (2, .int v2), (4, .int v4), (5, .int v5), (6, .int v6)] → zW K A s H locs (cMd K a0 a1 a2 a3 a4 a5 a6 a7 a8 a9 a10 a11 a12 a13 a14 a15 a16 a17 a18 a19 S) → W p l e ({ frames := 5, cells := 0, slots := 0, locals := 117 } : Room) s m ([.ref a0, .int p1, .int p2] : List Value).toArray below meth c H locs 0 0 Q (F0 m 41 ls []) := by
    intro v1 v2 n
    induction n with
    | zero =>
      intro v4 v5 v6 S H locs ls hf hl hh
      rw [fX8_can_l41] at hf; cases hf
    | succ n ih =>
      intro v4 v5 v6 S H locs ls hf hl hh
      rw [fX8_can_l41] at hf
      refine lv_iload hx hb dX8_can_41 (lv_at hl 5 rfl) ?_
      refine lv_bipush (v := (65 : Int32)) hx hb dX8_can_43 (by decide) ?_
      refine lv_icmp_gt (tgt := 92) hx hb dX8_can_45 (by decide) (fun c3 => ?_) (fun c3 => ?_)
      · replace hf := (if_pos c3).symm.trans hf
        refine lv_iload_n hx hb dX8_can_92 rfl (lv_at hl 2 rfl) ?_
        refine lv_if_ne (tgt := 101) hx hb dX8_can_93 (by decide) (fun c4 => ?_) (fun c4 => ?_)
        · replace hf := (if_neg c4).symm.trans hf
          refine lv_iload hx hb dX8_can_101 (lv_at hl 4 rfl) ?_
          exact hr2 103 ls H locs v5 S hf dX8_can_103 hh
        · replace hf := (if_pos c4).symm.trans hf
          refine lv_iload hx hb dX8_can_96 (lv_at hl 3 rfl) ?_
          refine lv_goto (tgt := 103) hx hb dX8_can_98 (by decide) ?_
          exact hr2 103 ls H locs v4 S hf dX8_can_103 hh
      · replace hf := (if_neg c3).symm.trans hf
        refine lv_aload_n hx hb dX8_can_48 rfl (lv_at hl 0 rfl) ?_
        refine lv_iload hx hb dX8_can_49 (lv_at hl 5 rfl) ?_
        refine lv_iload_n hx hb dX8_can_51 rfl (lv_at hl 1 rfl) ?_
        obtain ⟨u5, hu5, hf⟩ := ob_bind hf
        refine zcallV (ci := 7) (q0 := 0) (As := [.int v6, .int v1]) (rest := []) (wr := []) (ws' := cMd K a0 a1 a2 a3 a4 a5 a6 a7 a8 a9 a10 a11 a12 a13 a14 a15 a16 a17 a18 a19 u5.2) (ov := some (.int u5.1)) X hh hl (kX8_isWithin l K a0 a1 a2 a3 a4 a5 a6 a7 a8 a9 a10 a11 a12 a13 a14 a15 a16 a17 a18 a19 S v6 v1 u5 hu5) (fun ht => cwV 2 ht gX8_can_X8_isWithin rfl rfl rfl ⟨rfl, hdX8_isWithin⟩ ⟨Nat.le_of_ble_eq_true rfl, Nat.le_of_ble_eq_true rfl⟩) [0, 1, 2, 3, 4, 5, 6, 7, 8, 9, 10, 11, 12, 13, 14, 15, 16, 17, 18, 19] [] [0, 1, 2, 3, 4, 5, 6, 7, 8, 9, 10, 11, 12, 13, 14, 15, 16, 17, 18, 19] rfl rfl rfl rfl (by decide) rfl rfl rfl rfl rfl rfl (Nat.le_of_ble_eq_true rfl) dX8_can_52 ⟨Nat.zero_le _, Nat.zero_le _⟩ (fun H locs hh => ?_)
        refine lv_istore (lv' := [(7, .int u5.1), (0, .ref a0), (1, .int v1), (2, .int v2), (4, .int v4), (5, .int v5), (6, .int v6)]) hx hb dX8_can_55 hl (by decide) rfl (fun ls hl => ?_)
        refine lv_iload hx hb dX8_can_57 (lv_at hl 4 rfl) ?_
        refine lv_iload hx hb dX8_can_59 (lv_at hl 0 rfl) ?_
        refine lv_if_eq (tgt := 68) hx hb dX8_can_61 (by decide) (fun c6 => ?_) (fun c6 => ?_)
        · replace hf := (if_pos c6).symm.trans hf
          refine lv_iconst (v := (0 : Int32)) hx hb dX8_can_68 (by decide) ?_
          exact hJ69 v1 v2 v5 v6 u5.1 v4 (0 : Int32) u5.2 (fX8_can_l41 v1 v2 n) (ih) H locs ls hf (lv_sub hl [1, 2, 3, 5, 6, 0] rfl) hh
        · replace hf := (if_neg c6).symm.trans hf
          refine lv_iconst (v := (1 : Int32)) hx hb dX8_can_64 (by decide) ?_
          refine lv_goto (tgt := 69) hx hb dX8_can_65 (by decide) ?_
          exact hJ69 v1 v2 v5 v6 u5.1 v4 (1 : Int32) u5.2 (fX8_can_l41 v1 v2 n) (ih) H locs ls hf (lv_sub hl [1, 2, 3, 5, 6, 0] rfl) hh
  have hJ21 : ∀ (v1 : Int32) (v2 : Int32) (t0 : Int32) (S : zMd), ∀ (H : Heap) (locs : List Loc) (ls : Array Slot), fX8_can_j21 v1 v2 t0 S = some R → lv_has ls 8 [(0, .ref a0), (1, .int v1), (2, .int v2)] → zW K A s H locs (cMd K a0 a1 a2 a3 a4 a5 a6 a7 a8 a9 a10 a11 a12 a13 a14 a15 a16 a17 a18 a19 S) → W p l e ({ frames := 5, cells := 0, slots := 0, locals := 117 } : Room) s m ([.ref a0, .int p1, .int p2] : List Value).toArray below meth c H locs 0 0 Q (F0 m 21 ls [.int t0]) := by
    intro v1 v2 t0 S H locs ls hf hl hh
    unfold fX8_can_j21 at hf
    refine lv_istore_n (lv' := [(3, .int t0), (0, .ref a0), (1, .int v1), (2, .int v2)]) hx hb dX8_can_21 rfl hl (by decide) rfl (fun ls hl => ?_)
    refine lv_iload_n hx hb dX8_can_22 rfl (lv_at hl 0 rfl) ?_
    refine lv_if_eq (tgt := 32) hx hb dX8_can_23 (by decide) (fun c7 => ?_) (fun c7 => ?_)
    · replace hf := (if_pos c7).symm.trans hf
      refine lv_iconst (v := (0 : Int32)) hx hb dX8_can_32 (by decide) ?_
      refine lv_istore (lv' := [(4, .int (0 : Int32)), (3, .int t0), (0, .ref a0), (1, .int v1), (2, .int v2)]) hx hb dX8_can_33 hl (by decide) rfl (fun ls hl => ?_)
      refine lv_iconst (v := (0 : Int32)) hx hb dX8_can_35 (by decide) ?_
      refine lv_istore (lv' := [(5, .int (0 : Int32)), (4, .int (0 : Int32)), (3, .int t0), (0, .ref a0), (1, .int v1), (2, .int v2)]) hx hb dX8_can_36 hl (by decide) rfl (fun ls hl => ?_)
      refine lv_iconst (v := (1 : Int32)) hx hb dX8_can_38 (by decide) ?_
      refine lv_istore (lv' := [(6, .int (1 : Int32)), (5, .int (0 : Int32)), (4, .int (0 : Int32)), (3, .int t0), (0, .ref a0), (1, .int v1), (2, .int v2)]) hx hb dX8_can_39 hl (by decide) rfl (fun ls hl => ?_)
      exact hL41 v1 v2 FU (0 : Int32) (0 : Int32) (1 : Int32) S H locs ls hf (lv_sub hl [4, 5, 6, 2, 1, 0] rfl) hh
    · replace hf := (if_neg c7).symm.trans hf
      refine lv_aload_n hx hb dX8_can_26 rfl (lv_at hl 1 rfl) ?_
      refine lv_iload_n hx hb dX8_can_27 rfl (lv_at hl 0 rfl) ?_
      obtain ⟨u8, hu8, hf⟩ := ob_bind hf
      refine zcallV (ci := 7) (q0 := 0) (As := [.int t0]) (rest := []) (wr := []) (ws' := cMd K a0 a1 a2 a3 a4 a5 a6 a7 a8 a9 a10 a11 a12 a13 a14 a15 a16 a17 a18 a19 u8.2) (ov := some (.int u8.1)) X hh hl (kX8_no l K a0 a1 a2 a3 a4 a5 a6 a7 a8 a9 a10 a11 a12 a13 a14 a15 a16 a17 a18 a19 S t0 u8 hu8) (fun ht => cwV 1 ht gX8_can_X8_no rfl rfl rfl ⟨rfl, hdX8_no⟩ ⟨Nat.le_of_ble_eq_true rfl, Nat.le_of_ble_eq_true rfl⟩) [0, 1, 2, 3, 4, 5, 6, 7, 8, 9, 10, 11, 12, 13, 14, 15, 16, 17, 18, 19] [] [0, 1, 2, 3, 4, 5, 6, 7, 8, 9, 10, 11, 12, 13, 14, 15, 16, 17, 18, 19] rfl rfl rfl rfl (by decide) rfl rfl rfl rfl rfl rfl (Nat.le_of_ble_eq_true rfl) dX8_can_28 ⟨Nat.zero_le _, Nat.zero_le _⟩ (fun H locs hh => ?_)
      exact hr2 31 ls H locs u8.1 u8.2 hf dX8_can_31 hh
  unfold fX8_can at hf
  refine (fun (hmain : ∀ (H : Heap) (locs : List Loc), zW K A s H locs (cMd K a0 a1 a2 a3 a4 a5 a6 a7 a8 a9 a10 a11 a12 a13 a14 a15 a16 a17 a18 a19 S) → W p l e ({ frames := 5, cells := 0, slots := 0, locals := 117 } : Room) s m ([.ref a0, .int p1, .int p2] : List Value).toArray below meth c H locs 0 0 Q (F0 m 0 ls [])) => hmain s.heap [] hh) (fun H locs hh => ?_)
  refine lv_iload_n hx hb dX8_can_0 rfl (lv_at hl 2 rfl) ?_
  refine lv_iconst (v := (0 : Int32)) hx hb dX8_can_1 (by decide) ?_
  refine lv_iconst (v := (1 : Int32)) hx hb dX8_can_2 (by decide) ?_
  refine zcallS (As := [.int p2, .int (0 : Int32), .int (1 : Int32)]) (rest := []) (wr := cMd K a0 a1 a2 a3 a4 a5 a6 a7 a8 a9 a10 a11 a12 a13 a14 a15 a16 a17 a18 a19 S) (ws' := cMd K a0 a1 a2 a3 a4 a5 a6 a7 a8 a9 a10 a11 a12 a13 a14 a15 a16 a17 a18 a19 S) (ov := some (.int (fX8_isIn p2 (0 : Int32) (1 : Int32)))) X hh hl (kX8_isIn l K p2 (0 : Int32) (1 : Int32) (fX8_isIn p2 (0 : Int32) (1 : Int32)) rfl) (fun ht => va_cwS 3 ht gX8_can_X8_isIn rfl rfl rfl hdX8_isIn ⟨Nat.le_of_ble_eq_true rfl, Nat.le_of_ble_eq_true rfl⟩) [] [0, 1, 2, 3, 4, 5, 6, 7, 8, 9, 10, 11, 12, 13, 14, 15, 16, 17, 18, 19] [0, 1, 2, 3, 4, 5, 6, 7, 8, 9, 10, 11, 12, 13, 14, 15, 16, 17, 18, 19] rfl rfl rfl rfl (by decide) rfl rfl rfl rfl (Nat.le_of_ble_eq_true rfl) dX8_can_3 ⟨Nat.zero_le _, Nat.zero_le _⟩ (fun H locs hh => ?_)
  refine lv_if_ne (tgt := 14) hx hb dX8_can_6 (by decide) (fun c10 => ?_) (fun c10 => ?_)
  · replace hf := (if_neg c10).symm.trans hf
    refine lv_iload_n hx hb dX8_can_14 rfl (lv_at hl 1 rfl) ?_
    refine lv_iconst (v := (1 : Int32)) hx hb dX8_can_15 (by decide) ?_
    refine lv_bipush (v := (7 : Int32)) hx hb dX8_can_16 (by decide) ?_
    refine zcallS (As := [.int p1, .int (1 : Int32), .int (7 : Int32)]) (rest := []) (wr := cMd K a0 a1 a2 a3 a4 a5 a6 a7 a8 a9 a10 a11 a12 a13 a14 a15 a16 a17 a18 a19 S) (ws' := cMd K a0 a1 a2 a3 a4 a5 a6 a7 a8 a9 a10 a11 a12 a13 a14 a15 a16 a17 a18 a19 S) (ov := some (.int (fX8_bound p1 (1 : Int32) (7 : Int32)))) X hh hl (kX8_bound l K p1 (1 : Int32) (7 : Int32) (fX8_bound p1 (1 : Int32) (7 : Int32)) rfl) (fun ht => va_cwS 3 ht gX8_can_X8_bound rfl rfl rfl hdX8_bound ⟨Nat.le_of_ble_eq_true rfl, Nat.le_of_ble_eq_true rfl⟩) [] [0, 1, 2, 3, 4, 5, 6, 7, 8, 9, 10, 11, 12, 13, 14, 15, 16, 17, 18, 19] [0, 1, 2, 3, 4, 5, 6, 7, 8, 9, 10, 11, 12, 13, 14, 15, 16, 17, 18, 19] rfl rfl rfl rfl (by decide) rfl rfl rfl rfl (Nat.le_of_ble_eq_true rfl) dX8_can_18 ⟨Nat.zero_le _, Nat.zero_le _⟩ (fun H locs hh => ?_)
    exact hJ21 p1 p2 (fX8_bound p1 (1 : Int32) (7 : Int32)) S H locs ls hf (lv_sub hl [0, 1, 2] rfl) hh
  · replace hf := (if_pos c10).symm.trans hf
    refine lv_bipush (v := (-2 : Int32)) hx hb dX8_can_9 (by decide) ?_
    refine lv_goto (tgt := 21) hx hb dX8_can_11 (by decide) ?_
    exact hJ21 p1 p2 (-2 : Int32) S H locs ls hf (lv_sub hl [0, 1, 2] rfl) hh
