theorem inX8_comesToIn1_X8 : ∀ w ∈ wsX80, w ∈ wsX8_comesToIn1 := by decide +kernel
theorem mmX8_comesToIn1_0 : Cond.fieldLink RX8 70 "SumOfTwoThatStandModel" "houses" "I" ∈ wsX8_comesToIn1 := by decide +kernel
theorem mmX8_comesToIn1_1 : Cond.fieldLink RX8 13 "SumOfTwoThatStandModel" "number" "[I" ∈ wsX8_comesToIn1 := by decide +kernel
theorem hdX8_comesToIn1 : yX8_comesToIn1.cls ≠ "java/lang/invoke/MethodHandle" ∧ yX8_comesToIn1.cls ≠ "java/lang/invoke/VarHandle" ∧ (parseMethodDescriptor yX8_comesToIn1.desc).map (fun d => d.parameters.length) = some 1 := by decide +kernel
set_option maxHeartbeats 4000000 in
set_option maxRecDepth 100000 in
theorem kX8_comesToIn1 (l : Launch) (K : zK) (a0 a1 a2 a3 a4 a5 a6 a7 a8 a9 a10 a11 a12 a13 a14 a15 a16 a17 a18 a19 : Nat) (S : zMd) (p1 : Int32) (R : Int32) (hf : fX8_comesToIn1 S p1 = some R) : zC l yX8_comesToIn1 wsX8_comesToIn1 ({ frames := 4, cells := 0, slots := 0, locals := 89 } : Room) K [.ref a0, .int p1] (cMd K a0 a1 a2 a3 a4 a5 a6 a7 a8 a9 a10 a11 a12 a13 a14 a15 a16 a17 a18 a19 S) (some (.int R)) (cMd K a0 a1 a2 a3 a4 a5 a6 a7 a8 a9 a10 a11 a12 a13 a14 a15 a16 a17 a18 a19 S) := by
  refine zC_z .boolean R (cc := cX8_comesToIn1) (maxL := 4) (by decide +kernel) rfl (Nat.le_of_ble_eq_true rfl) rfl rfl ?_
  intro p e s m below meth c Q A X hret ls hl hh
  have X : zX p m c cX8_comesToIn1 4 s ([.ref a0, .int p1] : List Value).toArray wsX8_comesToIn1 RX8 K A := X
  have hx := X.1.1
  have hb := X.1.2.1
  have hr2 : ∀ (pc : Nat) (ls : Array Slot) (H : Heap) (locs : List Loc) (v : Int32), some v = some R → narrow .boolean (.int v) = .int v → decode cX8_comesToIn1 pc = .ok (.ireturn, 1) → zW K A s H locs (cMd K a0 a1 a2 a3 a4 a5 a6 a7 a8 a9 a10 a11 a12 a13 a14 a15 a16 a17 a18 a19 S) → W p l e ({ frames := 4, cells := 0, slots := 0, locals := 89 } : Room) s m ([.ref a0, .int p1] : List Value).toArray below meth c H locs 0 0 Q (F0 m pc ls [.int v]) := by
    intro pc ls H locs v h hn hd hh
    cases h; exact hret pc ls H locs _ rfl hn hd hh
  have hl : lv_has ls 4 [(0, .ref a0), (1, .int p1)] := hl
  have hL21 : ∀ (v1 : Int32) (v2 : Int32) (k2 : (Int32) → Option (Int32)), (∀ (v2 : Int32) (H : Heap) (locs : List Loc) (ls : Array Slot), k2 v2 = some R → lv_has ls 4 [(0, .ref a0), (1, .int v1), (2, .int v2)] → zW K A s H locs (cMd K a0 a1 a2 a3 a4 a5 a6 a7 a8 a9 a10 a11 a12 a13 a14 a15 a16 a17 a18 a19 S) → W p l e ({ frames := 4, cells := 0, slots := 0, locals := 89 } : Room) s m ([.ref a0, .int p1] : List Value).toArray below meth c H locs 0 0 Q (F0 m 2 ls [])) → ∀ (n : Nat) (v3 : Int32), ∀ (H : Heap) (locs : List Loc) (ls : Array Slot), fX8_comesToIn1_l21 S v1 v2 k2 n v3 = some R → lv_has ls 4 [(0, .ref a0), (1, .int v1), (2, .int v2), (3, .int v3)] → zW K A s H locs (cMd K a0 a1 a2 a3 a4 a5 a6 a7 a8 a9 a10 a11 a12 a13 a14 a15 a16 a17 a18 a19 S) → W p l e ({ frames := 4, cells := 0, slots := 0, locals := 89 } : Room) s m ([.ref a0, .int p1] : List Value).toArray below meth c H locs 0 0 Q (F0 m 21 ls []) := by
    intro v1 v2 k2 hk2 n
    induction n with
    | zero =>
      intro v3 H locs ls hf hl hh
      rw [fX8_comesToIn1_l21] at hf; cases hf
    | succ n ih =>
      intro v3 H locs ls hf hl hh
      rw [fX8_comesToIn1_l21] at hf
      refine lv_iload_n hx hb dX8_comesToIn1_21 rfl (lv_at hl 3 rfl) ?_
      refine lv_aload_n hx hb dX8_comesToIn1_22 rfl (lv_at hl 0 rfl) ?_
      refine zget (v := .int (md_houses S)) (ref := "SumOfTwoThatStandModel") (C := RX8) (T := TX8) (N := 33) (index := 70) X hh inX8_comesToIn1_X8 0 rfl rfl 9 (by decide) mmX8_comesToIn1_0 rfl rfl dX8_comesToIn1_23 ?_
      refine lv_icmp_ge (tgt := 63) hx hb dX8_comesToIn1_26 (by decide) (fun c1 => ?_) (fun c1 => ?_)
      · replace hf := (if_pos c1).symm.trans hf
        refine lv_iinc (v := (v2 + (1 : Int32))) (lv' := [(2, .int (v2 + (1 : Int32))), (0, .ref a0), (1, .int v1), (3, .int v3)]) hx hb dX8_comesToIn1_63 hl (k := 2) rfl rfl (by decide) rfl (fun ls hl => ?_)
        refine lv_goto (tgt := 2) hx hb dX8_comesToIn1_66 (by decide) ?_
        exact hk2 (v2 + (1 : Int32)) H locs ls hf (lv_sub hl [1, 2, 0] rfl) hh
      · replace hf := (if_neg c1).symm.trans hf
        refine lv_aload_n hx hb dX8_comesToIn1_29 rfl (lv_at hl 0 rfl) ?_
        refine zget (v := .ref a2) (ref := "SumOfTwoThatStandModel") (C := RX8) (T := TX8) (N := 33) (index := 13) X hh inX8_comesToIn1_X8 0 rfl rfl 1 (by decide) mmX8_comesToIn1_1 rfl rfl dX8_comesToIn1_30 ?_
        refine lv_iload_n hx hb dX8_comesToIn1_33 rfl (lv_at hl 2 rfl) ?_
        obtain ⟨g2, hf⟩ := ob_ix hf
        refine ziald (f := (md_number S)) X hh 2 rfl g2 dX8_comesToIn1_34 ?_
        refine lv_aload_n hx hb dX8_comesToIn1_35 rfl (lv_at hl 0 rfl) ?_
        refine zget (v := .ref a2) (ref := "SumOfTwoThatStandModel") (C := RX8) (T := TX8) (N := 33) (index := 13) X hh inX8_comesToIn1_X8 0 rfl rfl 1 (by decide) mmX8_comesToIn1_1 rfl rfl dX8_comesToIn1_36 ?_
        refine lv_iload_n hx hb dX8_comesToIn1_39 rfl (lv_at hl 3 rfl) ?_
        obtain ⟨g3, hf⟩ := ob_ix hf
        refine ziald (f := (md_number S)) X hh 2 rfl g3 dX8_comesToIn1_40 ?_
        refine lv_iadd hx hb dX8_comesToIn1_41 ?_
        refine lv_iload_n hx hb dX8_comesToIn1_42 rfl (lv_at hl 1 rfl) ?_
        refine lv_icmp_ne (tgt := 57) hx hb dX8_comesToIn1_43 (by decide) (fun c4 => ?_) (fun c4 => ?_)
        · replace hf := (if_neg c4).symm.trans hf
          refine lv_iinc (v := (v3 + (1 : Int32))) (lv' := [(3, .int (v3 + (1 : Int32))), (0, .ref a0), (1, .int v1), (2, .int v2)]) hx hb dX8_comesToIn1_57 hl (k := 3) rfl rfl (by decide) rfl (fun ls hl => ?_)
          refine lv_goto (tgt := 21) hx hb dX8_comesToIn1_60 (by decide) ?_
          exact ih (v3 + (1 : Int32)) H locs ls hf (lv_sub hl [1, 2, 3, 0] rfl) hh
        · replace hf := (if_pos c4).symm.trans hf
          refine lv_aload_n hx hb dX8_comesToIn1_46 rfl (lv_at hl 0 rfl) ?_
          refine lv_iload_n hx hb dX8_comesToIn1_47 rfl (lv_at hl 2 rfl) ?_
          refine lv_iload_n hx hb dX8_comesToIn1_48 rfl (lv_at hl 3 rfl) ?_
          obtain ⟨u5, hu5, hf⟩ := ob_bind hf
          refine zcallV (ci := 7) (q0 := 0) (As := [.int v2, .int v3]) (rest := []) (wr := []) (ws' := cMd K a0 a1 a2 a3 a4 a5 a6 a7 a8 a9 a10 a11 a12 a13 a14 a15 a16 a17 a18 a19 S) (ov := some (.int u5)) X hh hl (kX8_canBe l K a0 a1 a2 a3 a4 a5 a6 a7 a8 a9 a10 a11 a12 a13 a14 a15 a16 a17 a18 a19 S v2 v3 u5 hu5) (fun ht => cwV 2 ht gX8_comesToIn1_X8_canBe rfl rfl rfl ⟨rfl, hdX8_canBe⟩ ⟨Nat.le_of_ble_eq_true rfl, Nat.le_of_ble_eq_true rfl⟩) [0, 1, 2, 3, 4, 5, 6, 7, 8, 9, 10, 11, 12, 13, 14, 15, 16, 17, 18, 19] [] [0, 1, 2, 3, 4, 5, 6, 7, 8, 9, 10, 11, 12, 13, 14, 15, 16, 17, 18, 19] rfl rfl rfl rfl (by decide) rfl rfl rfl rfl rfl rfl (Nat.le_of_ble_eq_true rfl) dX8_comesToIn1_49 ⟨Nat.zero_le _, Nat.zero_le _⟩ (fun H locs hh => ?_)
          refine lv_if_eq (tgt := 57) hx hb dX8_comesToIn1_52 (by decide) (fun c6 => ?_) (fun c6 => ?_)
          · replace hf := (if_pos c6).symm.trans hf
            refine lv_iinc (v := (v3 + (1 : Int32))) (lv' := [(3, .int (v3 + (1 : Int32))), (0, .ref a0), (1, .int v1), (2, .int v2)]) hx hb dX8_comesToIn1_57 hl (k := 3) rfl rfl (by decide) rfl (fun ls hl => ?_)
            refine lv_goto (tgt := 21) hx hb dX8_comesToIn1_60 (by decide) ?_
            exact ih (v3 + (1 : Int32)) H locs ls hf (lv_sub hl [1, 2, 3, 0] rfl) hh
          · replace hf := (if_neg c6).symm.trans hf
            refine lv_iconst (v := (1 : Int32)) hx hb dX8_comesToIn1_55 (by decide) ?_
            exact hr2 56 ls H locs (1 : Int32) hf rfl dX8_comesToIn1_56 hh
  have hL2 : ∀ (v1 : Int32), ∀ (n : Nat) (v2 : Int32), ∀ (H : Heap) (locs : List Loc) (ls : Array Slot), fX8_comesToIn1_l2 S v1 n v2 = some R → lv_has ls 4 [(0, .ref a0), (1, .int v1), (2, .int v2)] → zW K A s H locs (cMd K a0 a1 a2 a3 a4 a5 a6 a7 a8 a9 a10 a11 a12 a13 a14 a15 a16 a17 a18 a19 S) → W p l e ({ frames := 4, cells := 0, slots := 0, locals := 89 } : Room) s m ([.ref a0, .int p1] : List Value).toArray below meth c H locs 0 0 Q (F0 m 2 ls []) := by
    intro v1 n
    induction n with
    | zero =>
      intro v2 H locs ls hf hl hh
      rw [fX8_comesToIn1_l2] at hf; cases hf
    | succ n ih =>
      intro v2 H locs ls hf hl hh
      rw [fX8_comesToIn1_l2] at hf
      refine lv_iload_n hx hb dX8_comesToIn1_2 rfl (lv_at hl 2 rfl) ?_
      refine lv_aload_n hx hb dX8_comesToIn1_3 rfl (lv_at hl 0 rfl) ?_
      refine zget (v := .int (md_houses S)) (ref := "SumOfTwoThatStandModel") (C := RX8) (T := TX8) (N := 33) (index := 70) X hh inX8_comesToIn1_X8 0 rfl rfl 9 (by decide) mmX8_comesToIn1_0 rfl rfl dX8_comesToIn1_4 ?_
      refine lv_icmp_ge (tgt := 69) hx hb dX8_comesToIn1_7 (by decide) (fun c7 => ?_) (fun c7 => ?_)
      · replace hf := (if_pos c7).symm.trans hf
        refine lv_iconst (v := (0 : Int32)) hx hb dX8_comesToIn1_69 (by decide) ?_
        exact hr2 70 ls H locs (0 : Int32) hf rfl dX8_comesToIn1_70 hh
      · replace hf := (if_neg c7).symm.trans hf
        refine lv_aload_n hx hb dX8_comesToIn1_10 rfl (lv_at hl 0 rfl) ?_
        refine zget (v := .int (md_houses S)) (ref := "SumOfTwoThatStandModel") (C := RX8) (T := TX8) (N := 33) (index := 70) X hh inX8_comesToIn1_X8 0 rfl rfl 9 (by decide) mmX8_comesToIn1_0 rfl rfl dX8_comesToIn1_11 ?_
        refine lv_bipush (v := (12 : Int32)) hx hb dX8_comesToIn1_14 (by decide) ?_
        refine lv_icmp_ge (tgt := 69) hx hb dX8_comesToIn1_16 (by decide) (fun c8 => ?_) (fun c8 => ?_)
        · replace hf := (if_pos c8).symm.trans hf
          refine lv_iconst (v := (0 : Int32)) hx hb dX8_comesToIn1_69 (by decide) ?_
          exact hr2 70 ls H locs (0 : Int32) hf rfl dX8_comesToIn1_70 hh
        · replace hf := (if_neg c8).symm.trans hf
          refine lv_iload_n hx hb dX8_comesToIn1_19 rfl (lv_at hl 2 rfl) ?_
          refine lv_istore_n (lv' := [(3, .int v2), (0, .ref a0), (1, .int v1), (2, .int v2)]) hx hb dX8_comesToIn1_20 rfl hl (by decide) rfl (fun ls hl => ?_)
          exact hL21 v1 v2 (fX8_comesToIn1_l2 S v1 n) (ih) FU v2 H locs ls hf (lv_sub hl [1, 2, 3, 0] rfl) hh
  unfold fX8_comesToIn1 at hf
  refine (fun (hmain : ∀ (H : Heap) (locs : List Loc), zW K A s H locs (cMd K a0 a1 a2 a3 a4 a5 a6 a7 a8 a9 a10 a11 a12 a13 a14 a15 a16 a17 a18 a19 S) → W p l e ({ frames := 4, cells := 0, slots := 0, locals := 89 } : Room) s m ([.ref a0, .int p1] : List Value).toArray below meth c H locs 0 0 Q (F0 m 0 ls [])) => hmain s.heap [] hh) (fun H locs hh => ?_)
  refine lv_iconst (v := (0 : Int32)) hx hb dX8_comesToIn1_0 (by decide) ?_
  refine lv_istore_n (lv' := [(2, .int (0 : Int32)), (0, .ref a0), (1, .int p1)]) hx hb dX8_comesToIn1_1 rfl hl (by decide) rfl (fun ls hl => ?_)
  exact hL2 p1 FU (0 : Int32) H locs ls hf (lv_sub hl [1, 2, 0] rfl) hh
theorem inX8_comesToIn2_X8 : ∀ w ∈ wsX80, w ∈ wsX8_comesToIn2 := by decide +kernel
theorem mmX8_comesToIn2_0 : Cond.fieldLink RX8 70 "SumOfTwoThatStandModel" "houses" "I" ∈ wsX8_comesToIn2 := by decide +kernel
theorem hdX8_comesToIn2 : yX8_comesToIn2.cls ≠ "java/lang/invoke/MethodHandle" ∧ yX8_comesToIn2.cls ≠ "java/lang/invoke/VarHandle" ∧ (parseMethodDescriptor yX8_comesToIn2.desc).map (fun d => d.parameters.length) = some 1 := by decide +kernel
set_option maxHeartbeats 4000000 in
set_option maxRecDepth 100000 in
theorem kX8_comesToIn2 (l : Launch) (K : zK) (a0 a1 a2 a3 a4 a5 a6 a7 a8 a9 a10 a11 a12 a13 a14 a15 a16 a17 a18 a19 : Nat) (S : zMd) (p1 : Int32) (R : Int32 × zMd) (hf : fX8_comesToIn2 S p1 = some R) : zC l yX8_comesToIn2 wsX8_comesToIn2 ({ frames := 5, cells := 0, slots := 0, locals := 112 } : Room) K [.ref a0, .int p1] (cMd K a0 a1 a2 a3 a4 a5 a6 a7 a8 a9 a10 a11 a12 a13 a14 a15 a16 a17 a18 a19 S) (some (.int R.1)) (cMd K a0 a1 a2 a3 a4 a5 a6 a7 a8 a9 a10 a11 a12 a13 a14 a15 a16 a17 a18 a19 R.2) := by
  refine zC_z .boolean R.1 (cc := cX8_comesToIn2) (maxL := 6) (by decide +kernel) rfl (Nat.le_of_ble_eq_true rfl) rfl rfl ?_
  intro p e s m below meth c Q A X hret ls hl hh
  have X : zX p m c cX8_comesToIn2 6 s ([.ref a0, .int p1] : List Value).toArray wsX8_comesToIn2 RX8 K A := X
  have hx := X.1.1
  have hb := X.1.2.1
  have hr2 : ∀ (pc : Nat) (ls : Array Slot) (H : Heap) (locs : List Loc) (v : Int32) (S : zMd), some (v, S) = some R → narrow .boolean (.int v) = .int v → decode cX8_comesToIn2 pc = .ok (.ireturn, 1) → zW K A s H locs (cMd K a0 a1 a2 a3 a4 a5 a6 a7 a8 a9 a10 a11 a12 a13 a14 a15 a16 a17 a18 a19 S) → W p l e ({ frames := 5, cells := 0, slots := 0, locals := 112 } : Room) s m ([.ref a0, .int p1] : List Value).toArray below meth c H locs 0 0 Q (F0 m pc ls [.int v]) := by
    intro pc ls H locs v S h hn hd hh
    cases h; exact hret pc ls H locs _ rfl hn hd hh
  have hl : lv_has ls 6 [(0, .ref a0), (1, .int p1)] := hl
  have hL30 : ∀ (v1 : Int32) (v3 : Int32) (v4 : Int32) (k10 : (Int32) → (Int32) → (zMd) → Option (Int32 × zMd)), (∀ (v2 : Int32) (v4 : Int32) (S : zMd) (H : Heap) (locs : List Loc) (ls : Array Slot), k10 v2 v4 S = some R → lv_has ls 6 [(0, .ref a0), (1, .int v1), (2, .int v2), (3, .int v3), (4, .int v4)] → zW K A s H locs (cMd K a0 a1 a2 a3 a4 a5 a6 a7 a8 a9 a10 a11 a12 a13 a14 a15 a16 a17 a18 a19 S) → W p l e ({ frames := 5, cells := 0, slots := 0, locals := 112 } : Room) s m ([.ref a0, .int p1] : List Value).toArray below meth c H locs 0 0 Q (F0 m 10 ls [])) → ∀ (n : Nat) (v2 : Int32) (v5 : Int32) (S : zMd), ∀ (H : Heap) (locs : List Loc) (ls : Array Slot), fX8_comesToIn2_l30 v1 v3 v4 k10 n v2 v5 S = some R → lv_has ls 6 [(0, .ref a0), (1, .int v1), (2, .int v2), (3, .int v3), (4, .int v4), (5, .int v5)] → zW K A s H locs (cMd K a0 a1 a2 a3 a4 a5 a6 a7 a8 a9 a10 a11 a12 a13 a14 a15 a16 a17 a18 a19 S) → W p l e ({ frames := 5, cells := 0, slots := 0, locals := 112 } : Room) s m ([.ref a0, .int p1] : List Value).toArray below meth c H locs 0 0 Q (F0 m 30 ls []) := by
    intro v1 v3 v4 k10 hk10 n
    induction n with
    | zero =>
      intro v2 v5 S H locs ls hf hl hh
      rw [fX8_comesToIn2_l30] at hf; cases hf
    | succ n ih =>
      intro v2 v5 S H locs ls hf hl hh
      rw [fX8_comesToIn2_l30] at hf
      refine lv_iload hx hb dX8_comesToIn2_30 (lv_at hl 5 rfl) ?_
      refine lv_iload_n hx hb dX8_comesToIn2_32 rfl (lv_at hl 3 rfl) ?_
      refine lv_icmp_ge (tgt := 88) hx hb dX8_comesToIn2_33 (by decide) (fun c1 => ?_) (fun c1 => ?_)
      · replace hf := (if_pos c1).symm.trans hf
        refine lv_iinc (v := (v4 + (1 : Int32))) (lv' := [(4, .int (v4 + (1 : Int32))), (0, .ref a0), (1, .int v1), (2, .int v2), (3, .int v3), (5, .int v5)]) hx hb dX8_comesToIn2_88 hl (k := 4) rfl rfl (by decide) rfl (fun ls hl => ?_)
        refine lv_goto (tgt := 10) hx hb dX8_comesToIn2_91 (by decide) ?_
        exact hk10 v2 (v4 + (1 : Int32)) S H locs ls hf (lv_sub hl [1, 2, 3, 4, 0] rfl) hh
      · replace hf := (if_neg c1).symm.trans hf
        refine lv_iload_n hx hb dX8_comesToIn2_36 rfl (lv_at hl 2 rfl) ?_
        refine lv_if_ne (tgt := 88) hx hb dX8_comesToIn2_37 (by decide) (fun c2 => ?_) (fun c2 => ?_)
        · replace hf := (if_neg c2).symm.trans hf
          refine lv_iinc (v := (v4 + (1 : Int32))) (lv' := [(4, .int (v4 + (1 : Int32))), (0, .ref a0), (1, .int v1), (2, .int v2), (3, .int v3), (5, .int v5)]) hx hb dX8_comesToIn2_88 hl (k := 4) rfl rfl (by decide) rfl (fun ls hl => ?_)
          refine lv_goto (tgt := 10) hx hb dX8_comesToIn2_91 (by decide) ?_
          exact hk10 v2 (v4 + (1 : Int32)) S H locs ls hf (lv_sub hl [1, 2, 3, 4, 0] rfl) hh
        · replace hf := (if_pos c2).symm.trans hf
          refine lv_aload_n hx hb dX8_comesToIn2_40 rfl (lv_at hl 0 rfl) ?_
          refine lv_iload hx hb dX8_comesToIn2_41 (lv_at hl 4 rfl) ?_
          refine lv_iload hx hb dX8_comesToIn2_43 (lv_at hl 5 rfl) ?_
          obtain ⟨u3, hu3, hf⟩ := ob_bind hf
          refine zcallV (ci := 7) (q0 := 0) (As := [.int v4, .int v5]) (rest := []) (wr := []) (ws' := cMd K a0 a1 a2 a3 a4 a5 a6 a7 a8 a9 a10 a11 a12 a13 a14 a15 a16 a17 a18 a19 S) (ov := some (.int u3)) X hh hl (kX8_canBe l K a0 a1 a2 a3 a4 a5 a6 a7 a8 a9 a10 a11 a12 a13 a14 a15 a16 a17 a18 a19 S v4 v5 u3 hu3) (fun ht => cwV 2 ht gX8_comesToIn2_X8_canBe rfl rfl rfl ⟨rfl, hdX8_canBe⟩ ⟨Nat.le_of_ble_eq_true rfl, Nat.le_of_ble_eq_true rfl⟩) [0, 1, 2, 3, 4, 5, 6, 7, 8, 9, 10, 11, 12, 13, 14, 15, 16, 17, 18, 19] [] [0, 1, 2, 3, 4, 5, 6, 7, 8, 9, 10, 11, 12, 13, 14, 15, 16, 17, 18, 19] rfl rfl rfl rfl (by decide) rfl rfl rfl rfl rfl rfl (Nat.le_of_ble_eq_true rfl) dX8_comesToIn2_45 ⟨Nat.zero_le _, Nat.zero_le _⟩ (fun H locs hh => ?_)
          refine lv_if_ne (tgt := 54) hx hb dX8_comesToIn2_48 (by decide) (fun c4 => ?_) (fun c4 => ?_)
          · replace hf := (if_neg c4).symm.trans hf
            refine lv_aload_n hx hb dX8_comesToIn2_54 rfl (lv_at hl 0 rfl) ?_
            refine lv_iconst (v := (2 : Int32)) hx hb dX8_comesToIn2_55 (by decide) ?_
            refine lv_iconst (v := (1 : Int32)) hx hb dX8_comesToIn2_56 (by decide) ?_
            obtain ⟨u5, hu5, hf⟩ := ob_bind hf
            refine zcallV (ci := 7) (q0 := 0) (As := [.int (2 : Int32), .int (1 : Int32)]) (rest := []) (wr := []) (ws' := cMd K a0 a1 a2 a3 a4 a5 a6 a7 a8 a9 a10 a11 a12 a13 a14 a15 a16 a17 a18 a19 u5) (ov := none) X hh hl (kX8_passesAll l K a0 a1 a2 a3 a4 a5 a6 a7 a8 a9 a10 a11 a12 a13 a14 a15 a16 a17 a18 a19 S (2 : Int32) (1 : Int32) u5 hu5) (fun ht => cwV 2 ht gX8_comesToIn2_X8_passesAll rfl rfl rfl ⟨rfl, hdX8_passesAll⟩ ⟨Nat.le_of_ble_eq_true rfl, Nat.le_of_ble_eq_true rfl⟩) [0, 1, 2, 3, 4, 5, 6, 7, 8, 9, 10, 11, 12, 13, 14, 15, 16, 17, 18, 19] [] [0, 1, 2, 3, 4, 5, 6, 7, 8, 9, 10, 11, 12, 13, 14, 15, 16, 17, 18, 19] rfl rfl rfl rfl (by decide) rfl rfl rfl rfl rfl rfl (Nat.le_of_ble_eq_true rfl) dX8_comesToIn2_57 ⟨Nat.zero_le _, Nat.zero_le _⟩ (fun H locs hh => ?_)
            refine lv_aload_n hx hb dX8_comesToIn2_60 rfl (lv_at hl 0 rfl) ?_
            refine lv_iload hx hb dX8_comesToIn2_61 (lv_at hl 4 rfl) ?_
            refine lv_iload hx hb dX8_comesToIn2_63 (lv_at hl 5 rfl) ?_
            refine lv_iconst (v := (0 : Int32)) hx hb dX8_comesToIn2_65 (by decide) ?_
            refine lv_iconst (v := (0 : Int32)) hx hb dX8_comesToIn2_66 (by decide) ?_
            obtain ⟨u6, hu6, hf⟩ := ob_bind hf
            refine zcallV (ci := 7) (q0 := 0) (As := [.int v4, .int v5, .int (0 : Int32), .int (0 : Int32)]) (rest := []) (wr := []) (ws' := cMd K a0 a1 a2 a3 a4 a5 a6 a7 a8 a9 a10 a11 a12 a13 a14 a15 a16 a17 a18 a19 u6) (ov := none) X hh hl (kX8_builds l K a0 a1 a2 a3 a4 a5 a6 a7 a8 a9 a10 a11 a12 a13 a14 a15 a16 a17 a18 a19 u5 v4 v5 (0 : Int32) (0 : Int32) u6 hu6) (fun ht => cwV 4 ht gX8_comesToIn2_X8_builds rfl rfl rfl ⟨rfl, hdX8_builds⟩ ⟨Nat.le_of_ble_eq_true rfl, Nat.le_of_ble_eq_true rfl⟩) [0, 1, 2, 3, 4, 5, 6, 7, 8, 9, 10, 11, 12, 13, 14, 15, 16, 17, 18, 19] [] [0, 1, 2, 3, 4, 5, 6, 7, 8, 9, 10, 11, 12, 13, 14, 15, 16, 17, 18, 19] rfl rfl rfl rfl (by decide) rfl rfl rfl rfl rfl rfl (Nat.le_of_ble_eq_true rfl) dX8_comesToIn2_67 ⟨Nat.zero_le _, Nat.zero_le _⟩ (fun H locs hh => ?_)
            refine lv_aload_n hx hb dX8_comesToIn2_70 rfl (lv_at hl 0 rfl) ?_
            refine lv_iload_n hx hb dX8_comesToIn2_71 rfl (lv_at hl 1 rfl) ?_
            obtain ⟨u7, hu7, hf⟩ := ob_bind hf
            refine zcallV (ci := 7) (q0 := 0) (As := [.int v1]) (rest := []) (wr := []) (ws' := cMd K a0 a1 a2 a3 a4 a5 a6 a7 a8 a9 a10 a11 a12 a13 a14 a15 a16 a17 a18 a19 u6) (ov := some (.int u7)) X hh hl (kX8_comesToIn1 l K a0 a1 a2 a3 a4 a5 a6 a7 a8 a9 a10 a11 a12 a13 a14 a15 a16 a17 a18 a19 u6 v1 u7 hu7) (fun ht => cwV 1 ht gX8_comesToIn2_X8_comesToIn1 rfl rfl rfl ⟨rfl, hdX8_comesToIn1⟩ ⟨Nat.le_of_ble_eq_true rfl, Nat.le_of_ble_eq_true rfl⟩) [0, 1, 2, 3, 4, 5, 6, 7, 8, 9, 10, 11, 12, 13, 14, 15, 16, 17, 18, 19] [] [0, 1, 2, 3, 4, 5, 6, 7, 8, 9, 10, 11, 12, 13, 14, 15, 16, 17, 18, 19] rfl rfl rfl rfl (by decide) rfl rfl rfl rfl rfl rfl (Nat.le_of_ble_eq_true rfl) dX8_comesToIn2_72 ⟨Nat.zero_le _, Nat.zero_le _⟩ (fun H locs hh => ?_)
            refine lv_istore_n (lv' := [(2, .int u7), (0, .ref a0), (1, .int v1), (3, .int v3), (4, .int v4), (5, .int v5)]) hx hb dX8_comesToIn2_75 rfl hl (by decide) rfl (fun ls hl => ?_)
            refine lv_aload_n hx hb dX8_comesToIn2_76 rfl (lv_at hl 1 rfl) ?_
            refine lv_iconst (v := (2 : Int32)) hx hb dX8_comesToIn2_77 (by decide) ?_
            refine lv_iconst (v := (0 : Int32)) hx hb dX8_comesToIn2_78 (by decide) ?_
            obtain ⟨u8, hu8, hf⟩ := ob_bind hf
            refine zcallV (ci := 7) (q0 := 0) (As := [.int (2 : Int32), .int (0 : Int32)]) (rest := []) (wr := []) (ws' := cMd K a0 a1 a2 a3 a4 a5 a6 a7 a8 a9 a10 a11 a12 a13 a14 a15 a16 a17 a18 a19 u8) (ov := none) X hh hl (kX8_passesAll l K a0 a1 a2 a3 a4 a5 a6 a7 a8 a9 a10 a11 a12 a13 a14 a15 a16 a17 a18 a19 u6 (2 : Int32) (0 : Int32) u8 hu8) (fun ht => cwV 2 ht gX8_comesToIn2_X8_passesAll rfl rfl rfl ⟨rfl, hdX8_passesAll⟩ ⟨Nat.le_of_ble_eq_true rfl, Nat.le_of_ble_eq_true rfl⟩) [0, 1, 2, 3, 4, 5, 6, 7, 8, 9, 10, 11, 12, 13, 14, 15, 16, 17, 18, 19] [] [0, 1, 2, 3, 4, 5, 6, 7, 8, 9, 10, 11, 12, 13, 14, 15, 16, 17, 18, 19] rfl rfl rfl rfl (by decide) rfl rfl rfl rfl rfl rfl (Nat.le_of_ble_eq_true rfl) dX8_comesToIn2_79 ⟨Nat.zero_le _, Nat.zero_le _⟩ (fun H locs hh => ?_)
            refine lv_iinc (v := (v5 + (1 : Int32))) (lv' := [(5, .int (v5 + (1 : Int32))), (2, .int u7), (0, .ref a0), (1, .int v1), (3, .int v3), (4, .int v4)]) hx hb dX8_comesToIn2_82 hl (k := 5) rfl rfl (by decide) rfl (fun ls hl => ?_)
            refine lv_goto (tgt := 30) hx hb dX8_comesToIn2_85 (by decide) ?_
            exact ih u7 (v5 + (1 : Int32)) u8 H locs ls hf (lv_sub hl [2, 3, 1, 4, 5, 0] rfl) hh
          · replace hf := (if_pos c4).symm.trans hf
            refine lv_goto (tgt := 82) hx hb dX8_comesToIn2_51 (by decide) ?_
            refine lv_iinc (v := (v5 + (1 : Int32))) (lv' := [(5, .int (v5 + (1 : Int32))), (0, .ref a0), (1, .int v1), (2, .int v2), (3, .int v3), (4, .int v4)]) hx hb dX8_comesToIn2_82 hl (k := 5) rfl rfl (by decide) rfl (fun ls hl => ?_)
            refine lv_goto (tgt := 30) hx hb dX8_comesToIn2_85 (by decide) ?_
            exact ih v2 (v5 + (1 : Int32)) S H locs ls hf (lv_sub hl [1, 2, 3, 4, 5, 0] rfl) hh
  have hL10 : ∀ (v1 : Int32) (v3 : Int32), ∀ (n : Nat) (v2 : Int32) (v4 : Int32) (S : zMd), ∀ (H : Heap) (locs : List Loc) (ls : Array Slot), fX8_comesToIn2_l10 v1 v3 n v2 v4 S = some R → lv_has ls 6 [(0, .ref a0), (1, .int v1), (2, .int v2), (3, .int v3), (4, .int v4)] → zW K A s H locs (cMd K a0 a1 a2 a3 a4 a5 a6 a7 a8 a9 a10 a11 a12 a13 a14 a15 a16 a17 a18 a19 S) → W p l e ({ frames := 5, cells := 0, slots := 0, locals := 112 } : Room) s m ([.ref a0, .int p1] : List Value).toArray below meth c H locs 0 0 Q (F0 m 10 ls []) := by
    intro v1 v3 n
    induction n with
    | zero =>
      intro v2 v4 S H locs ls hf hl hh
      rw [fX8_comesToIn2_l10] at hf; cases hf
    | succ n ih =>
      intro v2 v4 S H locs ls hf hl hh
      rw [fX8_comesToIn2_l10] at hf
      refine lv_iload hx hb dX8_comesToIn2_10 (lv_at hl 4 rfl) ?_
      refine lv_iload_n hx hb dX8_comesToIn2_12 rfl (lv_at hl 3 rfl) ?_
      refine lv_icmp_ge (tgt := 94) hx hb dX8_comesToIn2_13 (by decide) (fun c9 => ?_) (fun c9 => ?_)
      · replace hf := (if_pos c9).symm.trans hf
        refine lv_iload_n hx hb dX8_comesToIn2_94 rfl (lv_at hl 2 rfl) ?_
        obtain ⟨g10, hf⟩ := ob_ck hf
        exact hr2 95 ls H locs v2 S hf (nar_ok g10) dX8_comesToIn2_95 hh
      · replace hf := (if_neg c9).symm.trans hf
        refine lv_iload_n hx hb dX8_comesToIn2_16 rfl (lv_at hl 3 rfl) ?_
        refine lv_bipush (v := (12 : Int32)) hx hb dX8_comesToIn2_17 (by decide) ?_
        refine lv_icmp_ge (tgt := 94) hx hb dX8_comesToIn2_19 (by decide) (fun c11 => ?_) (fun c11 => ?_)
        · replace hf := (if_pos c11).symm.trans hf
          refine lv_iload_n hx hb dX8_comesToIn2_94 rfl (lv_at hl 2 rfl) ?_
          obtain ⟨g12, hf⟩ := ob_ck hf
          exact hr2 95 ls H locs v2 S hf (nar_ok g12) dX8_comesToIn2_95 hh
        · replace hf := (if_neg c11).symm.trans hf
          refine lv_iload_n hx hb dX8_comesToIn2_22 rfl (lv_at hl 2 rfl) ?_
          refine lv_if_ne (tgt := 94) hx hb dX8_comesToIn2_23 (by decide) (fun c13 => ?_) (fun c13 => ?_)
          · replace hf := (if_neg c13).symm.trans hf
            refine lv_iload_n hx hb dX8_comesToIn2_94 rfl (lv_at hl 2 rfl) ?_
            obtain ⟨g14, hf⟩ := ob_ck hf
            exact hr2 95 ls H locs v2 S hf (nar_ok g14) dX8_comesToIn2_95 hh
          · replace hf := (if_pos c13).symm.trans hf
            refine lv_iload hx hb dX8_comesToIn2_26 (lv_at hl 4 rfl) ?_
            refine lv_istore (lv' := [(5, .int v4), (0, .ref a0), (1, .int v1), (2, .int v2), (3, .int v3), (4, .int v4)]) hx hb dX8_comesToIn2_28 hl (by decide) rfl (fun ls hl => ?_)
            exact hL30 v1 v3 v4 (fX8_comesToIn2_l10 v1 v3 n) (ih) FU v2 v4 S H locs ls hf (lv_sub hl [1, 2, 3, 4, 5, 0] rfl) hh
  unfold fX8_comesToIn2 at hf
  refine (fun (hmain : ∀ (H : Heap) (locs : List Loc), zW K A s H locs (cMd K a0 a1 a2 a3 a4 a5 a6 a7 a8 a9 a10 a11 a12 a13 a14 a15 a16 a17 a18 a19 S) → W p l e ({ frames := 5, cells := 0, slots := 0, locals := 112 } : Room) s m ([.ref a0, .int p1] : List Value).toArray below meth c H locs 0 0 Q (F0 m 0 ls [])) => hmain s.heap [] hh) (fun H locs hh => ?_)
  refine lv_iconst (v := (0 : Int32)) hx hb dX8_comesToIn2_0 (by decide) ?_
  refine lv_istore_n (lv' := [(2, .int (0 : Int32)), (0, .ref a0), (1, .int p1)]) hx hb dX8_comesToIn2_1 rfl hl (by decide) rfl (fun ls hl => ?_)
  refine lv_aload_n hx hb dX8_comesToIn2_2 rfl (lv_at hl 1 rfl) ?_
  refine zget (v := .int (md_houses S)) (ref := "SumOfTwoThatStandModel") (C := RX8) (T := TX8) (N := 33) (index := 70) X hh inX8_comesToIn2_X8 0 rfl rfl 9 (by decide) mmX8_comesToIn2_0 rfl rfl dX8_comesToIn2_3 ?_
  refine lv_istore_n (lv' := [(3, .int (md_houses S)), (2, .int (0 : Int32)), (0, .ref a0), (1, .int p1)]) hx hb dX8_comesToIn2_6 rfl hl (by decide) rfl (fun ls hl => ?_)
  refine lv_iconst (v := (0 : Int32)) hx hb dX8_comesToIn2_7 (by decide) ?_
  refine lv_istore (lv' := [(4, .int (0 : Int32)), (3, .int (md_houses S)), (2, .int (0 : Int32)), (0, .ref a0), (1, .int p1)]) hx hb dX8_comesToIn2_8 hl (by decide) rfl (fun ls hl => ?_)
  exact hL10 p1 (md_houses S) FU (0 : Int32) (0 : Int32) S H locs ls hf (lv_sub hl [3, 4, 2, 1, 0] rfl) hh
theorem hdX8_more : yX8_more.cls ≠ "java/lang/invoke/MethodHandle" ∧ yX8_more.cls ≠ "java/lang/invoke/VarHandle" ∧ (parseMethodDescriptor yX8_more.desc).map (fun d => d.parameters.length) = some 1 := by decide +kernel
set_option maxHeartbeats 4000000 in
set_option maxRecDepth 100000 in
theorem kX8_more (l : Launch) (K : zK) (a0 a1 a2 a3 a4 a5 a6 a7 a8 a9 a10 a11 a12 a13 a14 a15 a16 a17 a18 a19 : Nat) (S : zMd) (p1 : Int32) (R : Int32 × zMd) (hf : fX8_more S p1 = some R) : zC l yX8_more wsX8_more ({ frames := 6, cells := 0, slots := 0, locals := 137 } : Room) K [.ref a0, .int p1] (cMd K a0 a1 a2 a3 a4 a5 a6 a7 a8 a9 a10 a11 a12 a13 a14 a15 a16 a17 a18 a19 S) (some (.int R.1)) (cMd K a0 a1 a2 a3 a4 a5 a6 a7 a8 a9 a10 a11 a12 a13 a14 a15 a16 a17 a18 a19 R.2) := by
  refine zC_i R.1 (cc := cX8_more) (maxL := 3) (by decide +kernel) rfl (Nat.le_of_ble_eq_true rfl) rfl rfl ?_
  intro p e s m below meth c Q A X hret ls hl hh
  have X : zX p m c cX8_more 3 s ([.ref a0, .int p1] : List Value).toArray wsX8_more RX8 K A := X
  have hx := X.1.1
  have hb := X.1.2.1
  have hr2 : ∀ (pc : Nat) (ls : Array Slot) (H : Heap) (locs : List Loc) (v : Int32) (S : zMd), some (v, S) = some R → decode cX8_more pc = .ok (.ireturn, 1) → zW K A s H locs (cMd K a0 a1 a2 a3 a4 a5 a6 a7 a8 a9 a10 a11 a12 a13 a14 a15 a16 a17 a18 a19 S) → W p l e ({ frames := 6, cells := 0, slots := 0, locals := 137 } : Room) s m ([.ref a0, .int p1] : List Value).toArray below meth c H locs 0 0 Q (F0 m pc ls [.int v]) := by
    intro pc ls H locs v S h hd hh
    cases h; exact hret pc ls H locs _ rfl hd hh
  have hl : lv_has ls 3 [(0, .ref a0), (1, .int p1)] := hl
  unfold fX8_more at hf
  refine (fun (hmain : ∀ (H : Heap) (locs : List Loc), zW K A s H locs (cMd K a0 a1 a2 a3 a4 a5 a6 a7 a8 a9 a10 a11 a12 a13 a14 a15 a16 a17 a18 a19 S) → W p l e ({ frames := 6, cells := 0, slots := 0, locals := 137 } : Room) s m ([.ref a0, .int p1] : List Value).toArray below meth c H locs 0 0 Q (F0 m 0 ls [])) => hmain s.heap [] hh) (fun H locs hh => ?_)
  refine lv_iload_n hx hb dX8_more_0 rfl (lv_at hl 1 rfl) ?_
  refine lv_iconst (v := (1 : Int32)) hx hb dX8_more_1 (by decide) ?_
  refine lv_sipush (v := (300 : Int32)) hx hb dX8_more_2 (by decide) ?_
  refine zcallS (As := [.int p1, .int (1 : Int32), .int (300 : Int32)]) (rest := []) (wr := cMd K a0 a1 a2 a3 a4 a5 a6 a7 a8 a9 a10 a11 a12 a13 a14 a15 a16 a17 a18 a19 S) (ws' := cMd K a0 a1 a2 a3 a4 a5 a6 a7 a8 a9 a10 a11 a12 a13 a14 a15 a16 a17 a18 a19 S) (ov := some (.int (fX8_bound p1 (1 : Int32) (300 : Int32)))) X hh hl (kX8_bound l K p1 (1 : Int32) (300 : Int32) (fX8_bound p1 (1 : Int32) (300 : Int32)) rfl) (fun ht => va_cwS 3 ht gX8_more_X8_bound rfl rfl rfl hdX8_bound ⟨Nat.le_of_ble_eq_true rfl, Nat.le_of_ble_eq_true rfl⟩) [] [0, 1, 2, 3, 4, 5, 6, 7, 8, 9, 10, 11, 12, 13, 14, 15, 16, 17, 18, 19] [0, 1, 2, 3, 4, 5, 6, 7, 8, 9, 10, 11, 12, 13, 14, 15, 16, 17, 18, 19] rfl rfl rfl rfl (by decide) rfl rfl rfl rfl (Nat.le_of_ble_eq_true rfl) dX8_more_5 ⟨Nat.zero_le _, Nat.zero_le _⟩ (fun H locs hh => ?_)
  refine lv_istore_n (lv' := [(2, .int (fX8_bound p1 (1 : Int32) (300 : Int32))), (0, .ref a0), (1, .int p1)]) hx hb dX8_more_8 rfl hl (by decide) rfl (fun ls hl => ?_)
  refine lv_iload_n hx hb dX8_more_9 rfl (lv_at hl 0 rfl) ?_
  refine lv_if_eq (tgt := 19) hx hb dX8_more_10 (by decide) (fun c2 => ?_) (fun c2 => ?_)
  · replace hf := (if_pos c2).symm.trans hf
    refine lv_aload_n hx hb dX8_more_19 rfl (lv_at hl 1 rfl) ?_
    refine lv_iload_n hx hb dX8_more_20 rfl (lv_at hl 2 rfl) ?_
    obtain ⟨u3, hu3, hf⟩ := ob_bind hf
    refine zcallV (ci := 7) (q0 := 0) (As := [.int p1]) (rest := []) (wr := []) (ws' := cMd K a0 a1 a2 a3 a4 a5 a6 a7 a8 a9 a10 a11 a12 a13 a14 a15 a16 a17 a18 a19 S) (ov := some (.int u3)) X hh hl (kX8_isThere l K a0 a1 a2 a3 a4 a5 a6 a7 a8 a9 a10 a11 a12 a13 a14 a15 a16 a17 a18 a19 S p1 u3 hu3) (fun ht => cwV 1 ht gX8_more_X8_isThere rfl rfl rfl ⟨rfl, hdX8_isThere⟩ ⟨Nat.le_of_ble_eq_true rfl, Nat.le_of_ble_eq_true rfl⟩) [0, 1, 2, 3, 4, 5, 6, 7, 8, 9, 10, 11, 12, 13, 14, 15, 16, 17, 18, 19] [] [0, 1, 2, 3, 4, 5, 6, 7, 8, 9, 10, 11, 12, 13, 14, 15, 16, 17, 18, 19] rfl rfl rfl rfl (by decide) rfl rfl rfl rfl rfl rfl (Nat.le_of_ble_eq_true rfl) dX8_more_21 ⟨Nat.zero_le _, Nat.zero_le _⟩ (fun H locs hh => ?_)
    refine lv_if_eq (tgt := 29) hx hb dX8_more_24 (by decide) (fun c4 => ?_) (fun c4 => ?_)
    · replace hf := (if_pos c4).symm.trans hf
      refine lv_aload_n hx hb dX8_more_29 rfl (lv_at hl 1 rfl) ?_
      refine lv_iload_n hx hb dX8_more_30 rfl (lv_at hl 2 rfl) ?_
      obtain ⟨u5, hu5, hf⟩ := ob_bind hf
      refine zcallV (ci := 7) (q0 := 0) (As := [.int p1]) (rest := []) (wr := []) (ws' := cMd K a0 a1 a2 a3 a4 a5 a6 a7 a8 a9 a10 a11 a12 a13 a14 a15 a16 a17 a18 a19 S) (ov := some (.int u5)) X hh hl (kX8_comesToIn1 l K a0 a1 a2 a3 a4 a5 a6 a7 a8 a9 a10 a11 a12 a13 a14 a15 a16 a17 a18 a19 S p1 u5 hu5) (fun ht => cwV 1 ht gX8_more_X8_comesToIn1 rfl rfl rfl ⟨rfl, hdX8_comesToIn1⟩ ⟨Nat.le_of_ble_eq_true rfl, Nat.le_of_ble_eq_true rfl⟩) [0, 1, 2, 3, 4, 5, 6, 7, 8, 9, 10, 11, 12, 13, 14, 15, 16, 17, 18, 19] [] [0, 1, 2, 3, 4, 5, 6, 7, 8, 9, 10, 11, 12, 13, 14, 15, 16, 17, 18, 19] rfl rfl rfl rfl (by decide) rfl rfl rfl rfl rfl rfl (Nat.le_of_ble_eq_true rfl) dX8_more_31 ⟨Nat.zero_le _, Nat.zero_le _⟩ (fun H locs hh => ?_)
      refine lv_if_eq (tgt := 41) hx hb dX8_more_34 (by decide) (fun c6 => ?_) (fun c6 => ?_)
      · replace hf := (if_pos c6).symm.trans hf
        refine lv_aload_n hx hb dX8_more_41 rfl (lv_at hl 1 rfl) ?_
        refine lv_iload_n hx hb dX8_more_42 rfl (lv_at hl 2 rfl) ?_
        obtain ⟨u7, hu7, hf⟩ := ob_bind hf
        refine zcallV (ci := 7) (q0 := 0) (As := [.int p1]) (rest := []) (wr := []) (ws' := cMd K a0 a1 a2 a3 a4 a5 a6 a7 a8 a9 a10 a11 a12 a13 a14 a15 a16 a17 a18 a19 u7.2) (ov := some (.int u7.1)) X hh hl (kX8_comesToIn2 l K a0 a1 a2 a3 a4 a5 a6 a7 a8 a9 a10 a11 a12 a13 a14 a15 a16 a17 a18 a19 S p1 u7 hu7) (fun ht => cwV 1 ht gX8_more_X8_comesToIn2 rfl rfl rfl ⟨rfl, hdX8_comesToIn2⟩ ⟨Nat.le_of_ble_eq_true rfl, Nat.le_of_ble_eq_true rfl⟩) [0, 1, 2, 3, 4, 5, 6, 7, 8, 9, 10, 11, 12, 13, 14, 15, 16, 17, 18, 19] [] [0, 1, 2, 3, 4, 5, 6, 7, 8, 9, 10, 11, 12, 13, 14, 15, 16, 17, 18, 19] rfl rfl rfl rfl (by decide) rfl rfl rfl rfl rfl rfl (Nat.le_of_ble_eq_true rfl) dX8_more_43 ⟨Nat.zero_le _, Nat.zero_le _⟩ (fun H locs hh => ?_)
        refine lv_if_eq (tgt := 53) hx hb dX8_more_46 (by decide) (fun c8 => ?_) (fun c8 => ?_)
        · replace hf := (if_pos c8).symm.trans hf
          refine lv_bipush (v := (-9 : Int32)) hx hb dX8_more_53 (by decide) ?_
          exact hr2 55 ls H locs (-9 : Int32) u7.2 hf dX8_more_55 hh
        · replace hf := (if_neg c8).symm.trans hf
          refine lv_iconst (v := (2 : Int32)) hx hb dX8_more_49 (by decide) ?_
          refine lv_goto (tgt := 55) hx hb dX8_more_50 (by decide) ?_
          exact hr2 55 ls H locs (2 : Int32) u7.2 hf dX8_more_55 hh
      · replace hf := (if_neg c6).symm.trans hf
        refine lv_iconst (v := (1 : Int32)) hx hb dX8_more_37 (by decide) ?_
        refine lv_goto (tgt := 55) hx hb dX8_more_38 (by decide) ?_
        exact hr2 55 ls H locs (1 : Int32) S hf dX8_more_55 hh
    · replace hf := (if_neg c4).symm.trans hf
      refine lv_iconst (v := (0 : Int32)) hx hb dX8_more_27 (by decide) ?_
      exact hr2 28 ls H locs (0 : Int32) S hf dX8_more_28 hh
  · replace hf := (if_neg c2).symm.trans hf
    refine lv_aload_n hx hb dX8_more_13 rfl (lv_at hl 1 rfl) ?_
    refine lv_iload_n hx hb dX8_more_14 rfl (lv_at hl 0 rfl) ?_
    obtain ⟨u9, hu9, hf⟩ := ob_bind hf
    refine zcallV (ci := 7) (q0 := 0) (As := [.int (fX8_bound p1 (1 : Int32) (300 : Int32))]) (rest := []) (wr := []) (ws' := cMd K a0 a1 a2 a3 a4 a5 a6 a7 a8 a9 a10 a11 a12 a13 a14 a15 a16 a17 a18 a19 u9.2) (ov := some (.int u9.1)) X hh hl (kX8_no l K a0 a1 a2 a3 a4 a5 a6 a7 a8 a9 a10 a11 a12 a13 a14 a15 a16 a17 a18 a19 S (fX8_bound p1 (1 : Int32) (300 : Int32)) u9 hu9) (fun ht => cwV 1 ht gX8_more_X8_no rfl rfl rfl ⟨rfl, hdX8_no⟩ ⟨Nat.le_of_ble_eq_true rfl, Nat.le_of_ble_eq_true rfl⟩) [0, 1, 2, 3, 4, 5, 6, 7, 8, 9, 10, 11, 12, 13, 14, 15, 16, 17, 18, 19] [] [0, 1, 2, 3, 4, 5, 6, 7, 8, 9, 10, 11, 12, 13, 14, 15, 16, 17, 18, 19] rfl rfl rfl rfl (by decide) rfl rfl rfl rfl rfl rfl (Nat.le_of_ble_eq_true rfl) dX8_more_15 ⟨Nat.zero_le _, Nat.zero_le _⟩ (fun H locs hh => ?_)
    exact hr2 18 ls H locs u9.1 u9.2 hf dX8_more_18 hh
theorem inX8_needs_X8 : ∀ w ∈ wsX80, w ∈ wsX8_needs := by decide +kernel
theorem mmX8_needs_0 : Cond.fieldLink RX8 22 "SumOfTwoThatStandModel" "one" "[I" ∈ wsX8_needs := by decide +kernel
theorem mmX8_needs_1 : Cond.fieldLink RX8 25 "SumOfTwoThatStandModel" "other" "[I" ∈ wsX8_needs := by decide +kernel
theorem hdX8_needs : yX8_needs.cls ≠ "java/lang/invoke/MethodHandle" ∧ yX8_needs.cls ≠ "java/lang/invoke/VarHandle" ∧ (parseMethodDescriptor yX8_needs.desc).map (fun d => d.parameters.length) = some 1 := by decide +kernel
set_option maxHeartbeats 4000000 in
set_option maxRecDepth 100000 in
theorem kX8_needs (l : Launch) (K : zK) (a0 a1 a2 a3 a4 a5 a6 a7 a8 a9 a10 a11 a12 a13 a14 a15 a16 a17 a18 a19 : Nat) (S : zMd) (p1 : Int32) (R : Int32) (hf : fX8_needs S p1 = some R) : zC l yX8_needs wsX8_needs ({ frames := 1, cells := 0, slots := 0, locals := 22 } : Room) K [.ref a0, .int p1] (cMd K a0 a1 a2 a3 a4 a5 a6 a7 a8 a9 a10 a11 a12 a13 a14 a15 a16 a17 a18 a19 S) (some (.int R)) (cMd K a0 a1 a2 a3 a4 a5 a6 a7 a8 a9 a10 a11 a12 a13 a14 a15 a16 a17 a18 a19 S) := by
  refine zC_i R (cc := cX8_needs) (maxL := 3) (by decide +kernel) rfl (Nat.le_of_ble_eq_true rfl) rfl rfl ?_
  intro p e s m below meth c Q A X hret ls hl hh
  have X : zX p m c cX8_needs 3 s ([.ref a0, .int p1] : List Value).toArray wsX8_needs RX8 K A := X
  have hx := X.1.1
  have hb := X.1.2.1
  have hr2 : ∀ (pc : Nat) (ls : Array Slot) (H : Heap) (locs : List Loc) (v : Int32), some v = some R → decode cX8_needs pc = .ok (.ireturn, 1) → zW K A s H locs (cMd K a0 a1 a2 a3 a4 a5 a6 a7 a8 a9 a10 a11 a12 a13 a14 a15 a16 a17 a18 a19 S) → W p l e ({ frames := 1, cells := 0, slots := 0, locals := 22 } : Room) s m ([.ref a0, .int p1] : List Value).toArray below meth c H locs 0 0 Q (F0 m pc ls [.int v]) := by
    intro pc ls H locs v h hd hh
    cases h; exact hret pc ls H locs _ rfl hd hh
  have hl : lv_has ls 3 [(0, .ref a0), (1, .int p1)] := hl
  have hJ31 : ∀ (v2 : Int32), ∀ (H : Heap) (locs : List Loc) (ls : Array Slot), fX8_needs_j31 S v2 = some R → lv_has ls 3 [(0, .ref a0), (2, .int v2)] → zW K A s H locs (cMd K a0 a1 a2 a3 a4 a5 a6 a7 a8 a9 a10 a11 a12 a13 a14 a15 a16 a17 a18 a19 S) → W p l e ({ frames := 1, cells := 0, slots := 0, locals := 22 } : Room) s m ([.ref a0, .int p1] : List Value).toArray below meth c H locs 0 0 Q (F0 m 31 ls []) := by
    intro v2 H locs ls hf hl hh
    unfold fX8_needs_j31 at hf
    refine lv_iload_n hx hb dX8_needs_31 rfl (lv_at hl 1 rfl) ?_
    refine lv_aload_n hx hb dX8_needs_32 rfl (lv_at hl 0 rfl) ?_
    obtain ⟨u1, hu1, hf⟩ := ob_bind hf
    refine zcallV (ci := 7) (q0 := 0) (As := []) (rest := [.int v2]) (wr := []) (ws' := cMd K a0 a1 a2 a3 a4 a5 a6 a7 a8 a9 a10 a11 a12 a13 a14 a15 a16 a17 a18 a19 S) (ov := some (.int u1)) X hh hl (kX8_standing l K a0 a1 a2 a3 a4 a5 a6 a7 a8 a9 a10 a11 a12 a13 a14 a15 a16 a17 a18 a19 S u1 hu1) (fun ht => cwV 0 ht gX8_needs_X8_standing rfl rfl rfl ⟨rfl, hdX8_standing⟩ ⟨Nat.le_of_ble_eq_true rfl, Nat.le_of_ble_eq_true rfl⟩) [0, 1, 2, 3, 4, 5, 6, 7, 8, 9, 10, 11, 12, 13, 14, 15, 16, 17, 18, 19] [] [0, 1, 2, 3, 4, 5, 6, 7, 8, 9, 10, 11, 12, 13, 14, 15, 16, 17, 18, 19] rfl rfl rfl rfl (by decide) rfl rfl rfl rfl rfl rfl (Nat.le_of_ble_eq_true rfl) dX8_needs_33 ⟨Nat.zero_le _, Nat.zero_le _⟩ (fun H locs hh => ?_)
    refine lv_iand hx hb dX8_needs_36 ?_
    exact hr2 37 ls H locs (v2 &&& u1) hf dX8_needs_37 hh
  unfold fX8_needs at hf
  refine (fun (hmain : ∀ (H : Heap) (locs : List Loc), zW K A s H locs (cMd K a0 a1 a2 a3 a4 a5 a6 a7 a8 a9 a10 a11 a12 a13 a14 a15 a16 a17 a18 a19 S) → W p l e ({ frames := 1, cells := 0, slots := 0, locals := 22 } : Room) s m ([.ref a0, .int p1] : List Value).toArray below meth c H locs 0 0 Q (F0 m 0 ls [])) => hmain s.heap [] hh) (fun H locs hh => ?_)
  refine lv_iconst (v := (0 : Int32)) hx hb dX8_needs_0 (by decide) ?_
  refine lv_istore_n (lv' := [(2, .int (0 : Int32)), (0, .ref a0), (1, .int p1)]) hx hb dX8_needs_1 rfl hl (by decide) rfl (fun ls hl => ?_)
  refine lv_aload_n hx hb dX8_needs_2 rfl (lv_at hl 1 rfl) ?_
  refine zget (v := .ref a5) (ref := "SumOfTwoThatStandModel") (C := RX8) (T := TX8) (N := 33) (index := 22) X hh inX8_needs_X8 0 rfl rfl 4 (by decide) mmX8_needs_0 rfl rfl dX8_needs_3 ?_
  refine lv_iload_n hx hb dX8_needs_6 rfl (lv_at hl 2 rfl) ?_
  obtain ⟨g2, hf⟩ := ob_ix hf
  refine ziald (f := (md_one S)) X hh 5 rfl g2 dX8_needs_7 ?_
  refine lv_if_lt (tgt := 31) hx hb dX8_needs_8 (by decide) (fun c3 => ?_) (fun c3 => ?_)
  · replace hf := (if_pos c3).symm.trans hf
    exact hJ31 (0 : Int32) H locs ls hf (lv_sub hl [1, 0] rfl) hh
  · replace hf := (if_neg c3).symm.trans hf
    refine lv_iload_n hx hb dX8_needs_11 rfl (lv_at hl 0 rfl) ?_
    refine lv_iconst (v := (1 : Int32)) hx hb dX8_needs_12 (by decide) ?_
    refine lv_aload_n hx hb dX8_needs_13 rfl (lv_at hl 1 rfl) ?_
    refine zget (v := .ref a5) (ref := "SumOfTwoThatStandModel") (C := RX8) (T := TX8) (N := 33) (index := 22) X hh inX8_needs_X8 0 rfl rfl 4 (by decide) mmX8_needs_0 rfl rfl dX8_needs_14 ?_
    refine lv_iload_n hx hb dX8_needs_17 rfl (lv_at hl 2 rfl) ?_
    refine ziald (f := (md_one S)) X hh 5 rfl g2 dX8_needs_18 ?_
    refine lv_ishl hx hb dX8_needs_19 ?_
    refine lv_iconst (v := (1 : Int32)) hx hb dX8_needs_20 (by decide) ?_
    refine lv_aload_n hx hb dX8_needs_21 rfl (lv_at hl 1 rfl) ?_
    refine zget (v := .ref a6) (ref := "SumOfTwoThatStandModel") (C := RX8) (T := TX8) (N := 33) (index := 25) X hh inX8_needs_X8 0 rfl rfl 5 (by decide) mmX8_needs_1 rfl rfl dX8_needs_22 ?_
    refine lv_iload_n hx hb dX8_needs_25 rfl (lv_at hl 2 rfl) ?_
    refine ziald (f := (md_other S)) X hh 6 rfl g2 dX8_needs_26 ?_
    refine lv_ishl hx hb dX8_needs_27 ?_
    refine lv_ior hx hb dX8_needs_28 ?_
    refine lv_ior hx hb dX8_needs_29 ?_
    refine lv_istore_n (lv' := [(2, .int ((0 : Int32) ||| (((1 : Int32) <<< (((md_one S) p1.toNatClampNeg) &&& 31)) ||| ((1 : Int32) <<< (((md_other S) p1.toNatClampNeg) &&& 31))))), (0, .ref a0), (1, .int p1)]) hx hb dX8_needs_30 rfl hl (by decide) rfl (fun ls hl => ?_)
    exact hJ31 ((0 : Int32) ||| (((1 : Int32) <<< (((md_one S) p1.toNatClampNeg) &&& 31)) ||| ((1 : Int32) <<< (((md_other S) p1.toNatClampNeg) &&& 31)))) H locs ls hf (lv_sub hl [1, 0] rfl) hh
theorem inX8_orders_X8 : ∀ w ∈ wsX80, w ∈ wsX8_orders := by decide +kernel
theorem mmX8_orders_0 : Cond.fieldLink RX8 70 "SumOfTwoThatStandModel" "houses" "I" ∈ wsX8_orders := by decide +kernel
theorem mmX8_orders_1 : Cond.fieldLink RX8 58 "SumOfTwoThatStandModel" "ways" "[I" ∈ wsX8_orders := by decide +kernel
theorem hdX8_orders : yX8_orders.cls ≠ "java/lang/invoke/MethodHandle" ∧ yX8_orders.cls ≠ "java/lang/invoke/VarHandle" ∧ (parseMethodDescriptor yX8_orders.desc).map (fun d => d.parameters.length) = some 0 := by decide +kernel
set_option maxHeartbeats 4000000 in
set_option maxRecDepth 100000 in
theorem kX8_orders (l : Launch) (K : zK) (a0 a1 a2 a3 a4 a5 a6 a7 a8 a9 a10 a11 a12 a13 a14 a15 a16 a17 a18 a19 : Nat) (S : zMd) (R : Int32 × zMd) (hf : fX8_orders S = some R) : zC l yX8_orders wsX8_orders ({ frames := 2, cells := 0, slots := 0, locals := 44 } : Room) K [.ref a0] (cMd K a0 a1 a2 a3 a4 a5 a6 a7 a8 a9 a10 a11 a12 a13 a14 a15 a16 a17 a18 a19 S) (some (.int R.1)) (cMd K a0 a1 a2 a3 a4 a5 a6 a7 a8 a9 a10 a11 a12 a13 a14 a15 a16 a17 a18 a19 R.2) := by
  refine zC_i R.1 (cc := cX8_orders) (maxL := 5) (by decide +kernel) rfl (Nat.le_of_ble_eq_true rfl) rfl rfl ?_
  intro p e s m below meth c Q A X hret ls hl hh
  have X : zX p m c cX8_orders 5 s ([.ref a0] : List Value).toArray wsX8_orders RX8 K A := X
  have hx := X.1.1
  have hb := X.1.2.1
  have hr2 : ∀ (pc : Nat) (ls : Array Slot) (H : Heap) (locs : List Loc) (v : Int32) (S : zMd), some (v, S) = some R → decode cX8_orders pc = .ok (.ireturn, 1) → zW K A s H locs (cMd K a0 a1 a2 a3 a4 a5 a6 a7 a8 a9 a10 a11 a12 a13 a14 a15 a16 a17 a18 a19 S) → W p l e ({ frames := 2, cells := 0, slots := 0, locals := 44 } : Room) s m ([.ref a0] : List Value).toArray below meth c H locs 0 0 Q (F0 m pc ls [.int v]) := by
    intro pc ls H locs v S h hd hh
    cases h; exact hret pc ls H locs _ rfl hd hh
  have hl : lv_has ls 5 [(0, .ref a0)] := hl
  have hL44 : ∀ (v1 : Int32) (v2 : Int32) (k14 : (Int32) → (zMd) → Option (Int32 × zMd)), (∀ (v2 : Int32) (S : zMd) (H : Heap) (locs : List Loc) (ls : Array Slot), k14 v2 S = some R → lv_has ls 5 [(0, .ref a0), (1, .int v1), (2, .int v2)] → zW K A s H locs (cMd K a0 a1 a2 a3 a4 a5 a6 a7 a8 a9 a10 a11 a12 a13 a14 a15 a16 a17 a18 a19 S) → W p l e ({ frames := 2, cells := 0, slots := 0, locals := 44 } : Room) s m ([.ref a0] : List Value).toArray below meth c H locs 0 0 Q (F0 m 14 ls [])) → ∀ (n : Nat) (v3 : Int32) (S : zMd), ∀ (H : Heap) (locs : List Loc) (ls : Array Slot), fX8_orders_l44 v1 v2 k14 n v3 S = some R → lv_has ls 5 [(0, .ref a0), (1, .int v1), (2, .int v2), (3, .int v3)] → zW K A s H locs (cMd K a0 a1 a2 a3 a4 a5 a6 a7 a8 a9 a10 a11 a12 a13 a14 a15 a16 a17 a18 a19 S) → W p l e ({ frames := 2, cells := 0, slots := 0, locals := 44 } : Room) s m ([.ref a0] : List Value).toArray below meth c H locs 0 0 Q (F0 m 44 ls []) := by
    intro v1 v2 k14 hk14 n
    induction n with
    | zero =>
      intro v3 S H locs ls hf hl hh
      rw [fX8_orders_l44] at hf; cases hf
    | succ n ih =>
      intro v3 S H locs ls hf hl hh
      rw [fX8_orders_l44] at hf
      refine lv_iload_n hx hb dX8_orders_44 rfl (lv_at hl 3 rfl) ?_
      refine lv_aload_n hx hb dX8_orders_45 rfl (lv_at hl 0 rfl) ?_
      refine zget (v := .int (md_houses S)) (ref := "SumOfTwoThatStandModel") (C := RX8) (T := TX8) (N := 33) (index := 70) X hh inX8_orders_X8 0 rfl rfl 9 (by decide) mmX8_orders_0 rfl rfl dX8_orders_46 ?_
      refine lv_icmp_ge (tgt := 104) hx hb dX8_orders_49 (by decide) (fun c1 => ?_) (fun c1 => ?_)
      · replace hf := (if_pos c1).symm.trans hf
        refine lv_iinc (v := (v2 + (1 : Int32))) (lv' := [(2, .int (v2 + (1 : Int32))), (0, .ref a0), (1, .int v1), (3, .int v3)]) hx hb dX8_orders_104 hl (k := 2) rfl rfl (by decide) rfl (fun ls hl => ?_)
        refine lv_goto (tgt := 14) hx hb dX8_orders_107 (by decide) ?_
        exact hk14 (v2 + (1 : Int32)) S H locs ls hf (lv_sub hl [1, 2, 0] rfl) hh
      · replace hf := (if_neg c1).symm.trans hf
        refine lv_iload_n hx hb dX8_orders_52 rfl (lv_at hl 2 rfl) ?_
        refine lv_iconst (v := (1 : Int32)) hx hb dX8_orders_53 (by decide) ?_
        refine lv_iload_n hx hb dX8_orders_54 rfl (lv_at hl 3 rfl) ?_
        refine lv_ishl hx hb dX8_orders_55 ?_
        refine lv_iconst (v := (-1 : Int32)) hx hb dX8_orders_56 (by decide) ?_
        refine lv_ixor hx hb dX8_orders_57 ?_
        refine lv_iand hx hb dX8_orders_58 ?_
        refine lv_istore (lv' := [(4, .int (v2 &&& (((1 : Int32) <<< (v3 &&& 31)) ^^^ (-1 : Int32)))), (0, .ref a0), (1, .int v1), (2, .int v2), (3, .int v3)]) hx hb dX8_orders_59 hl (by decide) rfl (fun ls hl => ?_)
        refine lv_iload_n hx hb dX8_orders_61 rfl (lv_at hl 3 rfl) ?_
        refine lv_iload_n hx hb dX8_orders_62 rfl (lv_at hl 4 rfl) ?_
        refine zcallS (As := [.int v2, .int v3]) (rest := []) (wr := cMd K a0 a1 a2 a3 a4 a5 a6 a7 a8 a9 a10 a11 a12 a13 a14 a15 a16 a17 a18 a19 S) (ws' := cMd K a0 a1 a2 a3 a4 a5 a6 a7 a8 a9 a10 a11 a12 a13 a14 a15 a16 a17 a18 a19 S) (ov := some (.int (fX8_has v2 v3))) X hh hl (kX8_has l K v2 v3 (fX8_has v2 v3) rfl) (fun ht => va_cwS 2 ht gX8_orders_X8_has rfl rfl rfl hdX8_has ⟨Nat.le_of_ble_eq_true rfl, Nat.le_of_ble_eq_true rfl⟩) [] [0, 1, 2, 3, 4, 5, 6, 7, 8, 9, 10, 11, 12, 13, 14, 15, 16, 17, 18, 19] [0, 1, 2, 3, 4, 5, 6, 7, 8, 9, 10, 11, 12, 13, 14, 15, 16, 17, 18, 19] rfl rfl rfl rfl (by decide) rfl rfl rfl rfl (Nat.le_of_ble_eq_true rfl) dX8_orders_63 ⟨Nat.zero_le _, Nat.zero_le _⟩ (fun H locs hh => ?_)
        refine lv_if_eq (tgt := 98) hx hb dX8_orders_66 (by decide) (fun c3 => ?_) (fun c3 => ?_)
        · replace hf := (if_pos c3).symm.trans hf
          refine lv_iinc (v := (v3 + (1 : Int32))) (lv' := [(3, .int (v3 + (1 : Int32))), (4, .int (v2 &&& (((1 : Int32) <<< (v3 &&& 31)) ^^^ (-1 : Int32)))), (0, .ref a0), (1, .int v1), (2, .int v2)]) hx hb dX8_orders_98 hl (k := 4) rfl rfl (by decide) rfl (fun ls hl => ?_)
          refine lv_goto (tgt := 44) hx hb dX8_orders_101 (by decide) ?_
          exact ih (v3 + (1 : Int32)) S H locs ls hf (lv_sub hl [2, 3, 4, 0] rfl) hh
        · replace hf := (if_neg c3).symm.trans hf
          refine lv_aload_n hx hb dX8_orders_69 rfl (lv_at hl 1 rfl) ?_
          refine lv_iload_n hx hb dX8_orders_70 rfl (lv_at hl 4 rfl) ?_
          obtain ⟨u4, hu4, hf⟩ := ob_bind hf
          refine zcallV (ci := 7) (q0 := 0) (As := [.int v3]) (rest := []) (wr := []) (ws' := cMd K a0 a1 a2 a3 a4 a5 a6 a7 a8 a9 a10 a11 a12 a13 a14 a15 a16 a17 a18 a19 S) (ov := some (.int u4)) X hh hl (kX8_needs l K a0 a1 a2 a3 a4 a5 a6 a7 a8 a9 a10 a11 a12 a13 a14 a15 a16 a17 a18 a19 S v3 u4 hu4) (fun ht => cwV 1 ht gX8_orders_X8_needs rfl rfl rfl ⟨rfl, hdX8_needs⟩ ⟨Nat.le_of_ble_eq_true rfl, Nat.le_of_ble_eq_true rfl⟩) [0, 1, 2, 3, 4, 5, 6, 7, 8, 9, 10, 11, 12, 13, 14, 15, 16, 17, 18, 19] [] [0, 1, 2, 3, 4, 5, 6, 7, 8, 9, 10, 11, 12, 13, 14, 15, 16, 17, 18, 19] rfl rfl rfl rfl (by decide) rfl rfl rfl rfl rfl rfl (Nat.le_of_ble_eq_true rfl) dX8_orders_71 ⟨Nat.zero_le _, Nat.zero_le _⟩ (fun H locs hh => ?_)
          refine lv_iload hx hb dX8_orders_74 (lv_at hl 0 rfl) ?_
          refine lv_iconst (v := (-1 : Int32)) hx hb dX8_orders_76 (by decide) ?_
          refine lv_ixor hx hb dX8_orders_77 ?_
          refine lv_iand hx hb dX8_orders_78 ?_
          refine lv_if_ne (tgt := 98) hx hb dX8_orders_79 (by decide) (fun c5 => ?_) (fun c5 => ?_)
          · replace hf := (if_neg c5).symm.trans hf
            refine lv_iinc (v := (v3 + (1 : Int32))) (lv' := [(3, .int (v3 + (1 : Int32))), (4, .int (v2 &&& (((1 : Int32) <<< (v3 &&& 31)) ^^^ (-1 : Int32)))), (0, .ref a0), (1, .int v1), (2, .int v2)]) hx hb dX8_orders_98 hl (k := 4) rfl rfl (by decide) rfl (fun ls hl => ?_)
            refine lv_goto (tgt := 44) hx hb dX8_orders_101 (by decide) ?_
            exact ih (v3 + (1 : Int32)) S H locs ls hf (lv_sub hl [2, 3, 4, 0] rfl) hh
          · replace hf := (if_pos c5).symm.trans hf
            refine lv_aload_n hx hb dX8_orders_82 rfl (lv_at hl 1 rfl) ?_
            refine zget (v := .ref a17) (ref := "SumOfTwoThatStandModel") (C := RX8) (T := TX8) (N := 33) (index := 58) X hh inX8_orders_X8 0 rfl rfl 28 (by decide) mmX8_orders_1 rfl rfl dX8_orders_83 ?_
            refine lv_iload_n hx hb dX8_orders_86 rfl (lv_at hl 3 rfl) ?_
            refine lv_dup2_11 hx hb dX8_orders_87 rfl rfl ?_
            obtain ⟨g6, hf⟩ := ob_ix hf
            refine ziald (f := (md_ways S)) X hh 17 rfl g6 dX8_orders_88 ?_
            refine lv_aload_n hx hb dX8_orders_89 rfl (lv_at hl 1 rfl) ?_
            refine zget (v := .ref a17) (ref := "SumOfTwoThatStandModel") (C := RX8) (T := TX8) (N := 33) (index := 58) X hh inX8_orders_X8 0 rfl rfl 28 (by decide) mmX8_orders_1 rfl rfl dX8_orders_90 ?_
            refine lv_iload hx hb dX8_orders_93 (lv_at hl 0 rfl) ?_
            obtain ⟨g7, hf⟩ := ob_ix hf
            refine ziald (f := (md_ways S)) X hh 17 rfl g7 dX8_orders_95 ?_
            refine lv_iadd hx hb dX8_orders_96 ?_
            refine ziast (f := (md_ways S)) X hh 17 rfl g6 dX8_orders_97 (fun H locs hh => ?_)
            have hh := hh.to (sMd_ways K a0 a1 a2 a3 a4 a5 a6 a7 a8 a9 a10 a11 a12 a13 a14 a15 a16 a17 a18 a19 S (upd (md_ways S) v2.toNatClampNeg (((md_ways S) v2.toNatClampNeg) + ((md_ways S) (v2 &&& (((1 : Int32) <<< (v3 &&& 31)) ^^^ (-1 : Int32))).toNatClampNeg))))
            refine lv_iinc (v := (v3 + (1 : Int32))) (lv' := [(3, .int (v3 + (1 : Int32))), (4, .int (v2 &&& (((1 : Int32) <<< (v3 &&& 31)) ^^^ (-1 : Int32)))), (0, .ref a0), (1, .int v1), (2, .int v2)]) hx hb dX8_orders_98 hl (k := 4) rfl rfl (by decide) rfl (fun ls hl => ?_)
            refine lv_goto (tgt := 44) hx hb dX8_orders_101 (by decide) ?_
            exact ih (v3 + (1 : Int32)) (md_set_ways S (upd (md_ways S) v2.toNatClampNeg (((md_ways S) v2.toNatClampNeg) + ((md_ways S) (v2 &&& (((1 : Int32) <<< (v3 &&& 31)) ^^^ (-1 : Int32))).toNatClampNeg)))) H locs ls hf (lv_sub hl [2, 3, 4, 0] rfl) hh
  have hL14 : ∀ (v1 : Int32), ∀ (n : Nat) (v2 : Int32) (S : zMd), ∀ (H : Heap) (locs : List Loc) (ls : Array Slot), fX8_orders_l14 v1 n v2 S = some R → lv_has ls 5 [(0, .ref a0), (1, .int v1), (2, .int v2)] → zW K A s H locs (cMd K a0 a1 a2 a3 a4 a5 a6 a7 a8 a9 a10 a11 a12 a13 a14 a15 a16 a17 a18 a19 S) → W p l e ({ frames := 2, cells := 0, slots := 0, locals := 44 } : Room) s m ([.ref a0] : List Value).toArray below meth c H locs 0 0 Q (F0 m 14 ls []) := by
    intro v1 n
    induction n with
    | zero =>
      intro v2 S H locs ls hf hl hh
      rw [fX8_orders_l14] at hf; cases hf
    | succ n ih =>
      intro v2 S H locs ls hf hl hh
      rw [fX8_orders_l14] at hf
      refine lv_iload_n hx hb dX8_orders_14 rfl (lv_at hl 2 rfl) ?_
      refine lv_iconst (v := (1 : Int32)) hx hb dX8_orders_15 (by decide) ?_
      refine lv_aload_n hx hb dX8_orders_16 rfl (lv_at hl 0 rfl) ?_
      refine zget (v := .int (md_houses S)) (ref := "SumOfTwoThatStandModel") (C := RX8) (T := TX8) (N := 33) (index := 70) X hh inX8_orders_X8 0 rfl rfl 9 (by decide) mmX8_orders_0 rfl rfl dX8_orders_17 ?_
      refine lv_ishl hx hb dX8_orders_20 ?_
      refine lv_icmp_ge (tgt := 110) hx hb dX8_orders_21 (by decide) (fun c8 => ?_) (fun c8 => ?_)
      · replace hf := (if_pos c8).symm.trans hf
        refine lv_aload_n hx hb dX8_orders_110 rfl (lv_at hl 0 rfl) ?_
        refine zget (v := .ref a17) (ref := "SumOfTwoThatStandModel") (C := RX8) (T := TX8) (N := 33) (index := 58) X hh inX8_orders_X8 0 rfl rfl 28 (by decide) mmX8_orders_1 rfl rfl dX8_orders_111 ?_
        refine lv_iload_n hx hb dX8_orders_114 rfl (lv_at hl 1 rfl) ?_
        obtain ⟨g9, hf⟩ := ob_ix hf
        refine ziald (f := (md_ways S)) X hh 17 rfl g9 dX8_orders_115 ?_
        exact hr2 116 ls H locs ((md_ways S) v1.toNatClampNeg) S hf dX8_orders_116 hh
      · replace hf := (if_neg c8).symm.trans hf
        refine lv_aload_n hx hb dX8_orders_24 rfl (lv_at hl 0 rfl) ?_
        refine zget (v := .ref a17) (ref := "SumOfTwoThatStandModel") (C := RX8) (T := TX8) (N := 33) (index := 58) X hh inX8_orders_X8 0 rfl rfl 28 (by decide) mmX8_orders_1 rfl rfl dX8_orders_25 ?_
        refine lv_iload_n hx hb dX8_orders_28 rfl (lv_at hl 2 rfl) ?_
        refine lv_iconst (v := (0 : Int32)) hx hb dX8_orders_29 (by decide) ?_
        obtain ⟨g10, hf⟩ := ob_ix hf
        refine ziast (f := (md_ways S)) X hh 17 rfl g10 dX8_orders_30 (fun H locs hh => ?_)
        have hh := hh.to (sMd_ways K a0 a1 a2 a3 a4 a5 a6 a7 a8 a9 a10 a11 a12 a13 a14 a15 a16 a17 a18 a19 S (upd (md_ways S) v2.toNatClampNeg (0 : Int32)))
        refine lv_iload_n hx hb dX8_orders_31 rfl (lv_at hl 2 rfl) ?_
        refine lv_iload_n hx hb dX8_orders_32 rfl (lv_at hl 1 rfl) ?_
        refine lv_iconst (v := (-1 : Int32)) hx hb dX8_orders_33 (by decide) ?_
        refine lv_ixor hx hb dX8_orders_34 ?_
        refine lv_iand hx hb dX8_orders_35 ?_
        refine lv_if_eq (tgt := 42) hx hb dX8_orders_36 (by decide) (fun c11 => ?_) (fun c11 => ?_)
        · replace hf := (if_pos c11).symm.trans hf
          refine lv_iconst (v := (0 : Int32)) hx hb dX8_orders_42 (by decide) ?_
          refine lv_istore_n (lv' := [(3, .int (0 : Int32)), (0, .ref a0), (1, .int v1), (2, .int v2)]) hx hb dX8_orders_43 rfl hl (by decide) rfl (fun ls hl => ?_)
          exact hL44 v1 v2 (fX8_orders_l14 v1 n) (ih) FU (0 : Int32) (md_set_ways S (upd (md_ways S) v2.toNatClampNeg (0 : Int32))) H locs ls hf (lv_sub hl [1, 2, 3, 0] rfl) hh
        · replace hf := (if_neg c11).symm.trans hf
          refine lv_goto (tgt := 104) hx hb dX8_orders_39 (by decide) ?_
          refine lv_iinc (v := (v2 + (1 : Int32))) (lv' := [(2, .int (v2 + (1 : Int32))), (0, .ref a0), (1, .int v1)]) hx hb dX8_orders_104 hl (k := 2) rfl rfl (by decide) rfl (fun ls hl => ?_)
          refine lv_goto (tgt := 14) hx hb dX8_orders_107 (by decide) ?_
          exact ih (v2 + (1 : Int32)) (md_set_ways S (upd (md_ways S) v2.toNatClampNeg (0 : Int32))) H locs ls hf (lv_sub hl [1, 2, 0] rfl) hh
  unfold fX8_orders at hf
  refine (fun (hmain : ∀ (H : Heap) (locs : List Loc), zW K A s H locs (cMd K a0 a1 a2 a3 a4 a5 a6 a7 a8 a9 a10 a11 a12 a13 a14 a15 a16 a17 a18 a19 S) → W p l e ({ frames := 2, cells := 0, slots := 0, locals := 44 } : Room) s m ([.ref a0] : List Value).toArray below meth c H locs 0 0 Q (F0 m 0 ls [])) => hmain s.heap [] hh) (fun H locs hh => ?_)
  refine lv_aload_n hx hb dX8_orders_0 rfl (lv_at hl 0 rfl) ?_
  obtain ⟨u12, hu12, hf⟩ := ob_bind hf
  refine zcallV (ci := 7) (q0 := 0) (As := []) (rest := []) (wr := []) (ws' := cMd K a0 a1 a2 a3 a4 a5 a6 a7 a8 a9 a10 a11 a12 a13 a14 a15 a16 a17 a18 a19 S) (ov := some (.int u12)) X hh hl (kX8_standing l K a0 a1 a2 a3 a4 a5 a6 a7 a8 a9 a10 a11 a12 a13 a14 a15 a16 a17 a18 a19 S u12 hu12) (fun ht => cwV 0 ht gX8_orders_X8_standing rfl rfl rfl ⟨rfl, hdX8_standing⟩ ⟨Nat.le_of_ble_eq_true rfl, Nat.le_of_ble_eq_true rfl⟩) [0, 1, 2, 3, 4, 5, 6, 7, 8, 9, 10, 11, 12, 13, 14, 15, 16, 17, 18, 19] [] [0, 1, 2, 3, 4, 5, 6, 7, 8, 9, 10, 11, 12, 13, 14, 15, 16, 17, 18, 19] rfl rfl rfl rfl (by decide) rfl rfl rfl rfl rfl rfl (Nat.le_of_ble_eq_true rfl) dX8_orders_1 ⟨Nat.zero_le _, Nat.zero_le _⟩ (fun H locs hh => ?_)
  refine lv_istore_n (lv' := [(1, .int u12), (0, .ref a0)]) hx hb dX8_orders_4 rfl hl (by decide) rfl (fun ls hl => ?_)
  refine lv_aload_n hx hb dX8_orders_5 rfl (lv_at hl 1 rfl) ?_
  refine zget (v := .ref a17) (ref := "SumOfTwoThatStandModel") (C := RX8) (T := TX8) (N := 33) (index := 58) X hh inX8_orders_X8 0 rfl rfl 28 (by decide) mmX8_orders_1 rfl rfl dX8_orders_6 ?_
  refine lv_iconst (v := (0 : Int32)) hx hb dX8_orders_9 (by decide) ?_
  refine lv_iconst (v := (1 : Int32)) hx hb dX8_orders_10 (by decide) ?_
  obtain ⟨g13, hf⟩ := ob_ix hf
  refine ziast (f := (md_ways S)) X hh 17 rfl g13 dX8_orders_11 (fun H locs hh => ?_)
  have hh := hh.to (sMd_ways K a0 a1 a2 a3 a4 a5 a6 a7 a8 a9 a10 a11 a12 a13 a14 a15 a16 a17 a18 a19 S (upd (md_ways S) (0 : Int32).toNatClampNeg (1 : Int32)))
  refine lv_iconst (v := (1 : Int32)) hx hb dX8_orders_12 (by decide) ?_
  refine lv_istore_n (lv' := [(2, .int (1 : Int32)), (1, .int u12), (0, .ref a0)]) hx hb dX8_orders_13 rfl hl (by decide) rfl (fun ls hl => ?_)
  exact hL14 u12 FU (1 : Int32) (md_set_ways S (upd (md_ways S) (0 : Int32).toNatClampNeg (1 : Int32))) H locs ls hf (lv_sub hl [2, 1, 0] rfl) hh
theorem hdX8_isSumIn : yX8_isSumIn.cls ≠ "java/lang/invoke/MethodHandle" ∧ yX8_isSumIn.cls ≠ "java/lang/invoke/VarHandle" ∧ (parseMethodDescriptor yX8_isSumIn.desc).map (fun d => d.parameters.length) = some 2 := by decide +kernel
set_option maxHeartbeats 4000000 in
set_option maxRecDepth 100000 in
theorem kX8_isSumIn (l : Launch) (K : zK) (a0 a1 a2 a3 a4 a5 a6 a7 a8 a9 a10 a11 a12 a13 a14 a15 a16 a17 a18 a19 : Nat) (S : zMd) (p1 : Int32) (p2 : Int32) (R : Int32) (hf : fX8_isSumIn S p1 p2 = some R) : zC l yX8_isSumIn wsX8_isSumIn ({ frames := 1, cells := 0, slots := 0, locals := 21 } : Room) K [.ref a0, .int p1, .int p2] (cMd K a0 a1 a2 a3 a4 a5 a6 a7 a8 a9 a10 a11 a12 a13 a14 a15 a16 a17 a18 a19 S) (some (.int R)) (cMd K a0 a1 a2 a3 a4 a5 a6 a7 a8 a9 a10 a11 a12 a13 a14 a15 a16 a17 a18 a19 S) := by
  refine zC_z .boolean R (cc := cX8_isSumIn) (maxL := 4) (by decide +kernel) rfl (Nat.le_of_ble_eq_true rfl) rfl rfl ?_
  intro p e s m below meth c Q A X hret ls hl hh
  have X : zX p m c cX8_isSumIn 4 s ([.ref a0, .int p1, .int p2] : List Value).toArray wsX8_isSumIn RX8 K A := X
  have hx := X.1.1
  have hb := X.1.2.1
  have hr2 : ∀ (pc : Nat) (ls : Array Slot) (H : Heap) (locs : List Loc) (v : Int32), some v = some R → narrow .boolean (.int v) = .int v → decode cX8_isSumIn pc = .ok (.ireturn, 1) → zW K A s H locs (cMd K a0 a1 a2 a3 a4 a5 a6 a7 a8 a9 a10 a11 a12 a13 a14 a15 a16 a17 a18 a19 S) → W p l e ({ frames := 1, cells := 0, slots := 0, locals := 21 } : Room) s m ([.ref a0, .int p1, .int p2] : List Value).toArray below meth c H locs 0 0 Q (F0 m pc ls [.int v]) := by
    intro pc ls H locs v h hn hd hh
    cases h; exact hret pc ls H locs _ rfl hn hd hh
  have hl : lv_has ls 4 [(0, .ref a0), (1, .int p1), (2, .int p2)] := hl
  have hL2 : ∀ (v1 : Int32) (v2 : Int32), ∀ (n : Nat) (v3 : Int32), ∀ (H : Heap) (locs : List Loc) (ls : Array Slot), fX8_isSumIn_l2 S v1 v2 n v3 = some R → lv_has ls 4 [(1, .int v1), (2, .int v2), (3, .int v3)] → zW K A s H locs (cMd K a0 a1 a2 a3 a4 a5 a6 a7 a8 a9 a10 a11 a12 a13 a14 a15 a16 a17 a18 a19 S) → W p l e ({ frames := 1, cells := 0, slots := 0, locals := 21 } : Room) s m ([.ref a0, .int p1, .int p2] : List Value).toArray below meth c H locs 0 0 Q (F0 m 2 ls []) := by
    intro v1 v2 n
    induction n with
    | zero =>
      intro v3 H locs ls hf hl hh
      rw [fX8_isSumIn_l2] at hf; cases hf
    | succ n ih =>
      intro v3 H locs ls hf hl hh
      rw [fX8_isSumIn_l2] at hf
      refine lv_iconst (v := (2 : Int32)) hx hb dX8_isSumIn_2 (by decide) ?_
      refine lv_iload_n hx hb dX8_isSumIn_3 rfl (lv_at hl 2 rfl) ?_
      refine lv_imul hx hb dX8_isSumIn_4 ?_
      refine lv_iload_n hx hb dX8_isSumIn_5 rfl (lv_at hl 1 rfl) ?_
      refine lv_icmp_gt (tgt := 35) hx hb dX8_isSumIn_6 (by decide) (fun c1 => ?_) (fun c1 => ?_)
      · replace hf := (if_pos c1).symm.trans hf
        refine lv_iconst (v := (0 : Int32)) hx hb dX8_isSumIn_35 (by decide) ?_
        exact hr2 36 ls H locs (0 : Int32) hf rfl dX8_isSumIn_36 hh
      · replace hf := (if_neg c1).symm.trans hf
        refine lv_iload_n hx hb dX8_isSumIn_9 rfl (lv_at hl 0 rfl) ?_
        refine lv_iload_n hx hb dX8_isSumIn_10 rfl (lv_at hl 2 rfl) ?_
        refine zcallS (As := [.int v1, .int v3]) (rest := []) (wr := cMd K a0 a1 a2 a3 a4 a5 a6 a7 a8 a9 a10 a11 a12 a13 a14 a15 a16 a17 a18 a19 S) (ws' := cMd K a0 a1 a2 a3 a4 a5 a6 a7 a8 a9 a10 a11 a12 a13 a14 a15 a16 a17 a18 a19 S) (ov := some (.int (fX8_has v1 v3))) X hh hl (kX8_has l K v1 v3 (fX8_has v1 v3) rfl) (fun ht => va_cwS 2 ht gX8_isSumIn_X8_has rfl rfl rfl hdX8_has ⟨Nat.le_of_ble_eq_true rfl, Nat.le_of_ble_eq_true rfl⟩) [] [0, 1, 2, 3, 4, 5, 6, 7, 8, 9, 10, 11, 12, 13, 14, 15, 16, 17, 18, 19] [0, 1, 2, 3, 4, 5, 6, 7, 8, 9, 10, 11, 12, 13, 14, 15, 16, 17, 18, 19] rfl rfl rfl rfl (by decide) rfl rfl rfl rfl (Nat.le_of_ble_eq_true rfl) dX8_isSumIn_11 ⟨Nat.zero_le _, Nat.zero_le _⟩ (fun H locs hh => ?_)
        refine lv_if_eq (tgt := 29) hx hb dX8_isSumIn_14 (by decide) (fun c3 => ?_) (fun c3 => ?_)
        · replace hf := (if_pos c3).symm.trans hf
          refine lv_iinc (v := (v3 + (1 : Int32))) (lv' := [(3, .int (v3 + (1 : Int32))), (1, .int v1), (2, .int v2)]) hx hb dX8_isSumIn_29 hl (k := 2) rfl rfl (by decide) rfl (fun ls hl => ?_)
          refine lv_goto (tgt := 2) hx hb dX8_isSumIn_32 (by decide) ?_
          exact ih (v3 + (1 : Int32)) H locs ls hf (lv_sub hl [1, 2, 0] rfl) hh
        · replace hf := (if_neg c3).symm.trans hf
          refine lv_iload_n hx hb dX8_isSumIn_17 rfl (lv_at hl 0 rfl) ?_
          refine lv_iload_n hx hb dX8_isSumIn_18 rfl (lv_at hl 1 rfl) ?_
          refine lv_iload_n hx hb dX8_isSumIn_19 rfl (lv_at hl 2 rfl) ?_
          refine lv_isub hx hb dX8_isSumIn_20 ?_
          refine zcallS (As := [.int v1, .int (v2 - v3)]) (rest := []) (wr := cMd K a0 a1 a2 a3 a4 a5 a6 a7 a8 a9 a10 a11 a12 a13 a14 a15 a16 a17 a18 a19 S) (ws' := cMd K a0 a1 a2 a3 a4 a5 a6 a7 a8 a9 a10 a11 a12 a13 a14 a15 a16 a17 a18 a19 S) (ov := some (.int (fX8_has v1 (v2 - v3)))) X hh hl (kX8_has l K v1 (v2 - v3) (fX8_has v1 (v2 - v3)) rfl) (fun ht => va_cwS 2 ht gX8_isSumIn_X8_has rfl rfl rfl hdX8_has ⟨Nat.le_of_ble_eq_true rfl, Nat.le_of_ble_eq_true rfl⟩) [] [0, 1, 2, 3, 4, 5, 6, 7, 8, 9, 10, 11, 12, 13, 14, 15, 16, 17, 18, 19] [0, 1, 2, 3, 4, 5, 6, 7, 8, 9, 10, 11, 12, 13, 14, 15, 16, 17, 18, 19] rfl rfl rfl rfl (by decide) rfl rfl rfl rfl (Nat.le_of_ble_eq_true rfl) dX8_isSumIn_21 ⟨Nat.zero_le _, Nat.zero_le _⟩ (fun H locs hh => ?_)
          refine lv_if_eq (tgt := 29) hx hb dX8_isSumIn_24 (by decide) (fun c5 => ?_) (fun c5 => ?_)
          · replace hf := (if_pos c5).symm.trans hf
            refine lv_iinc (v := (v3 + (1 : Int32))) (lv' := [(3, .int (v3 + (1 : Int32))), (1, .int v1), (2, .int v2)]) hx hb dX8_isSumIn_29 hl (k := 2) rfl rfl (by decide) rfl (fun ls hl => ?_)
            refine lv_goto (tgt := 2) hx hb dX8_isSumIn_32 (by decide) ?_
            exact ih (v3 + (1 : Int32)) H locs ls hf (lv_sub hl [1, 2, 0] rfl) hh
          · replace hf := (if_neg c5).symm.trans hf
            refine lv_iconst (v := (1 : Int32)) hx hb dX8_isSumIn_27 (by decide) ?_
            exact hr2 28 ls H locs (1 : Int32) hf rfl dX8_isSumIn_28 hh
  unfold fX8_isSumIn at hf
  refine (fun (hmain : ∀ (H : Heap) (locs : List Loc), zW K A s H locs (cMd K a0 a1 a2 a3 a4 a5 a6 a7 a8 a9 a10 a11 a12 a13 a14 a15 a16 a17 a18 a19 S) → W p l e ({ frames := 1, cells := 0, slots := 0, locals := 21 } : Room) s m ([.ref a0, .int p1, .int p2] : List Value).toArray below meth c H locs 0 0 Q (F0 m 0 ls [])) => hmain s.heap [] hh) (fun H locs hh => ?_)
  refine lv_iconst (v := (1 : Int32)) hx hb dX8_isSumIn_0 (by decide) ?_
  refine lv_istore_n (lv' := [(3, .int (1 : Int32)), (0, .ref a0), (1, .int p1), (2, .int p2)]) hx hb dX8_isSumIn_1 rfl hl (by decide) rfl (fun ls hl => ?_)
  exact hL2 p1 p2 FU (1 : Int32) H locs ls hf (lv_sub hl [2, 3, 0] rfl) hh
theorem inX8_doesWin_X8 : ∀ w ∈ wsX80, w ∈ wsX8_doesWin := by decide +kernel
theorem mmX8_doesWin_0 : Cond.fieldLink RX8 61 "SumOfTwoThatStandModel" "wins" "[I" ∈ wsX8_doesWin := by decide +kernel
theorem hdX8_doesWin : yX8_doesWin.cls ≠ "java/lang/invoke/MethodHandle" ∧ yX8_doesWin.cls ≠ "java/lang/invoke/VarHandle" ∧ (parseMethodDescriptor yX8_doesWin.desc).map (fun d => d.parameters.length) = some 2 := by decide +kernel
set_option maxHeartbeats 4000000 in
set_option maxRecDepth 100000 in
theorem kX8_doesWin (l : Launch) (K : zK) (a0 a1 a2 a3 a4 a5 a6 a7 a8 a9 a10 a11 a12 a13 a14 a15 a16 a17 a18 a19 : Nat) (S : zMd) (p1 : Int32) (p2 : Int32) (R : Int32) (hf : fX8_doesWin S p1 p2 = some R) : zC l yX8_doesWin wsX8_doesWin ({ frames := 2, cells := 0, slots := 0, locals := 44 } : Room) K [.ref a0, .int p1, .int p2] (cMd K a0 a1 a2 a3 a4 a5 a6 a7 a8 a9 a10 a11 a12 a13 a14 a15 a16 a17 a18 a19 S) (some (.int R)) (cMd K a0 a1 a2 a3 a4 a5 a6 a7 a8 a9 a10 a11 a12 a13 a14 a15 a16 a17 a18 a19 S) := by
  refine zC_z .boolean R (cc := cX8_doesWin) (maxL := 4) (by decide +kernel) rfl (Nat.le_of_ble_eq_true rfl) rfl rfl ?_
  intro p e s m below meth c Q A X hret ls hl hh
  have X : zX p m c cX8_doesWin 4 s ([.ref a0, .int p1, .int p2] : List Value).toArray wsX8_doesWin RX8 K A := X
  have hx := X.1.1
  have hb := X.1.2.1
  have hr2 : ∀ (pc : Nat) (ls : Array Slot) (H : Heap) (locs : List Loc) (v : Int32), some v = some R → narrow .boolean (.int v) = .int v → decode cX8_doesWin pc = .ok (.ireturn, 1) → zW K A s H locs (cMd K a0 a1 a2 a3 a4 a5 a6 a7 a8 a9 a10 a11 a12 a13 a14 a15 a16 a17 a18 a19 S) → W p l e ({ frames := 2, cells := 0, slots := 0, locals := 44 } : Room) s m ([.ref a0, .int p1, .int p2] : List Value).toArray below meth c H locs 0 0 Q (F0 m pc ls [.int v]) := by
    intro pc ls H locs v h hn hd hh
    cases h; exact hret pc ls H locs _ rfl hn hd hh
  have hl : lv_has ls 4 [(0, .ref a0), (1, .int p1), (2, .int p2)] := hl
  have hL2 : ∀ (v1 : Int32) (v2 : Int32), ∀ (n : Nat) (v3 : Int32), ∀ (H : Heap) (locs : List Loc) (ls : Array Slot), fX8_doesWin_l2 S v1 v2 n v3 = some R → lv_has ls 4 [(0, .ref a0), (1, .int v1), (2, .int v2), (3, .int v3)] → zW K A s H locs (cMd K a0 a1 a2 a3 a4 a5 a6 a7 a8 a9 a10 a11 a12 a13 a14 a15 a16 a17 a18 a19 S) → W p l e ({ frames := 2, cells := 0, slots := 0, locals := 44 } : Room) s m ([.ref a0, .int p1, .int p2] : List Value).toArray below meth c H locs 0 0 Q (F0 m 2 ls []) := by
    intro v1 v2 n
    induction n with
    | zero =>
      intro v3 H locs ls hf hl hh
      rw [fX8_doesWin_l2] at hf; cases hf
    | succ n ih =>
      intro v3 H locs ls hf hl hh
      rw [fX8_doesWin_l2] at hf
      refine lv_iload_n hx hb dX8_doesWin_2 rfl (lv_at hl 3 rfl) ?_
      refine lv_iload_n hx hb dX8_doesWin_3 rfl (lv_at hl 2 rfl) ?_
      refine lv_icmp_gt (tgt := 50) hx hb dX8_doesWin_4 (by decide) (fun c1 => ?_) (fun c1 => ?_)
      · replace hf := (if_pos c1).symm.trans hf
        refine lv_iconst (v := (0 : Int32)) hx hb dX8_doesWin_50 (by decide) ?_
        exact hr2 51 ls H locs (0 : Int32) hf rfl dX8_doesWin_51 hh
      · replace hf := (if_neg c1).symm.trans hf
        refine lv_iload_n hx hb dX8_doesWin_7 rfl (lv_at hl 1 rfl) ?_
        refine lv_iload_n hx hb dX8_doesWin_8 rfl (lv_at hl 3 rfl) ?_
        refine zcallS (As := [.int v1, .int v3]) (rest := []) (wr := cMd K a0 a1 a2 a3 a4 a5 a6 a7 a8 a9 a10 a11 a12 a13 a14 a15 a16 a17 a18 a19 S) (ws' := cMd K a0 a1 a2 a3 a4 a5 a6 a7 a8 a9 a10 a11 a12 a13 a14 a15 a16 a17 a18 a19 S) (ov := some (.int (fX8_has v1 v3))) X hh hl (kX8_has l K v1 v3 (fX8_has v1 v3) rfl) (fun ht => va_cwS 2 ht gX8_doesWin_X8_has rfl rfl rfl hdX8_has ⟨Nat.le_of_ble_eq_true rfl, Nat.le_of_ble_eq_true rfl⟩) [] [0, 1, 2, 3, 4, 5, 6, 7, 8, 9, 10, 11, 12, 13, 14, 15, 16, 17, 18, 19] [0, 1, 2, 3, 4, 5, 6, 7, 8, 9, 10, 11, 12, 13, 14, 15, 16, 17, 18, 19] rfl rfl rfl rfl (by decide) rfl rfl rfl rfl (Nat.le_of_ble_eq_true rfl) dX8_doesWin_9 ⟨Nat.zero_le _, Nat.zero_le _⟩ (fun H locs hh => ?_)
        refine lv_if_ne (tgt := 44) hx hb dX8_doesWin_12 (by decide) (fun c3 => ?_) (fun c3 => ?_)
        · replace hf := (if_neg c3).symm.trans hf
          refine lv_iinc (v := (v3 + (1 : Int32))) (lv' := [(3, .int (v3 + (1 : Int32))), (0, .ref a0), (1, .int v1), (2, .int v2)]) hx hb dX8_doesWin_44 hl (k := 3) rfl rfl (by decide) rfl (fun ls hl => ?_)
          refine lv_goto (tgt := 2) hx hb dX8_doesWin_47 (by decide) ?_
          exact ih (v3 + (1 : Int32)) H locs ls hf (lv_sub hl [1, 2, 3, 0] rfl) hh
        · replace hf := (if_pos c3).symm.trans hf
          refine lv_aload_n hx hb dX8_doesWin_15 rfl (lv_at hl 0 rfl) ?_
          refine lv_iload_n hx hb dX8_doesWin_16 rfl (lv_at hl 1 rfl) ?_
          refine lv_iload_n hx hb dX8_doesWin_17 rfl (lv_at hl 3 rfl) ?_
          obtain ⟨u4, hu4, hf⟩ := ob_bind hf
          refine zcallV (ci := 7) (q0 := 0) (As := [.int v1, .int v3]) (rest := []) (wr := []) (ws' := cMd K a0 a1 a2 a3 a4 a5 a6 a7 a8 a9 a10 a11 a12 a13 a14 a15 a16 a17 a18 a19 S) (ov := some (.int u4)) X hh hl (kX8_isSumIn l K a0 a1 a2 a3 a4 a5 a6 a7 a8 a9 a10 a11 a12 a13 a14 a15 a16 a17 a18 a19 S v1 v3 u4 hu4) (fun ht => cwV 2 ht gX8_doesWin_X8_isSumIn rfl rfl rfl ⟨rfl, hdX8_isSumIn⟩ ⟨Nat.le_of_ble_eq_true rfl, Nat.le_of_ble_eq_true rfl⟩) [0, 1, 2, 3, 4, 5, 6, 7, 8, 9, 10, 11, 12, 13, 14, 15, 16, 17, 18, 19] [] [0, 1, 2, 3, 4, 5, 6, 7, 8, 9, 10, 11, 12, 13, 14, 15, 16, 17, 18, 19] rfl rfl rfl rfl (by decide) rfl rfl rfl rfl rfl rfl (Nat.le_of_ble_eq_true rfl) dX8_doesWin_18 ⟨Nat.zero_le _, Nat.zero_le _⟩ (fun H locs hh => ?_)
          refine lv_if_eq (tgt := 44) hx hb dX8_doesWin_21 (by decide) (fun c5 => ?_) (fun c5 => ?_)
          · replace hf := (if_pos c5).symm.trans hf
            refine lv_iinc (v := (v3 + (1 : Int32))) (lv' := [(3, .int (v3 + (1 : Int32))), (0, .ref a0), (1, .int v1), (2, .int v2)]) hx hb dX8_doesWin_44 hl (k := 3) rfl rfl (by decide) rfl (fun ls hl => ?_)
            refine lv_goto (tgt := 2) hx hb dX8_doesWin_47 (by decide) ?_
            exact ih (v3 + (1 : Int32)) H locs ls hf (lv_sub hl [1, 2, 3, 0] rfl) hh
          · replace hf := (if_neg c5).symm.trans hf
            refine lv_iload_n hx hb dX8_doesWin_24 rfl (lv_at hl 3 rfl) ?_
            refine lv_iload_n hx hb dX8_doesWin_25 rfl (lv_at hl 2 rfl) ?_
            refine lv_icmp_eq (tgt := 42) hx hb dX8_doesWin_26 (by decide) (fun c6 => ?_) (fun c6 => ?_)
            · replace hf := (if_pos c6).symm.trans hf
              refine lv_iconst (v := (1 : Int32)) hx hb dX8_doesWin_42 (by decide) ?_
              exact hr2 43 ls H locs (1 : Int32) hf rfl dX8_doesWin_43 hh
            · replace hf := (if_neg c6).symm.trans hf
              refine lv_aload_n hx hb dX8_doesWin_29 rfl (lv_at hl 0 rfl) ?_
              refine zget (v := .ref a18) (ref := "SumOfTwoThatStandModel") (C := RX8) (T := TX8) (N := 33) (index := 61) X hh inX8_doesWin_X8 0 rfl rfl 29 (by decide) mmX8_doesWin_0 rfl rfl dX8_doesWin_30 ?_
              refine lv_iload_n hx hb dX8_doesWin_33 rfl (lv_at hl 1 rfl) ?_
              refine lv_iconst (v := (1 : Int32)) hx hb dX8_doesWin_34 (by decide) ?_
              refine lv_iload_n hx hb dX8_doesWin_35 rfl (lv_at hl 3 rfl) ?_
              refine lv_ishl hx hb dX8_doesWin_36 ?_
              refine lv_ior hx hb dX8_doesWin_37 ?_
              obtain ⟨g7, hf⟩ := ob_ix hf
              refine ziald (f := (md_wins S)) X hh 18 rfl g7 dX8_doesWin_38 ?_
              refine lv_if_ne (tgt := 44) hx hb dX8_doesWin_39 (by decide) (fun c8 => ?_) (fun c8 => ?_)
              · replace hf := (if_neg c8).symm.trans hf
                refine lv_iinc (v := (v3 + (1 : Int32))) (lv' := [(3, .int (v3 + (1 : Int32))), (0, .ref a0), (1, .int v1), (2, .int v2)]) hx hb dX8_doesWin_44 hl (k := 3) rfl rfl (by decide) rfl (fun ls hl => ?_)
                refine lv_goto (tgt := 2) hx hb dX8_doesWin_47 (by decide) ?_
                exact ih (v3 + (1 : Int32)) H locs ls hf (lv_sub hl [1, 2, 3, 0] rfl) hh
              · replace hf := (if_pos c8).symm.trans hf
                refine lv_iconst (v := (1 : Int32)) hx hb dX8_doesWin_42 (by decide) ?_
                exact hr2 43 ls H locs (1 : Int32) hf rfl dX8_doesWin_43 hh
  unfold fX8_doesWin at hf
  refine (fun (hmain : ∀ (H : Heap) (locs : List Loc), zW K A s H locs (cMd K a0 a1 a2 a3 a4 a5 a6 a7 a8 a9 a10 a11 a12 a13 a14 a15 a16 a17 a18 a19 S) → W p l e ({ frames := 2, cells := 0, slots := 0, locals := 44 } : Room) s m ([.ref a0, .int p1, .int p2] : List Value).toArray below meth c H locs 0 0 Q (F0 m 0 ls [])) => hmain s.heap [] hh) (fun H locs hh => ?_)
  refine lv_iconst (v := (2 : Int32)) hx hb dX8_doesWin_0 (by decide) ?_
  refine lv_istore_n (lv' := [(3, .int (2 : Int32)), (0, .ref a0), (1, .int p1), (2, .int p2)]) hx hb dX8_doesWin_1 rfl hl (by decide) rfl (fun ls hl => ?_)
  exact hL2 p1 p2 FU (2 : Int32) H locs ls hf (lv_sub hl [1, 2, 3, 0] rfl) hh
theorem inX8_game_X8 : ∀ w ∈ wsX80, w ∈ wsX8_game := by decide +kernel
theorem mmX8_game_0 : Cond.fieldLink RX8 61 "SumOfTwoThatStandModel" "wins" "[I" ∈ wsX8_game := by decide +kernel
theorem hdX8_game : yX8_game.cls ≠ "java/lang/invoke/MethodHandle" ∧ yX8_game.cls ≠ "java/lang/invoke/VarHandle" ∧ (parseMethodDescriptor yX8_game.desc).map (fun d => d.parameters.length) = some 1 := by decide +kernel
set_option maxHeartbeats 4000000 in
set_option maxRecDepth 100000 in
theorem kX8_game (l : Launch) (K : zK) (a0 a1 a2 a3 a4 a5 a6 a7 a8 a9 a10 a11 a12 a13 a14 a15 a16 a17 a18 a19 : Nat) (S : zMd) (p1 : Int32) (R : Int32 × zMd) (hf : fX8_game S p1 = some R) : zC l yX8_game wsX8_game ({ frames := 3, cells := 0, slots := 0, locals := 67 } : Room) K [.ref a0, .int p1] (cMd K a0 a1 a2 a3 a4 a5 a6 a7 a8 a9 a10 a11 a12 a13 a14 a15 a16 a17 a18 a19 S) (some (.int R.1)) (cMd K a0 a1 a2 a3 a4 a5 a6 a7 a8 a9 a10 a11 a12 a13 a14 a15 a16 a17 a18 a19 R.2) := by
  refine zC_i R.1 (cc := cX8_game) (maxL := 4) (by decide +kernel) rfl (Nat.le_of_ble_eq_true rfl) rfl rfl ?_
  intro p e s m below meth c Q A X hret ls hl hh
  have X : zX p m c cX8_game 4 s ([.ref a0, .int p1] : List Value).toArray wsX8_game RX8 K A := X
  have hx := X.1.1
  have hb := X.1.2.1
  have hr2 : ∀ (pc : Nat) (ls : Array Slot) (H : Heap) (locs : List Loc) (v : Int32) (S : zMd), some (v, S) = some R → decode cX8_game pc = .ok (.ireturn, 1) → zW K A s H locs (cMd K a0 a1 a2 a3 a4 a5 a6 a7 a8 a9 a10 a11 a12 a13 a14 a15 a16 a17 a18 a19 S) → W p l e ({ frames := 3, cells := 0, slots := 0, locals := 67 } : Room) s m ([.ref a0, .int p1] : List Value).toArray below meth c H locs 0 0 Q (F0 m pc ls [.int v]) := by
    intro pc ls H locs v S h hd hh
    cases h; exact hret pc ls H locs _ rfl hd hh
  have hl : lv_has ls 4 [(0, .ref a0), (1, .int p1)] := hl
  have hJ56 : ∀ (v1 : Int32) (v3 : Int32) (t1 : Int32) (t2 : Int32) (S : zMd) (k24 : (Int32) → (zMd) → Option (Int32 × zMd)), (∀ (v3 : Int32) (S : zMd) (H : Heap) (locs : List Loc) (ls : Array Slot), k24 v3 S = some R → lv_has ls 4 [(0, .ref a0), (1, .int v1), (3, .int v3)] → zW K A s H locs (cMd K a0 a1 a2 a3 a4 a5 a6 a7 a8 a9 a10 a11 a12 a13 a14 a15 a16 a17 a18 a19 S) → W p l e ({ frames := 3, cells := 0, slots := 0, locals := 67 } : Room) s m ([.ref a0, .int p1] : List Value).toArray below meth c H locs 0 0 Q (F0 m 24 ls [])) → ∀ (H : Heap) (locs : List Loc) (ls : Array Slot), fX8_game_j56 v1 v3 t1 t2 S k24 = some R → lv_has ls 4 [(0, .ref a0), (1, .int v1), (3, .int v3)] → zW K A s H locs (cMd K a0 a1 a2 a3 a4 a5 a6 a7 a8 a9 a10 a11 a12 a13 a14 a15 a16 a17 a18 a19 S) → W p l e ({ frames := 3, cells := 0, slots := 0, locals := 67 } : Room) s m ([.ref a0, .int p1] : List Value).toArray below meth c H locs 0 0 Q (F0 m 56 ls [.int t2, .int t1, .ref a18]) := by
    intro v1 v3 t1 t2 S k24 hk24 H locs ls hf hl hh
    unfold fX8_game_j56 at hf
    obtain ⟨g1, hf⟩ := ob_ix hf
    refine ziast (f := (md_wins S)) X hh 18 rfl g1 dX8_game_56 (fun H locs hh => ?_)
    have hh := hh.to (sMd_wins K a0 a1 a2 a3 a4 a5 a6 a7 a8 a9 a10 a11 a12 a13 a14 a15 a16 a17 a18 a19 S (upd (md_wins S) t1.toNatClampNeg t2))
    refine lv_iinc (v := (v3 + (-1 : Int32))) (lv' := [(3, .int (v3 + (-1 : Int32))), (0, .ref a0), (1, .int v1)]) hx hb dX8_game_57 hl (k := 2) rfl rfl (by decide) rfl (fun ls hl => ?_)
    refine lv_goto (tgt := 24) hx hb dX8_game_60 (by decide) ?_
    exact hk24 (v3 + (-1 : Int32)) (md_set_wins S (upd (md_wins S) t1.toNatClampNeg t2)) H locs ls hf (lv_sub hl [1, 2, 0] rfl) hh
  have hJ55 : ∀ (v1 : Int32) (v3 : Int32) (t1 : Int32) (S : zMd) (k24 : (Int32) → (zMd) → Option (Int32 × zMd)), (∀ (v3 : Int32) (S : zMd) (H : Heap) (locs : List Loc) (ls : Array Slot), k24 v3 S = some R → lv_has ls 4 [(0, .ref a0), (1, .int v1), (3, .int v3)] → zW K A s H locs (cMd K a0 a1 a2 a3 a4 a5 a6 a7 a8 a9 a10 a11 a12 a13 a14 a15 a16 a17 a18 a19 S) → W p l e ({ frames := 3, cells := 0, slots := 0, locals := 67 } : Room) s m ([.ref a0, .int p1] : List Value).toArray below meth c H locs 0 0 Q (F0 m 24 ls [])) → ∀ (H : Heap) (locs : List Loc) (ls : Array Slot), fX8_game_j55 v1 v3 t1 S k24 = some R → lv_has ls 4 [(0, .ref a0), (1, .int v1), (3, .int v3)] → zW K A s H locs (cMd K a0 a1 a2 a3 a4 a5 a6 a7 a8 a9 a10 a11 a12 a13 a14 a15 a16 a17 a18 a19 S) → W p l e ({ frames := 3, cells := 0, slots := 0, locals := 67 } : Room) s m ([.ref a0, .int p1] : List Value).toArray below meth c H locs 0 0 Q (F0 m 55 ls [.int t1, .ref a18]) := by
    intro v1 v3 t1 S k24 hk24 H locs ls hf hl hh
    unfold fX8_game_j55 at hf
    refine lv_iconst (v := (0 : Int32)) hx hb dX8_game_55 (by decide) ?_
    exact hJ56 v1 v3 t1 (0 : Int32) S (k24) (hk24) H locs ls hf (lv_sub hl [0, 1, 2] rfl) hh
  have hL24 : ∀ (v1 : Int32), ∀ (n : Nat) (v3 : Int32) (S : zMd), ∀ (H : Heap) (locs : List Loc) (ls : Array Slot), fX8_game_l24 v1 n v3 S = some R → lv_has ls 4 [(0, .ref a0), (1, .int v1), (3, .int v3)] → zW K A s H locs (cMd K a0 a1 a2 a3 a4 a5 a6 a7 a8 a9 a10 a11 a12 a13 a14 a15 a16 a17 a18 a19 S) → W p l e ({ frames := 3, cells := 0, slots := 0, locals := 67 } : Room) s m ([.ref a0, .int p1] : List Value).toArray below meth c H locs 0 0 Q (F0 m 24 ls []) := by
    intro v1 n
    induction n with
    | zero =>
      intro v3 S H locs ls hf hl hh
      rw [fX8_game_l24] at hf; cases hf
    | succ n ih =>
      intro v3 S H locs ls hf hl hh
      rw [fX8_game_l24] at hf
      refine lv_iload_n hx hb dX8_game_24 rfl (lv_at hl 2 rfl) ?_
      refine lv_iconst (v := (2 : Int32)) hx hb dX8_game_25 (by decide) ?_
      refine lv_icmp_lt (tgt := 63) hx hb dX8_game_26 (by decide) (fun c2 => ?_) (fun c2 => ?_)
      · replace hf := (if_pos c2).symm.trans hf
        refine lv_aload_n hx hb dX8_game_63 rfl (lv_at hl 0 rfl) ?_
        refine zget (v := .ref a18) (ref := "SumOfTwoThatStandModel") (C := RX8) (T := TX8) (N := 33) (index := 61) X hh inX8_game_X8 0 rfl rfl 29 (by decide) mmX8_game_0 rfl rfl dX8_game_64 ?_
        refine lv_iconst (v := (2 : Int32)) hx hb dX8_game_67 (by decide) ?_
        obtain ⟨g3, hf⟩ := ob_ix hf
        refine ziald (f := (md_wins S)) X hh 18 rfl g3 dX8_game_68 ?_
        exact hr2 69 ls H locs ((md_wins S) (2 : Int32).toNatClampNeg) S hf dX8_game_69 hh
      · replace hf := (if_neg c2).symm.trans hf
        refine lv_aload_n hx hb dX8_game_29 rfl (lv_at hl 0 rfl) ?_
        refine zget (v := .ref a18) (ref := "SumOfTwoThatStandModel") (C := RX8) (T := TX8) (N := 33) (index := 61) X hh inX8_game_X8 0 rfl rfl 29 (by decide) mmX8_game_0 rfl rfl dX8_game_30 ?_
        refine lv_iload_n hx hb dX8_game_33 rfl (lv_at hl 2 rfl) ?_
        refine lv_iload_n hx hb dX8_game_34 rfl (lv_at hl 2 rfl) ?_
        refine lv_iconst (v := (1 : Int32)) hx hb dX8_game_35 (by decide) ?_
        refine zcallS (As := [.int v3, .int (1 : Int32)]) (rest := [.int v3, .ref a18]) (wr := cMd K a0 a1 a2 a3 a4 a5 a6 a7 a8 a9 a10 a11 a12 a13 a14 a15 a16 a17 a18 a19 S) (ws' := cMd K a0 a1 a2 a3 a4 a5 a6 a7 a8 a9 a10 a11 a12 a13 a14 a15 a16 a17 a18 a19 S) (ov := some (.int (fX8_has v3 (1 : Int32)))) X hh hl (kX8_has l K v3 (1 : Int32) (fX8_has v3 (1 : Int32)) rfl) (fun ht => va_cwS 2 ht gX8_game_X8_has rfl rfl rfl hdX8_has ⟨Nat.le_of_ble_eq_true rfl, Nat.le_of_ble_eq_true rfl⟩) [] [0, 1, 2, 3, 4, 5, 6, 7, 8, 9, 10, 11, 12, 13, 14, 15, 16, 17, 18, 19] [0, 1, 2, 3, 4, 5, 6, 7, 8, 9, 10, 11, 12, 13, 14, 15, 16, 17, 18, 19] rfl rfl rfl rfl (by decide) rfl rfl rfl rfl (Nat.le_of_ble_eq_true rfl) dX8_game_36 ⟨Nat.zero_le _, Nat.zero_le _⟩ (fun H locs hh => ?_)
        refine lv_if_eq (tgt := 55) hx hb dX8_game_39 (by decide) (fun c5 => ?_) (fun c5 => ?_)
        · replace hf := (if_pos c5).symm.trans hf
          exact hJ55 v1 v3 v3 S (fX8_game_l24 v1 n) (ih) H locs ls hf (lv_sub hl [0, 1, 2] rfl) hh
        · replace hf := (if_neg c5).symm.trans hf
          refine lv_aload_n hx hb dX8_game_42 rfl (lv_at hl 0 rfl) ?_
          refine lv_iload_n hx hb dX8_game_43 rfl (lv_at hl 2 rfl) ?_
          refine lv_iload_n hx hb dX8_game_44 rfl (lv_at hl 1 rfl) ?_
          obtain ⟨u6, hu6, hf⟩ := ob_bind hf
          refine zcallV (ci := 7) (q0 := 0) (As := [.int v3, .int v1]) (rest := [.int v3, .ref a18]) (wr := []) (ws' := cMd K a0 a1 a2 a3 a4 a5 a6 a7 a8 a9 a10 a11 a12 a13 a14 a15 a16 a17 a18 a19 S) (ov := some (.int u6)) X hh hl (kX8_doesWin l K a0 a1 a2 a3 a4 a5 a6 a7 a8 a9 a10 a11 a12 a13 a14 a15 a16 a17 a18 a19 S v3 v1 u6 hu6) (fun ht => cwV 2 ht gX8_game_X8_doesWin rfl rfl rfl ⟨rfl, hdX8_doesWin⟩ ⟨Nat.le_of_ble_eq_true rfl, Nat.le_of_ble_eq_true rfl⟩) [0, 1, 2, 3, 4, 5, 6, 7, 8, 9, 10, 11, 12, 13, 14, 15, 16, 17, 18, 19] [] [0, 1, 2, 3, 4, 5, 6, 7, 8, 9, 10, 11, 12, 13, 14, 15, 16, 17, 18, 19] rfl rfl rfl rfl (by decide) rfl rfl rfl rfl rfl rfl (Nat.le_of_ble_eq_true rfl) dX8_game_45 ⟨Nat.zero_le _, Nat.zero_le _⟩ (fun H locs hh => ?_)
          refine lv_if_eq (tgt := 55) hx hb dX8_game_48 (by decide) (fun c7 => ?_) (fun c7 => ?_)
          · replace hf := (if_pos c7).symm.trans hf
            exact hJ55 v1 v3 v3 S (fX8_game_l24 v1 n) (ih) H locs ls hf (lv_sub hl [0, 1, 2] rfl) hh
          · replace hf := (if_neg c7).symm.trans hf
            refine lv_iconst (v := (1 : Int32)) hx hb dX8_game_51 (by decide) ?_
            refine lv_goto (tgt := 56) hx hb dX8_game_52 (by decide) ?_
            exact hJ56 v1 v3 v3 (1 : Int32) S (fX8_game_l24 v1 n) (ih) H locs ls hf (lv_sub hl [0, 1, 2] rfl) hh
  unfold fX8_game at hf
  refine (fun (hmain : ∀ (H : Heap) (locs : List Loc), zW K A s H locs (cMd K a0 a1 a2 a3 a4 a5 a6 a7 a8 a9 a10 a11 a12 a13 a14 a15 a16 a17 a18 a19 S) → W p l e ({ frames := 3, cells := 0, slots := 0, locals := 67 } : Room) s m ([.ref a0, .int p1] : List Value).toArray below meth c H locs 0 0 Q (F0 m 0 ls [])) => hmain s.heap [] hh) (fun H locs hh => ?_)
  refine lv_iload_n hx hb dX8_game_0 rfl (lv_at hl 1 rfl) ?_
  refine lv_iconst (v := (2 : Int32)) hx hb dX8_game_1 (by decide) ?_
  refine lv_bipush (v := (12 : Int32)) hx hb dX8_game_2 (by decide) ?_
  refine zcallS (As := [.int p1, .int (2 : Int32), .int (12 : Int32)]) (rest := []) (wr := cMd K a0 a1 a2 a3 a4 a5 a6 a7 a8 a9 a10 a11 a12 a13 a14 a15 a16 a17 a18 a19 S) (ws' := cMd K a0 a1 a2 a3 a4 a5 a6 a7 a8 a9 a10 a11 a12 a13 a14 a15 a16 a17 a18 a19 S) (ov := some (.int (fX8_bound p1 (2 : Int32) (12 : Int32)))) X hh hl (kX8_bound l K p1 (2 : Int32) (12 : Int32) (fX8_bound p1 (2 : Int32) (12 : Int32)) rfl) (fun ht => va_cwS 3 ht gX8_game_X8_bound rfl rfl rfl hdX8_bound ⟨Nat.le_of_ble_eq_true rfl, Nat.le_of_ble_eq_true rfl⟩) [] [0, 1, 2, 3, 4, 5, 6, 7, 8, 9, 10, 11, 12, 13, 14, 15, 16, 17, 18, 19] [0, 1, 2, 3, 4, 5, 6, 7, 8, 9, 10, 11, 12, 13, 14, 15, 16, 17, 18, 19] rfl rfl rfl rfl (by decide) rfl rfl rfl rfl (Nat.le_of_ble_eq_true rfl) dX8_game_4 ⟨Nat.zero_le _, Nat.zero_le _⟩ (fun H locs hh => ?_)
  refine lv_istore_n (lv' := [(2, .int (fX8_bound p1 (2 : Int32) (12 : Int32))), (0, .ref a0), (1, .int p1)]) hx hb dX8_game_7 rfl hl (by decide) rfl (fun ls hl => ?_)
  refine lv_iload_n hx hb dX8_game_8 rfl (lv_at hl 0 rfl) ?_
  refine lv_if_eq (tgt := 18) hx hb dX8_game_9 (by decide) (fun c9 => ?_) (fun c9 => ?_)
  · replace hf := (if_pos c9).symm.trans hf
    refine lv_iconst (v := (1 : Int32)) hx hb dX8_game_18 (by decide) ?_
    refine lv_iload_n hx hb dX8_game_19 rfl (lv_at hl 2 rfl) ?_
    refine lv_ishl hx hb dX8_game_20 ?_
    refine lv_iconst (v := (1 : Int32)) hx hb dX8_game_21 (by decide) ?_
    refine lv_isub hx hb dX8_game_22 ?_
    refine lv_istore_n (lv' := [(3, .int (((1 : Int32) <<< (p1 &&& 31)) - (1 : Int32))), (2, .int (fX8_bound p1 (2 : Int32) (12 : Int32))), (0, .ref a0), (1, .int p1)]) hx hb dX8_game_23 rfl hl (by decide) rfl (fun ls hl => ?_)
    exact hL24 p1 FU (((1 : Int32) <<< (p1 &&& 31)) - (1 : Int32)) S H locs ls hf (lv_sub hl [2, 3, 0] rfl) hh
  · replace hf := (if_neg c9).symm.trans hf
    refine lv_aload_n hx hb dX8_game_12 rfl (lv_at hl 1 rfl) ?_
    refine lv_iload_n hx hb dX8_game_13 rfl (lv_at hl 0 rfl) ?_
    obtain ⟨u10, hu10, hf⟩ := ob_bind hf
    refine zcallV (ci := 7) (q0 := 0) (As := [.int (fX8_bound p1 (2 : Int32) (12 : Int32))]) (rest := []) (wr := []) (ws' := cMd K a0 a1 a2 a3 a4 a5 a6 a7 a8 a9 a10 a11 a12 a13 a14 a15 a16 a17 a18 a19 u10.2) (ov := some (.int u10.1)) X hh hl (kX8_no l K a0 a1 a2 a3 a4 a5 a6 a7 a8 a9 a10 a11 a12 a13 a14 a15 a16 a17 a18 a19 S (fX8_bound p1 (2 : Int32) (12 : Int32)) u10 hu10) (fun ht => cwV 1 ht gX8_game_X8_no rfl rfl rfl ⟨rfl, hdX8_no⟩ ⟨Nat.le_of_ble_eq_true rfl, Nat.le_of_ble_eq_true rfl⟩) [0, 1, 2, 3, 4, 5, 6, 7, 8, 9, 10, 11, 12, 13, 14, 15, 16, 17, 18, 19] [] [0, 1, 2, 3, 4, 5, 6, 7, 8, 9, 10, 11, 12, 13, 14, 15, 16, 17, 18, 19] rfl rfl rfl rfl (by decide) rfl rfl rfl rfl rfl rfl (Nat.le_of_ble_eq_true rfl) dX8_game_14 ⟨Nat.zero_le _, Nat.zero_le _⟩ (fun H locs hh => ?_)
    exact hr2 17 ls H locs u10.1 u10.2 hf dX8_game_17 hh
theorem inX8_row_X8 : ∀ w ∈ wsX80, w ∈ wsX8_row := by decide +kernel
theorem mmX8_row_0 : Cond.fieldLink RX8 64 "SumOfTwoThatStandModel" "row" "[I" ∈ wsX8_row := by decide +kernel
theorem mmX8_row_1 : Cond.fieldLink RX8 268 "SumOfTwoThatStandModel" "rowMany" "I" ∈ wsX8_row := by decide +kernel
theorem hdX8_row : yX8_row.cls ≠ "java/lang/invoke/MethodHandle" ∧ yX8_row.cls ≠ "java/lang/invoke/VarHandle" ∧ (parseMethodDescriptor yX8_row.desc).map (fun d => d.parameters.length) = some 1 := by decide +kernel
set_option maxHeartbeats 4000000 in
set_option maxRecDepth 100000 in
theorem kX8_row (l : Launch) (K : zK) (a0 a1 a2 a3 a4 a5 a6 a7 a8 a9 a10 a11 a12 a13 a14 a15 a16 a17 a18 a19 : Nat) (S : zMd) (p1 : Int32) (R : Int32 × zMd) (hf : fX8_row S p1 = some R) : zC l yX8_row wsX8_row ({ frames := 1, cells := 0, slots := 0, locals := 22 } : Room) K [.ref a0, .int p1] (cMd K a0 a1 a2 a3 a4 a5 a6 a7 a8 a9 a10 a11 a12 a13 a14 a15 a16 a17 a18 a19 S) (some (.int R.1)) (cMd K a0 a1 a2 a3 a4 a5 a6 a7 a8 a9 a10 a11 a12 a13 a14 a15 a16 a17 a18 a19 R.2) := by
  refine zC_i R.1 (cc := cX8_row) (maxL := 3) (by decide +kernel) rfl (Nat.le_of_ble_eq_true rfl) rfl rfl ?_
  intro p e s m below meth c Q A X hret ls hl hh
  have X : zX p m c cX8_row 3 s ([.ref a0, .int p1] : List Value).toArray wsX8_row RX8 K A := X
  have hx := X.1.1
  have hb := X.1.2.1
  have hr2 : ∀ (pc : Nat) (ls : Array Slot) (H : Heap) (locs : List Loc) (v : Int32) (S : zMd), some (v, S) = some R → decode cX8_row pc = .ok (.ireturn, 1) → zW K A s H locs (cMd K a0 a1 a2 a3 a4 a5 a6 a7 a8 a9 a10 a11 a12 a13 a14 a15 a16 a17 a18 a19 S) → W p l e ({ frames := 1, cells := 0, slots := 0, locals := 22 } : Room) s m ([.ref a0, .int p1] : List Value).toArray below meth c H locs 0 0 Q (F0 m pc ls [.int v]) := by
    intro pc ls H locs v S h hd hh
    cases h; exact hret pc ls H locs _ rfl hd hh
  have hl : lv_has ls 3 [(0, .ref a0), (1, .int p1)] := hl
  have hJ25 : ∀ (v1 : Int32) (v2 : Int32) (S : zMd), ∀ (H : Heap) (locs : List Loc) (ls : Array Slot), fX8_row_j25 v1 v2 S = some R → lv_has ls 3 [(0, .ref a0), (1, .int v1), (2, .int v2)] → zW K A s H locs (cMd K a0 a1 a2 a3 a4 a5 a6 a7 a8 a9 a10 a11 a12 a13 a14 a15 a16 a17 a18 a19 S) → W p l e ({ frames := 1, cells := 0, slots := 0, locals := 22 } : Room) s m ([.ref a0, .int p1] : List Value).toArray below meth c H locs 0 0 Q (F0 m 25 ls []) := by
    intro v1 v2 S H locs ls hf hl hh
    unfold fX8_row_j25 at hf
    refine lv_iload_n hx hb dX8_row_25 rfl (lv_at hl 2 rfl) ?_
    refine lv_if_eq (tgt := 35) hx hb dX8_row_26 (by decide) (fun c1 => ?_) (fun c1 => ?_)
    · replace hf := (if_pos c1).symm.trans hf
      refine lv_aload_n hx hb dX8_row_35 rfl (lv_at hl 0 rfl) ?_
      refine zget (v := .ref a19) (ref := "SumOfTwoThatStandModel") (C := RX8) (T := TX8) (N := 33) (index := 64) X hh inX8_row_X8 0 rfl rfl 30 (by decide) mmX8_row_0 rfl rfl dX8_row_36 ?_
      refine lv_aload_n hx hb dX8_row_39 rfl (lv_at hl 0 rfl) ?_
      refine zget (v := .int (md_rowMany S)) (ref := "SumOfTwoThatStandModel") (C := RX8) (T := TX8) (N := 33) (index := 268) X hh inX8_row_X8 0 rfl rfl 31 (by decide) mmX8_row_1 rfl rfl dX8_row_40 ?_
      refine lv_iload_n hx hb dX8_row_43 rfl (lv_at hl 1 rfl) ?_
      obtain ⟨g2, hf⟩ := ob_ix hf
      refine ziast (f := (md_row S)) X hh 19 rfl g2 dX8_row_44 (fun H locs hh => ?_)
      have hh := hh.to (sMd_row K a0 a1 a2 a3 a4 a5 a6 a7 a8 a9 a10 a11 a12 a13 a14 a15 a16 a17 a18 a19 S (upd (md_row S) (md_rowMany S).toNatClampNeg v1))
      refine lv_aload_n hx hb dX8_row_45 rfl (lv_at hl 0 rfl) ?_
      refine lv_dup hx hb dX8_row_46 rfl ?_
      refine zget (v := .int (md_rowMany S)) (ref := "SumOfTwoThatStandModel") (C := RX8) (T := TX8) (N := 33) (index := 268) X hh inX8_row_X8 0 rfl rfl 31 (by decide) mmX8_row_1 rfl rfl dX8_row_47 ?_
      refine lv_iconst (v := (1 : Int32)) hx hb dX8_row_50 (by decide) ?_
      refine lv_iadd hx hb dX8_row_51 ?_
      refine zput (v := .int ((md_rowMany S) + (1 : Int32))) (ty := .int) (ref := "SumOfTwoThatStandModel") (C := RX8) (T := TX8) (N := 33) (index := 268) X hh inX8_row_X8 tyX8 tyX8_ok nmX8 0 rfl rfl 31 (by decide) mmX8_row_1 rfl rfl (by decide +kernel) rfl rfl (Nat.le_of_ble_eq_true rfl) dX8_row_52 (fun H locs hh => ?_)
      have hh := hh.to (sMd_rowMany K a0 a1 a2 a3 a4 a5 a6 a7 a8 a9 a10 a11 a12 a13 a14 a15 a16 a17 a18 a19 (md_set_row S (upd (md_row S) (md_rowMany S).toNatClampNeg v1)) ((md_rowMany S) + (1 : Int32)))
      refine lv_aload_n hx hb dX8_row_55 rfl (lv_at hl 0 rfl) ?_
      refine zget (v := .int ((md_rowMany S) + (1 : Int32))) (ref := "SumOfTwoThatStandModel") (C := RX8) (T := TX8) (N := 33) (index := 268) X hh inX8_row_X8 0 rfl rfl 31 (by decide) mmX8_row_1 rfl rfl dX8_row_56 ?_
      exact hr2 59 ls H locs ((md_rowMany S) + (1 : Int32)) (md_set_rowMany (md_set_row S (upd (md_row S) (md_rowMany S).toNatClampNeg v1)) ((md_rowMany S) + (1 : Int32))) hf dX8_row_59 hh
    · replace hf := (if_neg c1).symm.trans hf
      refine lv_aload_n hx hb dX8_row_29 rfl (lv_at hl 0 rfl) ?_
      refine lv_iload_n hx hb dX8_row_30 rfl (lv_at hl 2 rfl) ?_
      obtain ⟨u3, hu3, hf⟩ := ob_bind hf
      refine zcallV (ci := 7) (q0 := 0) (As := [.int v2]) (rest := []) (wr := []) (ws' := cMd K a0 a1 a2 a3 a4 a5 a6 a7 a8 a9 a10 a11 a12 a13 a14 a15 a16 a17 a18 a19 u3.2) (ov := some (.int u3.1)) X hh hl (kX8_no l K a0 a1 a2 a3 a4 a5 a6 a7 a8 a9 a10 a11 a12 a13 a14 a15 a16 a17 a18 a19 S v2 u3 hu3) (fun ht => cwV 1 ht gX8_row_X8_no rfl rfl rfl ⟨rfl, hdX8_no⟩ ⟨Nat.le_of_ble_eq_true rfl, Nat.le_of_ble_eq_true rfl⟩) [0, 1, 2, 3, 4, 5, 6, 7, 8, 9, 10, 11, 12, 13, 14, 15, 16, 17, 18, 19] [] [0, 1, 2, 3, 4, 5, 6, 7, 8, 9, 10, 11, 12, 13, 14, 15, 16, 17, 18, 19] rfl rfl rfl rfl (by decide) rfl rfl rfl rfl rfl rfl (Nat.le_of_ble_eq_true rfl) dX8_row_31 ⟨Nat.zero_le _, Nat.zero_le _⟩ (fun H locs hh => ?_)
      exact hr2 34 ls H locs u3.1 u3.2 hf dX8_row_34 hh
  unfold fX8_row at hf
  refine (fun (hmain : ∀ (H : Heap) (locs : List Loc), zW K A s H locs (cMd K a0 a1 a2 a3 a4 a5 a6 a7 a8 a9 a10 a11 a12 a13 a14 a15 a16 a17 a18 a19 S) → W p l e ({ frames := 1, cells := 0, slots := 0, locals := 22 } : Room) s m ([.ref a0, .int p1] : List Value).toArray below meth c H locs 0 0 Q (F0 m 0 ls [])) => hmain s.heap [] hh) (fun H locs hh => ?_)
  refine lv_iload_n hx hb dX8_row_0 rfl (lv_at hl 1 rfl) ?_
  refine lv_iconst (v := (1 : Int32)) hx hb dX8_row_1 (by decide) ?_
  refine lv_sipush (v := (9999 : Int32)) hx hb dX8_row_2 (by decide) ?_
  refine zcallS (As := [.int p1, .int (1 : Int32), .int (9999 : Int32)]) (rest := []) (wr := cMd K a0 a1 a2 a3 a4 a5 a6 a7 a8 a9 a10 a11 a12 a13 a14 a15 a16 a17 a18 a19 S) (ws' := cMd K a0 a1 a2 a3 a4 a5 a6 a7 a8 a9 a10 a11 a12 a13 a14 a15 a16 a17 a18 a19 S) (ov := some (.int (fX8_bound p1 (1 : Int32) (9999 : Int32)))) X hh hl (kX8_bound l K p1 (1 : Int32) (9999 : Int32) (fX8_bound p1 (1 : Int32) (9999 : Int32)) rfl) (fun ht => va_cwS 3 ht gX8_row_X8_bound rfl rfl rfl hdX8_bound ⟨Nat.le_of_ble_eq_true rfl, Nat.le_of_ble_eq_true rfl⟩) [] [0, 1, 2, 3, 4, 5, 6, 7, 8, 9, 10, 11, 12, 13, 14, 15, 16, 17, 18, 19] [0, 1, 2, 3, 4, 5, 6, 7, 8, 9, 10, 11, 12, 13, 14, 15, 16, 17, 18, 19] rfl rfl rfl rfl (by decide) rfl rfl rfl rfl (Nat.le_of_ble_eq_true rfl) dX8_row_5 ⟨Nat.zero_le _, Nat.zero_le _⟩ (fun H locs hh => ?_)
  refine lv_istore_n (lv' := [(2, .int (fX8_bound p1 (1 : Int32) (9999 : Int32))), (0, .ref a0), (1, .int p1)]) hx hb dX8_row_8 rfl hl (by decide) rfl (fun ls hl => ?_)
  refine lv_iload_n hx hb dX8_row_9 rfl (lv_at hl 0 rfl) ?_
  refine lv_if_ne (tgt := 25) hx hb dX8_row_10 (by decide) (fun c5 => ?_) (fun c5 => ?_)
  · replace hf := (if_neg c5).symm.trans hf
    exact hJ25 p1 (fX8_bound p1 (1 : Int32) (9999 : Int32)) S H locs ls hf (lv_sub hl [1, 2, 0] rfl) hh
  · replace hf := (if_pos c5).symm.trans hf
    refine lv_aload_n hx hb dX8_row_13 rfl (lv_at hl 1 rfl) ?_
    refine zget (v := .int (md_rowMany S)) (ref := "SumOfTwoThatStandModel") (C := RX8) (T := TX8) (N := 33) (index := 268) X hh inX8_row_X8 0 rfl rfl 31 (by decide) mmX8_row_1 rfl rfl dX8_row_14 ?_
    refine lv_bipush (v := (12 : Int32)) hx hb dX8_row_17 (by decide) ?_
    refine lv_icmp_ne (tgt := 25) hx hb dX8_row_19 (by decide) (fun c6 => ?_) (fun c6 => ?_)
    · replace hf := (if_neg c6).symm.trans hf
      exact hJ25 p1 (fX8_bound p1 (1 : Int32) (9999 : Int32)) S H locs ls hf (lv_sub hl [1, 2, 0] rfl) hh
    · replace hf := (if_pos c6).symm.trans hf
      refine lv_bipush (v := (-6 : Int32)) hx hb dX8_row_22 (by decide) ?_
      refine lv_istore_n (lv' := [(2, .int (-6 : Int32)), (0, .ref a0), (1, .int p1)]) hx hb dX8_row_24 rfl hl (by decide) rfl (fun ls hl => ?_)
      exact hJ25 p1 (-6 : Int32) S H locs ls hf (lv_sub hl [1, 2, 0] rfl) hh
theorem inX8_isWell_X8 : ∀ w ∈ wsX80, w ∈ wsX8_isWell := by decide +kernel
theorem mmX8_isWell_0 : Cond.fieldLink RX8 64 "SumOfTwoThatStandModel" "row" "[I" ∈ wsX8_isWell := by decide +kernel
theorem hdX8_isWell : yX8_isWell.cls ≠ "java/lang/invoke/MethodHandle" ∧ yX8_isWell.cls ≠ "java/lang/invoke/VarHandle" ∧ (parseMethodDescriptor yX8_isWell.desc).map (fun d => d.parameters.length) = some 1 := by decide +kernel
set_option maxHeartbeats 4000000 in
set_option maxRecDepth 100000 in
theorem kX8_isWell (l : Launch) (K : zK) (a0 a1 a2 a3 a4 a5 a6 a7 a8 a9 a10 a11 a12 a13 a14 a15 a16 a17 a18 a19 : Nat) (S : zMd) (p1 : Int32) (R : Int32) (hf : fX8_isWell S p1 = some R) : zC l yX8_isWell wsX8_isWell ({ frames := 0, cells := 0, slots := 0, locals := 0 } : Room) K [.ref a0, .int p1] (cMd K a0 a1 a2 a3 a4 a5 a6 a7 a8 a9 a10 a11 a12 a13 a14 a15 a16 a17 a18 a19 S) (some (.int R)) (cMd K a0 a1 a2 a3 a4 a5 a6 a7 a8 a9 a10 a11 a12 a13 a14 a15 a16 a17 a18 a19 S) := by
  refine zC_z .boolean R (cc := cX8_isWell) (maxL := 5) (by decide +kernel) rfl (Nat.le_of_ble_eq_true rfl) rfl rfl ?_
  intro p e s m below meth c Q A X hret ls hl hh
  have X : zX p m c cX8_isWell 5 s ([.ref a0, .int p1] : List Value).toArray wsX8_isWell RX8 K A := X
  have hx := X.1.1
  have hb := X.1.2.1
  have hr2 : ∀ (pc : Nat) (ls : Array Slot) (H : Heap) (locs : List Loc) (v : Int32), some v = some R → narrow .boolean (.int v) = .int v → decode cX8_isWell pc = .ok (.ireturn, 1) → zW K A s H locs (cMd K a0 a1 a2 a3 a4 a5 a6 a7 a8 a9 a10 a11 a12 a13 a14 a15 a16 a17 a18 a19 S) → W p l e ({ frames := 0, cells := 0, slots := 0, locals := 0 } : Room) s m ([.ref a0, .int p1] : List Value).toArray below meth c H locs 0 0 Q (F0 m pc ls [.int v]) := by
    intro pc ls H locs v h hn hd hh
    cases h; exact hret pc ls H locs _ rfl hn hd hh
  have hl : lv_has ls 5 [(0, .ref a0), (1, .int p1)] := hl
  have hL47 : ∀ (v1 : Int32) (v3 : Int32) (k22 : (Int32) → (Int32) → Option (Int32)), (∀ (v2 : Int32) (v3 : Int32) (H : Heap) (locs : List Loc) (ls : Array Slot), k22 v2 v3 = some R → lv_has ls 5 [(0, .ref a0), (1, .int v1), (2, .int v2), (3, .int v3)] → zW K A s H locs (cMd K a0 a1 a2 a3 a4 a5 a6 a7 a8 a9 a10 a11 a12 a13 a14 a15 a16 a17 a18 a19 S) → W p l e ({ frames := 0, cells := 0, slots := 0, locals := 0 } : Room) s m ([.ref a0, .int p1] : List Value).toArray below meth c H locs 0 0 Q (F0 m 22 ls [])) → ∀ (n : Nat) (v2 : Int32) (v4 : Int32), ∀ (H : Heap) (locs : List Loc) (ls : Array Slot), fX8_isWell_l47 S v1 v3 k22 n v2 v4 = some R → lv_has ls 5 [(0, .ref a0), (1, .int v1), (2, .int v2), (3, .int v3), (4, .int v4)] → zW K A s H locs (cMd K a0 a1 a2 a3 a4 a5 a6 a7 a8 a9 a10 a11 a12 a13 a14 a15 a16 a17 a18 a19 S) → W p l e ({ frames := 0, cells := 0, slots := 0, locals := 0 } : Room) s m ([.ref a0, .int p1] : List Value).toArray below meth c H locs 0 0 Q (F0 m 47 ls []) := by
    intro v1 v3 k22 hk22 n
    induction n with
    | zero =>
      intro v2 v4 H locs ls hf hl hh
      rw [fX8_isWell_l47] at hf; cases hf
    | succ n ih =>
      intro v2 v4 H locs ls hf hl hh
      rw [fX8_isWell_l47] at hf
      refine lv_iload hx hb dX8_isWell_47 (lv_at hl 4 rfl) ?_
      refine lv_iload_n hx hb dX8_isWell_49 rfl (lv_at hl 1 rfl) ?_
      refine lv_icmp_ge (tgt := 90) hx hb dX8_isWell_50 (by decide) (fun c1 => ?_) (fun c1 => ?_)
      · replace hf := (if_pos c1).symm.trans hf
        refine lv_iinc (v := (v3 + (1 : Int32))) (lv' := [(3, .int (v3 + (1 : Int32))), (0, .ref a0), (1, .int v1), (2, .int v2), (4, .int v4)]) hx hb dX8_isWell_90 hl (k := 3) rfl rfl (by decide) rfl (fun ls hl => ?_)
        refine lv_goto (tgt := 22) hx hb dX8_isWell_93 (by decide) ?_
        exact hk22 v2 (v3 + (1 : Int32)) H locs ls hf (lv_sub hl [1, 2, 3, 0] rfl) hh
      · replace hf := (if_neg c1).symm.trans hf
        refine lv_iload_n hx hb dX8_isWell_53 rfl (lv_at hl 2 rfl) ?_
        refine lv_aload_n hx hb dX8_isWell_54 rfl (lv_at hl 0 rfl) ?_
        refine zget (v := .ref a19) (ref := "SumOfTwoThatStandModel") (C := RX8) (T := TX8) (N := 33) (index := 64) X hh inX8_isWell_X8 0 rfl rfl 30 (by decide) mmX8_isWell_0 rfl rfl dX8_isWell_55 ?_
        refine lv_iload_n hx hb dX8_isWell_58 rfl (lv_at hl 3 rfl) ?_
        obtain ⟨g2, hf⟩ := ob_ix hf
        refine ziald (f := (md_row S)) X hh 19 rfl g2 dX8_isWell_59 ?_
        refine lv_aload_n hx hb dX8_isWell_60 rfl (lv_at hl 0 rfl) ?_
        refine zget (v := .ref a19) (ref := "SumOfTwoThatStandModel") (C := RX8) (T := TX8) (N := 33) (index := 64) X hh inX8_isWell_X8 0 rfl rfl 30 (by decide) mmX8_isWell_0 rfl rfl dX8_isWell_61 ?_
        refine lv_iload hx hb dX8_isWell_64 (lv_at hl 4 rfl) ?_
        obtain ⟨g3, hf⟩ := ob_ix hf
        refine ziald (f := (md_row S)) X hh 19 rfl g3 dX8_isWell_66 ?_
        refine lv_iadd hx hb dX8_isWell_67 ?_
        refine lv_aload_n hx hb dX8_isWell_68 rfl (lv_at hl 0 rfl) ?_
        refine zget (v := .ref a19) (ref := "SumOfTwoThatStandModel") (C := RX8) (T := TX8) (N := 33) (index := 64) X hh inX8_isWell_X8 0 rfl rfl 30 (by decide) mmX8_isWell_0 rfl rfl dX8_isWell_69 ?_
        refine lv_iload_n hx hb dX8_isWell_72 rfl (lv_at hl 1 rfl) ?_
        obtain ⟨g4, hf⟩ := ob_ix hf
        refine ziald (f := (md_row S)) X hh 19 rfl g4 dX8_isWell_73 ?_
        refine lv_icmp_ne (tgt := 81) hx hb dX8_isWell_74 (by decide) (fun c5 => ?_) (fun c5 => ?_)
        · replace hf := (if_neg c5).symm.trans hf
          refine lv_iconst (v := (0 : Int32)) hx hb dX8_isWell_81 (by decide) ?_
          refine lv_ior hx hb dX8_isWell_82 ?_
          refine lv_istore_n (lv' := [(2, .int (v2 ||| (0 : Int32))), (0, .ref a0), (1, .int v1), (3, .int v3), (4, .int v4)]) hx hb dX8_isWell_83 rfl hl (by decide) rfl (fun ls hl => ?_)
          refine lv_iinc (v := (v4 + (1 : Int32))) (lv' := [(4, .int (v4 + (1 : Int32))), (2, .int (v2 ||| (0 : Int32))), (0, .ref a0), (1, .int v1), (3, .int v3)]) hx hb dX8_isWell_84 hl (k := 4) rfl rfl (by decide) rfl (fun ls hl => ?_)
          refine lv_goto (tgt := 47) hx hb dX8_isWell_87 (by decide) ?_
          exact ih (v2 ||| (0 : Int32)) (v4 + (1 : Int32)) H locs ls hf (lv_sub hl [2, 3, 1, 4, 0] rfl) hh
        · replace hf := (if_pos c5).symm.trans hf
          refine lv_iconst (v := (1 : Int32)) hx hb dX8_isWell_77 (by decide) ?_
          refine lv_goto (tgt := 82) hx hb dX8_isWell_78 (by decide) ?_
          refine lv_ior hx hb dX8_isWell_82 ?_
          refine lv_istore_n (lv' := [(2, .int (v2 ||| (1 : Int32))), (0, .ref a0), (1, .int v1), (3, .int v3), (4, .int v4)]) hx hb dX8_isWell_83 rfl hl (by decide) rfl (fun ls hl => ?_)
          refine lv_iinc (v := (v4 + (1 : Int32))) (lv' := [(4, .int (v4 + (1 : Int32))), (2, .int (v2 ||| (1 : Int32))), (0, .ref a0), (1, .int v1), (3, .int v3)]) hx hb dX8_isWell_84 hl (k := 4) rfl rfl (by decide) rfl (fun ls hl => ?_)
          refine lv_goto (tgt := 47) hx hb dX8_isWell_87 (by decide) ?_
          exact ih (v2 ||| (1 : Int32)) (v4 + (1 : Int32)) H locs ls hf (lv_sub hl [2, 3, 1, 4, 0] rfl) hh
  have hL22 : ∀ (v1 : Int32), ∀ (n : Nat) (v2 : Int32) (v3 : Int32), ∀ (H : Heap) (locs : List Loc) (ls : Array Slot), fX8_isWell_l22 S v1 n v2 v3 = some R → lv_has ls 5 [(0, .ref a0), (1, .int v1), (2, .int v2), (3, .int v3)] → zW K A s H locs (cMd K a0 a1 a2 a3 a4 a5 a6 a7 a8 a9 a10 a11 a12 a13 a14 a15 a16 a17 a18 a19 S) → W p l e ({ frames := 0, cells := 0, slots := 0, locals := 0 } : Room) s m ([.ref a0, .int p1] : List Value).toArray below meth c H locs 0 0 Q (F0 m 22 ls []) := by
    intro v1 n
    induction n with
    | zero =>
      intro v2 v3 H locs ls hf hl hh
      rw [fX8_isWell_l22] at hf; cases hf
    | succ n ih =>
      intro v2 v3 H locs ls hf hl hh
      rw [fX8_isWell_l22] at hf
      refine lv_iload_n hx hb dX8_isWell_22 rfl (lv_at hl 3 rfl) ?_
      refine lv_iload_n hx hb dX8_isWell_23 rfl (lv_at hl 1 rfl) ?_
      refine lv_icmp_ge (tgt := 96) hx hb dX8_isWell_24 (by decide) (fun c6 => ?_) (fun c6 => ?_)
      · replace hf := (if_pos c6).symm.trans hf
        refine lv_iload_n hx hb dX8_isWell_96 rfl (lv_at hl 2 rfl) ?_
        obtain ⟨g7, hf⟩ := ob_ck hf
        exact hr2 97 ls H locs v2 hf (nar_ok g7) dX8_isWell_97 hh
      · replace hf := (if_neg c6).symm.trans hf
        refine lv_aload_n hx hb dX8_isWell_27 rfl (lv_at hl 0 rfl) ?_
        refine zget (v := .ref a19) (ref := "SumOfTwoThatStandModel") (C := RX8) (T := TX8) (N := 33) (index := 64) X hh inX8_isWell_X8 0 rfl rfl 30 (by decide) mmX8_isWell_0 rfl rfl dX8_isWell_28 ?_
        refine lv_iload_n hx hb dX8_isWell_31 rfl (lv_at hl 3 rfl) ?_
        obtain ⟨g8, hf⟩ := ob_ix hf
        refine ziald (f := (md_row S)) X hh 19 rfl g8 dX8_isWell_32 ?_
        refine lv_aload_n hx hb dX8_isWell_33 rfl (lv_at hl 0 rfl) ?_
        refine zget (v := .ref a19) (ref := "SumOfTwoThatStandModel") (C := RX8) (T := TX8) (N := 33) (index := 64) X hh inX8_isWell_X8 0 rfl rfl 30 (by decide) mmX8_isWell_0 rfl rfl dX8_isWell_34 ?_
        refine lv_iload_n hx hb dX8_isWell_37 rfl (lv_at hl 1 rfl) ?_
        obtain ⟨g9, hf⟩ := ob_ix hf
        refine ziald (f := (md_row S)) X hh 19 rfl g9 dX8_isWell_38 ?_
        refine lv_icmp_ne (tgt := 44) hx hb dX8_isWell_39 (by decide) (fun c10 => ?_) (fun c10 => ?_)
        · replace hf := (if_neg c10).symm.trans hf
          refine lv_iload_n hx hb dX8_isWell_44 rfl (lv_at hl 3 rfl) ?_
          refine lv_istore (lv' := [(4, .int v3), (0, .ref a0), (1, .int v1), (2, .int v2), (3, .int v3)]) hx hb dX8_isWell_45 hl (by decide) rfl (fun ls hl => ?_)
          exact hL47 v1 v3 (fX8_isWell_l22 S v1 n) (ih) FU v2 v3 H locs ls hf (lv_sub hl [1, 2, 3, 4, 0] rfl) hh
        · replace hf := (if_pos c10).symm.trans hf
          refine lv_iconst (v := (0 : Int32)) hx hb dX8_isWell_42 (by decide) ?_
          exact hr2 43 ls H locs (0 : Int32) hf rfl dX8_isWell_43 hh
  have hJ19 : ∀ (v1 : Int32) (t0 : Int32), ∀ (H : Heap) (locs : List Loc) (ls : Array Slot), fX8_isWell_j19 S v1 t0 = some R → lv_has ls 5 [(0, .ref a0), (1, .int v1)] → zW K A s H locs (cMd K a0 a1 a2 a3 a4 a5 a6 a7 a8 a9 a10 a11 a12 a13 a14 a15 a16 a17 a18 a19 S) → W p l e ({ frames := 0, cells := 0, slots := 0, locals := 0 } : Room) s m ([.ref a0, .int p1] : List Value).toArray below meth c H locs 0 0 Q (F0 m 19 ls [.int t0]) := by
    intro v1 t0 H locs ls hf hl hh
    unfold fX8_isWell_j19 at hf
    refine lv_istore_n (lv' := [(2, .int t0), (0, .ref a0), (1, .int v1)]) hx hb dX8_isWell_19 rfl hl (by decide) rfl (fun ls hl => ?_)
    refine lv_iconst (v := (0 : Int32)) hx hb dX8_isWell_20 (by decide) ?_
    refine lv_istore_n (lv' := [(3, .int (0 : Int32)), (2, .int t0), (0, .ref a0), (1, .int v1)]) hx hb dX8_isWell_21 rfl hl (by decide) rfl (fun ls hl => ?_)
    exact hL22 v1 FU t0 (0 : Int32) H locs ls hf (lv_sub hl [2, 3, 1, 0] rfl) hh
  have hJ18 : ∀ (v1 : Int32), ∀ (H : Heap) (locs : List Loc) (ls : Array Slot), fX8_isWell_j18 S v1 = some R → lv_has ls 5 [(0, .ref a0), (1, .int v1)] → zW K A s H locs (cMd K a0 a1 a2 a3 a4 a5 a6 a7 a8 a9 a10 a11 a12 a13 a14 a15 a16 a17 a18 a19 S) → W p l e ({ frames := 0, cells := 0, slots := 0, locals := 0 } : Room) s m ([.ref a0, .int p1] : List Value).toArray below meth c H locs 0 0 Q (F0 m 18 ls []) := by
    intro v1 H locs ls hf hl hh
    unfold fX8_isWell_j18 at hf
    refine lv_iconst (v := (0 : Int32)) hx hb dX8_isWell_18 (by decide) ?_
    exact hJ19 v1 (0 : Int32) H locs ls hf (lv_sub hl [0, 1] rfl) hh
  unfold fX8_isWell at hf
  refine (fun (hmain : ∀ (H : Heap) (locs : List Loc), zW K A s H locs (cMd K a0 a1 a2 a3 a4 a5 a6 a7 a8 a9 a10 a11 a12 a13 a14 a15 a16 a17 a18 a19 S) → W p l e ({ frames := 0, cells := 0, slots := 0, locals := 0 } : Room) s m ([.ref a0, .int p1] : List Value).toArray below meth c H locs 0 0 Q (F0 m 0 ls [])) => hmain s.heap [] hh) (fun H locs hh => ?_)
  refine lv_iload_n hx hb dX8_isWell_0 rfl (lv_at hl 1 rfl) ?_
  refine lv_if_ne (tgt := 18) hx hb dX8_isWell_1 (by decide) (fun c11 => ?_) (fun c11 => ?_)
  · replace hf := (if_neg c11).symm.trans hf
    exact hJ18 p1 H locs ls hf (lv_sub hl [0, 1] rfl) hh
  · replace hf := (if_pos c11).symm.trans hf
    refine lv_aload_n hx hb dX8_isWell_4 rfl (lv_at hl 0 rfl) ?_
    refine zget (v := .ref a19) (ref := "SumOfTwoThatStandModel") (C := RX8) (T := TX8) (N := 33) (index := 64) X hh inX8_isWell_X8 0 rfl rfl 30 (by decide) mmX8_isWell_0 rfl rfl dX8_isWell_5 ?_
    refine lv_iconst (v := (0 : Int32)) hx hb dX8_isWell_8 (by decide) ?_
    obtain ⟨g12, hf⟩ := ob_ix hf
    refine ziald (f := (md_row S)) X hh 19 rfl g12 dX8_isWell_9 ?_
    refine lv_iconst (v := (1 : Int32)) hx hb dX8_isWell_10 (by decide) ?_
    refine lv_icmp_ne (tgt := 18) hx hb dX8_isWell_11 (by decide) (fun c13 => ?_) (fun c13 => ?_)
    · replace hf := (if_neg c13).symm.trans hf
      exact hJ18 p1 H locs ls hf (lv_sub hl [0, 1] rfl) hh
    · replace hf := (if_pos c13).symm.trans hf
      refine lv_iconst (v := (1 : Int32)) hx hb dX8_isWell_14 (by decide) ?_
      refine lv_goto (tgt := 19) hx hb dX8_isWell_15 (by decide) ?_
      exact hJ19 p1 (1 : Int32) H locs ls hf (lv_sub hl [0, 1] rfl) hh
theorem inX8_judge_X8 : ∀ w ∈ wsX80, w ∈ wsX8_judge := by decide +kernel
theorem mmX8_judge_0 : Cond.fieldLink RX8 268 "SumOfTwoThatStandModel" "rowMany" "I" ∈ wsX8_judge := by decide +kernel
theorem hdX8_judge : yX8_judge.cls ≠ "java/lang/invoke/MethodHandle" ∧ yX8_judge.cls ≠ "java/lang/invoke/VarHandle" ∧ (parseMethodDescriptor yX8_judge.desc).map (fun d => d.parameters.length) = some 0 := by decide +kernel
set_option maxHeartbeats 4000000 in
set_option maxRecDepth 100000 in
theorem kX8_judge (l : Launch) (K : zK) (a0 a1 a2 a3 a4 a5 a6 a7 a8 a9 a10 a11 a12 a13 a14 a15 a16 a17 a18 a19 : Nat) (S : zMd) (R : Int32 × zMd) (hf : fX8_judge S = some R) : zC l yX8_judge wsX8_judge ({ frames := 1, cells := 0, slots := 0, locals := 24 } : Room) K [.ref a0] (cMd K a0 a1 a2 a3 a4 a5 a6 a7 a8 a9 a10 a11 a12 a13 a14 a15 a16 a17 a18 a19 S) (some (.int R.1)) (cMd K a0 a1 a2 a3 a4 a5 a6 a7 a8 a9 a10 a11 a12 a13 a14 a15 a16 a17 a18 a19 R.2) := by
  refine zC_i R.1 (cc := cX8_judge) (maxL := 3) (by decide +kernel) rfl (Nat.le_of_ble_eq_true rfl) rfl rfl ?_
  intro p e s m below meth c Q A X hret ls hl hh
  have X : zX p m c cX8_judge 3 s ([.ref a0] : List Value).toArray wsX8_judge RX8 K A := X
  have hx := X.1.1
  have hb := X.1.2.1
  have hr2 : ∀ (pc : Nat) (ls : Array Slot) (H : Heap) (locs : List Loc) (v : Int32) (S : zMd), some (v, S) = some R → decode cX8_judge pc = .ok (.ireturn, 1) → zW K A s H locs (cMd K a0 a1 a2 a3 a4 a5 a6 a7 a8 a9 a10 a11 a12 a13 a14 a15 a16 a17 a18 a19 S) → W p l e ({ frames := 1, cells := 0, slots := 0, locals := 24 } : Room) s m ([.ref a0] : List Value).toArray below meth c H locs 0 0 Q (F0 m pc ls [.int v]) := by
    intro pc ls H locs v S h hd hh
    cases h; exact hret pc ls H locs _ rfl hd hh
  have hl : lv_has ls 3 [(0, .ref a0)] := hl
  have hL12 : ∀ (v1 : Int32) (S : zMd), ∀ (n : Nat) (v2 : Int32), ∀ (H : Heap) (locs : List Loc) (ls : Array Slot), fX8_judge_l12 v1 S n v2 = some R → lv_has ls 3 [(0, .ref a0), (1, .int v1), (2, .int v2)] → zW K A s H locs (cMd K a0 a1 a2 a3 a4 a5 a6 a7 a8 a9 a10 a11 a12 a13 a14 a15 a16 a17 a18 a19 S) → W p l e ({ frames := 1, cells := 0, slots := 0, locals := 24 } : Room) s m ([.ref a0] : List Value).toArray below meth c H locs 0 0 Q (F0 m 12 ls []) := by
    intro v1 S n
    induction n with
    | zero =>
      intro v2 H locs ls hf hl hh
      rw [fX8_judge_l12] at hf; cases hf
    | succ n ih =>
      intro v2 H locs ls hf hl hh
      rw [fX8_judge_l12] at hf
      refine lv_iload_n hx hb dX8_judge_12 rfl (lv_at hl 2 rfl) ?_
      refine lv_iload_n hx hb dX8_judge_13 rfl (lv_at hl 1 rfl) ?_
      refine lv_icmp_ge (tgt := 33) hx hb dX8_judge_14 (by decide) (fun c1 => ?_) (fun c1 => ?_)
      · replace hf := (if_pos c1).symm.trans hf
        refine lv_bipush (v := (-9 : Int32)) hx hb dX8_judge_33 (by decide) ?_
        exact hr2 35 ls H locs (-9 : Int32) S hf dX8_judge_35 hh
      · replace hf := (if_neg c1).symm.trans hf
        refine lv_aload_n hx hb dX8_judge_17 rfl (lv_at hl 0 rfl) ?_
        refine lv_iload_n hx hb dX8_judge_18 rfl (lv_at hl 2 rfl) ?_
        obtain ⟨u2, hu2, hf⟩ := ob_bind hf
        refine zcallV (ci := 7) (q0 := 0) (As := [.int v2]) (rest := []) (wr := []) (ws' := cMd K a0 a1 a2 a3 a4 a5 a6 a7 a8 a9 a10 a11 a12 a13 a14 a15 a16 a17 a18 a19 S) (ov := some (.int u2)) X hh hl (kX8_isWell l K a0 a1 a2 a3 a4 a5 a6 a7 a8 a9 a10 a11 a12 a13 a14 a15 a16 a17 a18 a19 S v2 u2 hu2) (fun ht => cwV 1 ht gX8_judge_X8_isWell rfl rfl rfl ⟨rfl, hdX8_isWell⟩ ⟨Nat.le_of_ble_eq_true rfl, Nat.le_of_ble_eq_true rfl⟩) [0, 1, 2, 3, 4, 5, 6, 7, 8, 9, 10, 11, 12, 13, 14, 15, 16, 17, 18, 19] [] [0, 1, 2, 3, 4, 5, 6, 7, 8, 9, 10, 11, 12, 13, 14, 15, 16, 17, 18, 19] rfl rfl rfl rfl (by decide) rfl rfl rfl rfl rfl rfl (Nat.le_of_ble_eq_true rfl) dX8_judge_19 ⟨Nat.zero_le _, Nat.zero_le _⟩ (fun H locs hh => ?_)
        refine lv_if_ne (tgt := 27) hx hb dX8_judge_22 (by decide) (fun c3 => ?_) (fun c3 => ?_)
        · replace hf := (if_neg c3).symm.trans hf
          refine lv_iinc (v := (v2 + (1 : Int32))) (lv' := [(2, .int (v2 + (1 : Int32))), (0, .ref a0), (1, .int v1)]) hx hb dX8_judge_27 hl (k := 2) rfl rfl (by decide) rfl (fun ls hl => ?_)
          refine lv_goto (tgt := 12) hx hb dX8_judge_30 (by decide) ?_
          exact ih (v2 + (1 : Int32)) H locs ls hf (lv_sub hl [1, 2, 0] rfl) hh
        · replace hf := (if_pos c3).symm.trans hf
          refine lv_iload_n hx hb dX8_judge_25 rfl (lv_at hl 2 rfl) ?_
          exact hr2 26 ls H locs v2 S hf dX8_judge_26 hh
  unfold fX8_judge at hf
  refine (fun (hmain : ∀ (H : Heap) (locs : List Loc), zW K A s H locs (cMd K a0 a1 a2 a3 a4 a5 a6 a7 a8 a9 a10 a11 a12 a13 a14 a15 a16 a17 a18 a19 S) → W p l e ({ frames := 1, cells := 0, slots := 0, locals := 24 } : Room) s m ([.ref a0] : List Value).toArray below meth c H locs 0 0 Q (F0 m 0 ls [])) => hmain s.heap [] hh) (fun H locs hh => ?_)
  refine lv_aload_n hx hb dX8_judge_0 rfl (lv_at hl 0 rfl) ?_
  refine zget (v := .int (md_rowMany S)) (ref := "SumOfTwoThatStandModel") (C := RX8) (T := TX8) (N := 33) (index := 268) X hh inX8_judge_X8 0 rfl rfl 31 (by decide) mmX8_judge_0 rfl rfl dX8_judge_1 ?_
  refine lv_istore_n (lv' := [(1, .int (md_rowMany S)), (0, .ref a0)]) hx hb dX8_judge_4 rfl hl (by decide) rfl (fun ls hl => ?_)
  refine lv_aload_n hx hb dX8_judge_5 rfl (lv_at hl 1 rfl) ?_
  refine lv_iconst (v := (0 : Int32)) hx hb dX8_judge_6 (by decide) ?_
  refine zput (v := .int (0 : Int32)) (ty := .int) (ref := "SumOfTwoThatStandModel") (C := RX8) (T := TX8) (N := 33) (index := 268) X hh inX8_judge_X8 tyX8 tyX8_ok nmX8 0 rfl rfl 31 (by decide) mmX8_judge_0 rfl rfl (by decide +kernel) rfl rfl (Nat.le_of_ble_eq_true rfl) dX8_judge_7 (fun H locs hh => ?_)
  have hh := hh.to (sMd_rowMany K a0 a1 a2 a3 a4 a5 a6 a7 a8 a9 a10 a11 a12 a13 a14 a15 a16 a17 a18 a19 S (0 : Int32))
  refine lv_iconst (v := (0 : Int32)) hx hb dX8_judge_10 (by decide) ?_
  refine lv_istore_n (lv' := [(2, .int (0 : Int32)), (1, .int (md_rowMany S)), (0, .ref a0)]) hx hb dX8_judge_11 rfl hl (by decide) rfl (fun ls hl => ?_)
  exact hL12 (md_rowMany S) (md_set_rowMany S (0 : Int32)) FU (0 : Int32) H locs ls hf (lv_sub hl [2, 1, 0] rfl) hh
theorem inX8_draw_X8 : ∀ w ∈ wsX80, w ∈ wsX8_draw := by decide +kernel
theorem mmX8_draw_0 : Cond.fieldLink RX8 274 "SumOfTwoThatStandModel" "lots" "I" ∈ wsX8_draw := by decide +kernel
theorem mmX8_draw_1 : Cond.constant RX8 277 (1103515245) ∈ wsX8_draw := by decide +kernel
theorem mmX8_draw_2 : Cond.constant RX8 278 (2147483647) ∈ wsX8_draw := by decide +kernel
theorem mmX8_draw_3 : Cond.constant RX8 279 (65536) ∈ wsX8_draw := by decide +kernel
theorem hdX8_draw : yX8_draw.cls ≠ "java/lang/invoke/MethodHandle" ∧ yX8_draw.cls ≠ "java/lang/invoke/VarHandle" ∧ (parseMethodDescriptor yX8_draw.desc).map (fun d => d.parameters.length) = some 1 := by decide +kernel
set_option maxHeartbeats 4000000 in
set_option maxRecDepth 100000 in
theorem kX8_draw (l : Launch) (K : zK) (a0 a1 a2 a3 a4 a5 a6 a7 a8 a9 a10 a11 a12 a13 a14 a15 a16 a17 a18 a19 : Nat) (S : zMd) (p1 : Int32) (R : Int32 × zMd) (hf : fX8_draw S p1 = some R) : zC l yX8_draw wsX8_draw ({ frames := 0, cells := 0, slots := 0, locals := 0 } : Room) K [.ref a0, .int p1] (cMd K a0 a1 a2 a3 a4 a5 a6 a7 a8 a9 a10 a11 a12 a13 a14 a15 a16 a17 a18 a19 S) (some (.int R.1)) (cMd K a0 a1 a2 a3 a4 a5 a6 a7 a8 a9 a10 a11 a12 a13 a14 a15 a16 a17 a18 a19 R.2) := by
  refine zC_i R.1 (cc := cX8_draw) (maxL := 2) (by decide +kernel) rfl (Nat.le_of_ble_eq_true rfl) rfl rfl ?_
  intro p e s m below meth c Q A X hret ls hl hh
  have X : zX p m c cX8_draw 2 s ([.ref a0, .int p1] : List Value).toArray wsX8_draw RX8 K A := X
  have hx := X.1.1
  have hb := X.1.2.1
  have hr2 : ∀ (pc : Nat) (ls : Array Slot) (H : Heap) (locs : List Loc) (v : Int32) (S : zMd), some (v, S) = some R → decode cX8_draw pc = .ok (.ireturn, 1) → zW K A s H locs (cMd K a0 a1 a2 a3 a4 a5 a6 a7 a8 a9 a10 a11 a12 a13 a14 a15 a16 a17 a18 a19 S) → W p l e ({ frames := 0, cells := 0, slots := 0, locals := 0 } : Room) s m ([.ref a0, .int p1] : List Value).toArray below meth c H locs 0 0 Q (F0 m pc ls [.int v]) := by
    intro pc ls H locs v S h hd hh
    cases h; exact hret pc ls H locs _ rfl hd hh
  have hl : lv_has ls 2 [(0, .ref a0), (1, .int p1)] := hl
  unfold fX8_draw at hf
  refine (fun (hmain : ∀ (H : Heap) (locs : List Loc), zW K A s H locs (cMd K a0 a1 a2 a3 a4 a5 a6 a7 a8 a9 a10 a11 a12 a13 a14 a15 a16 a17 a18 a19 S) → W p l e ({ frames := 0, cells := 0, slots := 0, locals := 0 } : Room) s m ([.ref a0, .int p1] : List Value).toArray below meth c H locs 0 0 Q (F0 m 0 ls [])) => hmain s.heap [] hh) (fun H locs hh => ?_)
  refine lv_aload_n hx hb dX8_draw_0 rfl (lv_at hl 0 rfl) ?_
  refine lv_aload_n hx hb dX8_draw_1 rfl (lv_at hl 0 rfl) ?_
  refine zget (v := .int (md_lots S)) (ref := "SumOfTwoThatStandModel") (C := RX8) (T := TX8) (N := 33) (index := 274) X hh inX8_draw_X8 0 rfl rfl 32 (by decide) mmX8_draw_0 rfl rfl dX8_draw_2 ?_
  refine lv_ldcw (v := (1103515245 : Int32)) hx hb X.1.2.2.2.1 (X.1.2.2.2.2 _ mmX8_draw_1) dX8_draw_5 ?_
  refine lv_imul hx hb dX8_draw_8 ?_
  refine lv_sipush (v := (12345 : Int32)) hx hb dX8_draw_9 (by decide) ?_
  refine lv_iadd hx hb dX8_draw_12 ?_
  refine zput (v := .int (((md_lots S) * (1103515245 : Int32)) + (12345 : Int32))) (ty := .int) (ref := "SumOfTwoThatStandModel") (C := RX8) (T := TX8) (N := 33) (index := 274) X hh inX8_draw_X8 tyX8 tyX8_ok nmX8 0 rfl rfl 32 (by decide) mmX8_draw_0 rfl rfl (by decide +kernel) rfl rfl (Nat.le_of_ble_eq_true rfl) dX8_draw_13 (fun H locs hh => ?_)
  have hh := hh.to (sMd_lots K a0 a1 a2 a3 a4 a5 a6 a7 a8 a9 a10 a11 a12 a13 a14 a15 a16 a17 a18 a19 S (((md_lots S) * (1103515245 : Int32)) + (12345 : Int32)))
  refine lv_aload_n hx hb dX8_draw_16 rfl (lv_at hl 0 rfl) ?_
  refine zget (v := .int (((md_lots S) * (1103515245 : Int32)) + (12345 : Int32))) (ref := "SumOfTwoThatStandModel") (C := RX8) (T := TX8) (N := 33) (index := 274) X hh inX8_draw_X8 0 rfl rfl 32 (by decide) mmX8_draw_0 rfl rfl dX8_draw_17 ?_
  refine lv_ldcw (v := (2147483647 : Int32)) hx hb X.1.2.2.2.1 (X.1.2.2.2.2 _ mmX8_draw_2) dX8_draw_20 ?_
  refine lv_iand hx hb dX8_draw_23 ?_
  refine lv_ldcw (v := (65536 : Int32)) hx hb X.1.2.2.2.1 (X.1.2.2.2.2 _ mmX8_draw_3) dX8_draw_24 ?_
  refine lv_idiv hx hb dX8_draw_27 (by decide) ?_
  refine lv_iload_n hx hb dX8_draw_28 rfl (lv_at hl 1 rfl) ?_
  obtain ⟨g2, hf⟩ := ob_gd hf
  refine lv_irem hx hb dX8_draw_29 g2 ?_
  exact hr2 30 ls H locs ((((((md_lots S) * (1103515245 : Int32)) + (12345 : Int32)) &&& (2147483647 : Int32)) / (65536 : Int32)) - (((((md_lots S) * (1103515245 : Int32)) + (12345 : Int32)) &&& (2147483647 : Int32)) / (65536 : Int32)) / p1 * p1) (md_set_lots S (((md_lots S) * (1103515245 : Int32)) + (12345 : Int32))) hf dX8_draw_30 hh
theorem inX8_greatest_X8 : ∀ w ∈ wsX80, w ∈ wsX8_greatest := by decide +kernel
theorem mmX8_greatest_0 : Cond.fieldLink RX8 70 "SumOfTwoThatStandModel" "houses" "I" ∈ wsX8_greatest := by decide +kernel
theorem mmX8_greatest_1 : Cond.fieldLink RX8 28 "SumOfTwoThatStandModel" "stands" "[I" ∈ wsX8_greatest := by decide +kernel
theorem mmX8_greatest_2 : Cond.fieldLink RX8 13 "SumOfTwoThatStandModel" "number" "[I" ∈ wsX8_greatest := by decide +kernel
theorem hdX8_greatest : yX8_greatest.cls ≠ "java/lang/invoke/MethodHandle" ∧ yX8_greatest.cls ≠ "java/lang/invoke/VarHandle" ∧ (parseMethodDescriptor yX8_greatest.desc).map (fun d => d.parameters.length) = some 0 := by decide +kernel
set_option maxHeartbeats 4000000 in
set_option maxRecDepth 100000 in
theorem kX8_greatest (l : Launch) (K : zK) (a0 a1 a2 a3 a4 a5 a6 a7 a8 a9 a10 a11 a12 a13 a14 a15 a16 a17 a18 a19 : Nat) (S : zMd) (R : Int32) (hf : fX8_greatest S = some R) : zC l yX8_greatest wsX8_greatest ({ frames := 0, cells := 0, slots := 0, locals := 0 } : Room) K [.ref a0] (cMd K a0 a1 a2 a3 a4 a5 a6 a7 a8 a9 a10 a11 a12 a13 a14 a15 a16 a17 a18 a19 S) (some (.int R)) (cMd K a0 a1 a2 a3 a4 a5 a6 a7 a8 a9 a10 a11 a12 a13 a14 a15 a16 a17 a18 a19 S) := by
  refine zC_i R (cc := cX8_greatest) (maxL := 3) (by decide +kernel) rfl (Nat.le_of_ble_eq_true rfl) rfl rfl ?_
  intro p e s m below meth c Q A X hret ls hl hh
  have X : zX p m c cX8_greatest 3 s ([.ref a0] : List Value).toArray wsX8_greatest RX8 K A := X
  have hx := X.1.1
  have hb := X.1.2.1
  have hr2 : ∀ (pc : Nat) (ls : Array Slot) (H : Heap) (locs : List Loc) (v : Int32), some v = some R → decode cX8_greatest pc = .ok (.ireturn, 1) → zW K A s H locs (cMd K a0 a1 a2 a3 a4 a5 a6 a7 a8 a9 a10 a11 a12 a13 a14 a15 a16 a17 a18 a19 S) → W p l e ({ frames := 0, cells := 0, slots := 0, locals := 0 } : Room) s m ([.ref a0] : List Value).toArray below meth c H locs 0 0 Q (F0 m pc ls [.int v]) := by
    intro pc ls H locs v h hd hh
    cases h; exact hret pc ls H locs _ rfl hd hh
  have hl : lv_has ls 3 [(0, .ref a0)] := hl
  have hL4 : ∀ (n : Nat) (v1 : Int32) (v2 : Int32), ∀ (H : Heap) (locs : List Loc) (ls : Array Slot), fX8_greatest_l4 S n v1 v2 = some R → lv_has ls 3 [(0, .ref a0), (1, .int v1), (2, .int v2)] → zW K A s H locs (cMd K a0 a1 a2 a3 a4 a5 a6 a7 a8 a9 a10 a11 a12 a13 a14 a15 a16 a17 a18 a19 S) → W p l e ({ frames := 0, cells := 0, slots := 0, locals := 0 } : Room) s m ([.ref a0] : List Value).toArray below meth c H locs 0 0 Q (F0 m 4 ls []) := by
    intro n
    induction n with
    | zero =>
      intro v1 v2 H locs ls hf hl hh
      rw [fX8_greatest_l4] at hf; cases hf
    | succ n ih =>
      intro v1 v2 H locs ls hf hl hh
      rw [fX8_greatest_l4] at hf
      refine lv_iload_n hx hb dX8_greatest_4 rfl (lv_at hl 2 rfl) ?_
      refine lv_aload_n hx hb dX8_greatest_5 rfl (lv_at hl 0 rfl) ?_
      refine zget (v := .int (md_houses S)) (ref := "SumOfTwoThatStandModel") (C := RX8) (T := TX8) (N := 33) (index := 70) X hh inX8_greatest_X8 0 rfl rfl 9 (by decide) mmX8_greatest_0 rfl rfl dX8_greatest_6 ?_
      refine lv_icmp_ge (tgt := 49) hx hb dX8_greatest_9 (by decide) (fun c1 => ?_) (fun c1 => ?_)
      · replace hf := (if_pos c1).symm.trans hf
        refine lv_iload_n hx hb dX8_greatest_49 rfl (lv_at hl 1 rfl) ?_
        exact hr2 50 ls H locs v1 hf dX8_greatest_50 hh
      · replace hf := (if_neg c1).symm.trans hf
        refine lv_aload_n hx hb dX8_greatest_12 rfl (lv_at hl 0 rfl) ?_
        refine zget (v := .ref a7) (ref := "SumOfTwoThatStandModel") (C := RX8) (T := TX8) (N := 33) (index := 28) X hh inX8_greatest_X8 0 rfl rfl 6 (by decide) mmX8_greatest_1 rfl rfl dX8_greatest_13 ?_
        refine lv_iload_n hx hb dX8_greatest_16 rfl (lv_at hl 2 rfl) ?_
        obtain ⟨g2, hf⟩ := ob_ix hf
        refine ziald (f := (md_stands S)) X hh 7 rfl g2 dX8_greatest_17 ?_
        refine lv_iconst (v := (1 : Int32)) hx hb dX8_greatest_18 (by decide) ?_
        refine lv_icmp_ne (tgt := 41) hx hb dX8_greatest_19 (by decide) (fun c3 => ?_) (fun c3 => ?_)
        · replace hf := (if_neg c3).symm.trans hf
          refine lv_iload_n hx hb dX8_greatest_41 rfl (lv_at hl 1 rfl) ?_
          refine lv_istore_n (lv' := [(1, .int v1), (0, .ref a0), (2, .int v2)]) hx hb dX8_greatest_42 rfl hl (by decide) rfl (fun ls hl => ?_)
          refine lv_iinc (v := (v2 + (1 : Int32))) (lv' := [(2, .int (v2 + (1 : Int32))), (1, .int v1), (0, .ref a0)]) hx hb dX8_greatest_43 hl (k := 2) rfl rfl (by decide) rfl (fun ls hl => ?_)
          refine lv_goto (tgt := 4) hx hb dX8_greatest_46 (by decide) ?_
          exact ih v1 (v2 + (1 : Int32)) H locs ls hf (lv_sub hl [2, 1, 0] rfl) hh
        · replace hf := (if_pos c3).symm.trans hf
          refine lv_aload_n hx hb dX8_greatest_22 rfl (lv_at hl 0 rfl) ?_
          refine zget (v := .ref a2) (ref := "SumOfTwoThatStandModel") (C := RX8) (T := TX8) (N := 33) (index := 13) X hh inX8_greatest_X8 0 rfl rfl 1 (by decide) mmX8_greatest_2 rfl rfl dX8_greatest_23 ?_
          refine lv_iload_n hx hb dX8_greatest_26 rfl (lv_at hl 2 rfl) ?_
          refine ziald (f := (md_number S)) X hh 2 rfl g2 dX8_greatest_27 ?_
          refine lv_iload_n hx hb dX8_greatest_28 rfl (lv_at hl 1 rfl) ?_
          refine lv_icmp_le (tgt := 41) hx hb dX8_greatest_29 (by decide) (fun c4 => ?_) (fun c4 => ?_)
          · replace hf := (if_pos c4).symm.trans hf
            refine lv_iload_n hx hb dX8_greatest_41 rfl (lv_at hl 1 rfl) ?_
            refine lv_istore_n (lv' := [(1, .int v1), (0, .ref a0), (2, .int v2)]) hx hb dX8_greatest_42 rfl hl (by decide) rfl (fun ls hl => ?_)
            refine lv_iinc (v := (v2 + (1 : Int32))) (lv' := [(2, .int (v2 + (1 : Int32))), (1, .int v1), (0, .ref a0)]) hx hb dX8_greatest_43 hl (k := 2) rfl rfl (by decide) rfl (fun ls hl => ?_)
            refine lv_goto (tgt := 4) hx hb dX8_greatest_46 (by decide) ?_
            exact ih v1 (v2 + (1 : Int32)) H locs ls hf (lv_sub hl [2, 1, 0] rfl) hh
          · replace hf := (if_neg c4).symm.trans hf
            refine lv_aload_n hx hb dX8_greatest_32 rfl (lv_at hl 0 rfl) ?_
            refine zget (v := .ref a2) (ref := "SumOfTwoThatStandModel") (C := RX8) (T := TX8) (N := 33) (index := 13) X hh inX8_greatest_X8 0 rfl rfl 1 (by decide) mmX8_greatest_2 rfl rfl dX8_greatest_33 ?_
            refine lv_iload_n hx hb dX8_greatest_36 rfl (lv_at hl 2 rfl) ?_
            refine ziald (f := (md_number S)) X hh 2 rfl g2 dX8_greatest_37 ?_
            refine lv_goto (tgt := 42) hx hb dX8_greatest_38 (by decide) ?_
            refine lv_istore_n (lv' := [(1, .int ((md_number S) v2.toNatClampNeg)), (0, .ref a0), (2, .int v2)]) hx hb dX8_greatest_42 rfl hl (by decide) rfl (fun ls hl => ?_)
            refine lv_iinc (v := (v2 + (1 : Int32))) (lv' := [(2, .int (v2 + (1 : Int32))), (1, .int ((md_number S) v2.toNatClampNeg)), (0, .ref a0)]) hx hb dX8_greatest_43 hl (k := 2) rfl rfl (by decide) rfl (fun ls hl => ?_)
            refine lv_goto (tgt := 4) hx hb dX8_greatest_46 (by decide) ?_
            exact ih ((md_number S) v2.toNatClampNeg) (v2 + (1 : Int32)) H locs ls hf (lv_sub hl [2, 1, 0] rfl) hh
  unfold fX8_greatest at hf
  refine (fun (hmain : ∀ (H : Heap) (locs : List Loc), zW K A s H locs (cMd K a0 a1 a2 a3 a4 a5 a6 a7 a8 a9 a10 a11 a12 a13 a14 a15 a16 a17 a18 a19 S) → W p l e ({ frames := 0, cells := 0, slots := 0, locals := 0 } : Room) s m ([.ref a0] : List Value).toArray below meth c H locs 0 0 Q (F0 m 0 ls [])) => hmain s.heap [] hh) (fun H locs hh => ?_)
  refine lv_iconst (v := (0 : Int32)) hx hb dX8_greatest_0 (by decide) ?_
  refine lv_istore_n (lv' := [(1, .int (0 : Int32)), (0, .ref a0)]) hx hb dX8_greatest_1 rfl hl (by decide) rfl (fun ls hl => ?_)
  refine lv_iconst (v := (0 : Int32)) hx hb dX8_greatest_2 (by decide) ?_
  refine lv_istore_n (lv' := [(2, .int (0 : Int32)), (1, .int (0 : Int32)), (0, .ref a0)]) hx hb dX8_greatest_3 rfl hl (by decide) rfl (fun ls hl => ?_)
  exact hL4 FU (0 : Int32) (0 : Int32) H locs ls hf (lv_sub hl [2, 1, 0] rfl) hh
theorem inX8_buildsByLot_X8 : ∀ w ∈ wsX80, w ∈ wsX8_buildsByLot := by decide +kernel
theorem mmX8_buildsByLot_0 : Cond.fieldLink RX8 70 "SumOfTwoThatStandModel" "houses" "I" ∈ wsX8_buildsByLot := by decide +kernel
theorem hdX8_buildsByLot : yX8_buildsByLot.cls ≠ "java/lang/invoke/MethodHandle" ∧ yX8_buildsByLot.cls ≠ "java/lang/invoke/VarHandle" ∧ (parseMethodDescriptor yX8_buildsByLot.desc).map (fun d => d.parameters.length) = some 0 := by decide +kernel
set_option maxHeartbeats 4000000 in
set_option maxRecDepth 100000 in
theorem kX8_buildsByLot (l : Launch) (K : zK) (a0 a1 a2 a3 a4 a5 a6 a7 a8 a9 a10 a11 a12 a13 a14 a15 a16 a17 a18 a19 : Nat) (S : zMd) (R : zMd) (hf : fX8_buildsByLot S = some R) : zC l yX8_buildsByLot wsX8_buildsByLot ({ frames := 4, cells := 0, slots := 0, locals := 89 } : Room) K [.ref a0] (cMd K a0 a1 a2 a3 a4 a5 a6 a7 a8 a9 a10 a11 a12 a13 a14 a15 a16 a17 a18 a19 S) none (cMd K a0 a1 a2 a3 a4 a5 a6 a7 a8 a9 a10 a11 a12 a13 a14 a15 a16 a17 a18 a19 R) := by
  refine zC_v (cc := cX8_buildsByLot) (maxL := 3) (by decide +kernel) rfl (Nat.le_of_ble_eq_true rfl) rfl rfl ?_
  intro p e s m below meth c Q A X hret ls hl hh
  have X : zX p m c cX8_buildsByLot 3 s ([.ref a0] : List Value).toArray wsX8_buildsByLot RX8 K A := X
  have hx := X.1.1
  have hb := X.1.2.1
  have hr2 : ∀ (pc : Nat) (ls : Array Slot) (H : Heap) (locs : List Loc) (S : zMd), some S = some R → decode cX8_buildsByLot pc = .ok (.return_, 1) → zW K A s H locs (cMd K a0 a1 a2 a3 a4 a5 a6 a7 a8 a9 a10 a11 a12 a13 a14 a15 a16 a17 a18 a19 S) → W p l e ({ frames := 4, cells := 0, slots := 0, locals := 89 } : Room) s m ([.ref a0] : List Value).toArray below meth c H locs 0 0 Q (F0 m pc ls []) := by
    intro pc ls H locs S h hd hh
    cases h; exact hret pc ls H locs hd hh
  have hl : lv_has ls 3 [(0, .ref a0)] := hl
  unfold fX8_buildsByLot at hf
  refine (fun (hmain : ∀ (H : Heap) (locs : List Loc), zW K A s H locs (cMd K a0 a1 a2 a3 a4 a5 a6 a7 a8 a9 a10 a11 a12 a13 a14 a15 a16 a17 a18 a19 S) → W p l e ({ frames := 4, cells := 0, slots := 0, locals := 89 } : Room) s m ([.ref a0] : List Value).toArray below meth c H locs 0 0 Q (F0 m 0 ls [])) => hmain s.heap [] hh) (fun H locs hh => ?_)
  refine lv_aload_n hx hb dX8_buildsByLot_0 rfl (lv_at hl 0 rfl) ?_
  refine lv_aload_n hx hb dX8_buildsByLot_1 rfl (lv_at hl 0 rfl) ?_
  refine zget (v := .int (md_houses S)) (ref := "SumOfTwoThatStandModel") (C := RX8) (T := TX8) (N := 33) (index := 70) X hh inX8_buildsByLot_X8 0 rfl rfl 9 (by decide) mmX8_buildsByLot_0 rfl rfl dX8_buildsByLot_2 ?_
  obtain ⟨u1, hu1, hf⟩ := ob_bind hf
  refine zcallV (ci := 7) (q0 := 0) (As := [.int (md_houses S)]) (rest := []) (wr := []) (ws' := cMd K a0 a1 a2 a3 a4 a5 a6 a7 a8 a9 a10 a11 a12 a13 a14 a15 a16 a17 a18 a19 u1.2) (ov := some (.int u1.1)) X hh hl (kX8_draw l K a0 a1 a2 a3 a4 a5 a6 a7 a8 a9 a10 a11 a12 a13 a14 a15 a16 a17 a18 a19 S (md_houses S) u1 hu1) (fun ht => cwV 1 ht gX8_buildsByLot_X8_draw rfl rfl rfl ⟨rfl, hdX8_draw⟩ ⟨Nat.le_of_ble_eq_true rfl, Nat.le_of_ble_eq_true rfl⟩) [0, 1, 2, 3, 4, 5, 6, 7, 8, 9, 10, 11, 12, 13, 14, 15, 16, 17, 18, 19] [] [0, 1, 2, 3, 4, 5, 6, 7, 8, 9, 10, 11, 12, 13, 14, 15, 16, 17, 18, 19] rfl rfl rfl rfl (by decide) rfl rfl rfl rfl rfl rfl (Nat.le_of_ble_eq_true rfl) dX8_buildsByLot_5 ⟨Nat.zero_le _, Nat.zero_le _⟩ (fun H locs hh => ?_)
  refine lv_istore_n (lv' := [(1, .int u1.1), (0, .ref a0)]) hx hb dX8_buildsByLot_8 rfl hl (by decide) rfl (fun ls hl => ?_)
  refine lv_aload_n hx hb dX8_buildsByLot_9 rfl (lv_at hl 1 rfl) ?_
  refine lv_aload_n hx hb dX8_buildsByLot_10 rfl (lv_at hl 1 rfl) ?_
  refine zget (v := .int (md_houses u1.2)) (ref := "SumOfTwoThatStandModel") (C := RX8) (T := TX8) (N := 33) (index := 70) X hh inX8_buildsByLot_X8 0 rfl rfl 9 (by decide) mmX8_buildsByLot_0 rfl rfl dX8_buildsByLot_11 ?_
  obtain ⟨u2, hu2, hf⟩ := ob_bind hf
  refine zcallV (ci := 7) (q0 := 0) (As := [.int (md_houses u1.2)]) (rest := []) (wr := []) (ws' := cMd K a0 a1 a2 a3 a4 a5 a6 a7 a8 a9 a10 a11 a12 a13 a14 a15 a16 a17 a18 a19 u2.2) (ov := some (.int u2.1)) X hh hl (kX8_draw l K a0 a1 a2 a3 a4 a5 a6 a7 a8 a9 a10 a11 a12 a13 a14 a15 a16 a17 a18 a19 u1.2 (md_houses u1.2) u2 hu2) (fun ht => cwV 1 ht gX8_buildsByLot_X8_draw rfl rfl rfl ⟨rfl, hdX8_draw⟩ ⟨Nat.le_of_ble_eq_true rfl, Nat.le_of_ble_eq_true rfl⟩) [0, 1, 2, 3, 4, 5, 6, 7, 8, 9, 10, 11, 12, 13, 14, 15, 16, 17, 18, 19] [] [0, 1, 2, 3, 4, 5, 6, 7, 8, 9, 10, 11, 12, 13, 14, 15, 16, 17, 18, 19] rfl rfl rfl rfl (by decide) rfl rfl rfl rfl rfl rfl (Nat.le_of_ble_eq_true rfl) dX8_buildsByLot_14 ⟨Nat.zero_le _, Nat.zero_le _⟩ (fun H locs hh => ?_)
  refine lv_istore_n (lv' := [(2, .int u2.1), (1, .int u1.1), (0, .ref a0)]) hx hb dX8_buildsByLot_17 rfl hl (by decide) rfl (fun ls hl => ?_)
  refine lv_aload_n hx hb dX8_buildsByLot_18 rfl (lv_at hl 2 rfl) ?_
  refine lv_iload_n hx hb dX8_buildsByLot_19 rfl (lv_at hl 1 rfl) ?_
  refine lv_iload_n hx hb dX8_buildsByLot_20 rfl (lv_at hl 0 rfl) ?_
  obtain ⟨u3, hu3, hf⟩ := ob_bind hf
  refine zcallV (ci := 7) (q0 := 0) (As := [.int u1.1, .int u2.1]) (rest := []) (wr := []) (ws' := cMd K a0 a1 a2 a3 a4 a5 a6 a7 a8 a9 a10 a11 a12 a13 a14 a15 a16 a17 a18 a19 u2.2) (ov := some (.int u3)) X hh hl (kX8_canBe l K a0 a1 a2 a3 a4 a5 a6 a7 a8 a9 a10 a11 a12 a13 a14 a15 a16 a17 a18 a19 u2.2 u1.1 u2.1 u3 hu3) (fun ht => cwV 2 ht gX8_buildsByLot_X8_canBe rfl rfl rfl ⟨rfl, hdX8_canBe⟩ ⟨Nat.le_of_ble_eq_true rfl, Nat.le_of_ble_eq_true rfl⟩) [0, 1, 2, 3, 4, 5, 6, 7, 8, 9, 10, 11, 12, 13, 14, 15, 16, 17, 18, 19] [] [0, 1, 2, 3, 4, 5, 6, 7, 8, 9, 10, 11, 12, 13, 14, 15, 16, 17, 18, 19] rfl rfl rfl rfl (by decide) rfl rfl rfl rfl rfl rfl (Nat.le_of_ble_eq_true rfl) dX8_buildsByLot_21 ⟨Nat.zero_le _, Nat.zero_le _⟩ (fun H locs hh => ?_)
  refine lv_if_eq (tgt := 44) hx hb dX8_buildsByLot_24 (by decide) (fun c4 => ?_) (fun c4 => ?_)
  · replace hf := (if_pos c4).symm.trans hf
    exact hr2 44 ls H locs u2.2 hf dX8_buildsByLot_44 hh
  · replace hf := (if_neg c4).symm.trans hf
    refine lv_aload_n hx hb dX8_buildsByLot_27 rfl (lv_at hl 2 rfl) ?_
    refine zget (v := .int (md_houses u2.2)) (ref := "SumOfTwoThatStandModel") (C := RX8) (T := TX8) (N := 33) (index := 70) X hh inX8_buildsByLot_X8 0 rfl rfl 9 (by decide) mmX8_buildsByLot_0 rfl rfl dX8_buildsByLot_28 ?_
    refine lv_bipush (v := (12 : Int32)) hx hb dX8_buildsByLot_31 (by decide) ?_
    refine lv_icmp_ge (tgt := 44) hx hb dX8_buildsByLot_33 (by decide) (fun c5 => ?_) (fun c5 => ?_)
    · replace hf := (if_pos c5).symm.trans hf
      exact hr2 44 ls H locs u2.2 hf dX8_buildsByLot_44 hh
    · replace hf := (if_neg c5).symm.trans hf
      refine lv_aload_n hx hb dX8_buildsByLot_36 rfl (lv_at hl 2 rfl) ?_
      refine lv_iload_n hx hb dX8_buildsByLot_37 rfl (lv_at hl 1 rfl) ?_
      refine lv_iload_n hx hb dX8_buildsByLot_38 rfl (lv_at hl 0 rfl) ?_
      refine lv_iconst (v := (0 : Int32)) hx hb dX8_buildsByLot_39 (by decide) ?_
      refine lv_iconst (v := (0 : Int32)) hx hb dX8_buildsByLot_40 (by decide) ?_
      obtain ⟨u6, hu6, hf⟩ := ob_bind hf
      refine zcallV (ci := 7) (q0 := 0) (As := [.int u1.1, .int u2.1, .int (0 : Int32), .int (0 : Int32)]) (rest := []) (wr := []) (ws' := cMd K a0 a1 a2 a3 a4 a5 a6 a7 a8 a9 a10 a11 a12 a13 a14 a15 a16 a17 a18 a19 u6) (ov := none) X hh hl (kX8_builds l K a0 a1 a2 a3 a4 a5 a6 a7 a8 a9 a10 a11 a12 a13 a14 a15 a16 a17 a18 a19 u2.2 u1.1 u2.1 (0 : Int32) (0 : Int32) u6 hu6) (fun ht => cwV 4 ht gX8_buildsByLot_X8_builds rfl rfl rfl ⟨rfl, hdX8_builds⟩ ⟨Nat.le_of_ble_eq_true rfl, Nat.le_of_ble_eq_true rfl⟩) [0, 1, 2, 3, 4, 5, 6, 7, 8, 9, 10, 11, 12, 13, 14, 15, 16, 17, 18, 19] [] [0, 1, 2, 3, 4, 5, 6, 7, 8, 9, 10, 11, 12, 13, 14, 15, 16, 17, 18, 19] rfl rfl rfl rfl (by decide) rfl rfl rfl rfl rfl rfl (Nat.le_of_ble_eq_true rfl) dX8_buildsByLot_41 ⟨Nat.zero_le _, Nat.zero_le _⟩ (fun H locs hh => ?_)
      exact hr2 44 ls H locs u6 hf dX8_buildsByLot_44 hh
theorem inX8_seeds_X8 : ∀ w ∈ wsX80, w ∈ wsX8_seeds := by decide +kernel
theorem mmX8_seeds_0 : Cond.fieldLink RX8 274 "SumOfTwoThatStandModel" "lots" "I" ∈ wsX8_seeds := by decide +kernel
theorem hdX8_seeds : yX8_seeds.cls ≠ "java/lang/invoke/MethodHandle" ∧ yX8_seeds.cls ≠ "java/lang/invoke/VarHandle" ∧ (parseMethodDescriptor yX8_seeds.desc).map (fun d => d.parameters.length) = some 3 := by decide +kernel
set_option maxHeartbeats 4000000 in
set_option maxRecDepth 100000 in
theorem kX8_seeds (l : Launch) (K : zK) (a0 a1 a2 a3 a4 a5 a6 a7 a8 a9 a10 a11 a12 a13 a14 a15 a16 a17 a18 a19 : Nat) (S : zMd) (p1 : Int32) (p2 : Int32) (p3 : Int32) (R : Int32 × zMd) (hf : fX8_seeds S p1 p2 p3 = some R) : zC l yX8_seeds wsX8_seeds ({ frames := 5, cells := 0, slots := 0, locals := 111 } : Room) K [.ref a0, .int p1, .int p2, .int p3] (cMd K a0 a1 a2 a3 a4 a5 a6 a7 a8 a9 a10 a11 a12 a13 a14 a15 a16 a17 a18 a19 S) (some (.int R.1)) (cMd K a0 a1 a2 a3 a4 a5 a6 a7 a8 a9 a10 a11 a12 a13 a14 a15 a16 a17 a18 a19 R.2) := by
  refine zC_i R.1 (cc := cX8_seeds) (maxL := 6) (by decide +kernel) rfl (Nat.le_of_ble_eq_true rfl) rfl rfl ?_
  intro p e s m below meth c Q A X hret ls hl hh
  have X : zX p m c cX8_seeds 6 s ([.ref a0, .int p1, .int p2, .int p3] : List Value).toArray wsX8_seeds RX8 K A := X
  have hx := X.1.1
  have hb := X.1.2.1
  have hr2 : ∀ (pc : Nat) (ls : Array Slot) (H : Heap) (locs : List Loc) (v : Int32) (S : zMd), some (v, S) = some R → decode cX8_seeds pc = .ok (.ireturn, 1) → zW K A s H locs (cMd K a0 a1 a2 a3 a4 a5 a6 a7 a8 a9 a10 a11 a12 a13 a14 a15 a16 a17 a18 a19 S) → W p l e ({ frames := 5, cells := 0, slots := 0, locals := 111 } : Room) s m ([.ref a0, .int p1, .int p2, .int p3] : List Value).toArray below meth c H locs 0 0 Q (F0 m pc ls [.int v]) := by
    intro pc ls H locs v S h hd hh
    cases h; exact hret pc ls H locs _ rfl hd hh
  have hl : lv_has ls 6 [(0, .ref a0), (1, .int p1), (2, .int p2), (3, .int p3)] := hl
  have hJ83 : ∀ (t0 : Int32) (S : zMd), ∀ (H : Heap) (locs : List Loc) (ls : Array Slot), fX8_seeds_j83 t0 S = some R → lv_has ls 6 [(0, .ref a0)] → zW K A s H locs (cMd K a0 a1 a2 a3 a4 a5 a6 a7 a8 a9 a10 a11 a12 a13 a14 a15 a16 a17 a18 a19 S) → W p l e ({ frames := 5, cells := 0, slots := 0, locals := 111 } : Room) s m ([.ref a0, .int p1, .int p2, .int p3] : List Value).toArray below meth c H locs 0 0 Q (F0 m 83 ls [.int t0]) := by
    intro t0 S H locs ls hf hl hh
    unfold fX8_seeds_j83 at hf
    refine lv_istore (lv' := [(5, .int t0), (0, .ref a0)]) hx hb dX8_seeds_83 hl (by decide) rfl (fun ls hl => ?_)
    refine lv_aload_n hx hb dX8_seeds_85 rfl (lv_at hl 1 rfl) ?_
    refine lv_iconst (v := (2 : Int32)) hx hb dX8_seeds_86 (by decide) ?_
    refine lv_iconst (v := (0 : Int32)) hx hb dX8_seeds_87 (by decide) ?_
    obtain ⟨u1, hu1, hf⟩ := ob_bind hf
    refine zcallV (ci := 7) (q0 := 0) (As := [.int (2 : Int32), .int (0 : Int32)]) (rest := []) (wr := []) (ws' := cMd K a0 a1 a2 a3 a4 a5 a6 a7 a8 a9 a10 a11 a12 a13 a14 a15 a16 a17 a18 a19 u1) (ov := none) X hh hl (kX8_passesAll l K a0 a1 a2 a3 a4 a5 a6 a7 a8 a9 a10 a11 a12 a13 a14 a15 a16 a17 a18 a19 S (2 : Int32) (0 : Int32) u1 hu1) (fun ht => cwV 2 ht gX8_seeds_X8_passesAll rfl rfl rfl ⟨rfl, hdX8_passesAll⟩ ⟨Nat.le_of_ble_eq_true rfl, Nat.le_of_ble_eq_true rfl⟩) [0, 1, 2, 3, 4, 5, 6, 7, 8, 9, 10, 11, 12, 13, 14, 15, 16, 17, 18, 19] [] [0, 1, 2, 3, 4, 5, 6, 7, 8, 9, 10, 11, 12, 13, 14, 15, 16, 17, 18, 19] rfl rfl rfl rfl (by decide) rfl rfl rfl rfl rfl rfl (Nat.le_of_ble_eq_true rfl) dX8_seeds_88 ⟨Nat.zero_le _, Nat.zero_le _⟩ (fun H locs hh => ?_)
    refine lv_iload hx hb dX8_seeds_91 (lv_at hl 0 rfl) ?_
    exact hr2 93 ls H locs t0 u1 hf dX8_seeds_93 hh
  have hL49 : ∀ (v1 : Int32) (v3 : Int32), ∀ (n : Nat) (v5 : Int32) (S : zMd), ∀ (H : Heap) (locs : List Loc) (ls : Array Slot), fX8_seeds_l49 v1 v3 n v5 S = some R → lv_has ls 6 [(0, .ref a0), (1, .int v1), (3, .int v3), (5, .int v5)] → zW K A s H locs (cMd K a0 a1 a2 a3 a4 a5 a6 a7 a8 a9 a10 a11 a12 a13 a14 a15 a16 a17 a18 a19 S) → W p l e ({ frames := 5, cells := 0, slots := 0, locals := 111 } : Room) s m ([.ref a0, .int p1, .int p2, .int p3] : List Value).toArray below meth c H locs 0 0 Q (F0 m 49 ls []) := by
    intro v1 v3 n
    induction n with
    | zero =>
      intro v5 S H locs ls hf hl hh
      rw [fX8_seeds_l49] at hf; cases hf
    | succ n ih =>
      intro v5 S H locs ls hf hl hh
      rw [fX8_seeds_l49] at hf
      refine lv_iload hx hb dX8_seeds_49 (lv_at hl 3 rfl) ?_
      refine lv_iload_n hx hb dX8_seeds_51 rfl (lv_at hl 1 rfl) ?_
      refine lv_icmp_ge (tgt := 65) hx hb dX8_seeds_52 (by decide) (fun c2 => ?_) (fun c2 => ?_)
      · replace hf := (if_pos c2).symm.trans hf
        refine lv_iload_n hx hb dX8_seeds_65 rfl (lv_at hl 2 rfl) ?_
        refine lv_if_ne (tgt := 79) hx hb dX8_seeds_66 (by decide) (fun c3 => ?_) (fun c3 => ?_)
        · replace hf := (if_neg c3).symm.trans hf
          refine lv_aload_n hx hb dX8_seeds_79 rfl (lv_at hl 0 rfl) ?_
          obtain ⟨u4, hu4, hf⟩ := ob_bind hf
          refine zcallV (ci := 7) (q0 := 0) (As := []) (rest := []) (wr := []) (ws' := cMd K a0 a1 a2 a3 a4 a5 a6 a7 a8 a9 a10 a11 a12 a13 a14 a15 a16 a17 a18 a19 S) (ov := some (.int u4)) X hh hl (kX8_greatest l K a0 a1 a2 a3 a4 a5 a6 a7 a8 a9 a10 a11 a12 a13 a14 a15 a16 a17 a18 a19 S u4 hu4) (fun ht => cwV 0 ht gX8_seeds_X8_greatest rfl rfl rfl ⟨rfl, hdX8_greatest⟩ ⟨Nat.le_of_ble_eq_true rfl, Nat.le_of_ble_eq_true rfl⟩) [0, 1, 2, 3, 4, 5, 6, 7, 8, 9, 10, 11, 12, 13, 14, 15, 16, 17, 18, 19] [] [0, 1, 2, 3, 4, 5, 6, 7, 8, 9, 10, 11, 12, 13, 14, 15, 16, 17, 18, 19] rfl rfl rfl rfl (by decide) rfl rfl rfl rfl rfl rfl (Nat.le_of_ble_eq_true rfl) dX8_seeds_80 ⟨Nat.zero_le _, Nat.zero_le _⟩ (fun H locs hh => ?_)
          exact hJ83 u4 S H locs ls hf (lv_sub hl [0] rfl) hh
        · replace hf := (if_pos c3).symm.trans hf
          refine lv_aload_n hx hb dX8_seeds_69 rfl (lv_at hl 0 rfl) ?_
          obtain ⟨u5, hu5, hf⟩ := ob_bind hf
          refine zcallV (ci := 7) (q0 := 0) (As := []) (rest := []) (wr := []) (ws' := cMd K a0 a1 a2 a3 a4 a5 a6 a7 a8 a9 a10 a11 a12 a13 a14 a15 a16 a17 a18 a19 S) (ov := some (.int u5)) X hh hl (kX8_standing l K a0 a1 a2 a3 a4 a5 a6 a7 a8 a9 a10 a11 a12 a13 a14 a15 a16 a17 a18 a19 S u5 hu5) (fun ht => cwV 0 ht gX8_seeds_X8_standing rfl rfl rfl ⟨rfl, hdX8_standing⟩ ⟨Nat.le_of_ble_eq_true rfl, Nat.le_of_ble_eq_true rfl⟩) [0, 1, 2, 3, 4, 5, 6, 7, 8, 9, 10, 11, 12, 13, 14, 15, 16, 17, 18, 19] [] [0, 1, 2, 3, 4, 5, 6, 7, 8, 9, 10, 11, 12, 13, 14, 15, 16, 17, 18, 19] rfl rfl rfl rfl (by decide) rfl rfl rfl rfl rfl rfl (Nat.le_of_ble_eq_true rfl) dX8_seeds_70 ⟨Nat.zero_le _, Nat.zero_le _⟩ (fun H locs hh => ?_)
          obtain ⟨u6, hu6, hf⟩ := ob_bind hf
          refine zcallS (As := [.int u5]) (rest := []) (wr := cMd K a0 a1 a2 a3 a4 a5 a6 a7 a8 a9 a10 a11 a12 a13 a14 a15 a16 a17 a18 a19 S) (ws' := cMd K a0 a1 a2 a3 a4 a5 a6 a7 a8 a9 a10 a11 a12 a13 a14 a15 a16 a17 a18 a19 S) (ov := some (.int u6)) X hh hl (kX8_bits l K u5 u6 hu6) (fun ht => va_cwS 1 ht gX8_seeds_X8_bits rfl rfl rfl hdX8_bits ⟨Nat.le_of_ble_eq_true rfl, Nat.le_of_ble_eq_true rfl⟩) [] [0, 1, 2, 3, 4, 5, 6, 7, 8, 9, 10, 11, 12, 13, 14, 15, 16, 17, 18, 19] [0, 1, 2, 3, 4, 5, 6, 7, 8, 9, 10, 11, 12, 13, 14, 15, 16, 17, 18, 19] rfl rfl rfl rfl (by decide) rfl rfl rfl rfl (Nat.le_of_ble_eq_true rfl) dX8_seeds_73 ⟨Nat.zero_le _, Nat.zero_le _⟩ (fun H locs hh => ?_)
          refine lv_goto (tgt := 83) hx hb dX8_seeds_76 (by decide) ?_
          exact hJ83 u6 S H locs ls hf (lv_sub hl [0] rfl) hh
      · replace hf := (if_neg c2).symm.trans hf
        refine lv_aload_n hx hb dX8_seeds_55 rfl (lv_at hl 0 rfl) ?_
        obtain ⟨u7, hu7, hf⟩ := ob_bind hf
        refine zcallV (ci := 7) (q0 := 0) (As := []) (rest := []) (wr := []) (ws' := cMd K a0 a1 a2 a3 a4 a5 a6 a7 a8 a9 a10 a11 a12 a13 a14 a15 a16 a17 a18 a19 u7) (ov := none) X hh hl (kX8_buildsByLot l K a0 a1 a2 a3 a4 a5 a6 a7 a8 a9 a10 a11 a12 a13 a14 a15 a16 a17 a18 a19 S u7 hu7) (fun ht => cwV 0 ht gX8_seeds_X8_buildsByLot rfl rfl rfl ⟨rfl, hdX8_buildsByLot⟩ ⟨Nat.le_of_ble_eq_true rfl, Nat.le_of_ble_eq_true rfl⟩) [0, 1, 2, 3, 4, 5, 6, 7, 8, 9, 10, 11, 12, 13, 14, 15, 16, 17, 18, 19] [] [0, 1, 2, 3, 4, 5, 6, 7, 8, 9, 10, 11, 12, 13, 14, 15, 16, 17, 18, 19] rfl rfl rfl rfl (by decide) rfl rfl rfl rfl rfl rfl (Nat.le_of_ble_eq_true rfl) dX8_seeds_56 ⟨Nat.zero_le _, Nat.zero_le _⟩ (fun H locs hh => ?_)
        refine lv_iinc (v := (v5 + (1 : Int32))) (lv' := [(5, .int (v5 + (1 : Int32))), (0, .ref a0), (1, .int v1), (3, .int v3)]) hx hb dX8_seeds_59 hl (k := 3) rfl rfl (by decide) rfl (fun ls hl => ?_)
        refine lv_goto (tgt := 49) hx hb dX8_seeds_62 (by decide) ?_
        exact ih (v5 + (1 : Int32)) u7 H locs ls hf (lv_sub hl [1, 2, 3, 0] rfl) hh
  have hJ21 : ∀ (v1 : Int32) (v2 : Int32) (v3 : Int32) (t0 : Int32) (S : zMd), ∀ (H : Heap) (locs : List Loc) (ls : Array Slot), fX8_seeds_j21 v1 v2 v3 t0 S = some R → lv_has ls 6 [(0, .ref a0), (1, .int v1), (2, .int v2), (3, .int v3)] → zW K A s H locs (cMd K a0 a1 a2 a3 a4 a5 a6 a7 a8 a9 a10 a11 a12 a13 a14 a15 a16 a17 a18 a19 S) → W p l e ({ frames := 5, cells := 0, slots := 0, locals := 111 } : Room) s m ([.ref a0, .int p1, .int p2, .int p3] : List Value).toArray below meth c H locs 0 0 Q (F0 m 21 ls [.int t0]) := by
    intro v1 v2 v3 t0 S H locs ls hf hl hh
    unfold fX8_seeds_j21 at hf
    refine lv_istore (lv' := [(4, .int t0), (0, .ref a0), (1, .int v1), (2, .int v2), (3, .int v3)]) hx hb dX8_seeds_21 hl (by decide) rfl (fun ls hl => ?_)
    refine lv_iload hx hb dX8_seeds_23 (lv_at hl 0 rfl) ?_
    refine lv_if_eq (tgt := 35) hx hb dX8_seeds_25 (by decide) (fun c8 => ?_) (fun c8 => ?_)
    · replace hf := (if_pos c8).symm.trans hf
      refine lv_aload_n hx hb dX8_seeds_35 rfl (lv_at hl 1 rfl) ?_
      refine lv_iconst (v := (2 : Int32)) hx hb dX8_seeds_36 (by decide) ?_
      refine lv_iconst (v := (1 : Int32)) hx hb dX8_seeds_37 (by decide) ?_
      obtain ⟨u9, hu9, hf⟩ := ob_bind hf
      refine zcallV (ci := 7) (q0 := 0) (As := [.int (2 : Int32), .int (1 : Int32)]) (rest := []) (wr := []) (ws' := cMd K a0 a1 a2 a3 a4 a5 a6 a7 a8 a9 a10 a11 a12 a13 a14 a15 a16 a17 a18 a19 u9) (ov := none) X hh hl (kX8_passesAll l K a0 a1 a2 a3 a4 a5 a6 a7 a8 a9 a10 a11 a12 a13 a14 a15 a16 a17 a18 a19 S (2 : Int32) (1 : Int32) u9 hu9) (fun ht => cwV 2 ht gX8_seeds_X8_passesAll rfl rfl rfl ⟨rfl, hdX8_passesAll⟩ ⟨Nat.le_of_ble_eq_true rfl, Nat.le_of_ble_eq_true rfl⟩) [0, 1, 2, 3, 4, 5, 6, 7, 8, 9, 10, 11, 12, 13, 14, 15, 16, 17, 18, 19] [] [0, 1, 2, 3, 4, 5, 6, 7, 8, 9, 10, 11, 12, 13, 14, 15, 16, 17, 18, 19] rfl rfl rfl rfl (by decide) rfl rfl rfl rfl rfl rfl (Nat.le_of_ble_eq_true rfl) dX8_seeds_38 ⟨Nat.zero_le _, Nat.zero_le _⟩ (fun H locs hh => ?_)
      refine lv_aload_n hx hb dX8_seeds_41 rfl (lv_at hl 1 rfl) ?_
      refine lv_iload_n hx hb dX8_seeds_42 rfl (lv_at hl 3 rfl) ?_
      refine zput (v := .int v2) (ty := .int) (ref := "SumOfTwoThatStandModel") (C := RX8) (T := TX8) (N := 33) (index := 274) X hh inX8_seeds_X8 tyX8 tyX8_ok nmX8 0 rfl rfl 32 (by decide) mmX8_seeds_0 rfl rfl (by decide +kernel) rfl rfl (Nat.le_of_ble_eq_true rfl) dX8_seeds_43 (fun H locs hh => ?_)
      have hh := hh.to (sMd_lots K a0 a1 a2 a3 a4 a5 a6 a7 a8 a9 a10 a11 a12 a13 a14 a15 a16 a17 a18 a19 u9 v2)
      refine lv_iconst (v := (0 : Int32)) hx hb dX8_seeds_46 (by decide) ?_
      refine lv_istore (lv' := [(5, .int (0 : Int32)), (4, .int t0), (0, .ref a0), (1, .int v1), (2, .int v2), (3, .int v3)]) hx hb dX8_seeds_47 hl (by decide) rfl (fun ls hl => ?_)
      exact hL49 v1 v3 FU (0 : Int32) (md_set_lots u9 v2) H locs ls hf (lv_sub hl [2, 3, 5, 0] rfl) hh
    · replace hf := (if_neg c8).symm.trans hf
      refine lv_aload_n hx hb dX8_seeds_28 rfl (lv_at hl 1 rfl) ?_
      refine lv_iload hx hb dX8_seeds_29 (lv_at hl 0 rfl) ?_
      obtain ⟨u10, hu10, hf⟩ := ob_bind hf
      refine zcallV (ci := 7) (q0 := 0) (As := [.int t0]) (rest := []) (wr := []) (ws' := cMd K a0 a1 a2 a3 a4 a5 a6 a7 a8 a9 a10 a11 a12 a13 a14 a15 a16 a17 a18 a19 u10.2) (ov := some (.int u10.1)) X hh hl (kX8_no l K a0 a1 a2 a3 a4 a5 a6 a7 a8 a9 a10 a11 a12 a13 a14 a15 a16 a17 a18 a19 S t0 u10 hu10) (fun ht => cwV 1 ht gX8_seeds_X8_no rfl rfl rfl ⟨rfl, hdX8_no⟩ ⟨Nat.le_of_ble_eq_true rfl, Nat.le_of_ble_eq_true rfl⟩) [0, 1, 2, 3, 4, 5, 6, 7, 8, 9, 10, 11, 12, 13, 14, 15, 16, 17, 18, 19] [] [0, 1, 2, 3, 4, 5, 6, 7, 8, 9, 10, 11, 12, 13, 14, 15, 16, 17, 18, 19] rfl rfl rfl rfl (by decide) rfl rfl rfl rfl rfl rfl (Nat.le_of_ble_eq_true rfl) dX8_seeds_31 ⟨Nat.zero_le _, Nat.zero_le _⟩ (fun H locs hh => ?_)
      exact hr2 34 ls H locs u10.1 u10.2 hf dX8_seeds_34 hh
  unfold fX8_seeds at hf
  refine (fun (hmain : ∀ (H : Heap) (locs : List Loc), zW K A s H locs (cMd K a0 a1 a2 a3 a4 a5 a6 a7 a8 a9 a10 a11 a12 a13 a14 a15 a16 a17 a18 a19 S) → W p l e ({ frames := 5, cells := 0, slots := 0, locals := 111 } : Room) s m ([.ref a0, .int p1, .int p2, .int p3] : List Value).toArray below meth c H locs 0 0 Q (F0 m 0 ls [])) => hmain s.heap [] hh) (fun H locs hh => ?_)
  refine lv_iload_n hx hb dX8_seeds_0 rfl (lv_at hl 3 rfl) ?_
  refine lv_iconst (v := (0 : Int32)) hx hb dX8_seeds_1 (by decide) ?_
  refine lv_iconst (v := (1 : Int32)) hx hb dX8_seeds_2 (by decide) ?_
  refine zcallS (As := [.int p3, .int (0 : Int32), .int (1 : Int32)]) (rest := []) (wr := cMd K a0 a1 a2 a3 a4 a5 a6 a7 a8 a9 a10 a11 a12 a13 a14 a15 a16 a17 a18 a19 S) (ws' := cMd K a0 a1 a2 a3 a4 a5 a6 a7 a8 a9 a10 a11 a12 a13 a14 a15 a16 a17 a18 a19 S) (ov := some (.int (fX8_isIn p3 (0 : Int32) (1 : Int32)))) X hh hl (kX8_isIn l K p3 (0 : Int32) (1 : Int32) (fX8_isIn p3 (0 : Int32) (1 : Int32)) rfl) (fun ht => va_cwS 3 ht gX8_seeds_X8_isIn rfl rfl rfl hdX8_isIn ⟨Nat.le_of_ble_eq_true rfl, Nat.le_of_ble_eq_true rfl⟩) [] [0, 1, 2, 3, 4, 5, 6, 7, 8, 9, 10, 11, 12, 13, 14, 15, 16, 17, 18, 19] [0, 1, 2, 3, 4, 5, 6, 7, 8, 9, 10, 11, 12, 13, 14, 15, 16, 17, 18, 19] rfl rfl rfl rfl (by decide) rfl rfl rfl rfl (Nat.le_of_ble_eq_true rfl) dX8_seeds_3 ⟨Nat.zero_le _, Nat.zero_le _⟩ (fun H locs hh => ?_)
  refine lv_if_ne (tgt := 14) hx hb dX8_seeds_6 (by decide) (fun c12 => ?_) (fun c12 => ?_)
  · replace hf := (if_neg c12).symm.trans hf
    refine lv_iload_n hx hb dX8_seeds_14 rfl (lv_at hl 1 rfl) ?_
    refine lv_iconst (v := (1 : Int32)) hx hb dX8_seeds_15 (by decide) ?_
    refine lv_bipush (v := (40 : Int32)) hx hb dX8_seeds_16 (by decide) ?_
    refine zcallS (As := [.int p1, .int (1 : Int32), .int (40 : Int32)]) (rest := []) (wr := cMd K a0 a1 a2 a3 a4 a5 a6 a7 a8 a9 a10 a11 a12 a13 a14 a15 a16 a17 a18 a19 S) (ws' := cMd K a0 a1 a2 a3 a4 a5 a6 a7 a8 a9 a10 a11 a12 a13 a14 a15 a16 a17 a18 a19 S) (ov := some (.int (fX8_bound p1 (1 : Int32) (40 : Int32)))) X hh hl (kX8_bound l K p1 (1 : Int32) (40 : Int32) (fX8_bound p1 (1 : Int32) (40 : Int32)) rfl) (fun ht => va_cwS 3 ht gX8_seeds_X8_bound rfl rfl rfl hdX8_bound ⟨Nat.le_of_ble_eq_true rfl, Nat.le_of_ble_eq_true rfl⟩) [] [0, 1, 2, 3, 4, 5, 6, 7, 8, 9, 10, 11, 12, 13, 14, 15, 16, 17, 18, 19] [0, 1, 2, 3, 4, 5, 6, 7, 8, 9, 10, 11, 12, 13, 14, 15, 16, 17, 18, 19] rfl rfl rfl rfl (by decide) rfl rfl rfl rfl (Nat.le_of_ble_eq_true rfl) dX8_seeds_18 ⟨Nat.zero_le _, Nat.zero_le _⟩ (fun H locs hh => ?_)
    exact hJ21 p1 p2 p3 (fX8_bound p1 (1 : Int32) (40 : Int32)) S H locs ls hf (lv_sub hl [0, 1, 2, 3] rfl) hh
  · replace hf := (if_pos c12).symm.trans hf
    refine lv_bipush (v := (-2 : Int32)) hx hb dX8_seeds_9 (by decide) ?_
    refine lv_goto (tgt := 21) hx hb dX8_seeds_11 (by decide) ?_
    exact hJ21 p1 p2 p3 (-2 : Int32) S H locs ls hf (lv_sub hl [0, 1, 2, 3] rfl) hh
theorem inX8_allEarned_X8 : ∀ w ∈ wsX80, w ∈ wsX8_allEarned := by decide +kernel
theorem mmX8_allEarned_0 : Cond.fieldLink RX8 70 "SumOfTwoThatStandModel" "houses" "I" ∈ wsX8_allEarned := by decide +kernel
theorem mmX8_allEarned_1 : Cond.fieldLink RX8 34 "SumOfTwoThatStandModel" "earned" "[I" ∈ wsX8_allEarned := by decide +kernel
theorem hdX8_allEarned : yX8_allEarned.cls ≠ "java/lang/invoke/MethodHandle" ∧ yX8_allEarned.cls ≠ "java/lang/invoke/VarHandle" ∧ (parseMethodDescriptor yX8_allEarned.desc).map (fun d => d.parameters.length) = some 0 := by decide +kernel
set_option maxHeartbeats 4000000 in
set_option maxRecDepth 100000 in
theorem kX8_allEarned (l : Launch) (K : zK) (a0 a1 a2 a3 a4 a5 a6 a7 a8 a9 a10 a11 a12 a13 a14 a15 a16 a17 a18 a19 : Nat) (S : zMd) (R : Int32) (hf : fX8_allEarned S = some R) : zC l yX8_allEarned wsX8_allEarned ({ frames := 0, cells := 0, slots := 0, locals := 0 } : Room) K [.ref a0] (cMd K a0 a1 a2 a3 a4 a5 a6 a7 a8 a9 a10 a11 a12 a13 a14 a15 a16 a17 a18 a19 S) (some (.int R)) (cMd K a0 a1 a2 a3 a4 a5 a6 a7 a8 a9 a10 a11 a12 a13 a14 a15 a16 a17 a18 a19 S) := by
  refine zC_i R (cc := cX8_allEarned) (maxL := 3) (by decide +kernel) rfl (Nat.le_of_ble_eq_true rfl) rfl rfl ?_
  intro p e s m below meth c Q A X hret ls hl hh
  have X : zX p m c cX8_allEarned 3 s ([.ref a0] : List Value).toArray wsX8_allEarned RX8 K A := X
  have hx := X.1.1
  have hb := X.1.2.1
  have hr2 : ∀ (pc : Nat) (ls : Array Slot) (H : Heap) (locs : List Loc) (v : Int32), some v = some R → decode cX8_allEarned pc = .ok (.ireturn, 1) → zW K A s H locs (cMd K a0 a1 a2 a3 a4 a5 a6 a7 a8 a9 a10 a11 a12 a13 a14 a15 a16 a17 a18 a19 S) → W p l e ({ frames := 0, cells := 0, slots := 0, locals := 0 } : Room) s m ([.ref a0] : List Value).toArray below meth c H locs 0 0 Q (F0 m pc ls [.int v]) := by
    intro pc ls H locs v h hd hh
    cases h; exact hret pc ls H locs _ rfl hd hh
  have hl : lv_has ls 3 [(0, .ref a0)] := hl
  have hL4 : ∀ (n : Nat) (v1 : Int32) (v2 : Int32), ∀ (H : Heap) (locs : List Loc) (ls : Array Slot), fX8_allEarned_l4 S n v1 v2 = some R → lv_has ls 3 [(0, .ref a0), (1, .int v1), (2, .int v2)] → zW K A s H locs (cMd K a0 a1 a2 a3 a4 a5 a6 a7 a8 a9 a10 a11 a12 a13 a14 a15 a16 a17 a18 a19 S) → W p l e ({ frames := 0, cells := 0, slots := 0, locals := 0 } : Room) s m ([.ref a0] : List Value).toArray below meth c H locs 0 0 Q (F0 m 4 ls []) := by
    intro n
    induction n with
    | zero =>
      intro v1 v2 H locs ls hf hl hh
      rw [fX8_allEarned_l4] at hf; cases hf
    | succ n ih =>
      intro v1 v2 H locs ls hf hl hh
      rw [fX8_allEarned_l4] at hf
      refine lv_iload_n hx hb dX8_allEarned_4 rfl (lv_at hl 2 rfl) ?_
      refine lv_aload_n hx hb dX8_allEarned_5 rfl (lv_at hl 0 rfl) ?_
      refine zget (v := .int (md_houses S)) (ref := "SumOfTwoThatStandModel") (C := RX8) (T := TX8) (N := 33) (index := 70) X hh inX8_allEarned_X8 0 rfl rfl 9 (by decide) mmX8_allEarned_0 rfl rfl dX8_allEarned_6 ?_
      refine lv_icmp_ge (tgt := 27) hx hb dX8_allEarned_9 (by decide) (fun c1 => ?_) (fun c1 => ?_)
      · replace hf := (if_pos c1).symm.trans hf
        refine lv_iload_n hx hb dX8_allEarned_27 rfl (lv_at hl 1 rfl) ?_
        exact hr2 28 ls H locs v1 hf dX8_allEarned_28 hh
      · replace hf := (if_neg c1).symm.trans hf
        refine lv_iload_n hx hb dX8_allEarned_12 rfl (lv_at hl 1 rfl) ?_
        refine lv_aload_n hx hb dX8_allEarned_13 rfl (lv_at hl 0 rfl) ?_
        refine zget (v := .ref a9) (ref := "SumOfTwoThatStandModel") (C := RX8) (T := TX8) (N := 33) (index := 34) X hh inX8_allEarned_X8 0 rfl rfl 8 (by decide) mmX8_allEarned_1 rfl rfl dX8_allEarned_14 ?_
        refine lv_iload_n hx hb dX8_allEarned_17 rfl (lv_at hl 2 rfl) ?_
        obtain ⟨g2, hf⟩ := ob_ix hf
        refine ziald (f := (md_earned S)) X hh 9 rfl g2 dX8_allEarned_18 ?_
        refine lv_iadd hx hb dX8_allEarned_19 ?_
        refine lv_istore_n (lv' := [(1, .int (v1 + ((md_earned S) v2.toNatClampNeg))), (0, .ref a0), (2, .int v2)]) hx hb dX8_allEarned_20 rfl hl (by decide) rfl (fun ls hl => ?_)
        refine lv_iinc (v := (v2 + (1 : Int32))) (lv' := [(2, .int (v2 + (1 : Int32))), (1, .int (v1 + ((md_earned S) v2.toNatClampNeg))), (0, .ref a0)]) hx hb dX8_allEarned_21 hl (k := 2) rfl rfl (by decide) rfl (fun ls hl => ?_)
        refine lv_goto (tgt := 4) hx hb dX8_allEarned_24 (by decide) ?_
        exact ih (v1 + ((md_earned S) v2.toNatClampNeg)) (v2 + (1 : Int32)) H locs ls hf (lv_sub hl [2, 1, 0] rfl) hh
  unfold fX8_allEarned at hf
  refine (fun (hmain : ∀ (H : Heap) (locs : List Loc), zW K A s H locs (cMd K a0 a1 a2 a3 a4 a5 a6 a7 a8 a9 a10 a11 a12 a13 a14 a15 a16 a17 a18 a19 S) → W p l e ({ frames := 0, cells := 0, slots := 0, locals := 0 } : Room) s m ([.ref a0] : List Value).toArray below meth c H locs 0 0 Q (F0 m 0 ls [])) => hmain s.heap [] hh) (fun H locs hh => ?_)
  refine lv_iconst (v := (0 : Int32)) hx hb dX8_allEarned_0 (by decide) ?_
  refine lv_istore_n (lv' := [(1, .int (0 : Int32)), (0, .ref a0)]) hx hb dX8_allEarned_1 rfl hl (by decide) rfl (fun ls hl => ?_)
  refine lv_iconst (v := (0 : Int32)) hx hb dX8_allEarned_2 (by decide) ?_
  refine lv_istore_n (lv' := [(2, .int (0 : Int32)), (1, .int (0 : Int32)), (0, .ref a0)]) hx hb dX8_allEarned_3 rfl hl (by decide) rfl (fun ls hl => ?_)
  exact hL4 FU (0 : Int32) (0 : Int32) H locs ls hf (lv_sub hl [2, 1, 0] rfl) hh
theorem inX8_count_X8 : ∀ w ∈ wsX80, w ∈ wsX8_count := by decide +kernel
theorem mmX8_count_0 : Cond.fieldLink RX8 70 "SumOfTwoThatStandModel" "houses" "I" ∈ wsX8_count := by decide +kernel
theorem mmX8_count_1 : Cond.fieldLink RX8 86 "SumOfTwoThatStandModel" "sums" "I" ∈ wsX8_count := by decide +kernel
theorem mmX8_count_2 : Cond.fieldLink RX8 111 "SumOfTwoThatStandModel" "falls" "I" ∈ wsX8_count := by decide +kernel
theorem mmX8_count_3 : Cond.fieldLink RX8 124 "SumOfTwoThatStandModel" "taped" "I" ∈ wsX8_count := by decide +kernel
theorem mmX8_count_4 : Cond.fieldLink RX8 268 "SumOfTwoThatStandModel" "rowMany" "I" ∈ wsX8_count := by decide +kernel
theorem mmX8_count_5 : Cond.fieldLink RX8 7 "SumOfTwoThatStandModel" "refused" "[I" ∈ wsX8_count := by decide +kernel
theorem hdX8_count : yX8_count.cls ≠ "java/lang/invoke/MethodHandle" ∧ yX8_count.cls ≠ "java/lang/invoke/VarHandle" ∧ (parseMethodDescriptor yX8_count.desc).map (fun d => d.parameters.length) = some 1 := by decide +kernel
set_option maxHeartbeats 4000000 in
set_option maxRecDepth 100000 in
theorem kX8_count (l : Launch) (K : zK) (a0 a1 a2 a3 a4 a5 a6 a7 a8 a9 a10 a11 a12 a13 a14 a15 a16 a17 a18 a19 : Nat) (S : zMd) (p1 : Int32) (R : Int32) (hf : fX8_count S p1 = some R) : zC l yX8_count wsX8_count ({ frames := 1, cells := 0, slots := 0, locals := 22 } : Room) K [.ref a0, .int p1] (cMd K a0 a1 a2 a3 a4 a5 a6 a7 a8 a9 a10 a11 a12 a13 a14 a15 a16 a17 a18 a19 S) (some (.int R)) (cMd K a0 a1 a2 a3 a4 a5 a6 a7 a8 a9 a10 a11 a12 a13 a14 a15 a16 a17 a18 a19 S) := by
  refine zC_i R (cc := cX8_count) (maxL := 2) (by decide +kernel) rfl (Nat.le_of_ble_eq_true rfl) rfl rfl ?_
  intro p e s m below meth c Q A X hret ls hl hh
  have X : zX p m c cX8_count 2 s ([.ref a0, .int p1] : List Value).toArray wsX8_count RX8 K A := X
  have hx := X.1.1
  have hb := X.1.2.1
  have hr2 : ∀ (pc : Nat) (ls : Array Slot) (H : Heap) (locs : List Loc) (v : Int32), some v = some R → decode cX8_count pc = .ok (.ireturn, 1) → zW K A s H locs (cMd K a0 a1 a2 a3 a4 a5 a6 a7 a8 a9 a10 a11 a12 a13 a14 a15 a16 a17 a18 a19 S) → W p l e ({ frames := 1, cells := 0, slots := 0, locals := 22 } : Room) s m ([.ref a0, .int p1] : List Value).toArray below meth c H locs 0 0 Q (F0 m pc ls [.int v]) := by
    intro pc ls H locs v h hd hh
    cases h; exact hret pc ls H locs _ rfl hd hh
  have hl : lv_has ls 2 [(0, .ref a0), (1, .int p1)] := hl
  unfold fX8_count at hf
  refine (fun (hmain : ∀ (H : Heap) (locs : List Loc), zW K A s H locs (cMd K a0 a1 a2 a3 a4 a5 a6 a7 a8 a9 a10 a11 a12 a13 a14 a15 a16 a17 a18 a19 S) → W p l e ({ frames := 1, cells := 0, slots := 0, locals := 22 } : Room) s m ([.ref a0, .int p1] : List Value).toArray below meth c H locs 0 0 Q (F0 m 0 ls [])) => hmain s.heap [] hh) (fun H locs hh => ?_)
  refine lv_iload_n hx hb dX8_count_0 rfl (lv_at hl 1 rfl) ?_
  refine lv_bipush (v := (11 : Int32)) hx hb dX8_count_1 (by decide) ?_
  refine lv_bipush (v := (16 : Int32)) hx hb dX8_count_3 (by decide) ?_
  refine zcallS (As := [.int p1, .int (11 : Int32), .int (16 : Int32)]) (rest := []) (wr := cMd K a0 a1 a2 a3 a4 a5 a6 a7 a8 a9 a10 a11 a12 a13 a14 a15 a16 a17 a18 a19 S) (ws' := cMd K a0 a1 a2 a3 a4 a5 a6 a7 a8 a9 a10 a11 a12 a13 a14 a15 a16 a17 a18 a19 S) (ov := some (.int (fX8_isIn p1 (11 : Int32) (16 : Int32)))) X hh hl (kX8_isIn l K p1 (11 : Int32) (16 : Int32) (fX8_isIn p1 (11 : Int32) (16 : Int32)) rfl) (fun ht => va_cwS 3 ht gX8_count_X8_isIn rfl rfl rfl hdX8_isIn ⟨Nat.le_of_ble_eq_true rfl, Nat.le_of_ble_eq_true rfl⟩) [] [0, 1, 2, 3, 4, 5, 6, 7, 8, 9, 10, 11, 12, 13, 14, 15, 16, 17, 18, 19] [0, 1, 2, 3, 4, 5, 6, 7, 8, 9, 10, 11, 12, 13, 14, 15, 16, 17, 18, 19] rfl rfl rfl rfl (by decide) rfl rfl rfl rfl (Nat.le_of_ble_eq_true rfl) dX8_count_5 ⟨Nat.zero_le _, Nat.zero_le _⟩ (fun H locs hh => ?_)
  refine lv_if_eq (tgt := 21) hx hb dX8_count_8 (by decide) (fun c2 => ?_) (fun c2 => ?_)
  · replace hf := (if_pos c2).symm.trans hf
    refine lv_iload_n hx hb dX8_count_21 rfl (lv_at hl 1 rfl) ?_
    by_cases c3_0 : p1 = (0 : Int32)
    · replace hf := (if_pos c3_0).symm.trans hf
      refine lv_tableIn (off := 46) (tgt := 68) hx hb dX8_count_22 (by rw [c3_0]; decide) (by rw [c3_0]; decide) (by rw [c3_0]; decide) (by decide) ?_
      refine lv_aload_n hx hb dX8_count_68 rfl (lv_at hl 0 rfl) ?_
      refine zget (v := .int (md_houses S)) (ref := "SumOfTwoThatStandModel") (C := RX8) (T := TX8) (N := 33) (index := 70) X hh inX8_count_X8 0 rfl rfl 9 (by decide) mmX8_count_0 rfl rfl dX8_count_69 ?_
      exact hr2 72 ls H locs (md_houses S) hf dX8_count_72 hh
    replace hf := (if_neg c3_0).symm.trans hf
    by_cases c3_1 : p1 = (1 : Int32)
    · replace hf := (if_pos c3_1).symm.trans hf
      refine lv_tableIn (off := 51) (tgt := 73) hx hb dX8_count_22 (by rw [c3_1]; decide) (by rw [c3_1]; decide) (by rw [c3_1]; decide) (by decide) ?_
      refine lv_aload_n hx hb dX8_count_73 rfl (lv_at hl 0 rfl) ?_
      obtain ⟨u4, hu4, hf⟩ := ob_bind hf
      refine zcallV (ci := 7) (q0 := 0) (As := []) (rest := []) (wr := []) (ws' := cMd K a0 a1 a2 a3 a4 a5 a6 a7 a8 a9 a10 a11 a12 a13 a14 a15 a16 a17 a18 a19 S) (ov := some (.int u4)) X hh hl (kX8_standing l K a0 a1 a2 a3 a4 a5 a6 a7 a8 a9 a10 a11 a12 a13 a14 a15 a16 a17 a18 a19 S u4 hu4) (fun ht => cwV 0 ht gX8_count_X8_standing rfl rfl rfl ⟨rfl, hdX8_standing⟩ ⟨Nat.le_of_ble_eq_true rfl, Nat.le_of_ble_eq_true rfl⟩) [0, 1, 2, 3, 4, 5, 6, 7, 8, 9, 10, 11, 12, 13, 14, 15, 16, 17, 18, 19] [] [0, 1, 2, 3, 4, 5, 6, 7, 8, 9, 10, 11, 12, 13, 14, 15, 16, 17, 18, 19] rfl rfl rfl rfl (by decide) rfl rfl rfl rfl rfl rfl (Nat.le_of_ble_eq_true rfl) dX8_count_74 ⟨Nat.zero_le _, Nat.zero_le _⟩ (fun H locs hh => ?_)
      obtain ⟨u5, hu5, hf⟩ := ob_bind hf
      refine zcallS (As := [.int u4]) (rest := []) (wr := cMd K a0 a1 a2 a3 a4 a5 a6 a7 a8 a9 a10 a11 a12 a13 a14 a15 a16 a17 a18 a19 S) (ws' := cMd K a0 a1 a2 a3 a4 a5 a6 a7 a8 a9 a10 a11 a12 a13 a14 a15 a16 a17 a18 a19 S) (ov := some (.int u5)) X hh hl (kX8_bits l K u4 u5 hu5) (fun ht => va_cwS 1 ht gX8_count_X8_bits rfl rfl rfl hdX8_bits ⟨Nat.le_of_ble_eq_true rfl, Nat.le_of_ble_eq_true rfl⟩) [] [0, 1, 2, 3, 4, 5, 6, 7, 8, 9, 10, 11, 12, 13, 14, 15, 16, 17, 18, 19] [0, 1, 2, 3, 4, 5, 6, 7, 8, 9, 10, 11, 12, 13, 14, 15, 16, 17, 18, 19] rfl rfl rfl rfl (by decide) rfl rfl rfl rfl (Nat.le_of_ble_eq_true rfl) dX8_count_77 ⟨Nat.zero_le _, Nat.zero_le _⟩ (fun H locs hh => ?_)
      exact hr2 80 ls H locs u5 hf dX8_count_80 hh
    replace hf := (if_neg c3_1).symm.trans hf
    by_cases c3_2 : p1 = (2 : Int32)
    · replace hf := (if_pos c3_2).symm.trans hf
      refine lv_tableIn (off := 59) (tgt := 81) hx hb dX8_count_22 (by rw [c3_2]; decide) (by rw [c3_2]; decide) (by rw [c3_2]; decide) (by decide) ?_
      refine lv_aload_n hx hb dX8_count_81 rfl (lv_at hl 0 rfl) ?_
      obtain ⟨u6, hu6, hf⟩ := ob_bind hf
      refine zcallV (ci := 7) (q0 := 0) (As := []) (rest := []) (wr := []) (ws' := cMd K a0 a1 a2 a3 a4 a5 a6 a7 a8 a9 a10 a11 a12 a13 a14 a15 a16 a17 a18 a19 S) (ov := some (.int u6)) X hh hl (kX8_greatest l K a0 a1 a2 a3 a4 a5 a6 a7 a8 a9 a10 a11 a12 a13 a14 a15 a16 a17 a18 a19 S u6 hu6) (fun ht => cwV 0 ht gX8_count_X8_greatest rfl rfl rfl ⟨rfl, hdX8_greatest⟩ ⟨Nat.le_of_ble_eq_true rfl, Nat.le_of_ble_eq_true rfl⟩) [0, 1, 2, 3, 4, 5, 6, 7, 8, 9, 10, 11, 12, 13, 14, 15, 16, 17, 18, 19] [] [0, 1, 2, 3, 4, 5, 6, 7, 8, 9, 10, 11, 12, 13, 14, 15, 16, 17, 18, 19] rfl rfl rfl rfl (by decide) rfl rfl rfl rfl rfl rfl (Nat.le_of_ble_eq_true rfl) dX8_count_82 ⟨Nat.zero_le _, Nat.zero_le _⟩ (fun H locs hh => ?_)
      exact hr2 85 ls H locs u6 hf dX8_count_85 hh
    replace hf := (if_neg c3_2).symm.trans hf
    by_cases c3_3 : p1 = (3 : Int32)
    · replace hf := (if_pos c3_3).symm.trans hf
      refine lv_tableIn (off := 64) (tgt := 86) hx hb dX8_count_22 (by rw [c3_3]; decide) (by rw [c3_3]; decide) (by rw [c3_3]; decide) (by decide) ?_
      refine lv_aload_n hx hb dX8_count_86 rfl (lv_at hl 0 rfl) ?_
      refine zget (v := .int (md_sums S)) (ref := "SumOfTwoThatStandModel") (C := RX8) (T := TX8) (N := 33) (index := 86) X hh inX8_count_X8 0 rfl rfl 10 (by decide) mmX8_count_1 rfl rfl dX8_count_87 ?_
      exact hr2 90 ls H locs (md_sums S) hf dX8_count_90 hh
    replace hf := (if_neg c3_3).symm.trans hf
    by_cases c3_4 : p1 = (4 : Int32)
    · replace hf := (if_pos c3_4).symm.trans hf
      refine lv_tableIn (off := 69) (tgt := 91) hx hb dX8_count_22 (by rw [c3_4]; decide) (by rw [c3_4]; decide) (by rw [c3_4]; decide) (by decide) ?_
      refine lv_aload_n hx hb dX8_count_91 rfl (lv_at hl 0 rfl) ?_
      refine zget (v := .int (md_falls S)) (ref := "SumOfTwoThatStandModel") (C := RX8) (T := TX8) (N := 33) (index := 111) X hh inX8_count_X8 0 rfl rfl 11 (by decide) mmX8_count_2 rfl rfl dX8_count_92 ?_
      exact hr2 95 ls H locs (md_falls S) hf dX8_count_95 hh
    replace hf := (if_neg c3_4).symm.trans hf
    by_cases c3_5 : p1 = (5 : Int32)
    · replace hf := (if_pos c3_5).symm.trans hf
      refine lv_tableIn (off := 74) (tgt := 96) hx hb dX8_count_22 (by rw [c3_5]; decide) (by rw [c3_5]; decide) (by rw [c3_5]; decide) (by decide) ?_
      refine lv_aload_n hx hb dX8_count_96 rfl (lv_at hl 0 rfl) ?_
      obtain ⟨u7, hu7, hf⟩ := ob_bind hf
      refine zcallV (ci := 7) (q0 := 0) (As := []) (rest := []) (wr := []) (ws' := cMd K a0 a1 a2 a3 a4 a5 a6 a7 a8 a9 a10 a11 a12 a13 a14 a15 a16 a17 a18 a19 S) (ov := some (.int u7)) X hh hl (kX8_allEarned l K a0 a1 a2 a3 a4 a5 a6 a7 a8 a9 a10 a11 a12 a13 a14 a15 a16 a17 a18 a19 S u7 hu7) (fun ht => cwV 0 ht gX8_count_X8_allEarned rfl rfl rfl ⟨rfl, hdX8_allEarned⟩ ⟨Nat.le_of_ble_eq_true rfl, Nat.le_of_ble_eq_true rfl⟩) [0, 1, 2, 3, 4, 5, 6, 7, 8, 9, 10, 11, 12, 13, 14, 15, 16, 17, 18, 19] [] [0, 1, 2, 3, 4, 5, 6, 7, 8, 9, 10, 11, 12, 13, 14, 15, 16, 17, 18, 19] rfl rfl rfl rfl (by decide) rfl rfl rfl rfl rfl rfl (Nat.le_of_ble_eq_true rfl) dX8_count_97 ⟨Nat.zero_le _, Nat.zero_le _⟩ (fun H locs hh => ?_)
      exact hr2 100 ls H locs u7 hf dX8_count_100 hh
    replace hf := (if_neg c3_5).symm.trans hf
    by_cases c3_6 : p1 = (6 : Int32)
    · replace hf := (if_pos c3_6).symm.trans hf
      refine lv_tableIn (off := 79) (tgt := 101) hx hb dX8_count_22 (by rw [c3_6]; decide) (by rw [c3_6]; decide) (by rw [c3_6]; decide) (by decide) ?_
      refine lv_aload_n hx hb dX8_count_101 rfl (lv_at hl 0 rfl) ?_
      refine zget (v := .int (md_taped S)) (ref := "SumOfTwoThatStandModel") (C := RX8) (T := TX8) (N := 33) (index := 124) X hh inX8_count_X8 0 rfl rfl 16 (by decide) mmX8_count_3 rfl rfl dX8_count_102 ?_
      exact hr2 105 ls H locs (md_taped S) hf dX8_count_105 hh
    replace hf := (if_neg c3_6).symm.trans hf
    by_cases c3_7 : p1 = (7 : Int32)
    · replace hf := (if_pos c3_7).symm.trans hf
      refine lv_tableIn (off := 84) (tgt := 106) hx hb dX8_count_22 (by rw [c3_7]; decide) (by rw [c3_7]; decide) (by rw [c3_7]; decide) (by decide) ?_
      refine lv_aload_n hx hb dX8_count_106 rfl (lv_at hl 0 rfl) ?_
      refine zget (v := .int (md_rowMany S)) (ref := "SumOfTwoThatStandModel") (C := RX8) (T := TX8) (N := 33) (index := 268) X hh inX8_count_X8 0 rfl rfl 31 (by decide) mmX8_count_4 rfl rfl dX8_count_107 ?_
      exact hr2 110 ls H locs (md_rowMany S) hf dX8_count_110 hh
    replace hf := (if_neg c3_7).symm.trans hf
    refine lv_tableOut (tgt := 111) hx hb dX8_count_22 (by have e0 := lv_neT c3_0 (a := 0) (by decide); have e1 := lv_neT c3_1 (a := 1) (by decide); have e2 := lv_neT c3_2 (a := 2) (by decide); have e3 := lv_neT c3_3 (a := 3) (by decide); have e4 := lv_neT c3_4 (a := 4) (by decide); have e5 := lv_neT c3_5 (a := 5) (by decide); have e6 := lv_neT c3_6 (a := 6) (by decide); have e7 := lv_neT c3_7 (a := 7) (by decide); omega) (by decide) ?_
    refine lv_bipush (v := (-9 : Int32)) hx hb dX8_count_111 (by decide) ?_
    exact hr2 113 ls H locs (-9 : Int32) hf dX8_count_113 hh
  · replace hf := (if_neg c2).symm.trans hf
    refine lv_aload_n hx hb dX8_count_11 rfl (lv_at hl 0 rfl) ?_
    refine zget (v := .ref a1) (ref := "SumOfTwoThatStandModel") (C := RX8) (T := TX8) (N := 33) (index := 7) X hh inX8_count_X8 0 rfl rfl 0 (by decide) mmX8_count_5 rfl rfl dX8_count_12 ?_
    refine lv_iload_n hx hb dX8_count_15 rfl (lv_at hl 1 rfl) ?_
    refine lv_bipush (v := (10 : Int32)) hx hb dX8_count_16 (by decide) ?_
    refine lv_isub hx hb dX8_count_18 ?_
    obtain ⟨g8, hf⟩ := ob_ix hf
    refine ziald (f := (md_refused S)) X hh 1 rfl g8 dX8_count_19 ?_
    exact hr2 20 ls H locs ((md_refused S) (p1 - (10 : Int32)).toNatClampNeg) hf dX8_count_20 hh
