theorem inX8_feed_X8 : ∀ w ∈ wsX80, w ∈ wsX8_feed := by decide +kernel
theorem mmX8_feed_0 : Cond.fieldLink RX8 37 "SumOfTwoThatStandModel" "tape" "[I" ∈ wsX8_feed := by decide +kernel
theorem mmX8_feed_1 : Cond.fieldLink RX8 124 "SumOfTwoThatStandModel" "taped" "I" ∈ wsX8_feed := by decide +kernel
theorem hdX8_feed : yX8_feed.cls ≠ "java/lang/invoke/MethodHandle" ∧ yX8_feed.cls ≠ "java/lang/invoke/VarHandle" ∧ (parseMethodDescriptor yX8_feed.desc).map (fun d => d.parameters.length) = some 1 := by decide +kernel
set_option maxHeartbeats 4000000 in
set_option maxRecDepth 100000 in
theorem kX8_feed (l : Launch) (K : zK) (a0 a1 a2 a3 a4 a5 a6 a7 a8 a9 a10 a11 a12 a13 a14 a15 a16 a17 a18 a19 : Nat) (S : zMd) (p1 : Int32) (R : Int32 × zMd) (hf : fX8_feed S p1 = some R) : zC l yX8_feed wsX8_feed ({ frames := 1, cells := 0, slots := 0, locals := 22 } : Room) K [.ref a0, .int p1] (cMd K a0 a1 a2 a3 a4 a5 a6 a7 a8 a9 a10 a11 a12 a13 a14 a15 a16 a17 a18 a19 S) (some (.int R.1)) (cMd K a0 a1 a2 a3 a4 a5 a6 a7 a8 a9 a10 a11 a12 a13 a14 a15 a16 a17 a18 a19 R.2) := by
  refine zC_i R.1 (cc := cX8_feed) (maxL := 3) (by decide +kernel) rfl (Nat.le_of_ble_eq_true rfl) rfl rfl ?_
  intro p e s m below meth c Q A X hret ls hl hh
  have X : zX p m c cX8_feed 3 s ([.ref a0, .int p1] : List Value).toArray wsX8_feed RX8 K A := X
  have hx := X.1.1
  have hb := X.1.2.1
  have hr2 : ∀ (pc : Nat) (ls : Array Slot) (H : Heap) (locs : List Loc) (v : Int32) (S : zMd), some (v, S) = some R → decode cX8_feed pc = .ok (.ireturn, 1) → zW K A s H locs (cMd K a0 a1 a2 a3 a4 a5 a6 a7 a8 a9 a10 a11 a12 a13 a14 a15 a16 a17 a18 a19 S) → W p l e ({ frames := 1, cells := 0, slots := 0, locals := 22 } : Room) s m ([.ref a0, .int p1] : List Value).toArray below meth c H locs 0 0 Q (F0 m pc ls [.int v]) := by
    intro pc ls H locs v S h hd hh
    cases h; exact hret pc ls H locs _ rfl hd hh
  have hl : lv_has ls 3 [(0, .ref a0), (1, .int p1)] := hl
  have hJ25 : ∀ (v1 : Int32) (v2 : Int32) (S : zMd), ∀ (H : Heap) (locs : List Loc) (ls : Array Slot), fX8_feed_j25 v1 v2 S = some R → lv_has ls 3 [(0, .ref a0), (1, .int v1), (2, .int v2)] → zW K A s H locs (cMd K a0 a1 a2 a3 a4 a5 a6 a7 a8 a9 a10 a11 a12 a13 a14 a15 a16 a17 a18 a19 S) → W p l e ({ frames := 1, cells := 0, slots := 0, locals := 22 } : Room) s m ([.ref a0, .int p1] : List Value).toArray below meth c H locs 0 0 Q (F0 m 25 ls []) := by
    intro v1 v2 S H locs ls hf hl hh
    unfold fX8_feed_j25 at hf
    refine lv_iload_n hx hb dX8_feed_25 rfl (lv_at hl 2 rfl) ?_
    refine lv_if_eq (tgt := 35) hx hb dX8_feed_26 (by decide) (fun c1 => ?_) (fun c1 => ?_)
    · replace hf := (if_pos c1).symm.trans hf
      refine lv_aload_n hx hb dX8_feed_35 rfl (lv_at hl 0 rfl) ?_
      refine zget (v := .ref a10) (ref := "SumOfTwoThatStandModel") (C := RX8) (T := TX8) (N := 33) (index := 37) X hh inX8_feed_X8 0 rfl rfl 12 (by decide) mmX8_feed_0 rfl rfl dX8_feed_36 ?_
      refine lv_aload_n hx hb dX8_feed_39 rfl (lv_at hl 0 rfl) ?_
      refine zget (v := .int (md_taped S)) (ref := "SumOfTwoThatStandModel") (C := RX8) (T := TX8) (N := 33) (index := 124) X hh inX8_feed_X8 0 rfl rfl 16 (by decide) mmX8_feed_1 rfl rfl dX8_feed_40 ?_
      refine lv_iload_n hx hb dX8_feed_43 rfl (lv_at hl 1 rfl) ?_
      obtain ⟨g2, hf⟩ := ob_ix hf
      refine ziast (f := (md_tape S)) X hh 10 rfl g2 dX8_feed_44 (fun H locs hh => ?_)
      have hh := hh.to (sMd_tape K a0 a1 a2 a3 a4 a5 a6 a7 a8 a9 a10 a11 a12 a13 a14 a15 a16 a17 a18 a19 S (upd (md_tape S) (md_taped S).toNatClampNeg v1))
      refine lv_aload_n hx hb dX8_feed_45 rfl (lv_at hl 0 rfl) ?_
      refine lv_dup hx hb dX8_feed_46 rfl ?_
      refine zget (v := .int (md_taped S)) (ref := "SumOfTwoThatStandModel") (C := RX8) (T := TX8) (N := 33) (index := 124) X hh inX8_feed_X8 0 rfl rfl 16 (by decide) mmX8_feed_1 rfl rfl dX8_feed_47 ?_
      refine lv_iconst (v := (1 : Int32)) hx hb dX8_feed_50 (by decide) ?_
      refine lv_iadd hx hb dX8_feed_51 ?_
      refine zput (v := .int ((md_taped S) + (1 : Int32))) (ty := .int) (ref := "SumOfTwoThatStandModel") (C := RX8) (T := TX8) (N := 33) (index := 124) X hh inX8_feed_X8 tyX8 tyX8_ok nmX8 0 rfl rfl 16 (by decide) mmX8_feed_1 rfl rfl (by decide +kernel) rfl rfl (Nat.le_of_ble_eq_true rfl) dX8_feed_52 (fun H locs hh => ?_)
      have hh := hh.to (sMd_taped K a0 a1 a2 a3 a4 a5 a6 a7 a8 a9 a10 a11 a12 a13 a14 a15 a16 a17 a18 a19 (md_set_tape S (upd (md_tape S) (md_taped S).toNatClampNeg v1)) ((md_taped S) + (1 : Int32)))
      refine lv_aload_n hx hb dX8_feed_55 rfl (lv_at hl 0 rfl) ?_
      refine zget (v := .int ((md_taped S) + (1 : Int32))) (ref := "SumOfTwoThatStandModel") (C := RX8) (T := TX8) (N := 33) (index := 124) X hh inX8_feed_X8 0 rfl rfl 16 (by decide) mmX8_feed_1 rfl rfl dX8_feed_56 ?_
      exact hr2 59 ls H locs ((md_taped S) + (1 : Int32)) (md_set_taped (md_set_tape S (upd (md_tape S) (md_taped S).toNatClampNeg v1)) ((md_taped S) + (1 : Int32))) hf dX8_feed_59 hh
    · replace hf := (if_neg c1).symm.trans hf
      refine lv_aload_n hx hb dX8_feed_29 rfl (lv_at hl 0 rfl) ?_
      refine lv_iload_n hx hb dX8_feed_30 rfl (lv_at hl 2 rfl) ?_
      obtain ⟨u3, hu3, hf⟩ := ob_bind hf
      refine zcallV (ci := 7) (q0 := 0) (As := [.int v2]) (rest := []) (wr := []) (ws' := cMd K a0 a1 a2 a3 a4 a5 a6 a7 a8 a9 a10 a11 a12 a13 a14 a15 a16 a17 a18 a19 u3.2) (ov := some (.int u3.1)) X hh hl (kX8_no l K a0 a1 a2 a3 a4 a5 a6 a7 a8 a9 a10 a11 a12 a13 a14 a15 a16 a17 a18 a19 S v2 u3 hu3) (fun ht => cwV 1 ht gX8_feed_X8_no rfl rfl rfl ⟨rfl, hdX8_no⟩ ⟨Nat.le_of_ble_eq_true rfl, Nat.le_of_ble_eq_true rfl⟩) [0, 1, 2, 3, 4, 5, 6, 7, 8, 9, 10, 11, 12, 13, 14, 15, 16, 17, 18, 19] [] [0, 1, 2, 3, 4, 5, 6, 7, 8, 9, 10, 11, 12, 13, 14, 15, 16, 17, 18, 19] rfl rfl rfl rfl (by decide) rfl rfl rfl rfl rfl rfl (Nat.le_of_ble_eq_true rfl) dX8_feed_31 ⟨Nat.zero_le _, Nat.zero_le _⟩ (fun H locs hh => ?_)
      exact hr2 34 ls H locs u3.1 u3.2 hf dX8_feed_34 hh
  unfold fX8_feed at hf
  refine (fun (hmain : ∀ (H : Heap) (locs : List Loc), zW K A s H locs (cMd K a0 a1 a2 a3 a4 a5 a6 a7 a8 a9 a10 a11 a12 a13 a14 a15 a16 a17 a18 a19 S) → W p l e ({ frames := 1, cells := 0, slots := 0, locals := 22 } : Room) s m ([.ref a0, .int p1] : List Value).toArray below meth c H locs 0 0 Q (F0 m 0 ls [])) => hmain s.heap [] hh) (fun H locs hh => ?_)
  refine lv_iload_n hx hb dX8_feed_0 rfl (lv_at hl 1 rfl) ?_
  refine lv_iconst (v := (0 : Int32)) hx hb dX8_feed_1 (by decide) ?_
  refine lv_sipush (v := (255 : Int32)) hx hb dX8_feed_2 (by decide) ?_
  refine zcallS (As := [.int p1, .int (0 : Int32), .int (255 : Int32)]) (rest := []) (wr := cMd K a0 a1 a2 a3 a4 a5 a6 a7 a8 a9 a10 a11 a12 a13 a14 a15 a16 a17 a18 a19 S) (ws' := cMd K a0 a1 a2 a3 a4 a5 a6 a7 a8 a9 a10 a11 a12 a13 a14 a15 a16 a17 a18 a19 S) (ov := some (.int (fX8_bound p1 (0 : Int32) (255 : Int32)))) X hh hl (kX8_bound l K p1 (0 : Int32) (255 : Int32) (fX8_bound p1 (0 : Int32) (255 : Int32)) rfl) (fun ht => va_cwS 3 ht gX8_feed_X8_bound rfl rfl rfl hdX8_bound ⟨Nat.le_of_ble_eq_true rfl, Nat.le_of_ble_eq_true rfl⟩) [] [0, 1, 2, 3, 4, 5, 6, 7, 8, 9, 10, 11, 12, 13, 14, 15, 16, 17, 18, 19] [0, 1, 2, 3, 4, 5, 6, 7, 8, 9, 10, 11, 12, 13, 14, 15, 16, 17, 18, 19] rfl rfl rfl rfl (by decide) rfl rfl rfl rfl (Nat.le_of_ble_eq_true rfl) dX8_feed_5 ⟨Nat.zero_le _, Nat.zero_le _⟩ (fun H locs hh => ?_)
  refine lv_istore_n (lv' := [(2, .int (fX8_bound p1 (0 : Int32) (255 : Int32))), (0, .ref a0), (1, .int p1)]) hx hb dX8_feed_8 rfl hl (by decide) rfl (fun ls hl => ?_)
  refine lv_iload_n hx hb dX8_feed_9 rfl (lv_at hl 0 rfl) ?_
  refine lv_if_ne (tgt := 25) hx hb dX8_feed_10 (by decide) (fun c5 => ?_) (fun c5 => ?_)
  · replace hf := (if_neg c5).symm.trans hf
    exact hJ25 p1 (fX8_bound p1 (0 : Int32) (255 : Int32)) S H locs ls hf (lv_sub hl [1, 2, 0] rfl) hh
  · replace hf := (if_pos c5).symm.trans hf
    refine lv_aload_n hx hb dX8_feed_13 rfl (lv_at hl 1 rfl) ?_
    refine zget (v := .int (md_taped S)) (ref := "SumOfTwoThatStandModel") (C := RX8) (T := TX8) (N := 33) (index := 124) X hh inX8_feed_X8 0 rfl rfl 16 (by decide) mmX8_feed_1 rfl rfl dX8_feed_14 ?_
    refine lv_bipush (v := (64 : Int32)) hx hb dX8_feed_17 (by decide) ?_
    refine lv_icmp_ne (tgt := 25) hx hb dX8_feed_19 (by decide) (fun c6 => ?_) (fun c6 => ?_)
    · replace hf := (if_neg c6).symm.trans hf
      exact hJ25 p1 (fX8_bound p1 (0 : Int32) (255 : Int32)) S H locs ls hf (lv_sub hl [1, 2, 0] rfl) hh
    · replace hf := (if_pos c6).symm.trans hf
      refine lv_bipush (v := (-6 : Int32)) hx hb dX8_feed_22 (by decide) ?_
      refine lv_istore_n (lv' := [(2, .int (-6 : Int32)), (0, .ref a0), (1, .int p1)]) hx hb dX8_feed_24 rfl hl (by decide) rfl (fun ls hl => ?_)
      exact hJ25 p1 (-6 : Int32) S H locs ls hf (lv_sub hl [1, 2, 0] rfl) hh
theorem inX8_sign_X8 : ∀ w ∈ wsX80, w ∈ wsX8_sign := by decide +kernel
theorem mmX8_sign_0 : Cond.fieldLink RX8 130 "SumOfTwoThatStandModel" "reading" "I" ∈ wsX8_sign := by decide +kernel
theorem mmX8_sign_1 : Cond.fieldLink RX8 124 "SumOfTwoThatStandModel" "taped" "I" ∈ wsX8_sign := by decide +kernel
theorem mmX8_sign_2 : Cond.fieldLink RX8 37 "SumOfTwoThatStandModel" "tape" "[I" ∈ wsX8_sign := by decide +kernel
theorem hdX8_sign : yX8_sign.cls ≠ "java/lang/invoke/MethodHandle" ∧ yX8_sign.cls ≠ "java/lang/invoke/VarHandle" ∧ (parseMethodDescriptor yX8_sign.desc).map (fun d => d.parameters.length) = some 0 := by decide +kernel
set_option maxHeartbeats 4000000 in
set_option maxRecDepth 100000 in
theorem kX8_sign (l : Launch) (K : zK) (a0 a1 a2 a3 a4 a5 a6 a7 a8 a9 a10 a11 a12 a13 a14 a15 a16 a17 a18 a19 : Nat) (S : zMd) (R : Int32) (hf : fX8_sign S = some R) : zC l yX8_sign wsX8_sign ({ frames := 0, cells := 0, slots := 0, locals := 0 } : Room) K [.ref a0] (cMd K a0 a1 a2 a3 a4 a5 a6 a7 a8 a9 a10 a11 a12 a13 a14 a15 a16 a17 a18 a19 S) (some (.int R)) (cMd K a0 a1 a2 a3 a4 a5 a6 a7 a8 a9 a10 a11 a12 a13 a14 a15 a16 a17 a18 a19 S) := by
  refine zC_i R (cc := cX8_sign) (maxL := 1) (by decide +kernel) rfl (Nat.le_of_ble_eq_true rfl) rfl rfl ?_
  intro p e s m below meth c Q A X hret ls hl hh
  have X : zX p m c cX8_sign 1 s ([.ref a0] : List Value).toArray wsX8_sign RX8 K A := X
  have hx := X.1.1
  have hb := X.1.2.1
  have hr2 : ∀ (pc : Nat) (ls : Array Slot) (H : Heap) (locs : List Loc) (v : Int32), some v = some R → decode cX8_sign pc = .ok (.ireturn, 1) → zW K A s H locs (cMd K a0 a1 a2 a3 a4 a5 a6 a7 a8 a9 a10 a11 a12 a13 a14 a15 a16 a17 a18 a19 S) → W p l e ({ frames := 0, cells := 0, slots := 0, locals := 0 } : Room) s m ([.ref a0] : List Value).toArray below meth c H locs 0 0 Q (F0 m pc ls [.int v]) := by
    intro pc ls H locs v h hd hh
    cases h; exact hret pc ls H locs _ rfl hd hh
  have hl : lv_has ls 1 [(0, .ref a0)] := hl
  unfold fX8_sign at hf
  refine (fun (hmain : ∀ (H : Heap) (locs : List Loc), zW K A s H locs (cMd K a0 a1 a2 a3 a4 a5 a6 a7 a8 a9 a10 a11 a12 a13 a14 a15 a16 a17 a18 a19 S) → W p l e ({ frames := 0, cells := 0, slots := 0, locals := 0 } : Room) s m ([.ref a0] : List Value).toArray below meth c H locs 0 0 Q (F0 m 0 ls [])) => hmain s.heap [] hh) (fun H locs hh => ?_)
  refine lv_aload_n hx hb dX8_sign_0 rfl (lv_at hl 0 rfl) ?_
  refine zget (v := .int (md_reading S)) (ref := "SumOfTwoThatStandModel") (C := RX8) (T := TX8) (N := 33) (index := 130) X hh inX8_sign_X8 0 rfl rfl 17 (by decide) mmX8_sign_0 rfl rfl dX8_sign_1 ?_
  refine lv_aload_n hx hb dX8_sign_4 rfl (lv_at hl 0 rfl) ?_
  refine zget (v := .int (md_taped S)) (ref := "SumOfTwoThatStandModel") (C := RX8) (T := TX8) (N := 33) (index := 124) X hh inX8_sign_X8 0 rfl rfl 16 (by decide) mmX8_sign_1 rfl rfl dX8_sign_5 ?_
  refine lv_icmp_ge (tgt := 23) hx hb dX8_sign_8 (by decide) (fun c1 => ?_) (fun c1 => ?_)
  · replace hf := (if_pos c1).symm.trans hf
    refine lv_iconst (v := (-1 : Int32)) hx hb dX8_sign_23 (by decide) ?_
    exact hr2 24 ls H locs (-1 : Int32) hf dX8_sign_24 hh
  · replace hf := (if_neg c1).symm.trans hf
    refine lv_aload_n hx hb dX8_sign_11 rfl (lv_at hl 0 rfl) ?_
    refine zget (v := .ref a10) (ref := "SumOfTwoThatStandModel") (C := RX8) (T := TX8) (N := 33) (index := 37) X hh inX8_sign_X8 0 rfl rfl 12 (by decide) mmX8_sign_2 rfl rfl dX8_sign_12 ?_
    refine lv_aload_n hx hb dX8_sign_15 rfl (lv_at hl 0 rfl) ?_
    refine zget (v := .int (md_reading S)) (ref := "SumOfTwoThatStandModel") (C := RX8) (T := TX8) (N := 33) (index := 130) X hh inX8_sign_X8 0 rfl rfl 17 (by decide) mmX8_sign_0 rfl rfl dX8_sign_16 ?_
    obtain ⟨g2, hf⟩ := ob_ix hf
    refine ziald (f := (md_tape S)) X hh 10 rfl g2 dX8_sign_19 ?_
    refine lv_goto (tgt := 24) hx hb dX8_sign_20 (by decide) ?_
    exact hr2 24 ls H locs ((md_tape S) (md_reading S).toNatClampNeg) hf dX8_sign_24 hh
theorem inX8_reads_X8 : ∀ w ∈ wsX80, w ∈ wsX8_reads := by decide +kernel
theorem mmX8_reads_0 : Cond.fieldLink RX8 130 "SumOfTwoThatStandModel" "reading" "I" ∈ wsX8_reads := by decide +kernel
theorem hdX8_reads : yX8_reads.cls ≠ "java/lang/invoke/MethodHandle" ∧ yX8_reads.cls ≠ "java/lang/invoke/VarHandle" ∧ (parseMethodDescriptor yX8_reads.desc).map (fun d => d.parameters.length) = some 1 := by decide +kernel
set_option maxHeartbeats 4000000 in
set_option maxRecDepth 100000 in
theorem kX8_reads (l : Launch) (K : zK) (a0 a1 a2 a3 a4 a5 a6 a7 a8 a9 a10 a11 a12 a13 a14 a15 a16 a17 a18 a19 : Nat) (S : zMd) (p1 : Int32) (R : Int32 × zMd) (hf : fX8_reads S p1 = some R) : zC l yX8_reads wsX8_reads ({ frames := 1, cells := 0, slots := 0, locals := 20 } : Room) K [.ref a0, .int p1] (cMd K a0 a1 a2 a3 a4 a5 a6 a7 a8 a9 a10 a11 a12 a13 a14 a15 a16 a17 a18 a19 S) (some (.int R.1)) (cMd K a0 a1 a2 a3 a4 a5 a6 a7 a8 a9 a10 a11 a12 a13 a14 a15 a16 a17 a18 a19 R.2) := by
  refine zC_z .boolean R.1 (cc := cX8_reads) (maxL := 2) (by decide +kernel) rfl (Nat.le_of_ble_eq_true rfl) rfl rfl ?_
  intro p e s m below meth c Q A X hret ls hl hh
  have X : zX p m c cX8_reads 2 s ([.ref a0, .int p1] : List Value).toArray wsX8_reads RX8 K A := X
  have hx := X.1.1
  have hb := X.1.2.1
  have hr2 : ∀ (pc : Nat) (ls : Array Slot) (H : Heap) (locs : List Loc) (v : Int32) (S : zMd), some (v, S) = some R → narrow .boolean (.int v) = .int v → decode cX8_reads pc = .ok (.ireturn, 1) → zW K A s H locs (cMd K a0 a1 a2 a3 a4 a5 a6 a7 a8 a9 a10 a11 a12 a13 a14 a15 a16 a17 a18 a19 S) → W p l e ({ frames := 1, cells := 0, slots := 0, locals := 20 } : Room) s m ([.ref a0, .int p1] : List Value).toArray below meth c H locs 0 0 Q (F0 m pc ls [.int v]) := by
    intro pc ls H locs v S h hn hd hh
    cases h; exact hret pc ls H locs _ rfl hn hd hh
  have hl : lv_has ls 2 [(0, .ref a0), (1, .int p1)] := hl
  unfold fX8_reads at hf
  refine (fun (hmain : ∀ (H : Heap) (locs : List Loc), zW K A s H locs (cMd K a0 a1 a2 a3 a4 a5 a6 a7 a8 a9 a10 a11 a12 a13 a14 a15 a16 a17 a18 a19 S) → W p l e ({ frames := 1, cells := 0, slots := 0, locals := 20 } : Room) s m ([.ref a0, .int p1] : List Value).toArray below meth c H locs 0 0 Q (F0 m 0 ls [])) => hmain s.heap [] hh) (fun H locs hh => ?_)
  refine lv_aload_n hx hb dX8_reads_0 rfl (lv_at hl 0 rfl) ?_
  obtain ⟨u1, hu1, hf⟩ := ob_bind hf
  refine zcallV (ci := 7) (q0 := 0) (As := []) (rest := []) (wr := []) (ws' := cMd K a0 a1 a2 a3 a4 a5 a6 a7 a8 a9 a10 a11 a12 a13 a14 a15 a16 a17 a18 a19 S) (ov := some (.int u1)) X hh hl (kX8_sign l K a0 a1 a2 a3 a4 a5 a6 a7 a8 a9 a10 a11 a12 a13 a14 a15 a16 a17 a18 a19 S u1 hu1) (fun ht => cwV 0 ht gX8_reads_X8_sign rfl rfl rfl ⟨rfl, hdX8_sign⟩ ⟨Nat.le_of_ble_eq_true rfl, Nat.le_of_ble_eq_true rfl⟩) [0, 1, 2, 3, 4, 5, 6, 7, 8, 9, 10, 11, 12, 13, 14, 15, 16, 17, 18, 19] [] [0, 1, 2, 3, 4, 5, 6, 7, 8, 9, 10, 11, 12, 13, 14, 15, 16, 17, 18, 19] rfl rfl rfl rfl (by decide) rfl rfl rfl rfl rfl rfl (Nat.le_of_ble_eq_true rfl) dX8_reads_1 ⟨Nat.zero_le _, Nat.zero_le _⟩ (fun H locs hh => ?_)
  refine lv_iload_n hx hb dX8_reads_4 rfl (lv_at hl 1 rfl) ?_
  refine lv_icmp_eq (tgt := 10) hx hb dX8_reads_5 (by decide) (fun c2 => ?_) (fun c2 => ?_)
  · replace hf := (if_pos c2).symm.trans hf
    refine lv_aload_n hx hb dX8_reads_10 rfl (lv_at hl 0 rfl) ?_
    refine lv_dup hx hb dX8_reads_11 rfl ?_
    refine zget (v := .int (md_reading S)) (ref := "SumOfTwoThatStandModel") (C := RX8) (T := TX8) (N := 33) (index := 130) X hh inX8_reads_X8 0 rfl rfl 17 (by decide) mmX8_reads_0 rfl rfl dX8_reads_12 ?_
    refine lv_iconst (v := (1 : Int32)) hx hb dX8_reads_15 (by decide) ?_
    refine lv_iadd hx hb dX8_reads_16 ?_
    refine zput (v := .int ((md_reading S) + (1 : Int32))) (ty := .int) (ref := "SumOfTwoThatStandModel") (C := RX8) (T := TX8) (N := 33) (index := 130) X hh inX8_reads_X8 tyX8 tyX8_ok nmX8 0 rfl rfl 17 (by decide) mmX8_reads_0 rfl rfl (by decide +kernel) rfl rfl (Nat.le_of_ble_eq_true rfl) dX8_reads_17 (fun H locs hh => ?_)
    have hh := hh.to (sMd_reading K a0 a1 a2 a3 a4 a5 a6 a7 a8 a9 a10 a11 a12 a13 a14 a15 a16 a17 a18 a19 S ((md_reading S) + (1 : Int32)))
    refine lv_iconst (v := (1 : Int32)) hx hb dX8_reads_20 (by decide) ?_
    exact hr2 21 ls H locs (1 : Int32) (md_set_reading S ((md_reading S) + (1 : Int32))) hf rfl dX8_reads_21 hh
  · replace hf := (if_neg c2).symm.trans hf
    refine lv_iconst (v := (0 : Int32)) hx hb dX8_reads_8 (by decide) ?_
    exact hr2 9 ls H locs (0 : Int32) S hf rfl dX8_reads_9 hh
theorem inX8_readsNumber_X8 : ∀ w ∈ wsX80, w ∈ wsX8_readsNumber := by decide +kernel
theorem mmX8_readsNumber_0 : Cond.fieldLink RX8 46 "SumOfTwoThatStandModel" "told" "[I" ∈ wsX8_readsNumber := by decide +kernel
theorem mmX8_readsNumber_1 : Cond.fieldLink RX8 136 "SumOfTwoThatStandModel" "telling" "I" ∈ wsX8_readsNumber := by decide +kernel
theorem mmX8_readsNumber_2 : Cond.fieldLink RX8 130 "SumOfTwoThatStandModel" "reading" "I" ∈ wsX8_readsNumber := by decide +kernel
theorem hdX8_readsNumber : yX8_readsNumber.cls ≠ "java/lang/invoke/MethodHandle" ∧ yX8_readsNumber.cls ≠ "java/lang/invoke/VarHandle" ∧ (parseMethodDescriptor yX8_readsNumber.desc).map (fun d => d.parameters.length) = some 1 := by decide +kernel
set_option maxHeartbeats 4000000 in
set_option maxRecDepth 100000 in
theorem kX8_readsNumber (l : Launch) (K : zK) (a0 a1 a2 a3 a4 a5 a6 a7 a8 a9 a10 a11 a12 a13 a14 a15 a16 a17 a18 a19 : Nat) (S : zMd) (p1 : Int32) (R : Int32 × zMd) (hf : fX8_readsNumber S p1 = some R) : zC l yX8_readsNumber wsX8_readsNumber ({ frames := 1, cells := 0, slots := 0, locals := 22 } : Room) K [.ref a0, .int p1] (cMd K a0 a1 a2 a3 a4 a5 a6 a7 a8 a9 a10 a11 a12 a13 a14 a15 a16 a17 a18 a19 S) (some (.int R.1)) (cMd K a0 a1 a2 a3 a4 a5 a6 a7 a8 a9 a10 a11 a12 a13 a14 a15 a16 a17 a18 a19 R.2) := by
  refine zC_z .boolean R.1 (cc := cX8_readsNumber) (maxL := 4) (by decide +kernel) rfl (Nat.le_of_ble_eq_true rfl) rfl rfl ?_
  intro p e s m below meth c Q A X hret ls hl hh
  have X : zX p m c cX8_readsNumber 4 s ([.ref a0, .int p1] : List Value).toArray wsX8_readsNumber RX8 K A := X
  have hx := X.1.1
  have hb := X.1.2.1
  have hr2 : ∀ (pc : Nat) (ls : Array Slot) (H : Heap) (locs : List Loc) (v : Int32) (S : zMd), some (v, S) = some R → narrow .boolean (.int v) = .int v → decode cX8_readsNumber pc = .ok (.ireturn, 1) → zW K A s H locs (cMd K a0 a1 a2 a3 a4 a5 a6 a7 a8 a9 a10 a11 a12 a13 a14 a15 a16 a17 a18 a19 S) → W p l e ({ frames := 1, cells := 0, slots := 0, locals := 22 } : Room) s m ([.ref a0, .int p1] : List Value).toArray below meth c H locs 0 0 Q (F0 m pc ls [.int v]) := by
    intro pc ls H locs v S h hn hd hh
    cases h; exact hret pc ls H locs _ rfl hn hd hh
  have hl : lv_has ls 4 [(0, .ref a0), (1, .int p1)] := hl
  have hJ52 : ∀ (v2 : Int32) (v3 : Int32) (S : zMd), ∀ (H : Heap) (locs : List Loc) (ls : Array Slot), fX8_readsNumber_j52 v2 v3 S = some R → lv_has ls 4 [(0, .ref a0), (2, .int v2), (3, .int v3)] → zW K A s H locs (cMd K a0 a1 a2 a3 a4 a5 a6 a7 a8 a9 a10 a11 a12 a13 a14 a15 a16 a17 a18 a19 S) → W p l e ({ frames := 1, cells := 0, slots := 0, locals := 22 } : Room) s m ([.ref a0, .int p1] : List Value).toArray below meth c H locs 0 0 Q (F0 m 52 ls []) := by
    intro v2 v3 S H locs ls hf hl hh
    unfold fX8_readsNumber_j52 at hf
    refine lv_aload_n hx hb dX8_readsNumber_52 rfl (lv_at hl 0 rfl) ?_
    refine zget (v := .ref a13) (ref := "SumOfTwoThatStandModel") (C := RX8) (T := TX8) (N := 33) (index := 46) X hh inX8_readsNumber_X8 0 rfl rfl 15 (by decide) mmX8_readsNumber_0 rfl rfl dX8_readsNumber_53 ?_
    refine lv_aload_n hx hb dX8_readsNumber_56 rfl (lv_at hl 0 rfl) ?_
    refine zget (v := .int (md_telling S)) (ref := "SumOfTwoThatStandModel") (C := RX8) (T := TX8) (N := 33) (index := 136) X hh inX8_readsNumber_X8 0 rfl rfl 19 (by decide) mmX8_readsNumber_1 rfl rfl dX8_readsNumber_57 ?_
    refine lv_iload_n hx hb dX8_readsNumber_60 rfl (lv_at hl 1 rfl) ?_
    obtain ⟨g1, hf⟩ := ob_ix hf
    refine ziast (f := (md_told S)) X hh 13 rfl g1 dX8_readsNumber_61 (fun H locs hh => ?_)
    have hh := hh.to (sMd_told K a0 a1 a2 a3 a4 a5 a6 a7 a8 a9 a10 a11 a12 a13 a14 a15 a16 a17 a18 a19 S (upd (md_told S) (md_telling S).toNatClampNeg v2))
    refine lv_aload_n hx hb dX8_readsNumber_62 rfl (lv_at hl 0 rfl) ?_
    refine lv_dup hx hb dX8_readsNumber_63 rfl ?_
    refine zget (v := .int (md_telling S)) (ref := "SumOfTwoThatStandModel") (C := RX8) (T := TX8) (N := 33) (index := 136) X hh inX8_readsNumber_X8 0 rfl rfl 19 (by decide) mmX8_readsNumber_1 rfl rfl dX8_readsNumber_64 ?_
    refine lv_iconst (v := (1 : Int32)) hx hb dX8_readsNumber_67 (by decide) ?_
    refine lv_iadd hx hb dX8_readsNumber_68 ?_
    refine zput (v := .int ((md_telling S) + (1 : Int32))) (ty := .int) (ref := "SumOfTwoThatStandModel") (C := RX8) (T := TX8) (N := 33) (index := 136) X hh inX8_readsNumber_X8 tyX8 tyX8_ok nmX8 0 rfl rfl 19 (by decide) mmX8_readsNumber_1 rfl rfl (by decide +kernel) rfl rfl (Nat.le_of_ble_eq_true rfl) dX8_readsNumber_69 (fun H locs hh => ?_)
    have hh := hh.to (sMd_telling K a0 a1 a2 a3 a4 a5 a6 a7 a8 a9 a10 a11 a12 a13 a14 a15 a16 a17 a18 a19 (md_set_told S (upd (md_told S) (md_telling S).toNatClampNeg v2)) ((md_telling S) + (1 : Int32)))
    refine lv_iload_n hx hb dX8_readsNumber_72 rfl (lv_at hl 2 rfl) ?_
    refine lv_if_le (tgt := 80) hx hb dX8_readsNumber_73 (by decide) (fun c2 => ?_) (fun c2 => ?_)
    · replace hf := (if_pos c2).symm.trans hf
      refine lv_iconst (v := (0 : Int32)) hx hb dX8_readsNumber_80 (by decide) ?_
      exact hr2 81 ls H locs (0 : Int32) (md_set_telling (md_set_told S (upd (md_told S) (md_telling S).toNatClampNeg v2)) ((md_telling S) + (1 : Int32))) hf rfl dX8_readsNumber_81 hh
    · replace hf := (if_neg c2).symm.trans hf
      refine lv_iconst (v := (1 : Int32)) hx hb dX8_readsNumber_76 (by decide) ?_
      refine lv_goto (tgt := 81) hx hb dX8_readsNumber_77 (by decide) ?_
      exact hr2 81 ls H locs (1 : Int32) (md_set_telling (md_set_told S (upd (md_told S) (md_telling S).toNatClampNeg v2)) ((md_telling S) + (1 : Int32))) hf rfl dX8_readsNumber_81 hh
  have hL4 : ∀ (v1 : Int32), ∀ (n : Nat) (v2 : Int32) (v3 : Int32) (S : zMd), ∀ (H : Heap) (locs : List Loc) (ls : Array Slot), fX8_readsNumber_l4 v1 n v2 v3 S = some R → lv_has ls 4 [(0, .ref a0), (1, .int v1), (2, .int v2), (3, .int v3)] → zW K A s H locs (cMd K a0 a1 a2 a3 a4 a5 a6 a7 a8 a9 a10 a11 a12 a13 a14 a15 a16 a17 a18 a19 S) → W p l e ({ frames := 1, cells := 0, slots := 0, locals := 22 } : Room) s m ([.ref a0, .int p1] : List Value).toArray below meth c H locs 0 0 Q (F0 m 4 ls []) := by
    intro v1 n
    induction n with
    | zero =>
      intro v2 v3 S H locs ls hf hl hh
      rw [fX8_readsNumber_l4] at hf; cases hf
    | succ n ih =>
      intro v2 v3 S H locs ls hf hl hh
      rw [fX8_readsNumber_l4] at hf
      refine lv_iload_n hx hb dX8_readsNumber_4 rfl (lv_at hl 3 rfl) ?_
      refine lv_iload_n hx hb dX8_readsNumber_5 rfl (lv_at hl 1 rfl) ?_
      refine lv_icmp_ge (tgt := 52) hx hb dX8_readsNumber_6 (by decide) (fun c3 => ?_) (fun c3 => ?_)
      · replace hf := (if_pos c3).symm.trans hf
        exact hJ52 v2 v3 S H locs ls hf (lv_sub hl [0, 2, 3] rfl) hh
      · replace hf := (if_neg c3).symm.trans hf
        refine lv_aload_n hx hb dX8_readsNumber_9 rfl (lv_at hl 0 rfl) ?_
        obtain ⟨u4, hu4, hf⟩ := ob_bind hf
        refine zcallV (ci := 7) (q0 := 0) (As := []) (rest := []) (wr := []) (ws' := cMd K a0 a1 a2 a3 a4 a5 a6 a7 a8 a9 a10 a11 a12 a13 a14 a15 a16 a17 a18 a19 S) (ov := some (.int u4)) X hh hl (kX8_sign l K a0 a1 a2 a3 a4 a5 a6 a7 a8 a9 a10 a11 a12 a13 a14 a15 a16 a17 a18 a19 S u4 hu4) (fun ht => cwV 0 ht gX8_readsNumber_X8_sign rfl rfl rfl ⟨rfl, hdX8_sign⟩ ⟨Nat.le_of_ble_eq_true rfl, Nat.le_of_ble_eq_true rfl⟩) [0, 1, 2, 3, 4, 5, 6, 7, 8, 9, 10, 11, 12, 13, 14, 15, 16, 17, 18, 19] [] [0, 1, 2, 3, 4, 5, 6, 7, 8, 9, 10, 11, 12, 13, 14, 15, 16, 17, 18, 19] rfl rfl rfl rfl (by decide) rfl rfl rfl rfl rfl rfl (Nat.le_of_ble_eq_true rfl) dX8_readsNumber_10 ⟨Nat.zero_le _, Nat.zero_le _⟩ (fun H locs hh => ?_)
        refine lv_bipush (v := (48 : Int32)) hx hb dX8_readsNumber_13 (by decide) ?_
        refine lv_bipush (v := (57 : Int32)) hx hb dX8_readsNumber_15 (by decide) ?_
        refine zcallS (As := [.int u4, .int (48 : Int32), .int (57 : Int32)]) (rest := []) (wr := cMd K a0 a1 a2 a3 a4 a5 a6 a7 a8 a9 a10 a11 a12 a13 a14 a15 a16 a17 a18 a19 S) (ws' := cMd K a0 a1 a2 a3 a4 a5 a6 a7 a8 a9 a10 a11 a12 a13 a14 a15 a16 a17 a18 a19 S) (ov := some (.int (fX8_isIn u4 (48 : Int32) (57 : Int32)))) X hh hl (kX8_isIn l K u4 (48 : Int32) (57 : Int32) (fX8_isIn u4 (48 : Int32) (57 : Int32)) rfl) (fun ht => va_cwS 3 ht gX8_readsNumber_X8_isIn rfl rfl rfl hdX8_isIn ⟨Nat.le_of_ble_eq_true rfl, Nat.le_of_ble_eq_true rfl⟩) [] [0, 1, 2, 3, 4, 5, 6, 7, 8, 9, 10, 11, 12, 13, 14, 15, 16, 17, 18, 19] [0, 1, 2, 3, 4, 5, 6, 7, 8, 9, 10, 11, 12, 13, 14, 15, 16, 17, 18, 19] rfl rfl rfl rfl (by decide) rfl rfl rfl rfl (Nat.le_of_ble_eq_true rfl) dX8_readsNumber_17 ⟨Nat.zero_le _, Nat.zero_le _⟩ (fun H locs hh => ?_)
        refine lv_if_eq (tgt := 52) hx hb dX8_readsNumber_20 (by decide) (fun c6 => ?_) (fun c6 => ?_)
        · replace hf := (if_pos c6).symm.trans hf
          exact hJ52 v2 v3 S H locs ls hf (lv_sub hl [0, 2, 3] rfl) hh
        · replace hf := (if_neg c6).symm.trans hf
          refine lv_bipush (v := (10 : Int32)) hx hb dX8_readsNumber_23 (by decide) ?_
          refine lv_iload_n hx hb dX8_readsNumber_25 rfl (lv_at hl 2 rfl) ?_
          refine lv_imul hx hb dX8_readsNumber_26 ?_
          refine lv_aload_n hx hb dX8_readsNumber_27 rfl (lv_at hl 0 rfl) ?_
          obtain ⟨u7, hu7, hf⟩ := ob_bind hf
          refine zcallV (ci := 7) (q0 := 0) (As := []) (rest := [.int ((10 : Int32) * v2)]) (wr := []) (ws' := cMd K a0 a1 a2 a3 a4 a5 a6 a7 a8 a9 a10 a11 a12 a13 a14 a15 a16 a17 a18 a19 S) (ov := some (.int u7)) X hh hl (kX8_sign l K a0 a1 a2 a3 a4 a5 a6 a7 a8 a9 a10 a11 a12 a13 a14 a15 a16 a17 a18 a19 S u7 hu7) (fun ht => cwV 0 ht gX8_readsNumber_X8_sign rfl rfl rfl ⟨rfl, hdX8_sign⟩ ⟨Nat.le_of_ble_eq_true rfl, Nat.le_of_ble_eq_true rfl⟩) [0, 1, 2, 3, 4, 5, 6, 7, 8, 9, 10, 11, 12, 13, 14, 15, 16, 17, 18, 19] [] [0, 1, 2, 3, 4, 5, 6, 7, 8, 9, 10, 11, 12, 13, 14, 15, 16, 17, 18, 19] rfl rfl rfl rfl (by decide) rfl rfl rfl rfl rfl rfl (Nat.le_of_ble_eq_true rfl) dX8_readsNumber_28 ⟨Nat.zero_le _, Nat.zero_le _⟩ (fun H locs hh => ?_)
          refine lv_iadd hx hb dX8_readsNumber_31 ?_
          refine lv_bipush (v := (48 : Int32)) hx hb dX8_readsNumber_32 (by decide) ?_
          refine lv_isub hx hb dX8_readsNumber_34 ?_
          refine lv_istore_n (lv' := [(2, .int ((((10 : Int32) * v2) + u7) - (48 : Int32))), (0, .ref a0), (1, .int v1), (3, .int v3)]) hx hb dX8_readsNumber_35 rfl hl (by decide) rfl (fun ls hl => ?_)
          refine lv_aload_n hx hb dX8_readsNumber_36 rfl (lv_at hl 1 rfl) ?_
          refine lv_dup hx hb dX8_readsNumber_37 rfl ?_
          refine zget (v := .int (md_reading S)) (ref := "SumOfTwoThatStandModel") (C := RX8) (T := TX8) (N := 33) (index := 130) X hh inX8_readsNumber_X8 0 rfl rfl 17 (by decide) mmX8_readsNumber_2 rfl rfl dX8_readsNumber_38 ?_
          refine lv_iconst (v := (1 : Int32)) hx hb dX8_readsNumber_41 (by decide) ?_
          refine lv_iadd hx hb dX8_readsNumber_42 ?_
          refine zput (v := .int ((md_reading S) + (1 : Int32))) (ty := .int) (ref := "SumOfTwoThatStandModel") (C := RX8) (T := TX8) (N := 33) (index := 130) X hh inX8_readsNumber_X8 tyX8 tyX8_ok nmX8 0 rfl rfl 17 (by decide) mmX8_readsNumber_2 rfl rfl (by decide +kernel) rfl rfl (Nat.le_of_ble_eq_true rfl) dX8_readsNumber_43 (fun H locs hh => ?_)
          have hh := hh.to (sMd_reading K a0 a1 a2 a3 a4 a5 a6 a7 a8 a9 a10 a11 a12 a13 a14 a15 a16 a17 a18 a19 S ((md_reading S) + (1 : Int32)))
          refine lv_iinc (v := (v3 + (1 : Int32))) (lv' := [(3, .int (v3 + (1 : Int32))), (2, .int ((((10 : Int32) * v2) + u7) - (48 : Int32))), (0, .ref a0), (1, .int v1)]) hx hb dX8_readsNumber_46 hl (k := 3) rfl rfl (by decide) rfl (fun ls hl => ?_)
          refine lv_goto (tgt := 4) hx hb dX8_readsNumber_49 (by decide) ?_
          exact ih ((((10 : Int32) * v2) + u7) - (48 : Int32)) (v3 + (1 : Int32)) (md_set_reading S ((md_reading S) + (1 : Int32))) H locs ls hf (lv_sub hl [2, 3, 1, 0] rfl) hh
  unfold fX8_readsNumber at hf
  refine (fun (hmain : ∀ (H : Heap) (locs : List Loc), zW K A s H locs (cMd K a0 a1 a2 a3 a4 a5 a6 a7 a8 a9 a10 a11 a12 a13 a14 a15 a16 a17 a18 a19 S) → W p l e ({ frames := 1, cells := 0, slots := 0, locals := 22 } : Room) s m ([.ref a0, .int p1] : List Value).toArray below meth c H locs 0 0 Q (F0 m 0 ls [])) => hmain s.heap [] hh) (fun H locs hh => ?_)
  refine lv_iconst (v := (0 : Int32)) hx hb dX8_readsNumber_0 (by decide) ?_
  refine lv_istore_n (lv' := [(2, .int (0 : Int32)), (0, .ref a0), (1, .int p1)]) hx hb dX8_readsNumber_1 rfl hl (by decide) rfl (fun ls hl => ?_)
  refine lv_iconst (v := (0 : Int32)) hx hb dX8_readsNumber_2 (by decide) ?_
  refine lv_istore_n (lv' := [(3, .int (0 : Int32)), (2, .int (0 : Int32)), (0, .ref a0), (1, .int p1)]) hx hb dX8_readsNumber_3 rfl hl (by decide) rfl (fun ls hl => ?_)
  exact hL4 p1 FU (0 : Int32) (0 : Int32) S H locs ls hf (lv_sub hl [2, 3, 1, 0] rfl) hh
theorem hdX8_readsAll : yX8_readsAll.cls ≠ "java/lang/invoke/MethodHandle" ∧ yX8_readsAll.cls ≠ "java/lang/invoke/VarHandle" ∧ (parseMethodDescriptor yX8_readsAll.desc).map (fun d => d.parameters.length) = some 1 := by decide +kernel
set_option maxHeartbeats 4000000 in
set_option maxRecDepth 100000 in
theorem kX8_readsAll (l : Launch) (K : zK) (a0 a1 a2 a3 a4 a5 a6 a7 a8 a9 a10 a11 a12 a13 a14 a15 a16 a17 a18 a19 : Nat) (S : zMd) (p1 : Int32) (R : Int32 × zMd) (hf : fX8_readsAll S p1 = some R) : zC l yX8_readsAll wsX8_readsAll ({ frames := 2, cells := 0, slots := 0, locals := 45 } : Room) K [.ref a0, .int p1] (cMd K a0 a1 a2 a3 a4 a5 a6 a7 a8 a9 a10 a11 a12 a13 a14 a15 a16 a17 a18 a19 S) (some (.int R.1)) (cMd K a0 a1 a2 a3 a4 a5 a6 a7 a8 a9 a10 a11 a12 a13 a14 a15 a16 a17 a18 a19 R.2) := by
  refine zC_z .boolean R.1 (cc := cX8_readsAll) (maxL := 2) (by decide +kernel) rfl (Nat.le_of_ble_eq_true rfl) rfl rfl ?_
  intro p e s m below meth c Q A X hret ls hl hh
  have X : zX p m c cX8_readsAll 2 s ([.ref a0, .int p1] : List Value).toArray wsX8_readsAll RX8 K A := X
  have hx := X.1.1
  have hb := X.1.2.1
  have hr2 : ∀ (pc : Nat) (ls : Array Slot) (H : Heap) (locs : List Loc) (v : Int32) (S : zMd), some (v, S) = some R → narrow .boolean (.int v) = .int v → decode cX8_readsAll pc = .ok (.ireturn, 1) → zW K A s H locs (cMd K a0 a1 a2 a3 a4 a5 a6 a7 a8 a9 a10 a11 a12 a13 a14 a15 a16 a17 a18 a19 S) → W p l e ({ frames := 2, cells := 0, slots := 0, locals := 45 } : Room) s m ([.ref a0, .int p1] : List Value).toArray below meth c H locs 0 0 Q (F0 m pc ls [.int v]) := by
    intro pc ls H locs v S h hn hd hh
    cases h; exact hret pc ls H locs _ rfl hn hd hh
  have hl : lv_has ls 2 [(0, .ref a0), (1, .int p1)] := hl
  unfold fX8_readsAll at hf
  refine (fun (hmain : ∀ (H : Heap) (locs : List Loc), zW K A s H locs (cMd K a0 a1 a2 a3 a4 a5 a6 a7 a8 a9 a10 a11 a12 a13 a14 a15 a16 a17 a18 a19 S) → W p l e ({ frames := 2, cells := 0, slots := 0, locals := 45 } : Room) s m ([.ref a0, .int p1] : List Value).toArray below meth c H locs 0 0 Q (F0 m 0 ls [])) => hmain s.heap [] hh) (fun H locs hh => ?_)
  refine lv_iload_n hx hb dX8_readsAll_0 rfl (lv_at hl 1 rfl) ?_
  by_cases c1_0 : p1 = (97 : Int32)
  · replace hf := (if_pos c1_0).symm.trans hf
    refine lv_lookup (off := 35) (tgt := 36) hx hb dX8_readsAll_1 (by decide) (by rw [c1_0]; decide) (by decide) ?_
    refine lv_aload_n hx hb dX8_readsAll_36 rfl (lv_at hl 0 rfl) ?_
    refine lv_iconst (v := (2 : Int32)) hx hb dX8_readsAll_37 (by decide) ?_
    obtain ⟨u2, hu2, hf⟩ := ob_bind hf
    refine zcallV (ci := 7) (q0 := 0) (As := [.int (2 : Int32)]) (rest := []) (wr := []) (ws' := cMd K a0 a1 a2 a3 a4 a5 a6 a7 a8 a9 a10 a11 a12 a13 a14 a15 a16 a17 a18 a19 u2.2) (ov := some (.int u2.1)) X hh hl (kX8_readsNumber l K a0 a1 a2 a3 a4 a5 a6 a7 a8 a9 a10 a11 a12 a13 a14 a15 a16 a17 a18 a19 S (2 : Int32) u2 hu2) (fun ht => cwV 1 ht gX8_readsAll_X8_readsNumber rfl rfl rfl ⟨rfl, hdX8_readsNumber⟩ ⟨Nat.le_of_ble_eq_true rfl, Nat.le_of_ble_eq_true rfl⟩) [0, 1, 2, 3, 4, 5, 6, 7, 8, 9, 10, 11, 12, 13, 14, 15, 16, 17, 18, 19] [] [0, 1, 2, 3, 4, 5, 6, 7, 8, 9, 10, 11, 12, 13, 14, 15, 16, 17, 18, 19] rfl rfl rfl rfl (by decide) rfl rfl rfl rfl rfl rfl (Nat.le_of_ble_eq_true rfl) dX8_readsAll_38 ⟨Nat.zero_le _, Nat.zero_le _⟩ (fun H locs hh => ?_)
    refine lv_if_eq (tgt := 90) hx hb dX8_readsAll_41 (by decide) (fun c3 => ?_) (fun c3 => ?_)
    · replace hf := (if_pos c3).symm.trans hf
      refine lv_iconst (v := (0 : Int32)) hx hb dX8_readsAll_90 (by decide) ?_
      exact hr2 91 ls H locs (0 : Int32) u2.2 hf rfl dX8_readsAll_91 hh
    · replace hf := (if_neg c3).symm.trans hf
      refine lv_aload_n hx hb dX8_readsAll_44 rfl (lv_at hl 0 rfl) ?_
      refine lv_bipush (v := (44 : Int32)) hx hb dX8_readsAll_45 (by decide) ?_
      obtain ⟨u4, hu4, hf⟩ := ob_bind hf
      refine zcallV (ci := 7) (q0 := 0) (As := [.int (44 : Int32)]) (rest := []) (wr := []) (ws' := cMd K a0 a1 a2 a3 a4 a5 a6 a7 a8 a9 a10 a11 a12 a13 a14 a15 a16 a17 a18 a19 u4.2) (ov := some (.int u4.1)) X hh hl (kX8_reads l K a0 a1 a2 a3 a4 a5 a6 a7 a8 a9 a10 a11 a12 a13 a14 a15 a16 a17 a18 a19 u2.2 (44 : Int32) u4 hu4) (fun ht => cwV 1 ht gX8_readsAll_X8_reads rfl rfl rfl ⟨rfl, hdX8_reads⟩ ⟨Nat.le_of_ble_eq_true rfl, Nat.le_of_ble_eq_true rfl⟩) [0, 1, 2, 3, 4, 5, 6, 7, 8, 9, 10, 11, 12, 13, 14, 15, 16, 17, 18, 19] [] [0, 1, 2, 3, 4, 5, 6, 7, 8, 9, 10, 11, 12, 13, 14, 15, 16, 17, 18, 19] rfl rfl rfl rfl (by decide) rfl rfl rfl rfl rfl rfl (Nat.le_of_ble_eq_true rfl) dX8_readsAll_47 ⟨Nat.zero_le _, Nat.zero_le _⟩ (fun H locs hh => ?_)
      refine lv_if_eq (tgt := 90) hx hb dX8_readsAll_50 (by decide) (fun c5 => ?_) (fun c5 => ?_)
      · replace hf := (if_pos c5).symm.trans hf
        refine lv_iconst (v := (0 : Int32)) hx hb dX8_readsAll_90 (by decide) ?_
        exact hr2 91 ls H locs (0 : Int32) u4.2 hf rfl dX8_readsAll_91 hh
      · replace hf := (if_neg c5).symm.trans hf
        refine lv_aload_n hx hb dX8_readsAll_53 rfl (lv_at hl 0 rfl) ?_
        refine lv_iconst (v := (2 : Int32)) hx hb dX8_readsAll_54 (by decide) ?_
        obtain ⟨u6, hu6, hf⟩ := ob_bind hf
        refine zcallV (ci := 7) (q0 := 0) (As := [.int (2 : Int32)]) (rest := []) (wr := []) (ws' := cMd K a0 a1 a2 a3 a4 a5 a6 a7 a8 a9 a10 a11 a12 a13 a14 a15 a16 a17 a18 a19 u6.2) (ov := some (.int u6.1)) X hh hl (kX8_readsNumber l K a0 a1 a2 a3 a4 a5 a6 a7 a8 a9 a10 a11 a12 a13 a14 a15 a16 a17 a18 a19 u4.2 (2 : Int32) u6 hu6) (fun ht => cwV 1 ht gX8_readsAll_X8_readsNumber rfl rfl rfl ⟨rfl, hdX8_readsNumber⟩ ⟨Nat.le_of_ble_eq_true rfl, Nat.le_of_ble_eq_true rfl⟩) [0, 1, 2, 3, 4, 5, 6, 7, 8, 9, 10, 11, 12, 13, 14, 15, 16, 17, 18, 19] [] [0, 1, 2, 3, 4, 5, 6, 7, 8, 9, 10, 11, 12, 13, 14, 15, 16, 17, 18, 19] rfl rfl rfl rfl (by decide) rfl rfl rfl rfl rfl rfl (Nat.le_of_ble_eq_true rfl) dX8_readsAll_55 ⟨Nat.zero_le _, Nat.zero_le _⟩ (fun H locs hh => ?_)
        refine lv_if_eq (tgt := 90) hx hb dX8_readsAll_58 (by decide) (fun c7 => ?_) (fun c7 => ?_)
        · replace hf := (if_pos c7).symm.trans hf
          refine lv_iconst (v := (0 : Int32)) hx hb dX8_readsAll_90 (by decide) ?_
          exact hr2 91 ls H locs (0 : Int32) u6.2 hf rfl dX8_readsAll_91 hh
        · replace hf := (if_neg c7).symm.trans hf
          refine lv_aload_n hx hb dX8_readsAll_61 rfl (lv_at hl 0 rfl) ?_
          refine lv_bipush (v := (44 : Int32)) hx hb dX8_readsAll_62 (by decide) ?_
          obtain ⟨u8, hu8, hf⟩ := ob_bind hf
          refine zcallV (ci := 7) (q0 := 0) (As := [.int (44 : Int32)]) (rest := []) (wr := []) (ws' := cMd K a0 a1 a2 a3 a4 a5 a6 a7 a8 a9 a10 a11 a12 a13 a14 a15 a16 a17 a18 a19 u8.2) (ov := some (.int u8.1)) X hh hl (kX8_reads l K a0 a1 a2 a3 a4 a5 a6 a7 a8 a9 a10 a11 a12 a13 a14 a15 a16 a17 a18 a19 u6.2 (44 : Int32) u8 hu8) (fun ht => cwV 1 ht gX8_readsAll_X8_reads rfl rfl rfl ⟨rfl, hdX8_reads⟩ ⟨Nat.le_of_ble_eq_true rfl, Nat.le_of_ble_eq_true rfl⟩) [0, 1, 2, 3, 4, 5, 6, 7, 8, 9, 10, 11, 12, 13, 14, 15, 16, 17, 18, 19] [] [0, 1, 2, 3, 4, 5, 6, 7, 8, 9, 10, 11, 12, 13, 14, 15, 16, 17, 18, 19] rfl rfl rfl rfl (by decide) rfl rfl rfl rfl rfl rfl (Nat.le_of_ble_eq_true rfl) dX8_readsAll_64 ⟨Nat.zero_le _, Nat.zero_le _⟩ (fun H locs hh => ?_)
          refine lv_if_eq (tgt := 90) hx hb dX8_readsAll_67 (by decide) (fun c9 => ?_) (fun c9 => ?_)
          · replace hf := (if_pos c9).symm.trans hf
            refine lv_iconst (v := (0 : Int32)) hx hb dX8_readsAll_90 (by decide) ?_
            exact hr2 91 ls H locs (0 : Int32) u8.2 hf rfl dX8_readsAll_91 hh
          · replace hf := (if_neg c9).symm.trans hf
            refine lv_aload_n hx hb dX8_readsAll_70 rfl (lv_at hl 0 rfl) ?_
            refine lv_iconst (v := (1 : Int32)) hx hb dX8_readsAll_71 (by decide) ?_
            obtain ⟨u10, hu10, hf⟩ := ob_bind hf
            refine zcallV (ci := 7) (q0 := 0) (As := [.int (1 : Int32)]) (rest := []) (wr := []) (ws' := cMd K a0 a1 a2 a3 a4 a5 a6 a7 a8 a9 a10 a11 a12 a13 a14 a15 a16 a17 a18 a19 u10.2) (ov := some (.int u10.1)) X hh hl (kX8_readsNumber l K a0 a1 a2 a3 a4 a5 a6 a7 a8 a9 a10 a11 a12 a13 a14 a15 a16 a17 a18 a19 u8.2 (1 : Int32) u10 hu10) (fun ht => cwV 1 ht gX8_readsAll_X8_readsNumber rfl rfl rfl ⟨rfl, hdX8_readsNumber⟩ ⟨Nat.le_of_ble_eq_true rfl, Nat.le_of_ble_eq_true rfl⟩) [0, 1, 2, 3, 4, 5, 6, 7, 8, 9, 10, 11, 12, 13, 14, 15, 16, 17, 18, 19] [] [0, 1, 2, 3, 4, 5, 6, 7, 8, 9, 10, 11, 12, 13, 14, 15, 16, 17, 18, 19] rfl rfl rfl rfl (by decide) rfl rfl rfl rfl rfl rfl (Nat.le_of_ble_eq_true rfl) dX8_readsAll_72 ⟨Nat.zero_le _, Nat.zero_le _⟩ (fun H locs hh => ?_)
            refine lv_if_eq (tgt := 90) hx hb dX8_readsAll_75 (by decide) (fun c11 => ?_) (fun c11 => ?_)
            · replace hf := (if_pos c11).symm.trans hf
              refine lv_iconst (v := (0 : Int32)) hx hb dX8_readsAll_90 (by decide) ?_
              exact hr2 91 ls H locs (0 : Int32) u10.2 hf rfl dX8_readsAll_91 hh
            · replace hf := (if_neg c11).symm.trans hf
              refine lv_aload_n hx hb dX8_readsAll_78 rfl (lv_at hl 0 rfl) ?_
              refine lv_iconst (v := (1 : Int32)) hx hb dX8_readsAll_79 (by decide) ?_
              obtain ⟨u12, hu12, hf⟩ := ob_bind hf
              refine zcallV (ci := 7) (q0 := 0) (As := [.int (1 : Int32)]) (rest := []) (wr := []) (ws' := cMd K a0 a1 a2 a3 a4 a5 a6 a7 a8 a9 a10 a11 a12 a13 a14 a15 a16 a17 a18 a19 u12.2) (ov := some (.int u12.1)) X hh hl (kX8_readsNumber l K a0 a1 a2 a3 a4 a5 a6 a7 a8 a9 a10 a11 a12 a13 a14 a15 a16 a17 a18 a19 u10.2 (1 : Int32) u12 hu12) (fun ht => cwV 1 ht gX8_readsAll_X8_readsNumber rfl rfl rfl ⟨rfl, hdX8_readsNumber⟩ ⟨Nat.le_of_ble_eq_true rfl, Nat.le_of_ble_eq_true rfl⟩) [0, 1, 2, 3, 4, 5, 6, 7, 8, 9, 10, 11, 12, 13, 14, 15, 16, 17, 18, 19] [] [0, 1, 2, 3, 4, 5, 6, 7, 8, 9, 10, 11, 12, 13, 14, 15, 16, 17, 18, 19] rfl rfl rfl rfl (by decide) rfl rfl rfl rfl rfl rfl (Nat.le_of_ble_eq_true rfl) dX8_readsAll_80 ⟨Nat.zero_le _, Nat.zero_le _⟩ (fun H locs hh => ?_)
              refine lv_if_eq (tgt := 90) hx hb dX8_readsAll_83 (by decide) (fun c13 => ?_) (fun c13 => ?_)
              · replace hf := (if_pos c13).symm.trans hf
                refine lv_iconst (v := (0 : Int32)) hx hb dX8_readsAll_90 (by decide) ?_
                exact hr2 91 ls H locs (0 : Int32) u12.2 hf rfl dX8_readsAll_91 hh
              · replace hf := (if_neg c13).symm.trans hf
                refine lv_iconst (v := (1 : Int32)) hx hb dX8_readsAll_86 (by decide) ?_
                refine lv_goto (tgt := 91) hx hb dX8_readsAll_87 (by decide) ?_
                exact hr2 91 ls H locs (1 : Int32) u12.2 hf rfl dX8_readsAll_91 hh
  replace hf := (if_neg c1_0).symm.trans hf
  by_cases c1_1 : p1 = (98 : Int32)
  · replace hf := (if_pos c1_1).symm.trans hf
    refine lv_lookup (off := 91) (tgt := 92) hx hb dX8_readsAll_1 (by decide) (by rw [c1_1]; decide) (by decide) ?_
    refine lv_aload_n hx hb dX8_readsAll_92 rfl (lv_at hl 0 rfl) ?_
    refine lv_iconst (v := (2 : Int32)) hx hb dX8_readsAll_93 (by decide) ?_
    obtain ⟨u14, hu14, hf⟩ := ob_bind hf
    refine zcallV (ci := 7) (q0 := 0) (As := [.int (2 : Int32)]) (rest := []) (wr := []) (ws' := cMd K a0 a1 a2 a3 a4 a5 a6 a7 a8 a9 a10 a11 a12 a13 a14 a15 a16 a17 a18 a19 u14.2) (ov := some (.int u14.1)) X hh hl (kX8_readsNumber l K a0 a1 a2 a3 a4 a5 a6 a7 a8 a9 a10 a11 a12 a13 a14 a15 a16 a17 a18 a19 S (2 : Int32) u14 hu14) (fun ht => cwV 1 ht gX8_readsAll_X8_readsNumber rfl rfl rfl ⟨rfl, hdX8_readsNumber⟩ ⟨Nat.le_of_ble_eq_true rfl, Nat.le_of_ble_eq_true rfl⟩) [0, 1, 2, 3, 4, 5, 6, 7, 8, 9, 10, 11, 12, 13, 14, 15, 16, 17, 18, 19] [] [0, 1, 2, 3, 4, 5, 6, 7, 8, 9, 10, 11, 12, 13, 14, 15, 16, 17, 18, 19] rfl rfl rfl rfl (by decide) rfl rfl rfl rfl rfl rfl (Nat.le_of_ble_eq_true rfl) dX8_readsAll_94 ⟨Nat.zero_le _, Nat.zero_le _⟩ (fun H locs hh => ?_)
    obtain ⟨g15, hf⟩ := ob_ck hf
    exact hr2 97 ls H locs u14.1 u14.2 hf (nar_ok g15) dX8_readsAll_97 hh
  replace hf := (if_neg c1_1).symm.trans hf
  by_cases c1_2 : p1 = (108 : Int32)
  · replace hf := (if_pos c1_2).symm.trans hf
    refine lv_lookup (off := 97) (tgt := 98) hx hb dX8_readsAll_1 (by decide) (by rw [c1_2]; decide) (by decide) ?_
    refine lv_aload_n hx hb dX8_readsAll_98 rfl (lv_at hl 0 rfl) ?_
    refine lv_iconst (v := (1 : Int32)) hx hb dX8_readsAll_99 (by decide) ?_
    obtain ⟨u16, hu16, hf⟩ := ob_bind hf
    refine zcallV (ci := 7) (q0 := 0) (As := [.int (1 : Int32)]) (rest := []) (wr := []) (ws' := cMd K a0 a1 a2 a3 a4 a5 a6 a7 a8 a9 a10 a11 a12 a13 a14 a15 a16 a17 a18 a19 u16.2) (ov := some (.int u16.1)) X hh hl (kX8_readsNumber l K a0 a1 a2 a3 a4 a5 a6 a7 a8 a9 a10 a11 a12 a13 a14 a15 a16 a17 a18 a19 S (1 : Int32) u16 hu16) (fun ht => cwV 1 ht gX8_readsAll_X8_readsNumber rfl rfl rfl ⟨rfl, hdX8_readsNumber⟩ ⟨Nat.le_of_ble_eq_true rfl, Nat.le_of_ble_eq_true rfl⟩) [0, 1, 2, 3, 4, 5, 6, 7, 8, 9, 10, 11, 12, 13, 14, 15, 16, 17, 18, 19] [] [0, 1, 2, 3, 4, 5, 6, 7, 8, 9, 10, 11, 12, 13, 14, 15, 16, 17, 18, 19] rfl rfl rfl rfl (by decide) rfl rfl rfl rfl rfl rfl (Nat.le_of_ble_eq_true rfl) dX8_readsAll_100 ⟨Nat.zero_le _, Nat.zero_le _⟩ (fun H locs hh => ?_)
    refine lv_if_eq (tgt := 118) hx hb dX8_readsAll_103 (by decide) (fun c17 => ?_) (fun c17 => ?_)
    · replace hf := (if_pos c17).symm.trans hf
      refine lv_iconst (v := (0 : Int32)) hx hb dX8_readsAll_118 (by decide) ?_
      exact hr2 119 ls H locs (0 : Int32) u16.2 hf rfl dX8_readsAll_119 hh
    · replace hf := (if_neg c17).symm.trans hf
      refine lv_aload_n hx hb dX8_readsAll_106 rfl (lv_at hl 0 rfl) ?_
      refine lv_iconst (v := (1 : Int32)) hx hb dX8_readsAll_107 (by decide) ?_
      obtain ⟨u18, hu18, hf⟩ := ob_bind hf
      refine zcallV (ci := 7) (q0 := 0) (As := [.int (1 : Int32)]) (rest := []) (wr := []) (ws' := cMd K a0 a1 a2 a3 a4 a5 a6 a7 a8 a9 a10 a11 a12 a13 a14 a15 a16 a17 a18 a19 u18.2) (ov := some (.int u18.1)) X hh hl (kX8_readsNumber l K a0 a1 a2 a3 a4 a5 a6 a7 a8 a9 a10 a11 a12 a13 a14 a15 a16 a17 a18 a19 u16.2 (1 : Int32) u18 hu18) (fun ht => cwV 1 ht gX8_readsAll_X8_readsNumber rfl rfl rfl ⟨rfl, hdX8_readsNumber⟩ ⟨Nat.le_of_ble_eq_true rfl, Nat.le_of_ble_eq_true rfl⟩) [0, 1, 2, 3, 4, 5, 6, 7, 8, 9, 10, 11, 12, 13, 14, 15, 16, 17, 18, 19] [] [0, 1, 2, 3, 4, 5, 6, 7, 8, 9, 10, 11, 12, 13, 14, 15, 16, 17, 18, 19] rfl rfl rfl rfl (by decide) rfl rfl rfl rfl rfl rfl (Nat.le_of_ble_eq_true rfl) dX8_readsAll_108 ⟨Nat.zero_le _, Nat.zero_le _⟩ (fun H locs hh => ?_)
      refine lv_if_eq (tgt := 118) hx hb dX8_readsAll_111 (by decide) (fun c19 => ?_) (fun c19 => ?_)
      · replace hf := (if_pos c19).symm.trans hf
        refine lv_iconst (v := (0 : Int32)) hx hb dX8_readsAll_118 (by decide) ?_
        exact hr2 119 ls H locs (0 : Int32) u18.2 hf rfl dX8_readsAll_119 hh
      · replace hf := (if_neg c19).symm.trans hf
        refine lv_iconst (v := (1 : Int32)) hx hb dX8_readsAll_114 (by decide) ?_
        refine lv_goto (tgt := 119) hx hb dX8_readsAll_115 (by decide) ?_
        exact hr2 119 ls H locs (1 : Int32) u18.2 hf rfl dX8_readsAll_119 hh
  replace hf := (if_neg c1_2).symm.trans hf
  refine lv_lookup (off := 119) (tgt := 120) hx hb dX8_readsAll_1 (by decide) ((lv_osw c1_0 (by decide)).trans ((lv_osw c1_1 (by decide)).trans ((lv_osw c1_2 (by decide)).trans (rfl)))) (by decide) ?_
  refine lv_iconst (v := (1 : Int32)) hx hb dX8_readsAll_120 (by decide) ?_
  exact hr2 121 ls H locs (1 : Int32) S hf rfl dX8_readsAll_121 hh
theorem inX8_statement_X8 : ∀ w ∈ wsX80, w ∈ wsX8_statement := by decide +kernel
theorem mmX8_statement_0 : Cond.fieldLink RX8 40 "SumOfTwoThatStandModel" "sort" "[I" ∈ wsX8_statement := by decide +kernel
theorem mmX8_statement_1 : Cond.fieldLink RX8 145 "SumOfTwoThatStandModel" "statements" "I" ∈ wsX8_statement := by decide +kernel
theorem mmX8_statement_2 : Cond.fieldLink RX8 43 "SumOfTwoThatStandModel" "sortAt" "[I" ∈ wsX8_statement := by decide +kernel
theorem mmX8_statement_3 : Cond.fieldLink RX8 130 "SumOfTwoThatStandModel" "reading" "I" ∈ wsX8_statement := by decide +kernel
theorem mmX8_statement_4 : Cond.fieldLink RX8 136 "SumOfTwoThatStandModel" "telling" "I" ∈ wsX8_statement := by decide +kernel
theorem hdX8_statement : yX8_statement.cls ≠ "java/lang/invoke/MethodHandle" ∧ yX8_statement.cls ≠ "java/lang/invoke/VarHandle" ∧ (parseMethodDescriptor yX8_statement.desc).map (fun d => d.parameters.length) = some 0 := by decide +kernel
set_option maxHeartbeats 4000000 in
set_option maxRecDepth 100000 in
theorem kX8_statement (l : Launch) (K : zK) (a0 a1 a2 a3 a4 a5 a6 a7 a8 a9 a10 a11 a12 a13 a14 a15 a16 a17 a18 a19 : Nat) (S : zMd) (R : Int32 × zMd) (hf : fX8_statement S = some R) : zC l yX8_statement wsX8_statement ({ frames := 3, cells := 0, slots := 0, locals := 66 } : Room) K [.ref a0] (cMd K a0 a1 a2 a3 a4 a5 a6 a7 a8 a9 a10 a11 a12 a13 a14 a15 a16 a17 a18 a19 S) (some (.int R.1)) (cMd K a0 a1 a2 a3 a4 a5 a6 a7 a8 a9 a10 a11 a12 a13 a14 a15 a16 a17 a18 a19 R.2) := by
  refine zC_z .boolean R.1 (cc := cX8_statement) (maxL := 2) (by decide +kernel) rfl (Nat.le_of_ble_eq_true rfl) rfl rfl ?_
  intro p e s m below meth c Q A X hret ls hl hh
  have X : zX p m c cX8_statement 2 s ([.ref a0] : List Value).toArray wsX8_statement RX8 K A := X
  have hx := X.1.1
  have hb := X.1.2.1
  have hr2 : ∀ (pc : Nat) (ls : Array Slot) (H : Heap) (locs : List Loc) (v : Int32) (S : zMd), some (v, S) = some R → narrow .boolean (.int v) = .int v → decode cX8_statement pc = .ok (.ireturn, 1) → zW K A s H locs (cMd K a0 a1 a2 a3 a4 a5 a6 a7 a8 a9 a10 a11 a12 a13 a14 a15 a16 a17 a18 a19 S) → W p l e ({ frames := 3, cells := 0, slots := 0, locals := 66 } : Room) s m ([.ref a0] : List Value).toArray below meth c H locs 0 0 Q (F0 m pc ls [.int v]) := by
    intro pc ls H locs v S h hn hd hh
    cases h; exact hret pc ls H locs _ rfl hn hd hh
  have hl : lv_has ls 2 [(0, .ref a0)] := hl
  have hJ31 : ∀ (v1 : Int32) (S : zMd), ∀ (H : Heap) (locs : List Loc) (ls : Array Slot), fX8_statement_j31 v1 S = some R → lv_has ls 2 [(0, .ref a0), (1, .int v1)] → zW K A s H locs (cMd K a0 a1 a2 a3 a4 a5 a6 a7 a8 a9 a10 a11 a12 a13 a14 a15 a16 a17 a18 a19 S) → W p l e ({ frames := 3, cells := 0, slots := 0, locals := 66 } : Room) s m ([.ref a0] : List Value).toArray below meth c H locs 0 0 Q (F0 m 31 ls []) := by
    intro v1 S H locs ls hf hl hh
    unfold fX8_statement_j31 at hf
    refine lv_aload_n hx hb dX8_statement_31 rfl (lv_at hl 0 rfl) ?_
    refine zget (v := .ref a11) (ref := "SumOfTwoThatStandModel") (C := RX8) (T := TX8) (N := 33) (index := 40) X hh inX8_statement_X8 0 rfl rfl 13 (by decide) mmX8_statement_0 rfl rfl dX8_statement_32 ?_
    refine lv_aload_n hx hb dX8_statement_35 rfl (lv_at hl 0 rfl) ?_
    refine zget (v := .int (md_statements S)) (ref := "SumOfTwoThatStandModel") (C := RX8) (T := TX8) (N := 33) (index := 145) X hh inX8_statement_X8 0 rfl rfl 18 (by decide) mmX8_statement_1 rfl rfl dX8_statement_36 ?_
    refine lv_iload_n hx hb dX8_statement_39 rfl (lv_at hl 1 rfl) ?_
    obtain ⟨g1, hf⟩ := ob_ix hf
    refine ziast (f := (md_sort S)) X hh 11 rfl g1 dX8_statement_40 (fun H locs hh => ?_)
    have hh := hh.to (sMd_sort K a0 a1 a2 a3 a4 a5 a6 a7 a8 a9 a10 a11 a12 a13 a14 a15 a16 a17 a18 a19 S (upd (md_sort S) (md_statements S).toNatClampNeg v1))
    refine lv_aload_n hx hb dX8_statement_41 rfl (lv_at hl 0 rfl) ?_
    refine zget (v := .ref a12) (ref := "SumOfTwoThatStandModel") (C := RX8) (T := TX8) (N := 33) (index := 43) X hh inX8_statement_X8 0 rfl rfl 14 (by decide) mmX8_statement_2 rfl rfl dX8_statement_42 ?_
    refine lv_aload_n hx hb dX8_statement_45 rfl (lv_at hl 0 rfl) ?_
    refine zget (v := .int (md_statements S)) (ref := "SumOfTwoThatStandModel") (C := RX8) (T := TX8) (N := 33) (index := 145) X hh inX8_statement_X8 0 rfl rfl 18 (by decide) mmX8_statement_1 rfl rfl dX8_statement_46 ?_
    refine lv_aload_n hx hb dX8_statement_49 rfl (lv_at hl 0 rfl) ?_
    refine zget (v := .int (md_reading S)) (ref := "SumOfTwoThatStandModel") (C := RX8) (T := TX8) (N := 33) (index := 130) X hh inX8_statement_X8 0 rfl rfl 17 (by decide) mmX8_statement_3 rfl rfl dX8_statement_50 ?_
    refine ziast (f := (md_sortAt S)) X hh 12 rfl g1 dX8_statement_53 (fun H locs hh => ?_)
    have hh := hh.to (sMd_sortAt K a0 a1 a2 a3 a4 a5 a6 a7 a8 a9 a10 a11 a12 a13 a14 a15 a16 a17 a18 a19 (md_set_sort S (upd (md_sort S) (md_statements S).toNatClampNeg v1)) (upd (md_sortAt S) (md_statements S).toNatClampNeg (md_reading S)))
    refine lv_aload_n hx hb dX8_statement_54 rfl (lv_at hl 0 rfl) ?_
    refine lv_iconst (v := (4 : Int32)) hx hb dX8_statement_55 (by decide) ?_
    refine lv_aload_n hx hb dX8_statement_56 rfl (lv_at hl 0 rfl) ?_
    refine zget (v := .int (md_statements S)) (ref := "SumOfTwoThatStandModel") (C := RX8) (T := TX8) (N := 33) (index := 145) X hh inX8_statement_X8 0 rfl rfl 18 (by decide) mmX8_statement_1 rfl rfl dX8_statement_57 ?_
    refine lv_imul hx hb dX8_statement_60 ?_
    refine zput (v := .int ((4 : Int32) * (md_statements S))) (ty := .int) (ref := "SumOfTwoThatStandModel") (C := RX8) (T := TX8) (N := 33) (index := 136) X hh inX8_statement_X8 tyX8 tyX8_ok nmX8 0 rfl rfl 19 (by decide) mmX8_statement_4 rfl rfl (by decide +kernel) rfl rfl (Nat.le_of_ble_eq_true rfl) dX8_statement_61 (fun H locs hh => ?_)
    have hh := hh.to (sMd_telling K a0 a1 a2 a3 a4 a5 a6 a7 a8 a9 a10 a11 a12 a13 a14 a15 a16 a17 a18 a19 (md_set_sortAt (md_set_sort S (upd (md_sort S) (md_statements S).toNatClampNeg v1)) (upd (md_sortAt S) (md_statements S).toNatClampNeg (md_reading S))) ((4 : Int32) * (md_statements S)))
    refine lv_aload_n hx hb dX8_statement_64 rfl (lv_at hl 0 rfl) ?_
    refine lv_dup hx hb dX8_statement_65 rfl ?_
    refine zget (v := .int (md_reading S)) (ref := "SumOfTwoThatStandModel") (C := RX8) (T := TX8) (N := 33) (index := 130) X hh inX8_statement_X8 0 rfl rfl 17 (by decide) mmX8_statement_3 rfl rfl dX8_statement_66 ?_
    refine lv_iconst (v := (1 : Int32)) hx hb dX8_statement_69 (by decide) ?_
    refine lv_iadd hx hb dX8_statement_70 ?_
    refine zput (v := .int ((md_reading S) + (1 : Int32))) (ty := .int) (ref := "SumOfTwoThatStandModel") (C := RX8) (T := TX8) (N := 33) (index := 130) X hh inX8_statement_X8 tyX8 tyX8_ok nmX8 0 rfl rfl 17 (by decide) mmX8_statement_3 rfl rfl (by decide +kernel) rfl rfl (Nat.le_of_ble_eq_true rfl) dX8_statement_71 (fun H locs hh => ?_)
    have hh := hh.to (sMd_reading K a0 a1 a2 a3 a4 a5 a6 a7 a8 a9 a10 a11 a12 a13 a14 a15 a16 a17 a18 a19 (md_set_telling (md_set_sortAt (md_set_sort S (upd (md_sort S) (md_statements S).toNatClampNeg v1)) (upd (md_sortAt S) (md_statements S).toNatClampNeg (md_reading S))) ((4 : Int32) * (md_statements S))) ((md_reading S) + (1 : Int32)))
    refine lv_aload_n hx hb dX8_statement_74 rfl (lv_at hl 0 rfl) ?_
    refine lv_iload_n hx hb dX8_statement_75 rfl (lv_at hl 1 rfl) ?_
    obtain ⟨u2, hu2, hf⟩ := ob_bind hf
    refine zcallV (ci := 7) (q0 := 0) (As := [.int v1]) (rest := []) (wr := []) (ws' := cMd K a0 a1 a2 a3 a4 a5 a6 a7 a8 a9 a10 a11 a12 a13 a14 a15 a16 a17 a18 a19 u2.2) (ov := some (.int u2.1)) X hh hl (kX8_readsAll l K a0 a1 a2 a3 a4 a5 a6 a7 a8 a9 a10 a11 a12 a13 a14 a15 a16 a17 a18 a19 (md_set_reading (md_set_telling (md_set_sortAt (md_set_sort S (upd (md_sort S) (md_statements S).toNatClampNeg v1)) (upd (md_sortAt S) (md_statements S).toNatClampNeg (md_reading S))) ((4 : Int32) * (md_statements S))) ((md_reading S) + (1 : Int32))) v1 u2 hu2) (fun ht => cwV 1 ht gX8_statement_X8_readsAll rfl rfl rfl ⟨rfl, hdX8_readsAll⟩ ⟨Nat.le_of_ble_eq_true rfl, Nat.le_of_ble_eq_true rfl⟩) [0, 1, 2, 3, 4, 5, 6, 7, 8, 9, 10, 11, 12, 13, 14, 15, 16, 17, 18, 19] [] [0, 1, 2, 3, 4, 5, 6, 7, 8, 9, 10, 11, 12, 13, 14, 15, 16, 17, 18, 19] rfl rfl rfl rfl (by decide) rfl rfl rfl rfl rfl rfl (Nat.le_of_ble_eq_true rfl) dX8_statement_76 ⟨Nat.zero_le _, Nat.zero_le _⟩ (fun H locs hh => ?_)
    refine lv_if_eq (tgt := 95) hx hb dX8_statement_79 (by decide) (fun c3 => ?_) (fun c3 => ?_)
    · replace hf := (if_pos c3).symm.trans hf
      refine lv_iconst (v := (0 : Int32)) hx hb dX8_statement_95 (by decide) ?_
      exact hr2 96 ls H locs (0 : Int32) u2.2 hf rfl dX8_statement_96 hh
    · replace hf := (if_neg c3).symm.trans hf
      refine lv_aload_n hx hb dX8_statement_82 rfl (lv_at hl 0 rfl) ?_
      refine lv_bipush (v := (59 : Int32)) hx hb dX8_statement_83 (by decide) ?_
      obtain ⟨u4, hu4, hf⟩ := ob_bind hf
      refine zcallV (ci := 7) (q0 := 0) (As := [.int (59 : Int32)]) (rest := []) (wr := []) (ws' := cMd K a0 a1 a2 a3 a4 a5 a6 a7 a8 a9 a10 a11 a12 a13 a14 a15 a16 a17 a18 a19 u4.2) (ov := some (.int u4.1)) X hh hl (kX8_reads l K a0 a1 a2 a3 a4 a5 a6 a7 a8 a9 a10 a11 a12 a13 a14 a15 a16 a17 a18 a19 u2.2 (59 : Int32) u4 hu4) (fun ht => cwV 1 ht gX8_statement_X8_reads rfl rfl rfl ⟨rfl, hdX8_reads⟩ ⟨Nat.le_of_ble_eq_true rfl, Nat.le_of_ble_eq_true rfl⟩) [0, 1, 2, 3, 4, 5, 6, 7, 8, 9, 10, 11, 12, 13, 14, 15, 16, 17, 18, 19] [] [0, 1, 2, 3, 4, 5, 6, 7, 8, 9, 10, 11, 12, 13, 14, 15, 16, 17, 18, 19] rfl rfl rfl rfl (by decide) rfl rfl rfl rfl rfl rfl (Nat.le_of_ble_eq_true rfl) dX8_statement_85 ⟨Nat.zero_le _, Nat.zero_le _⟩ (fun H locs hh => ?_)
      refine lv_if_eq (tgt := 95) hx hb dX8_statement_88 (by decide) (fun c5 => ?_) (fun c5 => ?_)
      · replace hf := (if_pos c5).symm.trans hf
        refine lv_iconst (v := (0 : Int32)) hx hb dX8_statement_95 (by decide) ?_
        exact hr2 96 ls H locs (0 : Int32) u4.2 hf rfl dX8_statement_96 hh
      · replace hf := (if_neg c5).symm.trans hf
        refine lv_iconst (v := (1 : Int32)) hx hb dX8_statement_91 (by decide) ?_
        refine lv_goto (tgt := 96) hx hb dX8_statement_92 (by decide) ?_
        exact hr2 96 ls H locs (1 : Int32) u4.2 hf rfl dX8_statement_96 hh
  unfold fX8_statement at hf
  refine (fun (hmain : ∀ (H : Heap) (locs : List Loc), zW K A s H locs (cMd K a0 a1 a2 a3 a4 a5 a6 a7 a8 a9 a10 a11 a12 a13 a14 a15 a16 a17 a18 a19 S) → W p l e ({ frames := 3, cells := 0, slots := 0, locals := 66 } : Room) s m ([.ref a0] : List Value).toArray below meth c H locs 0 0 Q (F0 m 0 ls [])) => hmain s.heap [] hh) (fun H locs hh => ?_)
  refine lv_aload_n hx hb dX8_statement_0 rfl (lv_at hl 0 rfl) ?_
  obtain ⟨u6, hu6, hf⟩ := ob_bind hf
  refine zcallV (ci := 7) (q0 := 0) (As := []) (rest := []) (wr := []) (ws' := cMd K a0 a1 a2 a3 a4 a5 a6 a7 a8 a9 a10 a11 a12 a13 a14 a15 a16 a17 a18 a19 S) (ov := some (.int u6)) X hh hl (kX8_sign l K a0 a1 a2 a3 a4 a5 a6 a7 a8 a9 a10 a11 a12 a13 a14 a15 a16 a17 a18 a19 S u6 hu6) (fun ht => cwV 0 ht gX8_statement_X8_sign rfl rfl rfl ⟨rfl, hdX8_sign⟩ ⟨Nat.le_of_ble_eq_true rfl, Nat.le_of_ble_eq_true rfl⟩) [0, 1, 2, 3, 4, 5, 6, 7, 8, 9, 10, 11, 12, 13, 14, 15, 16, 17, 18, 19] [] [0, 1, 2, 3, 4, 5, 6, 7, 8, 9, 10, 11, 12, 13, 14, 15, 16, 17, 18, 19] rfl rfl rfl rfl (by decide) rfl rfl rfl rfl rfl rfl (Nat.le_of_ble_eq_true rfl) dX8_statement_1 ⟨Nat.zero_le _, Nat.zero_le _⟩ (fun H locs hh => ?_)
  refine lv_istore_n (lv' := [(1, .int u6), (0, .ref a0)]) hx hb dX8_statement_4 rfl hl (by decide) rfl (fun ls hl => ?_)
  refine lv_iload_n hx hb dX8_statement_5 rfl (lv_at hl 0 rfl) ?_
  refine lv_bipush (v := (97 : Int32)) hx hb dX8_statement_6 (by decide) ?_
  refine lv_icmp_eq (tgt := 31) hx hb dX8_statement_8 (by decide) (fun c7 => ?_) (fun c7 => ?_)
  · replace hf := (if_pos c7).symm.trans hf
    exact hJ31 u6 S H locs ls hf (lv_sub hl [1, 0] rfl) hh
  · replace hf := (if_neg c7).symm.trans hf
    refine lv_iload_n hx hb dX8_statement_11 rfl (lv_at hl 0 rfl) ?_
    refine lv_bipush (v := (98 : Int32)) hx hb dX8_statement_12 (by decide) ?_
    refine lv_icmp_eq (tgt := 31) hx hb dX8_statement_14 (by decide) (fun c8 => ?_) (fun c8 => ?_)
    · replace hf := (if_pos c8).symm.trans hf
      exact hJ31 u6 S H locs ls hf (lv_sub hl [1, 0] rfl) hh
    · replace hf := (if_neg c8).symm.trans hf
      refine lv_iload_n hx hb dX8_statement_17 rfl (lv_at hl 0 rfl) ?_
      refine lv_bipush (v := (108 : Int32)) hx hb dX8_statement_18 (by decide) ?_
      refine lv_icmp_eq (tgt := 31) hx hb dX8_statement_20 (by decide) (fun c9 => ?_) (fun c9 => ?_)
      · replace hf := (if_pos c9).symm.trans hf
        exact hJ31 u6 S H locs ls hf (lv_sub hl [1, 0] rfl) hh
      · replace hf := (if_neg c9).symm.trans hf
        refine lv_iload_n hx hb dX8_statement_23 rfl (lv_at hl 0 rfl) ?_
        refine lv_bipush (v := (110 : Int32)) hx hb dX8_statement_24 (by decide) ?_
        refine lv_icmp_eq (tgt := 31) hx hb dX8_statement_26 (by decide) (fun c10 => ?_) (fun c10 => ?_)
        · replace hf := (if_pos c10).symm.trans hf
          exact hJ31 u6 S H locs ls hf (lv_sub hl [1, 0] rfl) hh
        · replace hf := (if_neg c10).symm.trans hf
          refine lv_iconst (v := (0 : Int32)) hx hb dX8_statement_29 (by decide) ?_
          exact hr2 30 ls H locs (0 : Int32) S hf rfl dX8_statement_30 hh
theorem inX8_comesNew_X8 : ∀ w ∈ wsX80, w ∈ wsX8_comesNew := by decide +kernel
theorem mmX8_comesNew_0 : Cond.fieldLink RX8 46 "SumOfTwoThatStandModel" "told" "[I" ∈ wsX8_comesNew := by decide +kernel
theorem mmX8_comesNew_1 : Cond.fieldLink RX8 70 "SumOfTwoThatStandModel" "houses" "I" ∈ wsX8_comesNew := by decide +kernel
theorem hdX8_comesNew : yX8_comesNew.cls ≠ "java/lang/invoke/MethodHandle" ∧ yX8_comesNew.cls ≠ "java/lang/invoke/VarHandle" ∧ (parseMethodDescriptor yX8_comesNew.desc).map (fun d => d.parameters.length) = some 1 := by decide +kernel
set_option maxHeartbeats 4000000 in
set_option maxRecDepth 100000 in
theorem kX8_comesNew (l : Launch) (K : zK) (a0 a1 a2 a3 a4 a5 a6 a7 a8 a9 a10 a11 a12 a13 a14 a15 a16 a17 a18 a19 : Nat) (S : zMd) (p1 : Int32) (R : Int32 × zMd) (hf : fX8_comesNew S p1 = some R) : zC l yX8_comesNew wsX8_comesNew ({ frames := 3, cells := 0, slots := 0, locals := 67 } : Room) K [.ref a0, .int p1] (cMd K a0 a1 a2 a3 a4 a5 a6 a7 a8 a9 a10 a11 a12 a13 a14 a15 a16 a17 a18 a19 S) (some (.int R.1)) (cMd K a0 a1 a2 a3 a4 a5 a6 a7 a8 a9 a10 a11 a12 a13 a14 a15 a16 a17 a18 a19 R.2) := by
  refine zC_z .boolean R.1 (cc := cX8_comesNew) (maxL := 4) (by decide +kernel) rfl (Nat.le_of_ble_eq_true rfl) rfl rfl ?_
  intro p e s m below meth c Q A X hret ls hl hh
  have X : zX p m c cX8_comesNew 4 s ([.ref a0, .int p1] : List Value).toArray wsX8_comesNew RX8 K A := X
  have hx := X.1.1
  have hb := X.1.2.1
  have hr2 : ∀ (pc : Nat) (ls : Array Slot) (H : Heap) (locs : List Loc) (v : Int32) (S : zMd), some (v, S) = some R → narrow .boolean (.int v) = .int v → decode cX8_comesNew pc = .ok (.ireturn, 1) → zW K A s H locs (cMd K a0 a1 a2 a3 a4 a5 a6 a7 a8 a9 a10 a11 a12 a13 a14 a15 a16 a17 a18 a19 S) → W p l e ({ frames := 3, cells := 0, slots := 0, locals := 67 } : Room) s m ([.ref a0, .int p1] : List Value).toArray below meth c H locs 0 0 Q (F0 m pc ls [.int v]) := by
    intro pc ls H locs v S h hn hd hh
    cases h; exact hret pc ls H locs _ rfl hn hd hh
  have hl : lv_has ls 4 [(0, .ref a0), (1, .int p1)] := hl
  unfold fX8_comesNew at hf
  refine (fun (hmain : ∀ (H : Heap) (locs : List Loc), zW K A s H locs (cMd K a0 a1 a2 a3 a4 a5 a6 a7 a8 a9 a10 a11 a12 a13 a14 a15 a16 a17 a18 a19 S) → W p l e ({ frames := 3, cells := 0, slots := 0, locals := 67 } : Room) s m ([.ref a0, .int p1] : List Value).toArray below meth c H locs 0 0 Q (F0 m 0 ls [])) => hmain s.heap [] hh) (fun H locs hh => ?_)
  refine lv_aload_n hx hb dX8_comesNew_0 rfl (lv_at hl 0 rfl) ?_
  refine zget (v := .ref a13) (ref := "SumOfTwoThatStandModel") (C := RX8) (T := TX8) (N := 33) (index := 46) X hh inX8_comesNew_X8 0 rfl rfl 15 (by decide) mmX8_comesNew_0 rfl rfl dX8_comesNew_1 ?_
  refine lv_iload_n hx hb dX8_comesNew_4 rfl (lv_at hl 1 rfl) ?_
  obtain ⟨g1, hf⟩ := ob_ix hf
  refine ziald (f := (md_told S)) X hh 13 rfl g1 dX8_comesNew_5 ?_
  refine lv_istore_n (lv' := [(2, .int ((md_told S) p1.toNatClampNeg)), (0, .ref a0), (1, .int p1)]) hx hb dX8_comesNew_6 rfl hl (by decide) rfl (fun ls hl => ?_)
  refine lv_aload_n hx hb dX8_comesNew_7 rfl (lv_at hl 1 rfl) ?_
  refine zget (v := .ref a13) (ref := "SumOfTwoThatStandModel") (C := RX8) (T := TX8) (N := 33) (index := 46) X hh inX8_comesNew_X8 0 rfl rfl 15 (by decide) mmX8_comesNew_0 rfl rfl dX8_comesNew_8 ?_
  refine lv_iload_n hx hb dX8_comesNew_11 rfl (lv_at hl 2 rfl) ?_
  refine lv_iconst (v := (1 : Int32)) hx hb dX8_comesNew_12 (by decide) ?_
  refine lv_iadd hx hb dX8_comesNew_13 ?_
  obtain ⟨g2, hf⟩ := ob_ix hf
  refine ziald (f := (md_told S)) X hh 13 rfl g2 dX8_comesNew_14 ?_
  refine lv_istore_n (lv' := [(3, .int ((md_told S) (p1 + (1 : Int32)).toNatClampNeg)), (2, .int ((md_told S) p1.toNatClampNeg)), (0, .ref a0), (1, .int p1)]) hx hb dX8_comesNew_15 rfl hl (by decide) rfl (fun ls hl => ?_)
  refine lv_aload_n hx hb dX8_comesNew_16 rfl (lv_at hl 2 rfl) ?_
  refine lv_iload_n hx hb dX8_comesNew_17 rfl (lv_at hl 1 rfl) ?_
  obtain ⟨u3, hu3, hf⟩ := ob_bind hf
  refine zcallV (ci := 7) (q0 := 0) (As := [.int ((md_told S) p1.toNatClampNeg)]) (rest := []) (wr := []) (ws' := cMd K a0 a1 a2 a3 a4 a5 a6 a7 a8 a9 a10 a11 a12 a13 a14 a15 a16 a17 a18 a19 S) (ov := some (.int u3)) X hh hl (kX8_doesStand l K a0 a1 a2 a3 a4 a5 a6 a7 a8 a9 a10 a11 a12 a13 a14 a15 a16 a17 a18 a19 S ((md_told S) p1.toNatClampNeg) u3 hu3) (fun ht => cwV 1 ht gX8_comesNew_X8_doesStand rfl rfl rfl ⟨rfl, hdX8_doesStand⟩ ⟨Nat.le_of_ble_eq_true rfl, Nat.le_of_ble_eq_true rfl⟩) [0, 1, 2, 3, 4, 5, 6, 7, 8, 9, 10, 11, 12, 13, 14, 15, 16, 17, 18, 19] [] [0, 1, 2, 3, 4, 5, 6, 7, 8, 9, 10, 11, 12, 13, 14, 15, 16, 17, 18, 19] rfl rfl rfl rfl (by decide) rfl rfl rfl rfl rfl rfl (Nat.le_of_ble_eq_true rfl) dX8_comesNew_18 ⟨Nat.zero_le _, Nat.zero_le _⟩ (fun H locs hh => ?_)
  refine lv_if_eq (tgt := 63) hx hb dX8_comesNew_21 (by decide) (fun c4 => ?_) (fun c4 => ?_)
  · replace hf := (if_pos c4).symm.trans hf
    refine lv_iconst (v := (0 : Int32)) hx hb dX8_comesNew_63 (by decide) ?_
    exact hr2 64 ls H locs (0 : Int32) S hf rfl dX8_comesNew_64 hh
  · replace hf := (if_neg c4).symm.trans hf
    refine lv_aload_n hx hb dX8_comesNew_24 rfl (lv_at hl 2 rfl) ?_
    refine lv_iload_n hx hb dX8_comesNew_25 rfl (lv_at hl 0 rfl) ?_
    obtain ⟨u5, hu5, hf⟩ := ob_bind hf
    refine zcallV (ci := 7) (q0 := 0) (As := [.int ((md_told S) (p1 + (1 : Int32)).toNatClampNeg)]) (rest := []) (wr := []) (ws' := cMd K a0 a1 a2 a3 a4 a5 a6 a7 a8 a9 a10 a11 a12 a13 a14 a15 a16 a17 a18 a19 S) (ov := some (.int u5)) X hh hl (kX8_doesStand l K a0 a1 a2 a3 a4 a5 a6 a7 a8 a9 a10 a11 a12 a13 a14 a15 a16 a17 a18 a19 S ((md_told S) (p1 + (1 : Int32)).toNatClampNeg) u5 hu5) (fun ht => cwV 1 ht gX8_comesNew_X8_doesStand rfl rfl rfl ⟨rfl, hdX8_doesStand⟩ ⟨Nat.le_of_ble_eq_true rfl, Nat.le_of_ble_eq_true rfl⟩) [0, 1, 2, 3, 4, 5, 6, 7, 8, 9, 10, 11, 12, 13, 14, 15, 16, 17, 18, 19] [] [0, 1, 2, 3, 4, 5, 6, 7, 8, 9, 10, 11, 12, 13, 14, 15, 16, 17, 18, 19] rfl rfl rfl rfl (by decide) rfl rfl rfl rfl rfl rfl (Nat.le_of_ble_eq_true rfl) dX8_comesNew_26 ⟨Nat.zero_le _, Nat.zero_le _⟩ (fun H locs hh => ?_)
    refine lv_if_eq (tgt := 63) hx hb dX8_comesNew_29 (by decide) (fun c6 => ?_) (fun c6 => ?_)
    · replace hf := (if_pos c6).symm.trans hf
      refine lv_iconst (v := (0 : Int32)) hx hb dX8_comesNew_63 (by decide) ?_
      exact hr2 64 ls H locs (0 : Int32) S hf rfl dX8_comesNew_64 hh
    · replace hf := (if_neg c6).symm.trans hf
      refine lv_aload_n hx hb dX8_comesNew_32 rfl (lv_at hl 2 rfl) ?_
      refine zget (v := .ref a13) (ref := "SumOfTwoThatStandModel") (C := RX8) (T := TX8) (N := 33) (index := 46) X hh inX8_comesNew_X8 0 rfl rfl 15 (by decide) mmX8_comesNew_0 rfl rfl dX8_comesNew_33 ?_
      refine lv_iload_n hx hb dX8_comesNew_36 rfl (lv_at hl 3 rfl) ?_
      refine lv_iconst (v := (2 : Int32)) hx hb dX8_comesNew_37 (by decide) ?_
      refine lv_iadd hx hb dX8_comesNew_38 ?_
      obtain ⟨g7, hf⟩ := ob_ix hf
      refine ziald (f := (md_told S)) X hh 13 rfl g7 dX8_comesNew_39 ?_
      refine lv_bipush (v := (6 : Int32)) hx hb dX8_comesNew_40 (by decide) ?_
      refine lv_icmp_ge (tgt := 63) hx hb dX8_comesNew_42 (by decide) (fun c8 => ?_) (fun c8 => ?_)
      · replace hf := (if_pos c8).symm.trans hf
        refine lv_iconst (v := (0 : Int32)) hx hb dX8_comesNew_63 (by decide) ?_
        exact hr2 64 ls H locs (0 : Int32) S hf rfl dX8_comesNew_64 hh
      · replace hf := (if_neg c8).symm.trans hf
        refine lv_aload_n hx hb dX8_comesNew_45 rfl (lv_at hl 2 rfl) ?_
        refine lv_iload_n hx hb dX8_comesNew_46 rfl (lv_at hl 1 rfl) ?_
        refine lv_iload_n hx hb dX8_comesNew_47 rfl (lv_at hl 0 rfl) ?_
        obtain ⟨u9, hu9, hf⟩ := ob_bind hf
        refine zcallV (ci := 7) (q0 := 0) (As := [.int ((md_told S) p1.toNatClampNeg), .int ((md_told S) (p1 + (1 : Int32)).toNatClampNeg)]) (rest := []) (wr := []) (ws' := cMd K a0 a1 a2 a3 a4 a5 a6 a7 a8 a9 a10 a11 a12 a13 a14 a15 a16 a17 a18 a19 S) (ov := some (.int u9)) X hh hl (kX8_mayBe l K a0 a1 a2 a3 a4 a5 a6 a7 a8 a9 a10 a11 a12 a13 a14 a15 a16 a17 a18 a19 S ((md_told S) p1.toNatClampNeg) ((md_told S) (p1 + (1 : Int32)).toNatClampNeg) u9 hu9) (fun ht => cwV 2 ht gX8_comesNew_X8_mayBe rfl rfl rfl ⟨rfl, hdX8_mayBe⟩ ⟨Nat.le_of_ble_eq_true rfl, Nat.le_of_ble_eq_true rfl⟩) [0, 1, 2, 3, 4, 5, 6, 7, 8, 9, 10, 11, 12, 13, 14, 15, 16, 17, 18, 19] [] [0, 1, 2, 3, 4, 5, 6, 7, 8, 9, 10, 11, 12, 13, 14, 15, 16, 17, 18, 19] rfl rfl rfl rfl (by decide) rfl rfl rfl rfl rfl rfl (Nat.le_of_ble_eq_true rfl) dX8_comesNew_48 ⟨Nat.zero_le _, Nat.zero_le _⟩ (fun H locs hh => ?_)
        refine lv_if_eq (tgt := 63) hx hb dX8_comesNew_51 (by decide) (fun c10 => ?_) (fun c10 => ?_)
        · replace hf := (if_pos c10).symm.trans hf
          refine lv_iconst (v := (0 : Int32)) hx hb dX8_comesNew_63 (by decide) ?_
          exact hr2 64 ls H locs (0 : Int32) S hf rfl dX8_comesNew_64 hh
        · replace hf := (if_neg c10).symm.trans hf
          refine lv_aload_n hx hb dX8_comesNew_54 rfl (lv_at hl 2 rfl) ?_
          refine zget (v := .int (md_houses S)) (ref := "SumOfTwoThatStandModel") (C := RX8) (T := TX8) (N := 33) (index := 70) X hh inX8_comesNew_X8 0 rfl rfl 9 (by decide) mmX8_comesNew_1 rfl rfl dX8_comesNew_55 ?_
          refine lv_bipush (v := (12 : Int32)) hx hb dX8_comesNew_58 (by decide) ?_
          refine lv_icmp_ne (tgt := 65) hx hb dX8_comesNew_60 (by decide) (fun c11 => ?_) (fun c11 => ?_)
          · replace hf := (if_neg c11).symm.trans hf
            refine lv_aload_n hx hb dX8_comesNew_65 rfl (lv_at hl 2 rfl) ?_
            refine lv_iload_n hx hb dX8_comesNew_66 rfl (lv_at hl 1 rfl) ?_
            refine lv_iload_n hx hb dX8_comesNew_67 rfl (lv_at hl 0 rfl) ?_
            refine lv_aload_n hx hb dX8_comesNew_68 rfl (lv_at hl 2 rfl) ?_
            refine zget (v := .ref a13) (ref := "SumOfTwoThatStandModel") (C := RX8) (T := TX8) (N := 33) (index := 46) X hh inX8_comesNew_X8 0 rfl rfl 15 (by decide) mmX8_comesNew_0 rfl rfl dX8_comesNew_69 ?_
            refine lv_iload_n hx hb dX8_comesNew_72 rfl (lv_at hl 3 rfl) ?_
            refine lv_iconst (v := (2 : Int32)) hx hb dX8_comesNew_73 (by decide) ?_
            refine lv_iadd hx hb dX8_comesNew_74 ?_
            refine ziald (f := (md_told S)) X hh 13 rfl g7 dX8_comesNew_75 ?_
            refine lv_aload_n hx hb dX8_comesNew_76 rfl (lv_at hl 2 rfl) ?_
            refine zget (v := .ref a13) (ref := "SumOfTwoThatStandModel") (C := RX8) (T := TX8) (N := 33) (index := 46) X hh inX8_comesNew_X8 0 rfl rfl 15 (by decide) mmX8_comesNew_0 rfl rfl dX8_comesNew_77 ?_
            refine lv_iload_n hx hb dX8_comesNew_80 rfl (lv_at hl 3 rfl) ?_
            refine lv_iconst (v := (3 : Int32)) hx hb dX8_comesNew_81 (by decide) ?_
            refine lv_iadd hx hb dX8_comesNew_82 ?_
            obtain ⟨g12, hf⟩ := ob_ix hf
            refine ziald (f := (md_told S)) X hh 13 rfl g12 dX8_comesNew_83 ?_
            obtain ⟨u13, hu13, hf⟩ := ob_bind hf
            refine zcallV (ci := 7) (q0 := 0) (As := [.int ((md_told S) p1.toNatClampNeg), .int ((md_told S) (p1 + (1 : Int32)).toNatClampNeg), .int ((md_told S) (p1 + (2 : Int32)).toNatClampNeg), .int ((md_told S) (p1 + (3 : Int32)).toNatClampNeg)]) (rest := []) (wr := []) (ws' := cMd K a0 a1 a2 a3 a4 a5 a6 a7 a8 a9 a10 a11 a12 a13 a14 a15 a16 a17 a18 a19 u13) (ov := none) X hh hl (kX8_builds l K a0 a1 a2 a3 a4 a5 a6 a7 a8 a9 a10 a11 a12 a13 a14 a15 a16 a17 a18 a19 S ((md_told S) p1.toNatClampNeg) ((md_told S) (p1 + (1 : Int32)).toNatClampNeg) ((md_told S) (p1 + (2 : Int32)).toNatClampNeg) ((md_told S) (p1 + (3 : Int32)).toNatClampNeg) u13 hu13) (fun ht => cwV 4 ht gX8_comesNew_X8_builds rfl rfl rfl ⟨rfl, hdX8_builds⟩ ⟨Nat.le_of_ble_eq_true rfl, Nat.le_of_ble_eq_true rfl⟩) [0, 1, 2, 3, 4, 5, 6, 7, 8, 9, 10, 11, 12, 13, 14, 15, 16, 17, 18, 19] [] [0, 1, 2, 3, 4, 5, 6, 7, 8, 9, 10, 11, 12, 13, 14, 15, 16, 17, 18, 19] rfl rfl rfl rfl (by decide) rfl rfl rfl rfl rfl rfl (Nat.le_of_ble_eq_true rfl) dX8_comesNew_84 ⟨Nat.zero_le _, Nat.zero_le _⟩ (fun H locs hh => ?_)
            refine lv_iconst (v := (1 : Int32)) hx hb dX8_comesNew_87 (by decide) ?_
            exact hr2 88 ls H locs (1 : Int32) u13 hf rfl dX8_comesNew_88 hh
          · replace hf := (if_pos c11).symm.trans hf
            refine lv_iconst (v := (0 : Int32)) hx hb dX8_comesNew_63 (by decide) ?_
            exact hr2 64 ls H locs (0 : Int32) S hf rfl dX8_comesNew_64 hh
theorem hdX8_comesFire : yX8_comesFire.cls ≠ "java/lang/invoke/MethodHandle" ∧ yX8_comesFire.cls ≠ "java/lang/invoke/VarHandle" ∧ (parseMethodDescriptor yX8_comesFire.desc).map (fun d => d.parameters.length) = some 1 := by decide +kernel
set_option maxHeartbeats 4000000 in
set_option maxRecDepth 100000 in
theorem kX8_comesFire (l : Launch) (K : zK) (a0 a1 a2 a3 a4 a5 a6 a7 a8 a9 a10 a11 a12 a13 a14 a15 a16 a17 a18 a19 : Nat) (S : zMd) (p1 : Int32) (R : Int32 × zMd) (hf : fX8_comesFire S p1 = some R) : zC l yX8_comesFire wsX8_comesFire ({ frames := 3, cells := 0, slots := 0, locals := 65 } : Room) K [.ref a0, .int p1] (cMd K a0 a1 a2 a3 a4 a5 a6 a7 a8 a9 a10 a11 a12 a13 a14 a15 a16 a17 a18 a19 S) (some (.int R.1)) (cMd K a0 a1 a2 a3 a4 a5 a6 a7 a8 a9 a10 a11 a12 a13 a14 a15 a16 a17 a18 a19 R.2) := by
  refine zC_z .boolean R.1 (cc := cX8_comesFire) (maxL := 2) (by decide +kernel) rfl (Nat.le_of_ble_eq_true rfl) rfl rfl ?_
  intro p e s m below meth c Q A X hret ls hl hh
  have X : zX p m c cX8_comesFire 2 s ([.ref a0, .int p1] : List Value).toArray wsX8_comesFire RX8 K A := X
  have hx := X.1.1
  have hb := X.1.2.1
  have hr2 : ∀ (pc : Nat) (ls : Array Slot) (H : Heap) (locs : List Loc) (v : Int32) (S : zMd), some (v, S) = some R → narrow .boolean (.int v) = .int v → decode cX8_comesFire pc = .ok (.ireturn, 1) → zW K A s H locs (cMd K a0 a1 a2 a3 a4 a5 a6 a7 a8 a9 a10 a11 a12 a13 a14 a15 a16 a17 a18 a19 S) → W p l e ({ frames := 3, cells := 0, slots := 0, locals := 65 } : Room) s m ([.ref a0, .int p1] : List Value).toArray below meth c H locs 0 0 Q (F0 m pc ls [.int v]) := by
    intro pc ls H locs v S h hn hd hh
    cases h; exact hret pc ls H locs _ rfl hn hd hh
  have hl : lv_has ls 2 [(0, .ref a0), (1, .int p1)] := hl
  unfold fX8_comesFire at hf
  refine (fun (hmain : ∀ (H : Heap) (locs : List Loc), zW K A s H locs (cMd K a0 a1 a2 a3 a4 a5 a6 a7 a8 a9 a10 a11 a12 a13 a14 a15 a16 a17 a18 a19 S) → W p l e ({ frames := 3, cells := 0, slots := 0, locals := 65 } : Room) s m ([.ref a0, .int p1] : List Value).toArray below meth c H locs 0 0 Q (F0 m 0 ls [])) => hmain s.heap [] hh) (fun H locs hh => ?_)
  refine lv_aload_n hx hb dX8_comesFire_0 rfl (lv_at hl 0 rfl) ?_
  refine lv_iload_n hx hb dX8_comesFire_1 rfl (lv_at hl 1 rfl) ?_
  obtain ⟨u1, hu1, hf⟩ := ob_bind hf
  refine zcallV (ci := 7) (q0 := 0) (As := [.int p1]) (rest := []) (wr := []) (ws' := cMd K a0 a1 a2 a3 a4 a5 a6 a7 a8 a9 a10 a11 a12 a13 a14 a15 a16 a17 a18 a19 S) (ov := some (.int u1)) X hh hl (kX8_doesStand l K a0 a1 a2 a3 a4 a5 a6 a7 a8 a9 a10 a11 a12 a13 a14 a15 a16 a17 a18 a19 S p1 u1 hu1) (fun ht => cwV 1 ht gX8_comesFire_X8_doesStand rfl rfl rfl ⟨rfl, hdX8_doesStand⟩ ⟨Nat.le_of_ble_eq_true rfl, Nat.le_of_ble_eq_true rfl⟩) [0, 1, 2, 3, 4, 5, 6, 7, 8, 9, 10, 11, 12, 13, 14, 15, 16, 17, 18, 19] [] [0, 1, 2, 3, 4, 5, 6, 7, 8, 9, 10, 11, 12, 13, 14, 15, 16, 17, 18, 19] rfl rfl rfl rfl (by decide) rfl rfl rfl rfl rfl rfl (Nat.le_of_ble_eq_true rfl) dX8_comesFire_2 ⟨Nat.zero_le _, Nat.zero_le _⟩ (fun H locs hh => ?_)
  refine lv_if_ne (tgt := 10) hx hb dX8_comesFire_5 (by decide) (fun c2 => ?_) (fun c2 => ?_)
  · replace hf := (if_neg c2).symm.trans hf
    refine lv_aload_n hx hb dX8_comesFire_10 rfl (lv_at hl 0 rfl) ?_
    refine lv_iload_n hx hb dX8_comesFire_11 rfl (lv_at hl 1 rfl) ?_
    obtain ⟨u3, hu3, hf⟩ := ob_bind hf
    refine zcallV (ci := 7) (q0 := 0) (As := [.int p1]) (rest := []) (wr := []) (ws' := cMd K a0 a1 a2 a3 a4 a5 a6 a7 a8 a9 a10 a11 a12 a13 a14 a15 a16 a17 a18 a19 u3) (ov := none) X hh hl (kX8_burns l K a0 a1 a2 a3 a4 a5 a6 a7 a8 a9 a10 a11 a12 a13 a14 a15 a16 a17 a18 a19 S p1 u3 hu3) (fun ht => cwV 1 ht gX8_comesFire_X8_burns rfl rfl rfl ⟨rfl, hdX8_burns⟩ ⟨Nat.le_of_ble_eq_true rfl, Nat.le_of_ble_eq_true rfl⟩) [0, 1, 2, 3, 4, 5, 6, 7, 8, 9, 10, 11, 12, 13, 14, 15, 16, 17, 18, 19] [] [0, 1, 2, 3, 4, 5, 6, 7, 8, 9, 10, 11, 12, 13, 14, 15, 16, 17, 18, 19] rfl rfl rfl rfl (by decide) rfl rfl rfl rfl rfl rfl (Nat.le_of_ble_eq_true rfl) dX8_comesFire_12 ⟨Nat.zero_le _, Nat.zero_le _⟩ (fun H locs hh => ?_)
    refine lv_iconst (v := (1 : Int32)) hx hb dX8_comesFire_15 (by decide) ?_
    exact hr2 16 ls H locs (1 : Int32) u3 hf rfl dX8_comesFire_16 hh
  · replace hf := (if_pos c2).symm.trans hf
    refine lv_iconst (v := (0 : Int32)) hx hb dX8_comesFire_8 (by decide) ?_
    exact hr2 9 ls H locs (0 : Int32) S hf rfl dX8_comesFire_9 hh
theorem inX8_comesLaw_X8 : ∀ w ∈ wsX80, w ∈ wsX8_comesLaw := by decide +kernel
theorem mmX8_comesLaw_0 : Cond.fieldLink RX8 86 "SumOfTwoThatStandModel" "sums" "I" ∈ wsX8_comesLaw := by decide +kernel
theorem mmX8_comesLaw_1 : Cond.fieldLink RX8 111 "SumOfTwoThatStandModel" "falls" "I" ∈ wsX8_comesLaw := by decide +kernel
theorem hdX8_comesLaw : yX8_comesLaw.cls ≠ "java/lang/invoke/MethodHandle" ∧ yX8_comesLaw.cls ≠ "java/lang/invoke/VarHandle" ∧ (parseMethodDescriptor yX8_comesLaw.desc).map (fun d => d.parameters.length) = some 2 := by decide +kernel
set_option maxHeartbeats 4000000 in
set_option maxRecDepth 100000 in
theorem kX8_comesLaw (l : Launch) (K : zK) (a0 a1 a2 a3 a4 a5 a6 a7 a8 a9 a10 a11 a12 a13 a14 a15 a16 a17 a18 a19 : Nat) (S : zMd) (p1 : Int32) (p2 : Int32) (R : Int32 × zMd) (hf : fX8_comesLaw S p1 p2 = R) : zC l yX8_comesLaw wsX8_comesLaw ({ frames := 0, cells := 0, slots := 0, locals := 0 } : Room) K [.ref a0, .int p1, .int p2] (cMd K a0 a1 a2 a3 a4 a5 a6 a7 a8 a9 a10 a11 a12 a13 a14 a15 a16 a17 a18 a19 S) (some (.int R.1)) (cMd K a0 a1 a2 a3 a4 a5 a6 a7 a8 a9 a10 a11 a12 a13 a14 a15 a16 a17 a18 a19 R.2) := by
  refine zC_z .boolean R.1 (cc := cX8_comesLaw) (maxL := 3) (by decide +kernel) rfl (Nat.le_of_ble_eq_true rfl) rfl rfl ?_
  intro p e s m below meth c Q A X hret ls hl hh
  have X : zX p m c cX8_comesLaw 3 s ([.ref a0, .int p1, .int p2] : List Value).toArray wsX8_comesLaw RX8 K A := X
  have hx := X.1.1
  have hb := X.1.2.1
  have hr2 : ∀ (pc : Nat) (ls : Array Slot) (H : Heap) (locs : List Loc) (v : Int32) (S : zMd), (v, S) = R → narrow .boolean (.int v) = .int v → decode cX8_comesLaw pc = .ok (.ireturn, 1) → zW K A s H locs (cMd K a0 a1 a2 a3 a4 a5 a6 a7 a8 a9 a10 a11 a12 a13 a14 a15 a16 a17 a18 a19 S) → W p l e ({ frames := 0, cells := 0, slots := 0, locals := 0 } : Room) s m ([.ref a0, .int p1, .int p2] : List Value).toArray below meth c H locs 0 0 Q (F0 m pc ls [.int v]) := by
    intro pc ls H locs v S h hn hd hh
    cases h; exact hret pc ls H locs _ rfl hn hd hh
  have hl : lv_has ls 3 [(0, .ref a0), (1, .int p1), (2, .int p2)] := hl
  unfold fX8_comesLaw at hf
  refine (fun (hmain : ∀ (H : Heap) (locs : List Loc), zW K A s H locs (cMd K a0 a1 a2 a3 a4 a5 a6 a7 a8 a9 a10 a11 a12 a13 a14 a15 a16 a17 a18 a19 S) → W p l e ({ frames := 0, cells := 0, slots := 0, locals := 0 } : Room) s m ([.ref a0, .int p1, .int p2] : List Value).toArray below meth c H locs 0 0 Q (F0 m 0 ls [])) => hmain s.heap [] hh) (fun H locs hh => ?_)
  refine lv_iload_n hx hb dX8_comesLaw_0 rfl (lv_at hl 1 rfl) ?_
  refine lv_iconst (v := (2 : Int32)) hx hb dX8_comesLaw_1 (by decide) ?_
  refine lv_icmp_gt (tgt := 10) hx hb dX8_comesLaw_2 (by decide) (fun c1 => ?_) (fun c1 => ?_)
  · replace hf := (if_pos c1).symm.trans hf
    refine lv_iconst (v := (0 : Int32)) hx hb dX8_comesLaw_10 (by decide) ?_
    exact hr2 11 ls H locs (0 : Int32) S hf rfl dX8_comesLaw_11 hh
  · replace hf := (if_neg c1).symm.trans hf
    refine lv_iload_n hx hb dX8_comesLaw_5 rfl (lv_at hl 2 rfl) ?_
    refine lv_iconst (v := (1 : Int32)) hx hb dX8_comesLaw_6 (by decide) ?_
    refine lv_icmp_le (tgt := 12) hx hb dX8_comesLaw_7 (by decide) (fun c2 => ?_) (fun c2 => ?_)
    · replace hf := (if_pos c2).symm.trans hf
      refine lv_aload_n hx hb dX8_comesLaw_12 rfl (lv_at hl 0 rfl) ?_
      refine lv_iload_n hx hb dX8_comesLaw_13 rfl (lv_at hl 1 rfl) ?_
      refine zput (v := .int p1) (ty := .int) (ref := "SumOfTwoThatStandModel") (C := RX8) (T := TX8) (N := 33) (index := 86) X hh inX8_comesLaw_X8 tyX8 tyX8_ok nmX8 0 rfl rfl 10 (by decide) mmX8_comesLaw_0 rfl rfl (by decide +kernel) rfl rfl (Nat.le_of_ble_eq_true rfl) dX8_comesLaw_14 (fun H locs hh => ?_)
      have hh := hh.to (sMd_sums K a0 a1 a2 a3 a4 a5 a6 a7 a8 a9 a10 a11 a12 a13 a14 a15 a16 a17 a18 a19 S p1)
      refine lv_aload_n hx hb dX8_comesLaw_17 rfl (lv_at hl 0 rfl) ?_
      refine lv_iload_n hx hb dX8_comesLaw_18 rfl (lv_at hl 2 rfl) ?_
      refine zput (v := .int p2) (ty := .int) (ref := "SumOfTwoThatStandModel") (C := RX8) (T := TX8) (N := 33) (index := 111) X hh inX8_comesLaw_X8 tyX8 tyX8_ok nmX8 0 rfl rfl 11 (by decide) mmX8_comesLaw_1 rfl rfl (by decide +kernel) rfl rfl (Nat.le_of_ble_eq_true rfl) dX8_comesLaw_19 (fun H locs hh => ?_)
      have hh := hh.to (sMd_falls K a0 a1 a2 a3 a4 a5 a6 a7 a8 a9 a10 a11 a12 a13 a14 a15 a16 a17 a18 a19 (md_set_sums S p1) p2)
      refine lv_iconst (v := (1 : Int32)) hx hb dX8_comesLaw_22 (by decide) ?_
      exact hr2 23 ls H locs (1 : Int32) (md_set_falls (md_set_sums S p1) p2) hf rfl dX8_comesLaw_23 hh
    · replace hf := (if_neg c2).symm.trans hf
      refine lv_iconst (v := (0 : Int32)) hx hb dX8_comesLaw_10 (by decide) ?_
      exact hr2 11 ls H locs (0 : Int32) S hf rfl dX8_comesLaw_11 hh
theorem inX8_comesTold_X8 : ∀ w ∈ wsX80, w ∈ wsX8_comesTold := by decide +kernel
theorem mmX8_comesTold_0 : Cond.fieldLink RX8 40 "SumOfTwoThatStandModel" "sort" "[I" ∈ wsX8_comesTold := by decide +kernel
theorem mmX8_comesTold_1 : Cond.fieldLink RX8 46 "SumOfTwoThatStandModel" "told" "[I" ∈ wsX8_comesTold := by decide +kernel
theorem hdX8_comesTold : yX8_comesTold.cls ≠ "java/lang/invoke/MethodHandle" ∧ yX8_comesTold.cls ≠ "java/lang/invoke/VarHandle" ∧ (parseMethodDescriptor yX8_comesTold.desc).map (fun d => d.parameters.length) = some 1 := by decide +kernel
set_option maxHeartbeats 4000000 in
set_option maxRecDepth 100000 in
theorem kX8_comesTold (l : Launch) (K : zK) (a0 a1 a2 a3 a4 a5 a6 a7 a8 a9 a10 a11 a12 a13 a14 a15 a16 a17 a18 a19 : Nat) (S : zMd) (p1 : Int32) (R : Int32 × zMd) (hf : fX8_comesTold S p1 = some R) : zC l yX8_comesTold wsX8_comesTold ({ frames := 4, cells := 0, slots := 0, locals := 90 } : Room) K [.ref a0, .int p1] (cMd K a0 a1 a2 a3 a4 a5 a6 a7 a8 a9 a10 a11 a12 a13 a14 a15 a16 a17 a18 a19 S) (some (.int R.1)) (cMd K a0 a1 a2 a3 a4 a5 a6 a7 a8 a9 a10 a11 a12 a13 a14 a15 a16 a17 a18 a19 R.2) := by
  refine zC_z .boolean R.1 (cc := cX8_comesTold) (maxL := 3) (by decide +kernel) rfl (Nat.le_of_ble_eq_true rfl) rfl rfl ?_
  intro p e s m below meth c Q A X hret ls hl hh
  have X : zX p m c cX8_comesTold 3 s ([.ref a0, .int p1] : List Value).toArray wsX8_comesTold RX8 K A := X
  have hx := X.1.1
  have hb := X.1.2.1
  have hr2 : ∀ (pc : Nat) (ls : Array Slot) (H : Heap) (locs : List Loc) (v : Int32) (S : zMd), some (v, S) = some R → narrow .boolean (.int v) = .int v → decode cX8_comesTold pc = .ok (.ireturn, 1) → zW K A s H locs (cMd K a0 a1 a2 a3 a4 a5 a6 a7 a8 a9 a10 a11 a12 a13 a14 a15 a16 a17 a18 a19 S) → W p l e ({ frames := 4, cells := 0, slots := 0, locals := 90 } : Room) s m ([.ref a0, .int p1] : List Value).toArray below meth c H locs 0 0 Q (F0 m pc ls [.int v]) := by
    intro pc ls H locs v S h hn hd hh
    cases h; exact hret pc ls H locs _ rfl hn hd hh
  have hl : lv_has ls 3 [(0, .ref a0), (1, .int p1)] := hl
  unfold fX8_comesTold at hf
  refine (fun (hmain : ∀ (H : Heap) (locs : List Loc), zW K A s H locs (cMd K a0 a1 a2 a3 a4 a5 a6 a7 a8 a9 a10 a11 a12 a13 a14 a15 a16 a17 a18 a19 S) → W p l e ({ frames := 4, cells := 0, slots := 0, locals := 90 } : Room) s m ([.ref a0, .int p1] : List Value).toArray below meth c H locs 0 0 Q (F0 m 0 ls [])) => hmain s.heap [] hh) (fun H locs hh => ?_)
  refine lv_iconst (v := (4 : Int32)) hx hb dX8_comesTold_0 (by decide) ?_
  refine lv_iload_n hx hb dX8_comesTold_1 rfl (lv_at hl 1 rfl) ?_
  refine lv_imul hx hb dX8_comesTold_2 ?_
  refine lv_istore_n (lv' := [(2, .int ((4 : Int32) * p1)), (0, .ref a0), (1, .int p1)]) hx hb dX8_comesTold_3 rfl hl (by decide) rfl (fun ls hl => ?_)
  refine lv_aload_n hx hb dX8_comesTold_4 rfl (lv_at hl 1 rfl) ?_
  refine zget (v := .ref a11) (ref := "SumOfTwoThatStandModel") (C := RX8) (T := TX8) (N := 33) (index := 40) X hh inX8_comesTold_X8 0 rfl rfl 13 (by decide) mmX8_comesTold_0 rfl rfl dX8_comesTold_5 ?_
  refine lv_iload_n hx hb dX8_comesTold_8 rfl (lv_at hl 2 rfl) ?_
  obtain ⟨g1, hf⟩ := ob_ix hf
  refine ziald (f := (md_sort S)) X hh 11 rfl g1 dX8_comesTold_9 ?_
  by_cases c2_0 : ((md_sort S) p1.toNatClampNeg) = (97 : Int32)
  · replace hf := (if_pos c2_0).symm.trans hf
    refine lv_lookup (off := 34) (tgt := 44) hx hb dX8_comesTold_10 (by decide) (by rw [c2_0]; decide) (by decide) ?_
    refine lv_aload_n hx hb dX8_comesTold_44 rfl (lv_at hl 1 rfl) ?_
    refine lv_iload_n hx hb dX8_comesTold_45 rfl (lv_at hl 0 rfl) ?_
    obtain ⟨u3, hu3, hf⟩ := ob_bind hf
    refine zcallV (ci := 7) (q0 := 0) (As := [.int ((4 : Int32) * p1)]) (rest := []) (wr := []) (ws' := cMd K a0 a1 a2 a3 a4 a5 a6 a7 a8 a9 a10 a11 a12 a13 a14 a15 a16 a17 a18 a19 u3.2) (ov := some (.int u3.1)) X hh hl (kX8_comesNew l K a0 a1 a2 a3 a4 a5 a6 a7 a8 a9 a10 a11 a12 a13 a14 a15 a16 a17 a18 a19 S ((4 : Int32) * p1) u3 hu3) (fun ht => cwV 1 ht gX8_comesTold_X8_comesNew rfl rfl rfl ⟨rfl, hdX8_comesNew⟩ ⟨Nat.le_of_ble_eq_true rfl, Nat.le_of_ble_eq_true rfl⟩) [0, 1, 2, 3, 4, 5, 6, 7, 8, 9, 10, 11, 12, 13, 14, 15, 16, 17, 18, 19] [] [0, 1, 2, 3, 4, 5, 6, 7, 8, 9, 10, 11, 12, 13, 14, 15, 16, 17, 18, 19] rfl rfl rfl rfl (by decide) rfl rfl rfl rfl rfl rfl (Nat.le_of_ble_eq_true rfl) dX8_comesTold_46 ⟨Nat.zero_le _, Nat.zero_le _⟩ (fun H locs hh => ?_)
    obtain ⟨g4, hf⟩ := ob_ck hf
    exact hr2 49 ls H locs u3.1 u3.2 hf (nar_ok g4) dX8_comesTold_49 hh
  replace hf := (if_neg c2_0).symm.trans hf
  by_cases c2_1 : ((md_sort S) p1.toNatClampNeg) = (98 : Int32)
  · replace hf := (if_pos c2_1).symm.trans hf
    refine lv_lookup (off := 40) (tgt := 50) hx hb dX8_comesTold_10 (by decide) (by rw [c2_1]; decide) (by decide) ?_
    refine lv_aload_n hx hb dX8_comesTold_50 rfl (lv_at hl 1 rfl) ?_
    refine lv_aload_n hx hb dX8_comesTold_51 rfl (lv_at hl 1 rfl) ?_
    refine zget (v := .ref a13) (ref := "SumOfTwoThatStandModel") (C := RX8) (T := TX8) (N := 33) (index := 46) X hh inX8_comesTold_X8 0 rfl rfl 15 (by decide) mmX8_comesTold_1 rfl rfl dX8_comesTold_52 ?_
    refine lv_iload_n hx hb dX8_comesTold_55 rfl (lv_at hl 0 rfl) ?_
    obtain ⟨g5, hf⟩ := ob_ix hf
    refine ziald (f := (md_told S)) X hh 13 rfl g5 dX8_comesTold_56 ?_
    obtain ⟨u6, hu6, hf⟩ := ob_bind hf
    refine zcallV (ci := 7) (q0 := 0) (As := [.int ((md_told S) ((4 : Int32) * p1).toNatClampNeg)]) (rest := []) (wr := []) (ws' := cMd K a0 a1 a2 a3 a4 a5 a6 a7 a8 a9 a10 a11 a12 a13 a14 a15 a16 a17 a18 a19 u6.2) (ov := some (.int u6.1)) X hh hl (kX8_comesFire l K a0 a1 a2 a3 a4 a5 a6 a7 a8 a9 a10 a11 a12 a13 a14 a15 a16 a17 a18 a19 S ((md_told S) ((4 : Int32) * p1).toNatClampNeg) u6 hu6) (fun ht => cwV 1 ht gX8_comesTold_X8_comesFire rfl rfl rfl ⟨rfl, hdX8_comesFire⟩ ⟨Nat.le_of_ble_eq_true rfl, Nat.le_of_ble_eq_true rfl⟩) [0, 1, 2, 3, 4, 5, 6, 7, 8, 9, 10, 11, 12, 13, 14, 15, 16, 17, 18, 19] [] [0, 1, 2, 3, 4, 5, 6, 7, 8, 9, 10, 11, 12, 13, 14, 15, 16, 17, 18, 19] rfl rfl rfl rfl (by decide) rfl rfl rfl rfl rfl rfl (Nat.le_of_ble_eq_true rfl) dX8_comesTold_57 ⟨Nat.zero_le _, Nat.zero_le _⟩ (fun H locs hh => ?_)
    obtain ⟨g7, hf⟩ := ob_ck hf
    exact hr2 60 ls H locs u6.1 u6.2 hf (nar_ok g7) dX8_comesTold_60 hh
  replace hf := (if_neg c2_1).symm.trans hf
  by_cases c2_2 : ((md_sort S) p1.toNatClampNeg) = (108 : Int32)
  · replace hf := (if_pos c2_2).symm.trans hf
    refine lv_lookup (off := 51) (tgt := 61) hx hb dX8_comesTold_10 (by decide) (by rw [c2_2]; decide) (by decide) ?_
    refine lv_aload_n hx hb dX8_comesTold_61 rfl (lv_at hl 1 rfl) ?_
    refine lv_aload_n hx hb dX8_comesTold_62 rfl (lv_at hl 1 rfl) ?_
    refine zget (v := .ref a13) (ref := "SumOfTwoThatStandModel") (C := RX8) (T := TX8) (N := 33) (index := 46) X hh inX8_comesTold_X8 0 rfl rfl 15 (by decide) mmX8_comesTold_1 rfl rfl dX8_comesTold_63 ?_
    refine lv_iload_n hx hb dX8_comesTold_66 rfl (lv_at hl 0 rfl) ?_
    obtain ⟨g8, hf⟩ := ob_ix hf
    refine ziald (f := (md_told S)) X hh 13 rfl g8 dX8_comesTold_67 ?_
    refine lv_aload_n hx hb dX8_comesTold_68 rfl (lv_at hl 1 rfl) ?_
    refine zget (v := .ref a13) (ref := "SumOfTwoThatStandModel") (C := RX8) (T := TX8) (N := 33) (index := 46) X hh inX8_comesTold_X8 0 rfl rfl 15 (by decide) mmX8_comesTold_1 rfl rfl dX8_comesTold_69 ?_
    refine lv_iload_n hx hb dX8_comesTold_72 rfl (lv_at hl 0 rfl) ?_
    refine lv_iconst (v := (1 : Int32)) hx hb dX8_comesTold_73 (by decide) ?_
    refine lv_iadd hx hb dX8_comesTold_74 ?_
    obtain ⟨g9, hf⟩ := ob_ix hf
    refine ziald (f := (md_told S)) X hh 13 rfl g9 dX8_comesTold_75 ?_
    refine zcallV (ci := 7) (q0 := 0) (As := [.int ((md_told S) ((4 : Int32) * p1).toNatClampNeg), .int ((md_told S) (((4 : Int32) * p1) + (1 : Int32)).toNatClampNeg)]) (rest := []) (wr := []) (ws' := cMd K a0 a1 a2 a3 a4 a5 a6 a7 a8 a9 a10 a11 a12 a13 a14 a15 a16 a17 a18 a19 (fX8_comesLaw S ((md_told S) ((4 : Int32) * p1).toNatClampNeg) ((md_told S) (((4 : Int32) * p1) + (1 : Int32)).toNatClampNeg)).2) (ov := some (.int (fX8_comesLaw S ((md_told S) ((4 : Int32) * p1).toNatClampNeg) ((md_told S) (((4 : Int32) * p1) + (1 : Int32)).toNatClampNeg)).1)) X hh hl (kX8_comesLaw l K a0 a1 a2 a3 a4 a5 a6 a7 a8 a9 a10 a11 a12 a13 a14 a15 a16 a17 a18 a19 S ((md_told S) ((4 : Int32) * p1).toNatClampNeg) ((md_told S) (((4 : Int32) * p1) + (1 : Int32)).toNatClampNeg) (fX8_comesLaw S ((md_told S) ((4 : Int32) * p1).toNatClampNeg) ((md_told S) (((4 : Int32) * p1) + (1 : Int32)).toNatClampNeg)) rfl) (fun ht => cwV 2 ht gX8_comesTold_X8_comesLaw rfl rfl rfl ⟨rfl, hdX8_comesLaw⟩ ⟨Nat.le_of_ble_eq_true rfl, Nat.le_of_ble_eq_true rfl⟩) [0, 1, 2, 3, 4, 5, 6, 7, 8, 9, 10, 11, 12, 13, 14, 15, 16, 17, 18, 19] [] [0, 1, 2, 3, 4, 5, 6, 7, 8, 9, 10, 11, 12, 13, 14, 15, 16, 17, 18, 19] rfl rfl rfl rfl (by decide) rfl rfl rfl rfl rfl rfl (Nat.le_of_ble_eq_true rfl) dX8_comesTold_76 ⟨Nat.zero_le _, Nat.zero_le _⟩ (fun H locs hh => ?_)
    obtain ⟨g11, hf⟩ := ob_ck hf
    exact hr2 79 ls H locs (fX8_comesLaw S ((md_told S) ((4 : Int32) * p1).toNatClampNeg) ((md_told S) (((4 : Int32) * p1) + (1 : Int32)).toNatClampNeg)).1 (fX8_comesLaw S ((md_told S) ((4 : Int32) * p1).toNatClampNeg) ((md_told S) (((4 : Int32) * p1) + (1 : Int32)).toNatClampNeg)).2 hf (nar_ok g11) dX8_comesTold_79 hh
  replace hf := (if_neg c2_2).symm.trans hf
  refine lv_lookup (off := 70) (tgt := 80) hx hb dX8_comesTold_10 (by decide) ((lv_osw c2_0 (by decide)).trans ((lv_osw c2_1 (by decide)).trans ((lv_osw c2_2 (by decide)).trans (rfl)))) (by decide) ?_
  refine lv_aload_n hx hb dX8_comesTold_80 rfl (lv_at hl 1 rfl) ?_
  obtain ⟨u12, hu12, hf⟩ := ob_bind hf
  refine zcallV (ci := 7) (q0 := 0) (As := []) (rest := []) (wr := []) (ws' := cMd K a0 a1 a2 a3 a4 a5 a6 a7 a8 a9 a10 a11 a12 a13 a14 a15 a16 a17 a18 a19 u12) (ov := none) X hh hl (kX8_beginsAnew l K a0 a1 a2 a3 a4 a5 a6 a7 a8 a9 a10 a11 a12 a13 a14 a15 a16 a17 a18 a19 S u12 hu12) (fun ht => cwV 0 ht gX8_comesTold_X8_beginsAnew rfl rfl rfl ⟨rfl, hdX8_beginsAnew⟩ ⟨Nat.le_of_ble_eq_true rfl, Nat.le_of_ble_eq_true rfl⟩) [0, 1, 2, 3, 4, 5, 6, 7, 8, 9, 10, 11, 12, 13, 14, 15, 16, 17, 18, 19] [] [0, 1, 2, 3, 4, 5, 6, 7, 8, 9, 10, 11, 12, 13, 14, 15, 16, 17, 18, 19] rfl rfl rfl rfl (by decide) rfl rfl rfl rfl rfl rfl (Nat.le_of_ble_eq_true rfl) dX8_comesTold_81 ⟨Nat.zero_le _, Nat.zero_le _⟩ (fun H locs hh => ?_)
  refine lv_iconst (v := (1 : Int32)) hx hb dX8_comesTold_84 (by decide) ?_
  exact hr2 85 ls H locs (1 : Int32) u12 hf rfl dX8_comesTold_85 hh
theorem inX8_passOne_X8 : ∀ w ∈ wsX80, w ∈ wsX8_passOne := by decide +kernel
theorem mmX8_passOne_0 : Cond.fieldLink RX8 188 "SumOfTwoThatStandModel" "cursor" "I" ∈ wsX8_passOne := by decide +kernel
theorem mmX8_passOne_1 : Cond.fieldLink RX8 184 "SumOfTwoThatStandModel" "isKeeping" "Z" ∈ wsX8_passOne := by decide +kernel
theorem mmX8_passOne_2 : Cond.fieldLink RX8 49 "SumOfTwoThatStandModel" "kept" "[I" ∈ wsX8_passOne := by decide +kernel
theorem hdX8_passOne : yX8_passOne.cls ≠ "java/lang/invoke/MethodHandle" ∧ yX8_passOne.cls ≠ "java/lang/invoke/VarHandle" ∧ (parseMethodDescriptor yX8_passOne.desc).map (fun d => d.parameters.length) = some 1 := by decide +kernel
set_option maxHeartbeats 4000000 in
set_option maxRecDepth 100000 in
theorem kX8_passOne (l : Launch) (K : zK) (a0 a1 a2 a3 a4 a5 a6 a7 a8 a9 a10 a11 a12 a13 a14 a15 a16 a17 a18 a19 : Nat) (S : zMd) (p1 : Int32) (R : Int32 × zMd) (hf : fX8_passOne S p1 = some R) : zC l yX8_passOne wsX8_passOne ({ frames := 0, cells := 0, slots := 0, locals := 0 } : Room) K [.ref a0, .int p1] (cMd K a0 a1 a2 a3 a4 a5 a6 a7 a8 a9 a10 a11 a12 a13 a14 a15 a16 a17 a18 a19 S) (some (.int R.1)) (cMd K a0 a1 a2 a3 a4 a5 a6 a7 a8 a9 a10 a11 a12 a13 a14 a15 a16 a17 a18 a19 R.2) := by
  refine zC_i R.1 (cc := cX8_passOne) (maxL := 3) (by decide +kernel) rfl (Nat.le_of_ble_eq_true rfl) rfl rfl ?_
  intro p e s m below meth c Q A X hret ls hl hh
  have X : zX p m c cX8_passOne 3 s ([.ref a0, .int p1] : List Value).toArray wsX8_passOne RX8 K A := X
  have hx := X.1.1
  have hb := X.1.2.1
  have hr2 : ∀ (pc : Nat) (ls : Array Slot) (H : Heap) (locs : List Loc) (v : Int32) (S : zMd), some (v, S) = some R → decode cX8_passOne pc = .ok (.ireturn, 1) → zW K A s H locs (cMd K a0 a1 a2 a3 a4 a5 a6 a7 a8 a9 a10 a11 a12 a13 a14 a15 a16 a17 a18 a19 S) → W p l e ({ frames := 0, cells := 0, slots := 0, locals := 0 } : Room) s m ([.ref a0, .int p1] : List Value).toArray below meth c H locs 0 0 Q (F0 m pc ls [.int v]) := by
    intro pc ls H locs v S h hd hh
    cases h; exact hret pc ls H locs _ rfl hd hh
  have hl : lv_has ls 3 [(0, .ref a0), (1, .int p1)] := hl
  have hJ38 : ∀ (v2 : Int32) (S : zMd), ∀ (H : Heap) (locs : List Loc) (ls : Array Slot), fX8_passOne_j38 v2 S = some R → lv_has ls 3 [(0, .ref a0), (2, .int v2)] → zW K A s H locs (cMd K a0 a1 a2 a3 a4 a5 a6 a7 a8 a9 a10 a11 a12 a13 a14 a15 a16 a17 a18 a19 S) → W p l e ({ frames := 0, cells := 0, slots := 0, locals := 0 } : Room) s m ([.ref a0, .int p1] : List Value).toArray below meth c H locs 0 0 Q (F0 m 38 ls []) := by
    intro v2 S H locs ls hf hl hh
    unfold fX8_passOne_j38 at hf
    refine lv_aload_n hx hb dX8_passOne_38 rfl (lv_at hl 0 rfl) ?_
    refine lv_dup hx hb dX8_passOne_39 rfl ?_
    refine zget (v := .int (md_cursor S)) (ref := "SumOfTwoThatStandModel") (C := RX8) (T := TX8) (N := 33) (index := 188) X hh inX8_passOne_X8 0 rfl rfl 23 (by decide) mmX8_passOne_0 rfl rfl dX8_passOne_40 ?_
    refine lv_iconst (v := (1 : Int32)) hx hb dX8_passOne_43 (by decide) ?_
    refine lv_iadd hx hb dX8_passOne_44 ?_
    refine zput (v := .int ((md_cursor S) + (1 : Int32))) (ty := .int) (ref := "SumOfTwoThatStandModel") (C := RX8) (T := TX8) (N := 33) (index := 188) X hh inX8_passOne_X8 tyX8 tyX8_ok nmX8 0 rfl rfl 23 (by decide) mmX8_passOne_0 rfl rfl (by decide +kernel) rfl rfl (Nat.le_of_ble_eq_true rfl) dX8_passOne_45 (fun H locs hh => ?_)
    have hh := hh.to (sMd_cursor K a0 a1 a2 a3 a4 a5 a6 a7 a8 a9 a10 a11 a12 a13 a14 a15 a16 a17 a18 a19 S ((md_cursor S) + (1 : Int32)))
    refine lv_iload_n hx hb dX8_passOne_48 rfl (lv_at hl 1 rfl) ?_
    exact hr2 49 ls H locs v2 (md_set_cursor S ((md_cursor S) + (1 : Int32))) hf dX8_passOne_49 hh
  have hJ20 : ∀ (v1 : Int32) (t0 : Int32) (S : zMd), ∀ (H : Heap) (locs : List Loc) (ls : Array Slot), fX8_passOne_j20 v1 t0 S = some R → lv_has ls 3 [(0, .ref a0), (1, .int v1)] → zW K A s H locs (cMd K a0 a1 a2 a3 a4 a5 a6 a7 a8 a9 a10 a11 a12 a13 a14 a15 a16 a17 a18 a19 S) → W p l e ({ frames := 0, cells := 0, slots := 0, locals := 0 } : Room) s m ([.ref a0, .int p1] : List Value).toArray below meth c H locs 0 0 Q (F0 m 20 ls [.int t0]) := by
    intro v1 t0 S H locs ls hf hl hh
    unfold fX8_passOne_j20 at hf
    refine lv_istore_n (lv' := [(2, .int t0), (0, .ref a0), (1, .int v1)]) hx hb dX8_passOne_20 rfl hl (by decide) rfl (fun ls hl => ?_)
    refine lv_aload_n hx hb dX8_passOne_21 rfl (lv_at hl 1 rfl) ?_
    refine zget (v := .int (md_isKeeping S)) (ref := "SumOfTwoThatStandModel") (C := RX8) (T := TX8) (N := 33) (index := 184) X hh inX8_passOne_X8 0 rfl rfl 22 (by decide) mmX8_passOne_1 rfl rfl dX8_passOne_22 ?_
    refine lv_if_eq (tgt := 38) hx hb dX8_passOne_25 (by decide) (fun c1 => ?_) (fun c1 => ?_)
    · replace hf := (if_pos c1).symm.trans hf
      exact hJ38 t0 S H locs ls hf (lv_sub hl [1, 0] rfl) hh
    · replace hf := (if_neg c1).symm.trans hf
      refine lv_aload_n hx hb dX8_passOne_28 rfl (lv_at hl 1 rfl) ?_
      refine zget (v := .ref a14) (ref := "SumOfTwoThatStandModel") (C := RX8) (T := TX8) (N := 33) (index := 49) X hh inX8_passOne_X8 0 rfl rfl 20 (by decide) mmX8_passOne_2 rfl rfl dX8_passOne_29 ?_
      refine lv_aload_n hx hb dX8_passOne_32 rfl (lv_at hl 1 rfl) ?_
      refine zget (v := .int (md_cursor S)) (ref := "SumOfTwoThatStandModel") (C := RX8) (T := TX8) (N := 33) (index := 188) X hh inX8_passOne_X8 0 rfl rfl 23 (by decide) mmX8_passOne_0 rfl rfl dX8_passOne_33 ?_
      refine lv_iload_n hx hb dX8_passOne_36 rfl (lv_at hl 2 rfl) ?_
      obtain ⟨g2, hf⟩ := ob_ix hf
      refine ziast (f := (md_kept S)) X hh 14 rfl g2 dX8_passOne_37 (fun H locs hh => ?_)
      have hh := hh.to (sMd_kept K a0 a1 a2 a3 a4 a5 a6 a7 a8 a9 a10 a11 a12 a13 a14 a15 a16 a17 a18 a19 S (upd (md_kept S) (md_cursor S).toNatClampNeg v1))
      exact hJ38 t0 (md_set_kept S (upd (md_kept S) (md_cursor S).toNatClampNeg v1)) H locs ls hf (lv_sub hl [1, 0] rfl) hh
  unfold fX8_passOne at hf
  refine (fun (hmain : ∀ (H : Heap) (locs : List Loc), zW K A s H locs (cMd K a0 a1 a2 a3 a4 a5 a6 a7 a8 a9 a10 a11 a12 a13 a14 a15 a16 a17 a18 a19 S) → W p l e ({ frames := 0, cells := 0, slots := 0, locals := 0 } : Room) s m ([.ref a0, .int p1] : List Value).toArray below meth c H locs 0 0 Q (F0 m 0 ls [])) => hmain s.heap [] hh) (fun H locs hh => ?_)
  refine lv_aload_n hx hb dX8_passOne_0 rfl (lv_at hl 0 rfl) ?_
  refine zget (v := .int (md_isKeeping S)) (ref := "SumOfTwoThatStandModel") (C := RX8) (T := TX8) (N := 33) (index := 184) X hh inX8_passOne_X8 0 rfl rfl 22 (by decide) mmX8_passOne_1 rfl rfl dX8_passOne_1 ?_
  refine lv_if_eq (tgt := 11) hx hb dX8_passOne_4 (by decide) (fun c3 => ?_) (fun c3 => ?_)
  · replace hf := (if_pos c3).symm.trans hf
    refine lv_aload_n hx hb dX8_passOne_11 rfl (lv_at hl 0 rfl) ?_
    refine zget (v := .ref a14) (ref := "SumOfTwoThatStandModel") (C := RX8) (T := TX8) (N := 33) (index := 49) X hh inX8_passOne_X8 0 rfl rfl 20 (by decide) mmX8_passOne_2 rfl rfl dX8_passOne_12 ?_
    refine lv_aload_n hx hb dX8_passOne_15 rfl (lv_at hl 0 rfl) ?_
    refine zget (v := .int (md_cursor S)) (ref := "SumOfTwoThatStandModel") (C := RX8) (T := TX8) (N := 33) (index := 188) X hh inX8_passOne_X8 0 rfl rfl 23 (by decide) mmX8_passOne_0 rfl rfl dX8_passOne_16 ?_
    obtain ⟨g4, hf⟩ := ob_ix hf
    refine ziald (f := (md_kept S)) X hh 14 rfl g4 dX8_passOne_19 ?_
    exact hJ20 p1 ((md_kept S) (md_cursor S).toNatClampNeg) S H locs ls hf (lv_sub hl [0, 1] rfl) hh
  · replace hf := (if_neg c3).symm.trans hf
    refine lv_iload_n hx hb dX8_passOne_7 rfl (lv_at hl 1 rfl) ?_
    refine lv_goto (tgt := 20) hx hb dX8_passOne_8 (by decide) ?_
    exact hJ20 p1 p1 S H locs ls hf (lv_sub hl [0, 1] rfl) hh
