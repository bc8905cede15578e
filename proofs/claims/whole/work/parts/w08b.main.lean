theorem mmX7_nextSeed_0 : Cond.constant RX7 227 (1103515245) ∈ wsX7_nextSeed := by decide +kernel
theorem hdX7_nextSeed : yX7_nextSeed.cls ≠ "java/lang/invoke/MethodHandle" ∧ yX7_nextSeed.cls ≠ "java/lang/invoke/VarHandle" ∧ (parseMethodDescriptor yX7_nextSeed.desc).map (fun d => d.parameters.length) = some 1 := by decide +kernel
set_option maxHeartbeats 4000000 in
set_option maxRecDepth 100000 in
theorem kX7_nextSeed (l : Launch) (K : zK) (p0 : Int32) (R : Int32) (hf : fX7_nextSeed p0 = R) : zC l yX7_nextSeed wsX7_nextSeed ({ frames := 0, cells := 0, slots := 0, locals := 0 } : Room) K [.int p0] ([]) (some (.int R)) ([]) := by
  refine zC_i R (cc := cX7_nextSeed) (maxL := 1) (by decide +kernel) rfl (Nat.le_of_ble_eq_true rfl) rfl rfl ?_
  intro p e s m below meth c Q A X hret ls hl hh
  have X : zX p m c cX7_nextSeed 1 s ([.int p0] : List Value).toArray wsX7_nextSeed RX7 K A := X
  have hx := X.1.1
  have hb := X.1.2.1
  have hr2 : ∀ (pc : Nat) (ls : Array Slot) (H : Heap) (locs : List Loc) (v : Int32), v = R → decode cX7_nextSeed pc = .ok (.ireturn, 1) → zW K A s H locs ([]) → W p l e ({ frames := 0, cells := 0, slots := 0, locals := 0 } : Room) s m ([.int p0] : List Value).toArray below meth c H locs 0 0 Q (F0 m pc ls [.int v]) := by
    intro pc ls H locs v h hd hh
    cases h; exact hret pc ls H locs _ rfl hd hh
  have hl : lv_has ls 1 [(0, .int p0)] := hl
  unfold fX7_nextSeed at hf
  refine (fun (hmain : ∀ (H : Heap) (locs : List Loc), zW K A s H locs ([]) → W p l e ({ frames := 0, cells := 0, slots := 0, locals := 0 } : Room) s m ([.int p0] : List Value).toArray below meth c H locs 0 0 Q (F0 m 0 ls [])) => hmain s.heap [] hh) (fun H locs hh => ?_)
  refine lv_iload_n hx hb dX7_nextSeed_0 rfl (lv_at hl 0 rfl) ?_
  refine lv_ldc (v := (1103515245 : Int32)) hx hb X.1.2.2.2.1 (X.1.2.2.2.2 _ mmX7_nextSeed_0) dX7_nextSeed_1 ?_
  refine lv_imul hx hb dX7_nextSeed_3 ?_
  refine lv_sipush (v := (12345 : Int32)) hx hb dX7_nextSeed_4 (by decide) ?_
  refine lv_iadd hx hb dX7_nextSeed_7 ?_
  exact hr2 8 ls H locs ((p0 * (1103515245 : Int32)) + (12345 : Int32)) hf dX7_nextSeed_8 hh
theorem mmX7_draw_0 : Cond.constant RX7 228 (2147483647) ∈ wsX7_draw := by decide +kernel
theorem hdX7_draw : yX7_draw.cls ≠ "java/lang/invoke/MethodHandle" ∧ yX7_draw.cls ≠ "java/lang/invoke/VarHandle" ∧ (parseMethodDescriptor yX7_draw.desc).map (fun d => d.parameters.length) = some 2 := by decide +kernel
set_option maxHeartbeats 4000000 in
set_option maxRecDepth 100000 in
theorem kX7_draw (l : Launch) (K : zK) (p0 : Int32) (p1 : Int32) (R : Int32) (hf : fX7_draw p0 p1 = some R) : zC l yX7_draw wsX7_draw ({ frames := 0, cells := 0, slots := 0, locals := 0 } : Room) K [.int p0, .int p1] ([]) (some (.int R)) ([]) := by
  refine zC_i R (cc := cX7_draw) (maxL := 2) (by decide +kernel) rfl (Nat.le_of_ble_eq_true rfl) rfl rfl ?_
  intro p e s m below meth c Q A X hret ls hl hh
  have X : zX p m c cX7_draw 2 s ([.int p0, .int p1] : List Value).toArray wsX7_draw RX7 K A := X
  have hx := X.1.1
  have hb := X.1.2.1
  have hr2 : ∀ (pc : Nat) (ls : Array Slot) (H : Heap) (locs : List Loc) (v : Int32), some v = some R → decode cX7_draw pc = .ok (.ireturn, 1) → zW K A s H locs ([]) → W p l e ({ frames := 0, cells := 0, slots := 0, locals := 0 } : Room) s m ([.int p0, .int p1] : List Value).toArray below meth c H locs 0 0 Q (F0 m pc ls [.int v]) := by
    intro pc ls H locs v h hd hh
    cases h; exact hret pc ls H locs _ rfl hd hh
  have hl : lv_has ls 2 [(0, .int p0), (1, .int p1)] := hl
  unfold fX7_draw at hf
  refine (fun (hmain : ∀ (H : Heap) (locs : List Loc), zW K A s H locs ([]) → W p l e ({ frames := 0, cells := 0, slots := 0, locals := 0 } : Room) s m ([.int p0, .int p1] : List Value).toArray below meth c H locs 0 0 Q (F0 m 0 ls [])) => hmain s.heap [] hh) (fun H locs hh => ?_)
  refine lv_iload_n hx hb dX7_draw_0 rfl (lv_at hl 1 rfl) ?_
  refine lv_iconst (v := (1 : Int32)) hx hb dX7_draw_1 (by decide) ?_
  refine lv_icmp_ge (tgt := 9) hx hb dX7_draw_2 (by decide) (fun c1 => ?_) (fun c1 => ?_)
  · replace hf := (if_pos c1).symm.trans hf
    refine lv_iload_n hx hb dX7_draw_9 rfl (lv_at hl 0 rfl) ?_
    refine lv_ldc (v := (2147483647 : Int32)) hx hb X.1.2.2.2.1 (X.1.2.2.2.2 _ mmX7_draw_0) dX7_draw_10 ?_
    refine lv_iand hx hb dX7_draw_12 ?_
    refine lv_bipush (v := (16 : Int32)) hx hb dX7_draw_13 (by decide) ?_
    refine lv_iushr (v := ((p0 &&& (2147483647 : Int32)).toUInt32 >>> ((16 : Int32).toUInt32 &&& Int32.toUInt32 31)).toInt32) hx hb dX7_draw_15 rfl ?_
    refine lv_iload_n hx hb dX7_draw_16 rfl (lv_at hl 1 rfl) ?_
    obtain ⟨g2, hf⟩ := ob_gd hf
    refine lv_irem hx hb dX7_draw_17 g2 ?_
    exact hr2 18 ls H locs (((p0 &&& (2147483647 : Int32)).toUInt32 >>> ((16 : Int32).toUInt32 &&& Int32.toUInt32 31)).toInt32 - ((p0 &&& (2147483647 : Int32)).toUInt32 >>> ((16 : Int32).toUInt32 &&& Int32.toUInt32 31)).toInt32 / p1 * p1) hf dX7_draw_18 hh
  · replace hf := (if_neg c1).symm.trans hf
    refine lv_iconst (v := (0 : Int32)) hx hb dX7_draw_5 (by decide) ?_
    refine lv_goto (tgt := 18) hx hb dX7_draw_6 (by decide) ?_
    exact hr2 18 ls H locs (0 : Int32) hf dX7_draw_18 hh
theorem hdX7_outside : yX7_outside.cls ≠ "java/lang/invoke/MethodHandle" ∧ yX7_outside.cls ≠ "java/lang/invoke/VarHandle" ∧ (parseMethodDescriptor yX7_outside.desc).map (fun d => d.parameters.length) = some 3 := by decide +kernel
set_option maxHeartbeats 4000000 in
set_option maxRecDepth 100000 in
theorem kX7_outside (l : Launch) (K : zK) (p0 : Int32) (p1 : Int32) (p2 : Int32) (R : Int32) (hf : fX7_outside p0 p1 p2 = R) : zC l yX7_outside wsX7_outside ({ frames := 0, cells := 0, slots := 0, locals := 0 } : Room) K [.int p0, .int p1, .int p2] ([]) (some (.int R)) ([]) := by
  refine zC_i R (cc := cX7_outside) (maxL := 3) (by decide +kernel) rfl (Nat.le_of_ble_eq_true rfl) rfl rfl ?_
  intro p e s m below meth c Q A X hret ls hl hh
  have X : zX p m c cX7_outside 3 s ([.int p0, .int p1, .int p2] : List Value).toArray wsX7_outside RX7 K A := X
  have hx := X.1.1
  have hb := X.1.2.1
  have hr2 : ∀ (pc : Nat) (ls : Array Slot) (H : Heap) (locs : List Loc) (v : Int32), v = R → decode cX7_outside pc = .ok (.ireturn, 1) → zW K A s H locs ([]) → W p l e ({ frames := 0, cells := 0, slots := 0, locals := 0 } : Room) s m ([.int p0, .int p1, .int p2] : List Value).toArray below meth c H locs 0 0 Q (F0 m pc ls [.int v]) := by
    intro pc ls H locs v h hd hh
    cases h; exact hret pc ls H locs _ rfl hd hh
  have hl : lv_has ls 3 [(0, .int p0), (1, .int p1), (2, .int p2)] := hl
  unfold fX7_outside at hf
  refine (fun (hmain : ∀ (H : Heap) (locs : List Loc), zW K A s H locs ([]) → W p l e ({ frames := 0, cells := 0, slots := 0, locals := 0 } : Room) s m ([.int p0, .int p1, .int p2] : List Value).toArray below meth c H locs 0 0 Q (F0 m 0 ls [])) => hmain s.heap [] hh) (fun H locs hh => ?_)
  refine lv_iload_n hx hb dX7_outside_0 rfl (lv_at hl 0 rfl) ?_
  refine lv_iload_n hx hb dX7_outside_1 rfl (lv_at hl 1 rfl) ?_
  refine lv_icmp_ge (tgt := 8) hx hb dX7_outside_2 (by decide) (fun c1 => ?_) (fun c1 => ?_)
  · replace hf := (if_pos c1).symm.trans hf
    refine lv_iload_n hx hb dX7_outside_8 rfl (lv_at hl 0 rfl) ?_
    refine lv_iload_n hx hb dX7_outside_9 rfl (lv_at hl 2 rfl) ?_
    refine lv_icmp_le (tgt := 18) hx hb dX7_outside_10 (by decide) (fun c2 => ?_) (fun c2 => ?_)
    · replace hf := (if_pos c2).symm.trans hf
      refine lv_iconst (v := (0 : Int32)) hx hb dX7_outside_18 (by decide) ?_
      exact hr2 19 ls H locs (0 : Int32) hf dX7_outside_19 hh
    · replace hf := (if_neg c2).symm.trans hf
      refine lv_bipush (v := (-6 : Int32)) hx hb dX7_outside_13 (by decide) ?_
      refine lv_goto (tgt := 19) hx hb dX7_outside_15 (by decide) ?_
      exact hr2 19 ls H locs (-6 : Int32) hf dX7_outside_19 hh
  · replace hf := (if_neg c1).symm.trans hf
    refine lv_bipush (v := (-4 : Int32)) hx hb dX7_outside_5 (by decide) ?_
    exact hr2 7 ls H locs (-4 : Int32) hf dX7_outside_7 hh
theorem hdX7_isOneOfTwo : yX7_isOneOfTwo.cls ≠ "java/lang/invoke/MethodHandle" ∧ yX7_isOneOfTwo.cls ≠ "java/lang/invoke/VarHandle" ∧ (parseMethodDescriptor yX7_isOneOfTwo.desc).map (fun d => d.parameters.length) = some 1 := by decide +kernel
set_option maxHeartbeats 4000000 in
set_option maxRecDepth 100000 in
theorem kX7_isOneOfTwo (l : Launch) (K : zK) (p0 : Int32) (R : Int32) (hf : fX7_isOneOfTwo p0 = R) : zC l yX7_isOneOfTwo wsX7_isOneOfTwo ({ frames := 0, cells := 0, slots := 0, locals := 0 } : Room) K [.int p0] ([]) (some (.int R)) ([]) := by
  refine zC_z .boolean R (cc := cX7_isOneOfTwo) (maxL := 1) (by decide +kernel) rfl (Nat.le_of_ble_eq_true rfl) rfl rfl ?_
  intro p e s m below meth c Q A X hret ls hl hh
  have X : zX p m c cX7_isOneOfTwo 1 s ([.int p0] : List Value).toArray wsX7_isOneOfTwo RX7 K A := X
  have hx := X.1.1
  have hb := X.1.2.1
  have hr2 : ∀ (pc : Nat) (ls : Array Slot) (H : Heap) (locs : List Loc) (v : Int32), v = R → narrow .boolean (.int v) = .int v → decode cX7_isOneOfTwo pc = .ok (.ireturn, 1) → zW K A s H locs ([]) → W p l e ({ frames := 0, cells := 0, slots := 0, locals := 0 } : Room) s m ([.int p0] : List Value).toArray below meth c H locs 0 0 Q (F0 m pc ls [.int v]) := by
    intro pc ls H locs v h hn hd hh
    cases h; exact hret pc ls H locs _ rfl hn hd hh
  have hl : lv_has ls 1 [(0, .int p0)] := hl
  unfold fX7_isOneOfTwo at hf
  refine (fun (hmain : ∀ (H : Heap) (locs : List Loc), zW K A s H locs ([]) → W p l e ({ frames := 0, cells := 0, slots := 0, locals := 0 } : Room) s m ([.int p0] : List Value).toArray below meth c H locs 0 0 Q (F0 m 0 ls [])) => hmain s.heap [] hh) (fun H locs hh => ?_)
  refine lv_iload_n hx hb dX7_isOneOfTwo_0 rfl (lv_at hl 0 rfl) ?_
  refine lv_if_eq (tgt := 9) hx hb dX7_isOneOfTwo_1 (by decide) (fun c1 => ?_) (fun c1 => ?_)
  · replace hf := (if_pos c1).symm.trans hf
    refine lv_iconst (v := (1 : Int32)) hx hb dX7_isOneOfTwo_9 (by decide) ?_
    refine lv_goto (tgt := 14) hx hb dX7_isOneOfTwo_10 (by decide) ?_
    exact hr2 14 ls H locs (1 : Int32) hf rfl dX7_isOneOfTwo_14 hh
  · replace hf := (if_neg c1).symm.trans hf
    refine lv_iload_n hx hb dX7_isOneOfTwo_4 rfl (lv_at hl 0 rfl) ?_
    refine lv_iconst (v := (1 : Int32)) hx hb dX7_isOneOfTwo_5 (by decide) ?_
    refine lv_icmp_ne (tgt := 13) hx hb dX7_isOneOfTwo_6 (by decide) (fun c2 => ?_) (fun c2 => ?_)
    · replace hf := (if_neg c2).symm.trans hf
      refine lv_iconst (v := (0 : Int32)) hx hb dX7_isOneOfTwo_13 (by decide) ?_
      exact hr2 14 ls H locs (0 : Int32) hf rfl dX7_isOneOfTwo_14 hh
    · replace hf := (if_pos c2).symm.trans hf
      refine lv_iconst (v := (1 : Int32)) hx hb dX7_isOneOfTwo_9 (by decide) ?_
      refine lv_goto (tgt := 14) hx hb dX7_isOneOfTwo_10 (by decide) ?_
      exact hr2 14 ls H locs (1 : Int32) hf rfl dX7_isOneOfTwo_14 hh
theorem hdX7_sow : yX7_sow.cls ≠ "java/lang/invoke/MethodHandle" ∧ yX7_sow.cls ≠ "java/lang/invoke/VarHandle" ∧ (parseMethodDescriptor yX7_sow.desc).map (fun d => d.parameters.length) = some 3 := by decide +kernel
set_option maxHeartbeats 4000000 in
set_option maxRecDepth 100000 in
theorem kX7_sow (l : Launch) (K : zK) (a0 a1 a2 a3 a4 a5 a6 a7 : Nat) (S : zSt) (p1 : Int32) (p2 : Int32) (R : zSt) (hf : fX7_sow S p1 p2 = some R) : zC l yX7_sow wsX7_sow ({ frames := 4, cells := 0, slots := 0, locals := 91 } : Room) K [.ref a0, .int p1, .int p2] (cSt K a0 a1 a2 a3 a4 a5 a6 a7 S) none (cSt K a0 a1 a2 a3 a4 a5 a6 a7 R) := by
  refine zC_v (cc := cX7_sow) (maxL := 7) (by decide +kernel) rfl (Nat.le_of_ble_eq_true rfl) rfl rfl ?_
  intro p e s m below meth c Q A X hret ls hl hh
  have X : zX p m c cX7_sow 7 s ([.ref a0, .int p1, .int p2] : List Value).toArray wsX7_sow RX7 K A := X
  have hx := X.1.1
  have hb := X.1.2.1
  have hr2 : ∀ (pc : Nat) (ls : Array Slot) (H : Heap) (locs : List Loc) (S : zSt), some S = some R → decode cX7_sow pc = .ok (.return_, 1) → zW K A s H locs (cSt K a0 a1 a2 a3 a4 a5 a6 a7 S) → W p l e ({ frames := 4, cells := 0, slots := 0, locals := 91 } : Room) s m ([.ref a0, .int p1, .int p2] : List Value).toArray below meth c H locs 0 0 Q (F0 m pc ls []) := by
    intro pc ls H locs S h hd hh
    cases h; exact hret pc ls H locs hd hh
  have hl : lv_has ls 7 [(0, .ref a0), (1, .int p1), (2, .int p2)] := hl
  have hL5 : ∀ (v1 : Int32), ∀ (n : Nat) (v3 : Int32) (v4 : Int32) (S : zSt), ∀ (H : Heap) (locs : List Loc) (ls : Array Slot), fX7_sow_l5 v1 n v3 v4 S = some R → lv_has ls 7 [(0, .ref a0), (1, .int v1), (3, .int v3), (4, .int v4)] → zW K A s H locs (cSt K a0 a1 a2 a3 a4 a5 a6 a7 S) → W p l e ({ frames := 4, cells := 0, slots := 0, locals := 91 } : Room) s m ([.ref a0, .int p1, .int p2] : List Value).toArray below meth c H locs 0 0 Q (F0 m 5 ls []) := by
    intro v1 n
    induction n with
    | zero =>
      intro v3 v4 S H locs ls hf hl hh
      rw [fX7_sow_l5] at hf; cases hf
    | succ n ih =>
      intro v3 v4 S H locs ls hf hl hh
      rw [fX7_sow_l5] at hf
      refine lv_iload hx hb dX7_sow_5 (lv_at hl 3 rfl) ?_
      refine lv_iload_n hx hb dX7_sow_7 rfl (lv_at hl 1 rfl) ?_
      refine lv_icmp_ge (tgt := 58) hx hb dX7_sow_8 (by decide) (fun c1 => ?_) (fun c1 => ?_)
      · replace hf := (if_pos c1).symm.trans hf
        exact hr2 58 ls H locs S hf dX7_sow_58 hh
      · replace hf := (if_neg c1).symm.trans hf
        refine lv_iload_n hx hb dX7_sow_11 rfl (lv_at hl 2 rfl) ?_
        refine zcallS (As := [.int v3]) (rest := []) (wr := cSt K a0 a1 a2 a3 a4 a5 a6 a7 S) (ws' := cSt K a0 a1 a2 a3 a4 a5 a6 a7 S) (ov := some (.int (fX7_nextSeed v3))) X hh hl (kX7_nextSeed l K v3 (fX7_nextSeed v3) rfl) (fun ht => va_cwS 1 ht gX7_sow_X7_nextSeed rfl rfl rfl hdX7_nextSeed ⟨Nat.le_of_ble_eq_true rfl, Nat.le_of_ble_eq_true rfl⟩) [] [0, 1, 2, 3, 4, 5, 6, 7] [0, 1, 2, 3, 4, 5, 6, 7] rfl rfl rfl rfl (by decide) rfl rfl rfl rfl (Nat.le_of_ble_eq_true rfl) dX7_sow_12 ⟨Nat.zero_le _, Nat.zero_le _⟩ (fun H locs hh => ?_)
        refine lv_istore_n (lv' := [(3, .int (fX7_nextSeed v3)), (0, .ref a0), (1, .int v1), (4, .int v4)]) hx hb dX7_sow_15 rfl hl (by decide) rfl (fun ls hl => ?_)
        refine lv_iload_n hx hb dX7_sow_16 rfl (lv_at hl 0 rfl) ?_
        refine lv_aload_n hx hb dX7_sow_17 rfl (lv_at hl 1 rfl) ?_
        refine zcallV (ci := 5) (q0 := 0) (As := []) (rest := [.int (fX7_nextSeed v3)]) (wr := []) (ws' := cSt K a0 a1 a2 a3 a4 a5 a6 a7 S) (ov := some (.int (fX5_cameCount S))) X hh hl (kX5_cameCount l K a0 a1 a2 a3 a4 a5 a6 a7 S (fX5_cameCount S) rfl) (fun ht => cwV 0 ht gX7_sow_X5_cameCount rfl rfl rfl ⟨rfl, hdX5_cameCount⟩ ⟨Nat.le_of_ble_eq_true rfl, Nat.le_of_ble_eq_true rfl⟩) [0, 1, 2, 3, 4, 5, 6, 7] [] [0, 1, 2, 3, 4, 5, 6, 7] rfl rfl rfl rfl (by decide) rfl rfl rfl rfl rfl rfl (Nat.le_of_ble_eq_true rfl) dX7_sow_18 ⟨Nat.zero_le _, Nat.zero_le _⟩ (fun H locs hh => ?_)
        obtain ⟨u4, hu4, hf⟩ := ob_bind hf
        refine zcallS (As := [.int (fX7_nextSeed v3), .int (fX5_cameCount S)]) (rest := []) (wr := cSt K a0 a1 a2 a3 a4 a5 a6 a7 S) (ws' := cSt K a0 a1 a2 a3 a4 a5 a6 a7 S) (ov := some (.int u4)) X hh hl (kX7_draw l K (fX7_nextSeed v3) (fX5_cameCount S) u4 hu4) (fun ht => va_cwS 2 ht gX7_sow_X7_draw rfl rfl rfl hdX7_draw ⟨Nat.le_of_ble_eq_true rfl, Nat.le_of_ble_eq_true rfl⟩) [] [0, 1, 2, 3, 4, 5, 6, 7] [0, 1, 2, 3, 4, 5, 6, 7] rfl rfl rfl rfl (by decide) rfl rfl rfl rfl (Nat.le_of_ble_eq_true rfl) dX7_sow_21 ⟨Nat.zero_le _, Nat.zero_le _⟩ (fun H locs hh => ?_)
        refine lv_istore (lv' := [(5, .int u4), (3, .int (fX7_nextSeed v3)), (0, .ref a0), (1, .int v1), (4, .int v4)]) hx hb dX7_sow_24 hl (by decide) rfl (fun ls hl => ?_)
        refine lv_iload_n hx hb dX7_sow_26 rfl (lv_at hl 1 rfl) ?_
        refine zcallS (As := [.int (fX7_nextSeed v3)]) (rest := []) (wr := cSt K a0 a1 a2 a3 a4 a5 a6 a7 S) (ws' := cSt K a0 a1 a2 a3 a4 a5 a6 a7 S) (ov := some (.int (fX7_nextSeed (fX7_nextSeed v3)))) X hh hl (kX7_nextSeed l K (fX7_nextSeed v3) (fX7_nextSeed (fX7_nextSeed v3)) rfl) (fun ht => va_cwS 1 ht gX7_sow_X7_nextSeed rfl rfl rfl hdX7_nextSeed ⟨Nat.le_of_ble_eq_true rfl, Nat.le_of_ble_eq_true rfl⟩) [] [0, 1, 2, 3, 4, 5, 6, 7] [0, 1, 2, 3, 4, 5, 6, 7] rfl rfl rfl rfl (by decide) rfl rfl rfl rfl (Nat.le_of_ble_eq_true rfl) dX7_sow_27 ⟨Nat.zero_le _, Nat.zero_le _⟩ (fun H locs hh => ?_)
        refine lv_istore_n (lv' := [(3, .int (fX7_nextSeed (fX7_nextSeed v3))), (5, .int u4), (0, .ref a0), (1, .int v1), (4, .int v4)]) hx hb dX7_sow_30 rfl hl (by decide) rfl (fun ls hl => ?_)
        refine lv_iload_n hx hb dX7_sow_31 rfl (lv_at hl 0 rfl) ?_
        refine lv_aload_n hx hb dX7_sow_32 rfl (lv_at hl 2 rfl) ?_
        refine zcallV (ci := 5) (q0 := 0) (As := []) (rest := [.int (fX7_nextSeed (fX7_nextSeed v3))]) (wr := []) (ws' := cSt K a0 a1 a2 a3 a4 a5 a6 a7 S) (ov := some (.int (fX5_cameCount S))) X hh hl (kX5_cameCount l K a0 a1 a2 a3 a4 a5 a6 a7 S (fX5_cameCount S) rfl) (fun ht => cwV 0 ht gX7_sow_X5_cameCount rfl rfl rfl ⟨rfl, hdX5_cameCount⟩ ⟨Nat.le_of_ble_eq_true rfl, Nat.le_of_ble_eq_true rfl⟩) [0, 1, 2, 3, 4, 5, 6, 7] [] [0, 1, 2, 3, 4, 5, 6, 7] rfl rfl rfl rfl (by decide) rfl rfl rfl rfl rfl rfl (Nat.le_of_ble_eq_true rfl) dX7_sow_33 ⟨Nat.zero_le _, Nat.zero_le _⟩ (fun H locs hh => ?_)
        obtain ⟨u7, hu7, hf⟩ := ob_bind hf
        refine zcallS (As := [.int (fX7_nextSeed (fX7_nextSeed v3)), .int (fX5_cameCount S)]) (rest := []) (wr := cSt K a0 a1 a2 a3 a4 a5 a6 a7 S) (ws' := cSt K a0 a1 a2 a3 a4 a5 a6 a7 S) (ov := some (.int u7)) X hh hl (kX7_draw l K (fX7_nextSeed (fX7_nextSeed v3)) (fX5_cameCount S) u7 hu7) (fun ht => va_cwS 2 ht gX7_sow_X7_draw rfl rfl rfl hdX7_draw ⟨Nat.le_of_ble_eq_true rfl, Nat.le_of_ble_eq_true rfl⟩) [] [0, 1, 2, 3, 4, 5, 6, 7] [0, 1, 2, 3, 4, 5, 6, 7] rfl rfl rfl rfl (by decide) rfl rfl rfl rfl (Nat.le_of_ble_eq_true rfl) dX7_sow_36 ⟨Nat.zero_le _, Nat.zero_le _⟩ (fun H locs hh => ?_)
        refine lv_istore (lv' := [(6, .int u7), (3, .int (fX7_nextSeed (fX7_nextSeed v3))), (5, .int u4), (0, .ref a0), (1, .int v1), (4, .int v4)]) hx hb dX7_sow_39 hl (by decide) rfl (fun ls hl => ?_)
        refine lv_aload_n hx hb dX7_sow_41 rfl (lv_at hl 3 rfl) ?_
        refine lv_iload hx hb dX7_sow_42 (lv_at hl 2 rfl) ?_
        refine lv_iload hx hb dX7_sow_44 (lv_at hl 0 rfl) ?_
        refine lv_iconst (v := (0 : Int32)) hx hb dX7_sow_46 (by decide) ?_
        refine lv_iconst (v := (0 : Int32)) hx hb dX7_sow_47 (by decide) ?_
        obtain ⟨u8, hu8, hf⟩ := ob_bind hf
        refine zcallV (ci := 5) (q0 := 0) (As := [.int u4, .int u7, .int (0 : Int32), .int (0 : Int32)]) (rest := []) (wr := []) (ws' := cSt K a0 a1 a2 a3 a4 a5 a6 a7 u8.2) (ov := some (.int u8.1)) X hh hl (kX5_build l K a0 a1 a2 a3 a4 a5 a6 a7 S u4 u7 (0 : Int32) (0 : Int32) u8 hu8) (fun ht => cwV 4 ht gX7_sow_X5_build rfl rfl rfl ⟨rfl, hdX5_build⟩ ⟨Nat.le_of_ble_eq_true rfl, Nat.le_of_ble_eq_true rfl⟩) [0, 1, 2, 3, 4, 5, 6, 7] [] [0, 1, 2, 3, 4, 5, 6, 7] rfl rfl rfl rfl (by decide) rfl rfl rfl rfl rfl rfl (Nat.le_of_ble_eq_true rfl) dX7_sow_48 ⟨Nat.zero_le _, Nat.zero_le _⟩ (fun H locs hh => ?_)
        refine lv_pop hx hb dX7_sow_51 rfl ?_
        refine lv_iinc (v := (v4 + (1 : Int32))) (lv' := [(4, .int (v4 + (1 : Int32))), (6, .int u7), (3, .int (fX7_nextSeed (fX7_nextSeed v3))), (5, .int u4), (0, .ref a0), (1, .int v1)]) hx hb dX7_sow_52 hl (k := 5) rfl rfl (by decide) rfl (fun ls hl => ?_)
        refine lv_goto (tgt := 5) hx hb dX7_sow_55 (by decide) ?_
        exact ih (fX7_nextSeed (fX7_nextSeed v3)) (v4 + (1 : Int32)) u8.2 H locs ls hf (lv_sub hl [4, 5, 2, 0] rfl) hh
  unfold fX7_sow at hf
  refine (fun (hmain : ∀ (H : Heap) (locs : List Loc), zW K A s H locs (cSt K a0 a1 a2 a3 a4 a5 a6 a7 S) → W p l e ({ frames := 4, cells := 0, slots := 0, locals := 91 } : Room) s m ([.ref a0, .int p1, .int p2] : List Value).toArray below meth c H locs 0 0 Q (F0 m 0 ls [])) => hmain s.heap [] hh) (fun H locs hh => ?_)
  refine lv_iload_n hx hb dX7_sow_0 rfl (lv_at hl 2 rfl) ?_
  refine lv_istore_n (lv' := [(3, .int p2), (0, .ref a0), (1, .int p1), (2, .int p2)]) hx hb dX7_sow_1 rfl hl (by decide) rfl (fun ls hl => ?_)
  refine lv_iconst (v := (0 : Int32)) hx hb dX7_sow_2 (by decide) ?_
  refine lv_istore (lv' := [(4, .int (0 : Int32)), (3, .int p2), (0, .ref a0), (1, .int p1), (2, .int p2)]) hx hb dX7_sow_3 hl (by decide) rfl (fun ls hl => ?_)
  exact hL5 p1 FU p2 (0 : Int32) S H locs ls hf (lv_sub hl [2, 3, 1, 0] rfl) hh
theorem inX7_refuse_X7 : ∀ w ∈ wsX70, w ∈ wsX7_refuse := by decide +kernel
theorem mmX7_refuse_0 : Cond.fieldLink RX7 57 "SumOfTwoThatStand" "refusals" "[I" ∈ wsX7_refuse := by decide +kernel
theorem hdX7_refuse : yX7_refuse.cls ≠ "java/lang/invoke/MethodHandle" ∧ yX7_refuse.cls ≠ "java/lang/invoke/VarHandle" ∧ (parseMethodDescriptor yX7_refuse.desc).map (fun d => d.parameters.length) = some 1 := by decide +kernel
set_option maxHeartbeats 4000000 in
set_option maxRecDepth 100000 in
theorem kX7_refuse (l : Launch) (K : zK) (a0 a1 a2 a3 a4 a5 a6 a7 a8 a9 a10 a11 a12 a13 a14 a15 a16 a17 a18 a19 a20 a21 a22 a23 a24 a25 a26 a27 a28 a29 a30 a31 a32 a33 a34 a35 a36 : Nat) (S : zMn) (p1 : Int32) (R : Int32 × zMn) (hf : fX7_refuse S p1 = some R) : zC l yX7_refuse wsX7_refuse ({ frames := 0, cells := 0, slots := 0, locals := 0 } : Room) K [.ref a0, .int p1] (cMn K a0 a1 a2 a3 a4 a5 a6 a7 a8 a9 a10 a11 a12 a13 a14 a15 a16 a17 a18 a19 a20 a21 a22 a23 a24 a25 a26 a27 a28 a29 a30 a31 a32 a33 a34 a35 a36 S) (some (.int R.1)) (cMn K a0 a1 a2 a3 a4 a5 a6 a7 a8 a9 a10 a11 a12 a13 a14 a15 a16 a17 a18 a19 a20 a21 a22 a23 a24 a25 a26 a27 a28 a29 a30 a31 a32 a33 a34 a35 a36 R.2) := by
  refine zC_i R.1 (cc := cX7_refuse) (maxL := 2) (by decide +kernel) rfl (Nat.le_of_ble_eq_true rfl) rfl rfl ?_
  intro p e s m below meth c Q A X hret ls hl hh
  have X : zX p m c cX7_refuse 2 s ([.ref a0, .int p1] : List Value).toArray wsX7_refuse RX7 K A := X
  have hx := X.1.1
  have hb := X.1.2.1
  have hr2 : ∀ (pc : Nat) (ls : Array Slot) (H : Heap) (locs : List Loc) (v : Int32) (S : zMn), some (v, S) = some R → decode cX7_refuse pc = .ok (.ireturn, 1) → zW K A s H locs (cMn K a0 a1 a2 a3 a4 a5 a6 a7 a8 a9 a10 a11 a12 a13 a14 a15 a16 a17 a18 a19 a20 a21 a22 a23 a24 a25 a26 a27 a28 a29 a30 a31 a32 a33 a34 a35 a36 S) → W p l e ({ frames := 0, cells := 0, slots := 0, locals := 0 } : Room) s m ([.ref a0, .int p1] : List Value).toArray below meth c H locs 0 0 Q (F0 m pc ls [.int v]) := by
    intro pc ls H locs v S h hd hh
    cases h; exact hret pc ls H locs _ rfl hd hh
  have hl : lv_has ls 2 [(0, .ref a0), (1, .int p1)] := hl
  unfold fX7_refuse at hf
  refine (fun (hmain : ∀ (H : Heap) (locs : List Loc), zW K A s H locs (cMn K a0 a1 a2 a3 a4 a5 a6 a7 a8 a9 a10 a11 a12 a13 a14 a15 a16 a17 a18 a19 a20 a21 a22 a23 a24 a25 a26 a27 a28 a29 a30 a31 a32 a33 a34 a35 a36 S) → W p l e ({ frames := 0, cells := 0, slots := 0, locals := 0 } : Room) s m ([.ref a0, .int p1] : List Value).toArray below meth c H locs 0 0 Q (F0 m 0 ls [])) => hmain s.heap [] hh) (fun H locs hh => ?_)
  refine lv_iload_n hx hb dX7_refuse_0 rfl (lv_at hl 1 rfl) ?_
  refine lv_if_ge (tgt := 25) hx hb dX7_refuse_1 (by decide) (fun c1 => ?_) (fun c1 => ?_)
  · replace hf := (if_pos c1).symm.trans hf
    refine lv_iload_n hx hb dX7_refuse_25 rfl (lv_at hl 1 rfl) ?_
    exact hr2 26 ls H locs p1 S hf dX7_refuse_26 hh
  · replace hf := (if_neg c1).symm.trans hf
    refine lv_iload_n hx hb dX7_refuse_4 rfl (lv_at hl 1 rfl) ?_
    refine lv_aload_n hx hb dX7_refuse_5 rfl (lv_at hl 0 rfl) ?_
    refine zget (v := .ref a36) (ref := "SumOfTwoThatStand") (C := RX7) (T := TX7) (N := 10) (index := 57) X hh inX7_refuse_X7 0 rfl rfl 8 (by decide) mmX7_refuse_0 rfl rfl dX7_refuse_6 ?_
    refine zalenI (v := (7 : Int32)) X hh 36 rfl rfl dX7_refuse_9 ?_
    refine lv_ineg hx hb dX7_refuse_10 ?_
    refine lv_icmp_le (tgt := 25) hx hb dX7_refuse_11 (by decide) (fun c2 => ?_) (fun c2 => ?_)
    · replace hf := (if_pos c2).symm.trans hf
      refine lv_iload_n hx hb dX7_refuse_25 rfl (lv_at hl 1 rfl) ?_
      exact hr2 26 ls H locs p1 S hf dX7_refuse_26 hh
    · replace hf := (if_neg c2).symm.trans hf
      refine lv_aload_n hx hb dX7_refuse_14 rfl (lv_at hl 0 rfl) ?_
      refine zget (v := .ref a36) (ref := "SumOfTwoThatStand") (C := RX7) (T := TX7) (N := 10) (index := 57) X hh inX7_refuse_X7 0 rfl rfl 8 (by decide) mmX7_refuse_0 rfl rfl dX7_refuse_15 ?_
      refine lv_iload_n hx hb dX7_refuse_18 rfl (lv_at hl 1 rfl) ?_
      refine lv_ineg hx hb dX7_refuse_19 ?_
      refine lv_dup2_11 hx hb dX7_refuse_20 rfl rfl ?_
      obtain ⟨g3, hf⟩ := ob_ix hf
      refine ziald (f := (mn_refusals S)) X hh 36 rfl g3 dX7_refuse_21 ?_
      refine lv_iconst (v := (1 : Int32)) hx hb dX7_refuse_22 (by decide) ?_
      refine lv_iadd hx hb dX7_refuse_23 ?_
      refine ziast (f := (mn_refusals S)) X hh 36 rfl g3 dX7_refuse_24 (fun H locs hh => ?_)
      have hh : zW K A s H locs (cMn K a0 a1 a2 a3 a4 a5 a6 a7 a8 a9 a10 a11 a12 a13 a14 a15 a16 a17 a18 a19 a20 a21 a22 a23 a24 a25 a26 a27 a28 a29 a30 a31 a32 a33 a34 a35 a36 (mn_set_refusals S (upd (mn_refusals S) (-p1).toNatClampNeg (((mn_refusals S) (-p1).toNatClampNeg) + (1 : Int32))))) := hh
      refine lv_iload_n hx hb dX7_refuse_25 rfl (lv_at hl 1 rfl) ?_
      exact hr2 26 ls H locs p1 (mn_set_refusals S (upd (mn_refusals S) (-p1).toNatClampNeg (((mn_refusals S) (-p1).toNatClampNeg) + (1 : Int32)))) hf dX7_refuse_26 hh
theorem inX7_comesNextButOne_X7 : ∀ w ∈ wsX70, w ∈ wsX7_comesNextButOne := by decide +kernel
theorem mmX7_comesNextButOne_0 : Cond.fieldLink RX7 10 "SumOfTwoThatStand" "live" "LSumOfTwoThatStand$Street;" ∈ wsX7_comesNextButOne := by decide +kernel
theorem mmX7_comesNextButOne_1 : Cond.fieldLink RX7 19 "SumOfTwoThatStand" "mind" "LSumOfTwoThatStand$Street;" ∈ wsX7_comesNextButOne := by decide +kernel
theorem hdX7_comesNextButOne : yX7_comesNextButOne.cls ≠ "java/lang/invoke/MethodHandle" ∧ yX7_comesNextButOne.cls ≠ "java/lang/invoke/VarHandle" ∧ (parseMethodDescriptor yX7_comesNextButOne.desc).map (fun d => d.parameters.length) = some 1 := by decide +kernel
set_option maxHeartbeats 4000000 in
set_option maxRecDepth 100000 in
theorem kX7_comesNextButOne (l : Launch) (K : zK) (a0 a1 a2 a3 a4 a5 a6 a7 a8 a9 a10 a11 a12 a13 a14 a15 a16 a17 a18 a19 a20 a21 a22 a23 a24 a25 a26 a27 a28 a29 a30 a31 a32 a33 a34 a35 a36 : Nat) (S : zMn) (p1 : Int32) (R : Int32 × zMn) (hf : fX7_comesNextButOne S p1 = some R) : zC l yX7_comesNextButOne wsX7_comesNextButOne ({ frames := 4, cells := 0, slots := 0, locals := 91 } : Room) K [.ref a0, .int p1] (cMn K a0 a1 a2 a3 a4 a5 a6 a7 a8 a9 a10 a11 a12 a13 a14 a15 a16 a17 a18 a19 a20 a21 a22 a23 a24 a25 a26 a27 a28 a29 a30 a31 a32 a33 a34 a35 a36 S) (some (.int R.1)) (cMn K a0 a1 a2 a3 a4 a5 a6 a7 a8 a9 a10 a11 a12 a13 a14 a15 a16 a17 a18 a19 a20 a21 a22 a23 a24 a25 a26 a27 a28 a29 a30 a31 a32 a33 a34 a35 a36 R.2) := by
  refine zC_z .boolean R.1 (cc := cX7_comesNextButOne) (maxL := 4) (by decide +kernel) rfl (Nat.le_of_ble_eq_true rfl) rfl rfl ?_
  intro p e s m below meth c Q A X hret ls hl hh
  have X : zX p m c cX7_comesNextButOne 4 s ([.ref a0, .int p1] : List Value).toArray wsX7_comesNextButOne RX7 K A := X
  have hx := X.1.1
  have hb := X.1.2.1
  have hr2 : ∀ (pc : Nat) (ls : Array Slot) (H : Heap) (locs : List Loc) (v : Int32) (S : zMn), some (v, S) = some R → narrow .boolean (.int v) = .int v → decode cX7_comesNextButOne pc = .ok (.ireturn, 1) → zW K A s H locs (cMn K a0 a1 a2 a3 a4 a5 a6 a7 a8 a9 a10 a11 a12 a13 a14 a15 a16 a17 a18 a19 a20 a21 a22 a23 a24 a25 a26 a27 a28 a29 a30 a31 a32 a33 a34 a35 a36 S) → W p l e ({ frames := 4, cells := 0, slots := 0, locals := 91 } : Room) s m ([.ref a0, .int p1] : List Value).toArray below meth c H locs 0 0 Q (F0 m pc ls [.int v]) := by
    intro pc ls H locs v S h hn hd hh
    cases h; exact hret pc ls H locs _ rfl hn hd hh
  have hl : lv_has ls 4 [(0, .ref a0), (1, .int p1)] := hl
  have hL15 : ∀ (v1 : Int32) (v2 : Int32) (k2 : (Int32) → (zMn) → Option (Int32 × zMn)), (∀ (v2 : Int32) (S : zMn) (H : Heap) (locs : List Loc) (ls : Array Slot), k2 v2 S = some R → lv_has ls 4 [(0, .ref a0), (1, .int v1), (2, .int v2)] → zW K A s H locs (cMn K a0 a1 a2 a3 a4 a5 a6 a7 a8 a9 a10 a11 a12 a13 a14 a15 a16 a17 a18 a19 a20 a21 a22 a23 a24 a25 a26 a27 a28 a29 a30 a31 a32 a33 a34 a35 a36 S) → W p l e ({ frames := 4, cells := 0, slots := 0, locals := 91 } : Room) s m ([.ref a0, .int p1] : List Value).toArray below meth c H locs 0 0 Q (F0 m 2 ls [])) → ∀ (n : Nat) (v3 : Int32) (S : zMn), ∀ (H : Heap) (locs : List Loc) (ls : Array Slot), fX7_comesNextButOne_l15 v1 v2 k2 n v3 S = some R → lv_has ls 4 [(0, .ref a0), (1, .int v1), (2, .int v2), (3, .int v3)] → zW K A s H locs (cMn K a0 a1 a2 a3 a4 a5 a6 a7 a8 a9 a10 a11 a12 a13 a14 a15 a16 a17 a18 a19 a20 a21 a22 a23 a24 a25 a26 a27 a28 a29 a30 a31 a32 a33 a34 a35 a36 S) → W p l e ({ frames := 4, cells := 0, slots := 0, locals := 91 } : Room) s m ([.ref a0, .int p1] : List Value).toArray below meth c H locs 0 0 Q (F0 m 15 ls []) := by
    intro v1 v2 k2 hk2 n
    induction n with
    | zero =>
      intro v3 S H locs ls hf hl hh
      rw [fX7_comesNextButOne_l15] at hf; cases hf
    | succ n ih =>
      intro v3 S H locs ls hf hl hh
      rw [fX7_comesNextButOne_l15] at hf
      refine lv_iload_n hx hb dX7_comesNextButOne_15 rfl (lv_at hl 3 rfl) ?_
      refine lv_aload_n hx hb dX7_comesNextButOne_16 rfl (lv_at hl 0 rfl) ?_
      refine zget (v := .ref a1) (ref := "SumOfTwoThatStand") (C := RX7) (T := TX7) (N := 10) (index := 10) X hh inX7_comesNextButOne_X7 0 rfl rfl 0 (by decide) mmX7_comesNextButOne_0 rfl rfl dX7_comesNextButOne_17 ?_
      refine zcallV (ci := 5) (q0 := 1) (As := []) (rest := [.int v3]) (wr := zsel (cMn K a0 a1 a2 a3 a4 a5 a6 a7 a8 a9 a10 a11 a12 a13 a14 a15 a16 a17 a18 a19 a20 a21 a22 a23 a24 a25 a26 a27 a28 a29 a30 a31 a32 a33 a34 a35 a36 S) [0, 9, 10, 11, 12, 13, 14, 15, 16, 17, 18, 19, 20, 21, 22, 23, 24, 25, 26, 27, 28, 29, 30, 31, 32, 33, 34, 35, 36]) (ws' := cMn K a0 a1 a2 a3 a4 a5 a6 a7 a8 a9 a10 a11 a12 a13 a14 a15 a16 a17 a18 a19 a20 a21 a22 a23 a24 a25 a26 a27 a28 a29 a30 a31 a32 a33 a34 a35 a36 S) (ov := some (.int (fX5_cameCount (mn_live S)))) X hh hl (kX5_cameCount l K a1 a2 a3 a4 a5 a6 a7 a8 (mn_live S) (fX5_cameCount (mn_live S)) rfl) (fun ht => cwV 0 ht gX7_comesNextButOne_X5_cameCount rfl rfl rfl ⟨rfl, hdX5_cameCount⟩ ⟨Nat.le_of_ble_eq_true rfl, Nat.le_of_ble_eq_true rfl⟩) [1, 2, 3, 4, 5, 6, 7, 8] [0, 9, 10, 11, 12, 13, 14, 15, 16, 17, 18, 19, 20, 21, 22, 23, 24, 25, 26, 27, 28, 29, 30, 31, 32, 33, 34, 35, 36] [0, 29, 30, 31, 32, 33, 34, 35, 36, 1, 2, 3, 4, 5, 6, 7, 8, 9, 10, 11, 12, 13, 14, 15, 16, 17, 18, 19, 20, 21, 22, 23, 24, 25, 26, 27, 28] rfl rfl rfl rfl (by decide) rfl rfl rfl rfl rfl rfl (Nat.le_of_ble_eq_true rfl) dX7_comesNextButOne_20 ⟨Nat.zero_le _, Nat.zero_le _⟩ (fun H locs hh => ?_)
      refine lv_icmp_ge (tgt := 70) hx hb dX7_comesNextButOne_23 (by decide) (fun c2 => ?_) (fun c2 => ?_)
      · replace hf := (if_pos c2).symm.trans hf
        refine lv_iinc (v := (v2 + (1 : Int32))) (lv' := [(2, .int (v2 + (1 : Int32))), (0, .ref a0), (1, .int v1), (3, .int v3)]) hx hb dX7_comesNextButOne_70 hl (k := 2) rfl rfl (by decide) rfl (fun ls hl => ?_)
        refine lv_goto (tgt := 2) hx hb dX7_comesNextButOne_73 (by decide) ?_
        exact hk2 (v2 + (1 : Int32)) S H locs ls hf (lv_sub hl [1, 2, 0] rfl) hh
      · replace hf := (if_neg c2).symm.trans hf
        refine lv_aload_n hx hb dX7_comesNextButOne_26 rfl (lv_at hl 0 rfl) ?_
        refine zget (v := .ref a17) (ref := "SumOfTwoThatStand") (C := RX7) (T := TX7) (N := 10) (index := 19) X hh inX7_comesNextButOne_X7 0 rfl rfl 2 (by decide) mmX7_comesNextButOne_1 rfl rfl dX7_comesNextButOne_27 ?_
        refine lv_aload_n hx hb dX7_comesNextButOne_30 rfl (lv_at hl 0 rfl) ?_
        refine zget (v := .ref a1) (ref := "SumOfTwoThatStand") (C := RX7) (T := TX7) (N := 10) (index := 10) X hh inX7_comesNextButOne_X7 0 rfl rfl 0 (by decide) mmX7_comesNextButOne_0 rfl rfl dX7_comesNextButOne_31 ?_
        refine zcallV (ci := 5) (q0 := 17) (As := [.ref a1]) (rest := []) (wr := zsel (cMn K a0 a1 a2 a3 a4 a5 a6 a7 a8 a9 a10 a11 a12 a13 a14 a15 a16 a17 a18 a19 a20 a21 a22 a23 a24 a25 a26 a27 a28 a29 a30 a31 a32 a33 a34 a35 a36 S) [0, 9, 10, 11, 12, 13, 14, 15, 16, 25, 26, 27, 28, 29, 30, 31, 32, 33, 34, 35, 36]) (ws' := cMn K a0 a1 a2 a3 a4 a5 a6 a7 a8 a9 a10 a11 a12 a13 a14 a15 a16 a17 a18 a19 a20 a21 a22 a23 a24 a25 a26 a27 a28 a29 a30 a31 a32 a33 a34 a35 a36 (mn_set_mind S (fX5_become (mn_mind S) (mn_live S)))) (ov := none) X hh hl (kX5_become l K a17 a18 a19 a20 a21 a22 a23 a24 a1 a2 a3 a4 a5 a6 a7 a8 (mn_mind S) (mn_live S) (fX5_become (mn_mind S) (mn_live S)) rfl) (fun ht => cwV 1 ht gX7_comesNextButOne_X5_become rfl rfl rfl ⟨rfl, hdX5_become⟩ ⟨Nat.le_of_ble_eq_true rfl, Nat.le_of_ble_eq_true rfl⟩) [17, 18, 19, 20, 21, 22, 23, 24, 1, 2, 3, 4, 5, 6, 7, 8] [0, 9, 10, 11, 12, 13, 14, 15, 16, 25, 26, 27, 28, 29, 30, 31, 32, 33, 34, 35, 36] [0, 29, 30, 31, 32, 33, 34, 35, 36, 1, 2, 3, 4, 5, 6, 7, 8, 21, 22, 23, 24, 25, 26, 27, 28, 9, 10, 11, 12, 13, 14, 15, 16, 17, 18, 19, 20] rfl rfl rfl rfl (by decide) rfl rfl rfl rfl rfl rfl (Nat.le_of_ble_eq_true rfl) dX7_comesNextButOne_34 ⟨Nat.zero_le _, Nat.zero_le _⟩ (fun H locs hh => ?_)
        refine lv_aload_n hx hb dX7_comesNextButOne_37 rfl (lv_at hl 0 rfl) ?_
        refine zget (v := .ref a17) (ref := "SumOfTwoThatStand") (C := RX7) (T := TX7) (N := 10) (index := 19) X hh inX7_comesNextButOne_X7 0 rfl rfl 2 (by decide) mmX7_comesNextButOne_1 rfl rfl dX7_comesNextButOne_38 ?_
        refine lv_iload_n hx hb dX7_comesNextButOne_41 rfl (lv_at hl 2 rfl) ?_
        refine lv_iload_n hx hb dX7_comesNextButOne_42 rfl (lv_at hl 3 rfl) ?_
        refine lv_iconst (v := (0 : Int32)) hx hb dX7_comesNextButOne_43 (by decide) ?_
        refine lv_iconst (v := (0 : Int32)) hx hb dX7_comesNextButOne_44 (by decide) ?_
        obtain ⟨u4, hu4, hf⟩ := ob_bind hf
        refine zcallV (ci := 5) (q0 := 17) (As := [.int v2, .int v3, .int (0 : Int32), .int (0 : Int32)]) (rest := []) (wr := zsel (cMn K a0 a1 a2 a3 a4 a5 a6 a7 a8 a9 a10 a11 a12 a13 a14 a15 a16 a17 a18 a19 a20 a21 a22 a23 a24 a25 a26 a27 a28 a29 a30 a31 a32 a33 a34 a35 a36 (mn_set_mind S (fX5_become (mn_mind S) (mn_live S)))) [0, 1, 2, 3, 4, 5, 6, 7, 8, 9, 10, 11, 12, 13, 14, 15, 16, 25, 26, 27, 28, 29, 30, 31, 32, 33, 34, 35, 36]) (ws' := cMn K a0 a1 a2 a3 a4 a5 a6 a7 a8 a9 a10 a11 a12 a13 a14 a15 a16 a17 a18 a19 a20 a21 a22 a23 a24 a25 a26 a27 a28 a29 a30 a31 a32 a33 a34 a35 a36 (mn_set_mind S u4.2)) (ov := some (.int u4.1)) X hh hl (kX5_build l K a17 a18 a19 a20 a21 a22 a23 a24 (fX5_become (mn_mind S) (mn_live S)) v2 v3 (0 : Int32) (0 : Int32) u4 hu4) (fun ht => cwV 4 ht gX7_comesNextButOne_X5_build rfl rfl rfl ⟨rfl, hdX5_build⟩ ⟨Nat.le_of_ble_eq_true rfl, Nat.le_of_ble_eq_true rfl⟩) [17, 18, 19, 20, 21, 22, 23, 24] [0, 1, 2, 3, 4, 5, 6, 7, 8, 9, 10, 11, 12, 13, 14, 15, 16, 25, 26, 27, 28, 29, 30, 31, 32, 33, 34, 35, 36] [0, 1, 2, 3, 4, 5, 6, 7, 8, 9, 10, 11, 12, 13, 14, 15, 16, 29, 30, 31, 32, 33, 34, 35, 36, 17, 18, 19, 20, 21, 22, 23, 24, 25, 26, 27, 28] rfl rfl rfl rfl (by decide) rfl rfl rfl rfl rfl rfl (Nat.le_of_ble_eq_true rfl) dX7_comesNextButOne_45 ⟨Nat.zero_le _, Nat.zero_le _⟩ (fun H locs hh => ?_)
        refine lv_if_eq (tgt := 64) hx hb dX7_comesNextButOne_48 (by decide) (fun c5 => ?_) (fun c5 => ?_)
        · replace hf := (if_pos c5).symm.trans hf
          refine lv_iinc (v := (v3 + (1 : Int32))) (lv' := [(3, .int (v3 + (1 : Int32))), (0, .ref a0), (1, .int v1), (2, .int v2)]) hx hb dX7_comesNextButOne_64 hl (k := 3) rfl rfl (by decide) rfl (fun ls hl => ?_)
          refine lv_goto (tgt := 15) hx hb dX7_comesNextButOne_67 (by decide) ?_
          exact ih (v3 + (1 : Int32)) (mn_set_mind S u4.2) H locs ls hf (lv_sub hl [1, 2, 3, 0] rfl) hh
        · replace hf := (if_neg c5).symm.trans hf
          refine lv_aload_n hx hb dX7_comesNextButOne_51 rfl (lv_at hl 0 rfl) ?_
          refine zget (v := .ref a17) (ref := "SumOfTwoThatStand") (C := RX7) (T := TX7) (N := 10) (index := 19) X hh inX7_comesNextButOne_X7 0 rfl rfl 2 (by decide) mmX7_comesNextButOne_1 rfl rfl dX7_comesNextButOne_52 ?_
          refine lv_iload_n hx hb dX7_comesNextButOne_55 rfl (lv_at hl 1 rfl) ?_
          obtain ⟨u6, hu6, hf⟩ := ob_bind hf
          refine zcallV (ci := 5) (q0 := 17) (As := [.int v1]) (rest := []) (wr := zsel (cMn K a0 a1 a2 a3 a4 a5 a6 a7 a8 a9 a10 a11 a12 a13 a14 a15 a16 a17 a18 a19 a20 a21 a22 a23 a24 a25 a26 a27 a28 a29 a30 a31 a32 a33 a34 a35 a36 (mn_set_mind S u4.2)) [0, 1, 2, 3, 4, 5, 6, 7, 8, 9, 10, 11, 12, 13, 14, 15, 16, 25, 26, 27, 28, 29, 30, 31, 32, 33, 34, 35, 36]) (ws' := cMn K a0 a1 a2 a3 a4 a5 a6 a7 a8 a9 a10 a11 a12 a13 a14 a15 a16 a17 a18 a19 a20 a21 a22 a23 a24 a25 a26 a27 a28 a29 a30 a31 a32 a33 a34 a35 a36 (mn_set_mind S u4.2)) (ov := some (.int u6)) X hh hl (kX5_comesNext l K a17 a18 a19 a20 a21 a22 a23 a24 u4.2 v1 u6 hu6) (fun ht => cwV 1 ht gX7_comesNextButOne_X5_comesNext rfl rfl rfl ⟨rfl, hdX5_comesNext⟩ ⟨Nat.le_of_ble_eq_true rfl, Nat.le_of_ble_eq_true rfl⟩) [17, 18, 19, 20, 21, 22, 23, 24] [0, 1, 2, 3, 4, 5, 6, 7, 8, 9, 10, 11, 12, 13, 14, 15, 16, 25, 26, 27, 28, 29, 30, 31, 32, 33, 34, 35, 36] [0, 1, 2, 3, 4, 5, 6, 7, 8, 9, 10, 11, 12, 13, 14, 15, 16, 29, 30, 31, 32, 33, 34, 35, 36, 17, 18, 19, 20, 21, 22, 23, 24, 25, 26, 27, 28] rfl rfl rfl rfl (by decide) rfl rfl rfl rfl rfl rfl (Nat.le_of_ble_eq_true rfl) dX7_comesNextButOne_56 ⟨Nat.zero_le _, Nat.zero_le _⟩ (fun H locs hh => ?_)
          refine lv_if_eq (tgt := 64) hx hb dX7_comesNextButOne_59 (by decide) (fun c7 => ?_) (fun c7 => ?_)
          · replace hf := (if_pos c7).symm.trans hf
            refine lv_iinc (v := (v3 + (1 : Int32))) (lv' := [(3, .int (v3 + (1 : Int32))), (0, .ref a0), (1, .int v1), (2, .int v2)]) hx hb dX7_comesNextButOne_64 hl (k := 3) rfl rfl (by decide) rfl (fun ls hl => ?_)
            refine lv_goto (tgt := 15) hx hb dX7_comesNextButOne_67 (by decide) ?_
            exact ih (v3 + (1 : Int32)) (mn_set_mind S u4.2) H locs ls hf (lv_sub hl [1, 2, 3, 0] rfl) hh
          · replace hf := (if_neg c7).symm.trans hf
            refine lv_iconst (v := (1 : Int32)) hx hb dX7_comesNextButOne_62 (by decide) ?_
            exact hr2 63 ls H locs (1 : Int32) (mn_set_mind S u4.2) hf rfl dX7_comesNextButOne_63 hh
  have hL2 : ∀ (v1 : Int32), ∀ (n : Nat) (v2 : Int32) (S : zMn), ∀ (H : Heap) (locs : List Loc) (ls : Array Slot), fX7_comesNextButOne_l2 v1 n v2 S = some R → lv_has ls 4 [(0, .ref a0), (1, .int v1), (2, .int v2)] → zW K A s H locs (cMn K a0 a1 a2 a3 a4 a5 a6 a7 a8 a9 a10 a11 a12 a13 a14 a15 a16 a17 a18 a19 a20 a21 a22 a23 a24 a25 a26 a27 a28 a29 a30 a31 a32 a33 a34 a35 a36 S) → W p l e ({ frames := 4, cells := 0, slots := 0, locals := 91 } : Room) s m ([.ref a0, .int p1] : List Value).toArray below meth c H locs 0 0 Q (F0 m 2 ls []) := by
    intro v1 n
    induction n with
    | zero =>
      intro v2 S H locs ls hf hl hh
      rw [fX7_comesNextButOne_l2] at hf; cases hf
    | succ n ih =>
      intro v2 S H locs ls hf hl hh
      rw [fX7_comesNextButOne_l2] at hf
      refine lv_iload_n hx hb dX7_comesNextButOne_2 rfl (lv_at hl 2 rfl) ?_
      refine lv_aload_n hx hb dX7_comesNextButOne_3 rfl (lv_at hl 0 rfl) ?_
      refine zget (v := .ref a1) (ref := "SumOfTwoThatStand") (C := RX7) (T := TX7) (N := 10) (index := 10) X hh inX7_comesNextButOne_X7 0 rfl rfl 0 (by decide) mmX7_comesNextButOne_0 rfl rfl dX7_comesNextButOne_4 ?_
      refine zcallV (ci := 5) (q0 := 1) (As := []) (rest := [.int v2]) (wr := zsel (cMn K a0 a1 a2 a3 a4 a5 a6 a7 a8 a9 a10 a11 a12 a13 a14 a15 a16 a17 a18 a19 a20 a21 a22 a23 a24 a25 a26 a27 a28 a29 a30 a31 a32 a33 a34 a35 a36 S) [0, 9, 10, 11, 12, 13, 14, 15, 16, 17, 18, 19, 20, 21, 22, 23, 24, 25, 26, 27, 28, 29, 30, 31, 32, 33, 34, 35, 36]) (ws' := cMn K a0 a1 a2 a3 a4 a5 a6 a7 a8 a9 a10 a11 a12 a13 a14 a15 a16 a17 a18 a19 a20 a21 a22 a23 a24 a25 a26 a27 a28 a29 a30 a31 a32 a33 a34 a35 a36 S) (ov := some (.int (fX5_cameCount (mn_live S)))) X hh hl (kX5_cameCount l K a1 a2 a3 a4 a5 a6 a7 a8 (mn_live S) (fX5_cameCount (mn_live S)) rfl) (fun ht => cwV 0 ht gX7_comesNextButOne_X5_cameCount rfl rfl rfl ⟨rfl, hdX5_cameCount⟩ ⟨Nat.le_of_ble_eq_true rfl, Nat.le_of_ble_eq_true rfl⟩) [1, 2, 3, 4, 5, 6, 7, 8] [0, 9, 10, 11, 12, 13, 14, 15, 16, 17, 18, 19, 20, 21, 22, 23, 24, 25, 26, 27, 28, 29, 30, 31, 32, 33, 34, 35, 36] [0, 29, 30, 31, 32, 33, 34, 35, 36, 1, 2, 3, 4, 5, 6, 7, 8, 9, 10, 11, 12, 13, 14, 15, 16, 17, 18, 19, 20, 21, 22, 23, 24, 25, 26, 27, 28] rfl rfl rfl rfl (by decide) rfl rfl rfl rfl rfl rfl (Nat.le_of_ble_eq_true rfl) dX7_comesNextButOne_7 ⟨Nat.zero_le _, Nat.zero_le _⟩ (fun H locs hh => ?_)
      refine lv_icmp_ge (tgt := 76) hx hb dX7_comesNextButOne_10 (by decide) (fun c9 => ?_) (fun c9 => ?_)
      · replace hf := (if_pos c9).symm.trans hf
        refine lv_iconst (v := (0 : Int32)) hx hb dX7_comesNextButOne_76 (by decide) ?_
        exact hr2 77 ls H locs (0 : Int32) S hf rfl dX7_comesNextButOne_77 hh
      · replace hf := (if_neg c9).symm.trans hf
        refine lv_iload_n hx hb dX7_comesNextButOne_13 rfl (lv_at hl 2 rfl) ?_
        refine lv_istore_n (lv' := [(3, .int v2), (0, .ref a0), (1, .int v1), (2, .int v2)]) hx hb dX7_comesNextButOne_14 rfl hl (by decide) rfl (fun ls hl => ?_)
        exact hL15 v1 v2 (fX7_comesNextButOne_l2 v1 n) (ih) FU v2 S H locs ls hf (lv_sub hl [1, 2, 3, 0] rfl) hh
  unfold fX7_comesNextButOne at hf
  refine (fun (hmain : ∀ (H : Heap) (locs : List Loc), zW K A s H locs (cMn K a0 a1 a2 a3 a4 a5 a6 a7 a8 a9 a10 a11 a12 a13 a14 a15 a16 a17 a18 a19 a20 a21 a22 a23 a24 a25 a26 a27 a28 a29 a30 a31 a32 a33 a34 a35 a36 S) → W p l e ({ frames := 4, cells := 0, slots := 0, locals := 91 } : Room) s m ([.ref a0, .int p1] : List Value).toArray below meth c H locs 0 0 Q (F0 m 0 ls [])) => hmain s.heap [] hh) (fun H locs hh => ?_)
  refine lv_iconst (v := (0 : Int32)) hx hb dX7_comesNextButOne_0 (by decide) ?_
  refine lv_istore_n (lv' := [(2, .int (0 : Int32)), (0, .ref a0), (1, .int p1)]) hx hb dX7_comesNextButOne_1 rfl hl (by decide) rfl (fun ls hl => ?_)
  exact hL2 p1 FU (0 : Int32) S H locs ls hf (lv_sub hl [1, 2, 0] rfl) hh
theorem inX7_feed_X7 : ∀ w ∈ wsX70, w ∈ wsX7_feed := by decide +kernel
theorem mmX7_feed_0 : Cond.fieldLink RX7 25 "SumOfTwoThatStand" "letters" "LSumOfTwoThatStand$Letters;" ∈ wsX7_feed := by decide +kernel
theorem hdX7_feed : yX7_feed.cls ≠ "java/lang/invoke/MethodHandle" ∧ yX7_feed.cls ≠ "java/lang/invoke/VarHandle" ∧ (parseMethodDescriptor yX7_feed.desc).map (fun d => d.parameters.length) = some 1 := by decide +kernel
set_option maxHeartbeats 4000000 in
set_option maxRecDepth 100000 in
theorem kX7_feed (l : Launch) (K : zK) (a0 a1 a2 a3 a4 a5 a6 a7 a8 a9 a10 a11 a12 a13 a14 a15 a16 a17 a18 a19 a20 a21 a22 a23 a24 a25 a26 a27 a28 a29 a30 a31 a32 a33 a34 a35 a36 : Nat) (S : zMn) (p1 : Int32) (R : Int32 × zMn) (hf : fX7_feed S p1 = some R) : zC l yX7_feed wsX7_feed ({ frames := 2, cells := 0, slots := 0, locals := 41 } : Room) K [.ref a0, .int p1] (cMn K a0 a1 a2 a3 a4 a5 a6 a7 a8 a9 a10 a11 a12 a13 a14 a15 a16 a17 a18 a19 a20 a21 a22 a23 a24 a25 a26 a27 a28 a29 a30 a31 a32 a33 a34 a35 a36 S) (some (.int R.1)) (cMn K a0 a1 a2 a3 a4 a5 a6 a7 a8 a9 a10 a11 a12 a13 a14 a15 a16 a17 a18 a19 a20 a21 a22 a23 a24 a25 a26 a27 a28 a29 a30 a31 a32 a33 a34 a35 a36 R.2) := by
  refine zC_i R.1 (cc := cX7_feed) (maxL := 2) (by decide +kernel) rfl (Nat.le_of_ble_eq_true rfl) rfl rfl ?_
  intro p e s m below meth c Q A X hret ls hl hh
  have X : zX p m c cX7_feed 2 s ([.ref a0, .int p1] : List Value).toArray wsX7_feed RX7 K A := X
  have hx := X.1.1
  have hb := X.1.2.1
  have hr2 : ∀ (pc : Nat) (ls : Array Slot) (H : Heap) (locs : List Loc) (v : Int32) (S : zMn), some (v, S) = some R → decode cX7_feed pc = .ok (.ireturn, 1) → zW K A s H locs (cMn K a0 a1 a2 a3 a4 a5 a6 a7 a8 a9 a10 a11 a12 a13 a14 a15 a16 a17 a18 a19 a20 a21 a22 a23 a24 a25 a26 a27 a28 a29 a30 a31 a32 a33 a34 a35 a36 S) → W p l e ({ frames := 2, cells := 0, slots := 0, locals := 41 } : Room) s m ([.ref a0, .int p1] : List Value).toArray below meth c H locs 0 0 Q (F0 m pc ls [.int v]) := by
    intro pc ls H locs v S h hd hh
    cases h; exact hret pc ls H locs _ rfl hd hh
  have hl : lv_has ls 2 [(0, .ref a0), (1, .int p1)] := hl
  have hJ28 : ∀ (S : zMn), ∀ (H : Heap) (locs : List Loc) (ls : Array Slot), fX7_feed_j28 S = some R → lv_has ls 2 [(0, .ref a0)] → zW K A s H locs (cMn K a0 a1 a2 a3 a4 a5 a6 a7 a8 a9 a10 a11 a12 a13 a14 a15 a16 a17 a18 a19 a20 a21 a22 a23 a24 a25 a26 a27 a28 a29 a30 a31 a32 a33 a34 a35 a36 S) → W p l e ({ frames := 2, cells := 0, slots := 0, locals := 41 } : Room) s m ([.ref a0, .int p1] : List Value).toArray below meth c H locs 0 0 Q (F0 m 28 ls []) := by
    intro S H locs ls hf hl hh
    unfold fX7_feed_j28 at hf
    refine lv_aload_n hx hb dX7_feed_28 rfl (lv_at hl 0 rfl) ?_
    refine lv_bipush (v := (-6 : Int32)) hx hb dX7_feed_29 (by decide) ?_
    obtain ⟨u1, hu1, hf⟩ := ob_bind hf
    refine zcallV (ci := 6) (q0 := 0) (As := [.int (-6 : Int32)]) (rest := []) (wr := []) (ws' := cMn K a0 a1 a2 a3 a4 a5 a6 a7 a8 a9 a10 a11 a12 a13 a14 a15 a16 a17 a18 a19 a20 a21 a22 a23 a24 a25 a26 a27 a28 a29 a30 a31 a32 a33 a34 a35 a36 u1.2) (ov := some (.int u1.1)) X hh hl (kX7_refuse l K a0 a1 a2 a3 a4 a5 a6 a7 a8 a9 a10 a11 a12 a13 a14 a15 a16 a17 a18 a19 a20 a21 a22 a23 a24 a25 a26 a27 a28 a29 a30 a31 a32 a33 a34 a35 a36 S (-6 : Int32) u1 hu1) (fun ht => cwV 1 ht gX7_feed_X7_refuse rfl rfl rfl ⟨rfl, hdX7_refuse⟩ ⟨Nat.le_of_ble_eq_true rfl, Nat.le_of_ble_eq_true rfl⟩) [0, 1, 2, 3, 4, 5, 6, 7, 8, 9, 10, 11, 12, 13, 14, 15, 16, 17, 18, 19, 20, 21, 22, 23, 24, 25, 26, 27, 28, 29, 30, 31, 32, 33, 34, 35, 36] [] [0, 1, 2, 3, 4, 5, 6, 7, 8, 9, 10, 11, 12, 13, 14, 15, 16, 17, 18, 19, 20, 21, 22, 23, 24, 25, 26, 27, 28, 29, 30, 31, 32, 33, 34, 35, 36] rfl rfl rfl rfl (by decide) rfl rfl rfl rfl rfl rfl (Nat.le_of_ble_eq_true rfl) dX7_feed_31 ⟨Nat.zero_le _, Nat.zero_le _⟩ (fun H locs hh => ?_)
    exact hr2 34 ls H locs u1.1 u1.2 hf dX7_feed_34 hh
  unfold fX7_feed at hf
  refine (fun (hmain : ∀ (H : Heap) (locs : List Loc), zW K A s H locs (cMn K a0 a1 a2 a3 a4 a5 a6 a7 a8 a9 a10 a11 a12 a13 a14 a15 a16 a17 a18 a19 a20 a21 a22 a23 a24 a25 a26 a27 a28 a29 a30 a31 a32 a33 a34 a35 a36 S) → W p l e ({ frames := 2, cells := 0, slots := 0, locals := 41 } : Room) s m ([.ref a0, .int p1] : List Value).toArray below meth c H locs 0 0 Q (F0 m 0 ls [])) => hmain s.heap [] hh) (fun H locs hh => ?_)
  refine lv_iload_n hx hb dX7_feed_0 rfl (lv_at hl 1 rfl) ?_
  refine lv_if_ge (tgt := 11) hx hb dX7_feed_1 (by decide) (fun c2 => ?_) (fun c2 => ?_)
  · replace hf := (if_pos c2).symm.trans hf
    refine lv_iload_n hx hb dX7_feed_11 rfl (lv_at hl 1 rfl) ?_
    refine lv_sipush (v := (255 : Int32)) hx hb dX7_feed_12 (by decide) ?_
    refine lv_icmp_gt (tgt := 28) hx hb dX7_feed_15 (by decide) (fun c3 => ?_) (fun c3 => ?_)
    · replace hf := (if_pos c3).symm.trans hf
      exact hJ28 S H locs ls hf (lv_sub hl [0] rfl) hh
    · replace hf := (if_neg c3).symm.trans hf
      refine lv_aload_n hx hb dX7_feed_18 rfl (lv_at hl 0 rfl) ?_
      refine zget (v := .ref a25) (ref := "SumOfTwoThatStand") (C := RX7) (T := TX7) (N := 10) (index := 25) X hh inX7_feed_X7 0 rfl rfl 3 (by decide) mmX7_feed_0 rfl rfl dX7_feed_19 ?_
      refine zcallU (owner := "SumOfTwoThatStand$Told") (x := ⟨"SumOfTwoThatStand$Letters", "hasRoom", "()Z"⟩) (ci := 2) (q0 := 25) (As := []) (rest := []) (wr := zsel (cMn K a0 a1 a2 a3 a4 a5 a6 a7 a8 a9 a10 a11 a12 a13 a14 a15 a16 a17 a18 a19 a20 a21 a22 a23 a24 a25 a26 a27 a28 a29 a30 a31 a32 a33 a34 a35 a36 S) [0, 1, 2, 3, 4, 5, 6, 7, 8, 9, 10, 11, 12, 13, 14, 15, 16, 17, 18, 19, 20, 21, 22, 23, 24, 28, 29, 30, 31, 32, 33, 34, 35, 36]) (ws' := cMn K a0 a1 a2 a3 a4 a5 a6 a7 a8 a9 a10 a11 a12 a13 a14 a15 a16 a17 a18 a19 a20 a21 a22 a23 a24 a25 a26 a27 a28 a29 a30 a31 a32 a33 a34 a35 a36 S) (ov := some (.int (fX6_hasRoom_L (mn_letters S)))) X hh hl (kX6_hasRoom_L l K a25 a26 a27 (mn_letters S) (fX6_hasRoom_L (mn_letters S)) rfl) (fun ht => va_cwU 0 ht gX7_feed_X6_hasRoom_u69X2 rfl rfl rfl rfl hdX6_hasRoom ⟨Nat.le_of_ble_eq_true rfl, Nat.le_of_ble_eq_true rfl⟩) [25, 26, 27] [0, 1, 2, 3, 4, 5, 6, 7, 8, 9, 10, 11, 12, 13, 14, 15, 16, 17, 18, 19, 20, 21, 22, 23, 24, 28, 29, 30, 31, 32, 33, 34, 35, 36] [0, 1, 2, 3, 4, 5, 6, 7, 8, 9, 10, 11, 12, 13, 14, 15, 16, 17, 18, 19, 20, 21, 22, 23, 24, 34, 35, 36, 25, 26, 27, 28, 29, 30, 31, 32, 33] rfl rfl rfl rfl (by decide) rfl rfl rfl rfl rfl rfl (Nat.le_of_ble_eq_true rfl) dX7_feed_22 ⟨Nat.zero_le _, Nat.zero_le _⟩ (fun H locs hh => ?_)
      refine lv_if_ne (tgt := 35) hx hb dX7_feed_25 (by decide) (fun c5 => ?_) (fun c5 => ?_)
      · replace hf := (if_neg c5).symm.trans hf
        refine lv_aload_n hx hb dX7_feed_35 rfl (lv_at hl 0 rfl) ?_
        refine zget (v := .ref a25) (ref := "SumOfTwoThatStand") (C := RX7) (T := TX7) (N := 10) (index := 25) X hh inX7_feed_X7 0 rfl rfl 3 (by decide) mmX7_feed_0 rfl rfl dX7_feed_36 ?_
        refine lv_iload_n hx hb dX7_feed_39 rfl (lv_at hl 1 rfl) ?_
        obtain ⟨u6, hu6, hf⟩ := ob_bind hf
        refine zcallU (owner := "SumOfTwoThatStand$Told") (x := ⟨"SumOfTwoThatStand$Letters", "take", "(I)I"⟩) (ci := 2) (q0 := 25) (As := [.int p1]) (rest := []) (wr := zsel (cMn K a0 a1 a2 a3 a4 a5 a6 a7 a8 a9 a10 a11 a12 a13 a14 a15 a16 a17 a18 a19 a20 a21 a22 a23 a24 a25 a26 a27 a28 a29 a30 a31 a32 a33 a34 a35 a36 S) [0, 1, 2, 3, 4, 5, 6, 7, 8, 9, 10, 11, 12, 13, 14, 15, 16, 17, 18, 19, 20, 21, 22, 23, 24, 28, 29, 30, 31, 32, 33, 34, 35, 36]) (ws' := cMn K a0 a1 a2 a3 a4 a5 a6 a7 a8 a9 a10 a11 a12 a13 a14 a15 a16 a17 a18 a19 a20 a21 a22 a23 a24 a25 a26 a27 a28 a29 a30 a31 a32 a33 a34 a35 a36 (mn_set_letters S u6.2)) (ov := some (.int u6.1)) X hh hl (kX6_take_L l K a25 a26 a27 (mn_letters S) p1 u6 hu6) (fun ht => va_cwU 1 ht gX7_feed_X6_take_u73X2 rfl rfl rfl rfl hdX6_take ⟨Nat.le_of_ble_eq_true rfl, Nat.le_of_ble_eq_true rfl⟩) [25, 26, 27] [0, 1, 2, 3, 4, 5, 6, 7, 8, 9, 10, 11, 12, 13, 14, 15, 16, 17, 18, 19, 20, 21, 22, 23, 24, 28, 29, 30, 31, 32, 33, 34, 35, 36] [0, 1, 2, 3, 4, 5, 6, 7, 8, 9, 10, 11, 12, 13, 14, 15, 16, 17, 18, 19, 20, 21, 22, 23, 24, 34, 35, 36, 25, 26, 27, 28, 29, 30, 31, 32, 33] rfl rfl rfl rfl (by decide) rfl rfl rfl rfl rfl rfl (Nat.le_of_ble_eq_true rfl) dX7_feed_40 ⟨Nat.zero_le _, Nat.zero_le _⟩ (fun H locs hh => ?_)
        exact hr2 43 ls H locs u6.1 (mn_set_letters S u6.2) hf dX7_feed_43 hh
      · replace hf := (if_pos c5).symm.trans hf
        exact hJ28 S H locs ls hf (lv_sub hl [0] rfl) hh
  · replace hf := (if_neg c2).symm.trans hf
    refine lv_aload_n hx hb dX7_feed_4 rfl (lv_at hl 0 rfl) ?_
    refine lv_bipush (v := (-4 : Int32)) hx hb dX7_feed_5 (by decide) ?_
    obtain ⟨u7, hu7, hf⟩ := ob_bind hf
    refine zcallV (ci := 6) (q0 := 0) (As := [.int (-4 : Int32)]) (rest := []) (wr := []) (ws' := cMn K a0 a1 a2 a3 a4 a5 a6 a7 a8 a9 a10 a11 a12 a13 a14 a15 a16 a17 a18 a19 a20 a21 a22 a23 a24 a25 a26 a27 a28 a29 a30 a31 a32 a33 a34 a35 a36 u7.2) (ov := some (.int u7.1)) X hh hl (kX7_refuse l K a0 a1 a2 a3 a4 a5 a6 a7 a8 a9 a10 a11 a12 a13 a14 a15 a16 a17 a18 a19 a20 a21 a22 a23 a24 a25 a26 a27 a28 a29 a30 a31 a32 a33 a34 a35 a36 S (-4 : Int32) u7 hu7) (fun ht => cwV 1 ht gX7_feed_X7_refuse rfl rfl rfl ⟨rfl, hdX7_refuse⟩ ⟨Nat.le_of_ble_eq_true rfl, Nat.le_of_ble_eq_true rfl⟩) [0, 1, 2, 3, 4, 5, 6, 7, 8, 9, 10, 11, 12, 13, 14, 15, 16, 17, 18, 19, 20, 21, 22, 23, 24, 25, 26, 27, 28, 29, 30, 31, 32, 33, 34, 35, 36] [] [0, 1, 2, 3, 4, 5, 6, 7, 8, 9, 10, 11, 12, 13, 14, 15, 16, 17, 18, 19, 20, 21, 22, 23, 24, 25, 26, 27, 28, 29, 30, 31, 32, 33, 34, 35, 36] rfl rfl rfl rfl (by decide) rfl rfl rfl rfl rfl rfl (Nat.le_of_ble_eq_true rfl) dX7_feed_7 ⟨Nat.zero_le _, Nat.zero_le _⟩ (fun H locs hh => ?_)
    exact hr2 10 ls H locs u7.1 u7.2 hf dX7_feed_10 hh
theorem inX7_street_X7 : ∀ w ∈ wsX70, w ∈ wsX7_street := by decide +kernel
theorem mmX7_street_0 : Cond.fieldLink RX7 25 "SumOfTwoThatStand" "letters" "LSumOfTwoThatStand$Letters;" ∈ wsX7_street := by decide +kernel
theorem mmX7_street_1 : Cond.fieldLink RX7 10 "SumOfTwoThatStand" "live" "LSumOfTwoThatStand$Street;" ∈ wsX7_street := by decide +kernel
theorem mmX7_street_2 : Cond.fieldLink RX7 19 "SumOfTwoThatStand" "mind" "LSumOfTwoThatStand$Street;" ∈ wsX7_street := by decide +kernel
theorem hdX7_street : yX7_street.cls ≠ "java/lang/invoke/MethodHandle" ∧ yX7_street.cls ≠ "java/lang/invoke/VarHandle" ∧ (parseMethodDescriptor yX7_street.desc).map (fun d => d.parameters.length) = some 0 := by decide +kernel
set_option maxHeartbeats 4000000 in
set_option maxRecDepth 100000 in
theorem kX7_street (l : Launch) (K : zK) (a0 a1 a2 a3 a4 a5 a6 a7 a8 a9 a10 a11 a12 a13 a14 a15 a16 a17 a18 a19 a20 a21 a22 a23 a24 a25 a26 a27 a28 a29 a30 a31 a32 a33 a34 a35 a36 : Nat) (S : zMn) (R : Int32 × zMn) (hf : fX7_street S = some R) : zC l yX7_street wsX7_street ({ frames := 8, cells := 0, slots := 0, locals := 195 } : Room) K [.ref a0] (cMn K a0 a1 a2 a3 a4 a5 a6 a7 a8 a9 a10 a11 a12 a13 a14 a15 a16 a17 a18 a19 a20 a21 a22 a23 a24 a25 a26 a27 a28 a29 a30 a31 a32 a33 a34 a35 a36 S) (some (.int R.1)) (cMn K a0 a1 a2 a3 a4 a5 a6 a7 a8 a9 a10 a11 a12 a13 a14 a15 a16 a17 a18 a19 a20 a21 a22 a23 a24 a25 a26 a27 a28 a29 a30 a31 a32 a33 a34 a35 a36 R.2) := by
  refine zC_i R.1 (cc := cX7_street) (maxL := 2) (by decide +kernel) rfl (Nat.le_of_ble_eq_true rfl) rfl rfl ?_
  intro p e s m below meth c Q A X hret ls hl hh
  have X : zX p m c cX7_street 2 s ([.ref a0] : List Value).toArray wsX7_street RX7 K A := X
  have hx := X.1.1
  have hb := X.1.2.1
  have hr2 : ∀ (pc : Nat) (ls : Array Slot) (H : Heap) (locs : List Loc) (v : Int32) (S : zMn), some (v, S) = some R → decode cX7_street pc = .ok (.ireturn, 1) → zW K A s H locs (cMn K a0 a1 a2 a3 a4 a5 a6 a7 a8 a9 a10 a11 a12 a13 a14 a15 a16 a17 a18 a19 a20 a21 a22 a23 a24 a25 a26 a27 a28 a29 a30 a31 a32 a33 a34 a35 a36 S) → W p l e ({ frames := 8, cells := 0, slots := 0, locals := 195 } : Room) s m ([.ref a0] : List Value).toArray below meth c H locs 0 0 Q (F0 m pc ls [.int v]) := by
    intro pc ls H locs v S h hd hh
    cases h; exact hret pc ls H locs _ rfl hd hh
  have hl : lv_has ls 2 [(0, .ref a0)] := hl
  have hJ35 : ∀ (v1 : Int32) (S : zMn), ∀ (H : Heap) (locs : List Loc) (ls : Array Slot), fX7_street_j35 v1 S = some R → lv_has ls 2 [(0, .ref a0), (1, .int v1)] → zW K A s H locs (cMn K a0 a1 a2 a3 a4 a5 a6 a7 a8 a9 a10 a11 a12 a13 a14 a15 a16 a17 a18 a19 a20 a21 a22 a23 a24 a25 a26 a27 a28 a29 a30 a31 a32 a33 a34 a35 a36 S) → W p l e ({ frames := 8, cells := 0, slots := 0, locals := 195 } : Room) s m ([.ref a0] : List Value).toArray below meth c H locs 0 0 Q (F0 m 35 ls []) := by
    intro v1 S H locs ls hf hl hh
    unfold fX7_street_j35 at hf
    refine lv_aload_n hx hb dX7_street_35 rfl (lv_at hl 0 rfl) ?_
    refine zget (v := .ref a25) (ref := "SumOfTwoThatStand") (C := RX7) (T := TX7) (N := 10) (index := 25) X hh inX7_street_X7 0 rfl rfl 3 (by decide) mmX7_street_0 rfl rfl dX7_street_36 ?_
    refine zcallU (owner := "SumOfTwoThatStand$Told") (x := ⟨"SumOfTwoThatStand$Letters", "forget", "()V"⟩) (ci := 2) (q0 := 25) (As := []) (rest := []) (wr := zsel (cMn K a0 a1 a2 a3 a4 a5 a6 a7 a8 a9 a10 a11 a12 a13 a14 a15 a16 a17 a18 a19 a20 a21 a22 a23 a24 a25 a26 a27 a28 a29 a30 a31 a32 a33 a34 a35 a36 S) [0, 1, 2, 3, 4, 5, 6, 7, 8, 9, 10, 11, 12, 13, 14, 15, 16, 17, 18, 19, 20, 21, 22, 23, 24, 28, 29, 30, 31, 32, 33, 34, 35, 36]) (ws' := cMn K a0 a1 a2 a3 a4 a5 a6 a7 a8 a9 a10 a11 a12 a13 a14 a15 a16 a17 a18 a19 a20 a21 a22 a23 a24 a25 a26 a27 a28 a29 a30 a31 a32 a33 a34 a35 a36 (mn_set_letters S (fX6_forget_L (mn_letters S)))) (ov := none) X hh hl (kX6_forget_L l K a25 a26 a27 (mn_letters S) (fX6_forget_L (mn_letters S)) rfl) (fun ht => va_cwU 0 ht gX7_street_X6_forget_u88X2 rfl rfl rfl rfl hdX6_forget ⟨Nat.le_of_ble_eq_true rfl, Nat.le_of_ble_eq_true rfl⟩) [25, 26, 27] [0, 1, 2, 3, 4, 5, 6, 7, 8, 9, 10, 11, 12, 13, 14, 15, 16, 17, 18, 19, 20, 21, 22, 23, 24, 28, 29, 30, 31, 32, 33, 34, 35, 36] [0, 1, 2, 3, 4, 5, 6, 7, 8, 9, 10, 11, 12, 13, 14, 15, 16, 17, 18, 19, 20, 21, 22, 23, 24, 34, 35, 36, 25, 26, 27, 28, 29, 30, 31, 32, 33] rfl rfl rfl rfl (by decide) rfl rfl rfl rfl rfl rfl (Nat.le_of_ble_eq_true rfl) dX7_street_39 ⟨Nat.zero_le _, Nat.zero_le _⟩ (fun H locs hh => ?_)
    refine lv_iload_n hx hb dX7_street_42 rfl (lv_at hl 1 rfl) ?_
    refine lv_if_eq (tgt := 48) hx hb dX7_street_43 (by decide) (fun c2 => ?_) (fun c2 => ?_)
    · replace hf := (if_pos c2).symm.trans hf
      refine lv_aload_n hx hb dX7_street_48 rfl (lv_at hl 0 rfl) ?_
      refine zget (v := .ref a1) (ref := "SumOfTwoThatStand") (C := RX7) (T := TX7) (N := 10) (index := 10) X hh inX7_street_X7 0 rfl rfl 0 (by decide) mmX7_street_1 rfl rfl dX7_street_49 ?_
      refine lv_aload_n hx hb dX7_street_52 rfl (lv_at hl 0 rfl) ?_
      refine zget (v := .ref a17) (ref := "SumOfTwoThatStand") (C := RX7) (T := TX7) (N := 10) (index := 19) X hh inX7_street_X7 0 rfl rfl 2 (by decide) mmX7_street_2 rfl rfl dX7_street_53 ?_
      refine zcallV (ci := 5) (q0 := 1) (As := [.ref a17]) (rest := []) (wr := zsel (cMn K a0 a1 a2 a3 a4 a5 a6 a7 a8 a9 a10 a11 a12 a13 a14 a15 a16 a17 a18 a19 a20 a21 a22 a23 a24 a25 a26 a27 a28 a29 a30 a31 a32 a33 a34 a35 a36 (mn_set_letters S (fX6_forget_L (mn_letters S)))) [0, 9, 10, 11, 12, 13, 14, 15, 16, 25, 26, 27, 28, 29, 30, 31, 32, 33, 34, 35, 36]) (ws' := cMn K a0 a1 a2 a3 a4 a5 a6 a7 a8 a9 a10 a11 a12 a13 a14 a15 a16 a17 a18 a19 a20 a21 a22 a23 a24 a25 a26 a27 a28 a29 a30 a31 a32 a33 a34 a35 a36 (mn_set_letters (mn_set_live S (fX5_become (mn_live S) (mn_mind S))) (fX6_forget_L (mn_letters S)))) (ov := none) X hh hl (kX5_become l K a1 a2 a3 a4 a5 a6 a7 a8 a17 a18 a19 a20 a21 a22 a23 a24 (mn_live S) (mn_mind S) (fX5_become (mn_live S) (mn_mind S)) rfl) (fun ht => cwV 1 ht gX7_street_X5_become rfl rfl rfl ⟨rfl, hdX5_become⟩ ⟨Nat.le_of_ble_eq_true rfl, Nat.le_of_ble_eq_true rfl⟩) [1, 2, 3, 4, 5, 6, 7, 8, 17, 18, 19, 20, 21, 22, 23, 24] [0, 9, 10, 11, 12, 13, 14, 15, 16, 25, 26, 27, 28, 29, 30, 31, 32, 33, 34, 35, 36] [0, 21, 22, 23, 24, 25, 26, 27, 28, 1, 2, 3, 4, 5, 6, 7, 8, 29, 30, 31, 32, 33, 34, 35, 36, 9, 10, 11, 12, 13, 14, 15, 16, 17, 18, 19, 20] rfl rfl rfl rfl (by decide) rfl rfl rfl rfl rfl rfl (Nat.le_of_ble_eq_true rfl) dX7_street_56 ⟨Nat.zero_le _, Nat.zero_le _⟩ (fun H locs hh => ?_)
      refine lv_aload_n hx hb dX7_street_59 rfl (lv_at hl 0 rfl) ?_
      refine zget (v := .ref a25) (ref := "SumOfTwoThatStand") (C := RX7) (T := TX7) (N := 10) (index := 25) X hh inX7_street_X7 0 rfl rfl 3 (by decide) mmX7_street_0 rfl rfl dX7_street_60 ?_
      refine zcallV (ci := 2) (q0 := 25) (As := []) (rest := []) (wr := zsel (cMn K a0 a1 a2 a3 a4 a5 a6 a7 a8 a9 a10 a11 a12 a13 a14 a15 a16 a17 a18 a19 a20 a21 a22 a23 a24 a25 a26 a27 a28 a29 a30 a31 a32 a33 a34 a35 a36 (mn_set_letters (mn_set_live S (fX5_become (mn_live S) (mn_mind S))) (fX6_forget_L (mn_letters S)))) [0, 1, 2, 3, 4, 5, 6, 7, 8, 9, 10, 11, 12, 13, 14, 15, 16, 17, 18, 19, 20, 21, 22, 23, 24, 28, 29, 30, 31, 32, 33, 34, 35, 36]) (ws' := cMn K a0 a1 a2 a3 a4 a5 a6 a7 a8 a9 a10 a11 a12 a13 a14 a15 a16 a17 a18 a19 a20 a21 a22 a23 a24 a25 a26 a27 a28 a29 a30 a31 a32 a33 a34 a35 a36 (mn_set_letters (mn_set_live S (fX5_become (mn_live S) (mn_mind S))) (fX6_forget_L (mn_letters S)))) (ov := some (.int (fX2_statementCount (fX6_forget_L (mn_letters S))))) X hh hl (kX2_statementCount l K a25 a26 a27 (fX6_forget_L (mn_letters S)) (fX2_statementCount (fX6_forget_L (mn_letters S))) rfl) (fun ht => cwV 0 ht gX7_street_X2_statementCount rfl rfl rfl ⟨rfl, hdX2_statementCount⟩ ⟨Nat.le_of_ble_eq_true rfl, Nat.le_of_ble_eq_true rfl⟩) [25, 26, 27] [0, 1, 2, 3, 4, 5, 6, 7, 8, 9, 10, 11, 12, 13, 14, 15, 16, 17, 18, 19, 20, 21, 22, 23, 24, 28, 29, 30, 31, 32, 33, 34, 35, 36] [0, 1, 2, 3, 4, 5, 6, 7, 8, 9, 10, 11, 12, 13, 14, 15, 16, 17, 18, 19, 20, 21, 22, 23, 24, 34, 35, 36, 25, 26, 27, 28, 29, 30, 31, 32, 33] rfl rfl rfl rfl (by decide) rfl rfl rfl rfl rfl rfl (Nat.le_of_ble_eq_true rfl) dX7_street_63 ⟨Nat.zero_le _, Nat.zero_le _⟩ (fun H locs hh => ?_)
      exact hr2 66 ls H locs (fX2_statementCount (fX6_forget_L (mn_letters S))) (mn_set_letters (mn_set_live S (fX5_become (mn_live S) (mn_mind S))) (fX6_forget_L (mn_letters S))) hf dX7_street_66 hh
    · replace hf := (if_neg c2).symm.trans hf
      refine lv_iload_n hx hb dX7_street_46 rfl (lv_at hl 1 rfl) ?_
      exact hr2 47 ls H locs v1 (mn_set_letters S (fX6_forget_L (mn_letters S))) hf dX7_street_47 hh
  unfold fX7_street at hf
  refine (fun (hmain : ∀ (H : Heap) (locs : List Loc), zW K A s H locs (cMn K a0 a1 a2 a3 a4 a5 a6 a7 a8 a9 a10 a11 a12 a13 a14 a15 a16 a17 a18 a19 a20 a21 a22 a23 a24 a25 a26 a27 a28 a29 a30 a31 a32 a33 a34 a35 a36 S) → W p l e ({ frames := 8, cells := 0, slots := 0, locals := 195 } : Room) s m ([.ref a0] : List Value).toArray below meth c H locs 0 0 Q (F0 m 0 ls [])) => hmain s.heap [] hh) (fun H locs hh => ?_)
  refine lv_aload_n hx hb dX7_street_0 rfl (lv_at hl 0 rfl) ?_
  refine zget (v := .ref a17) (ref := "SumOfTwoThatStand") (C := RX7) (T := TX7) (N := 10) (index := 19) X hh inX7_street_X7 0 rfl rfl 2 (by decide) mmX7_street_2 rfl rfl dX7_street_1 ?_
  refine lv_aload_n hx hb dX7_street_4 rfl (lv_at hl 0 rfl) ?_
  refine zget (v := .ref a1) (ref := "SumOfTwoThatStand") (C := RX7) (T := TX7) (N := 10) (index := 10) X hh inX7_street_X7 0 rfl rfl 0 (by decide) mmX7_street_1 rfl rfl dX7_street_5 ?_
  refine zcallV (ci := 5) (q0 := 17) (As := [.ref a1]) (rest := []) (wr := zsel (cMn K a0 a1 a2 a3 a4 a5 a6 a7 a8 a9 a10 a11 a12 a13 a14 a15 a16 a17 a18 a19 a20 a21 a22 a23 a24 a25 a26 a27 a28 a29 a30 a31 a32 a33 a34 a35 a36 S) [0, 9, 10, 11, 12, 13, 14, 15, 16, 25, 26, 27, 28, 29, 30, 31, 32, 33, 34, 35, 36]) (ws' := cMn K a0 a1 a2 a3 a4 a5 a6 a7 a8 a9 a10 a11 a12 a13 a14 a15 a16 a17 a18 a19 a20 a21 a22 a23 a24 a25 a26 a27 a28 a29 a30 a31 a32 a33 a34 a35 a36 (mn_set_mind S (fX5_become (mn_mind S) (mn_live S)))) (ov := none) X hh hl (kX5_become l K a17 a18 a19 a20 a21 a22 a23 a24 a1 a2 a3 a4 a5 a6 a7 a8 (mn_mind S) (mn_live S) (fX5_become (mn_mind S) (mn_live S)) rfl) (fun ht => cwV 1 ht gX7_street_X5_become rfl rfl rfl ⟨rfl, hdX5_become⟩ ⟨Nat.le_of_ble_eq_true rfl, Nat.le_of_ble_eq_true rfl⟩) [17, 18, 19, 20, 21, 22, 23, 24, 1, 2, 3, 4, 5, 6, 7, 8] [0, 9, 10, 11, 12, 13, 14, 15, 16, 25, 26, 27, 28, 29, 30, 31, 32, 33, 34, 35, 36] [0, 29, 30, 31, 32, 33, 34, 35, 36, 1, 2, 3, 4, 5, 6, 7, 8, 21, 22, 23, 24, 25, 26, 27, 28, 9, 10, 11, 12, 13, 14, 15, 16, 17, 18, 19, 20] rfl rfl rfl rfl (by decide) rfl rfl rfl rfl rfl rfl (Nat.le_of_ble_eq_true rfl) dX7_street_8 ⟨Nat.zero_le _, Nat.zero_le _⟩ (fun H locs hh => ?_)
  refine lv_aload_n hx hb dX7_street_11 rfl (lv_at hl 0 rfl) ?_
  refine zget (v := .ref a25) (ref := "SumOfTwoThatStand") (C := RX7) (T := TX7) (N := 10) (index := 25) X hh inX7_street_X7 0 rfl rfl 3 (by decide) mmX7_street_0 rfl rfl dX7_street_12 ?_
  obtain ⟨u6, hu6, hf⟩ := ob_bind hf
  refine zcallV (ci := 2) (q0 := 25) (As := []) (rest := []) (wr := zsel (cMn K a0 a1 a2 a3 a4 a5 a6 a7 a8 a9 a10 a11 a12 a13 a14 a15 a16 a17 a18 a19 a20 a21 a22 a23 a24 a25 a26 a27 a28 a29 a30 a31 a32 a33 a34 a35 a36 (mn_set_mind S (fX5_become (mn_mind S) (mn_live S)))) [0, 1, 2, 3, 4, 5, 6, 7, 8, 9, 10, 11, 12, 13, 14, 15, 16, 17, 18, 19, 20, 21, 22, 23, 24, 28, 29, 30, 31, 32, 33, 34, 35, 36]) (ws' := cMn K a0 a1 a2 a3 a4 a5 a6 a7 a8 a9 a10 a11 a12 a13 a14 a15 a16 a17 a18 a19 a20 a21 a22 a23 a24 a25 a26 a27 a28 a29 a30 a31 a32 a33 a34 a35 a36 (mn_set_letters (mn_set_mind S (fX5_become (mn_mind S) (mn_live S))) u6.2)) (ov := some (.int u6.1)) X hh hl (kX2_faultOfForm l K a25 a26 a27 (mn_letters S) u6 hu6) (fun ht => cwV 0 ht gX7_street_X2_faultOfForm rfl rfl rfl ⟨rfl, hdX2_faultOfForm⟩ ⟨Nat.le_of_ble_eq_true rfl, Nat.le_of_ble_eq_true rfl⟩) [25, 26, 27] [0, 1, 2, 3, 4, 5, 6, 7, 8, 9, 10, 11, 12, 13, 14, 15, 16, 17, 18, 19, 20, 21, 22, 23, 24, 28, 29, 30, 31, 32, 33, 34, 35, 36] [0, 1, 2, 3, 4, 5, 6, 7, 8, 9, 10, 11, 12, 13, 14, 15, 16, 17, 18, 19, 20, 21, 22, 23, 24, 34, 35, 36, 25, 26, 27, 28, 29, 30, 31, 32, 33] rfl rfl rfl rfl (by decide) rfl rfl rfl rfl rfl rfl (Nat.le_of_ble_eq_true rfl) dX7_street_15 ⟨Nat.zero_le _, Nat.zero_le _⟩ (fun H locs hh => ?_)
  refine lv_istore_n (lv' := [(1, .int u6.1), (0, .ref a0)]) hx hb dX7_street_18 rfl hl (by decide) rfl (fun ls hl => ?_)
  refine lv_iload_n hx hb dX7_street_19 rfl (lv_at hl 0 rfl) ?_
  refine lv_if_ne (tgt := 35) hx hb dX7_street_20 (by decide) (fun c7 => ?_) (fun c7 => ?_)
  · replace hf := (if_neg c7).symm.trans hf
    exact hJ35 u6.1 (mn_set_letters (mn_set_mind S (fX5_become (mn_mind S) (mn_live S))) u6.2) H locs ls hf (lv_sub hl [1, 0] rfl) hh
  · replace hf := (if_pos c7).symm.trans hf
    refine lv_aload_n hx hb dX7_street_23 rfl (lv_at hl 1 rfl) ?_
    refine zget (v := .ref a25) (ref := "SumOfTwoThatStand") (C := RX7) (T := TX7) (N := 10) (index := 25) X hh inX7_street_X7 0 rfl rfl 3 (by decide) mmX7_street_0 rfl rfl dX7_street_24 ?_
    refine lv_aload_n hx hb dX7_street_27 rfl (lv_at hl 1 rfl) ?_
    refine zget (v := .ref a17) (ref := "SumOfTwoThatStand") (C := RX7) (T := TX7) (N := 10) (index := 19) X hh inX7_street_X7 0 rfl rfl 2 (by decide) mmX7_street_2 rfl rfl dX7_street_28 ?_
    obtain ⟨u8, hu8, hf⟩ := ob_bind hf
    refine zcallV (ci := 2) (q0 := 25) (As := [.ref a17]) (rest := []) (wr := zsel (cMn K a0 a1 a2 a3 a4 a5 a6 a7 a8 a9 a10 a11 a12 a13 a14 a15 a16 a17 a18 a19 a20 a21 a22 a23 a24 a25 a26 a27 a28 a29 a30 a31 a32 a33 a34 a35 a36 (mn_set_letters (mn_set_mind S (fX5_become (mn_mind S) (mn_live S))) u6.2)) [0, 1, 2, 3, 4, 5, 6, 7, 8, 9, 10, 11, 12, 13, 14, 15, 16, 28, 29, 30, 31, 32, 33, 34, 35, 36]) (ws' := cMn K a0 a1 a2 a3 a4 a5 a6 a7 a8 a9 a10 a11 a12 a13 a14 a15 a16 a17 a18 a19 a20 a21 a22 a23 a24 a25 a26 a27 a28 a29 a30 a31 a32 a33 a34 a35 a36 (mn_set_letters (mn_set_mind S u8.2.2) u8.2.1)) (ov := some (.int u8.1)) X hh hl (kX2_faultOfSense l K a25 a26 a27 a17 a18 a19 a20 a21 a22 a23 a24 u6.2 (fX5_become (mn_mind S) (mn_live S)) u8 hu8) (fun ht => cwV 1 ht gX7_street_X2_faultOfSense rfl rfl rfl ⟨rfl, hdX2_faultOfSense⟩ ⟨Nat.le_of_ble_eq_true rfl, Nat.le_of_ble_eq_true rfl⟩) [25, 26, 27, 17, 18, 19, 20, 21, 22, 23, 24] [0, 1, 2, 3, 4, 5, 6, 7, 8, 9, 10, 11, 12, 13, 14, 15, 16, 28, 29, 30, 31, 32, 33, 34, 35, 36] [0, 1, 2, 3, 4, 5, 6, 7, 8, 9, 10, 11, 12, 13, 14, 15, 16, 29, 30, 31, 32, 33, 34, 35, 36, 26, 27, 28, 17, 18, 19, 20, 21, 22, 23, 24, 25] rfl rfl rfl rfl (by decide) rfl rfl rfl rfl rfl rfl (Nat.le_of_ble_eq_true rfl) dX7_street_31 ⟨Nat.zero_le _, Nat.zero_le _⟩ (fun H locs hh => ?_)
    refine lv_istore_n (lv' := [(1, .int u8.1), (0, .ref a0)]) hx hb dX7_street_34 rfl hl (by decide) rfl (fun ls hl => ?_)
    exact hJ35 u8.1 (mn_set_letters (mn_set_mind S u8.2.2) u8.2.1) H locs ls hf (lv_sub hl [1, 0] rfl) hh
theorem inX7_house_X7 : ∀ w ∈ wsX70, w ∈ wsX7_house := by decide +kernel
theorem mmX7_house_0 : Cond.fieldLink RX7 10 "SumOfTwoThatStand" "live" "LSumOfTwoThatStand$Street;" ∈ wsX7_house := by decide +kernel
theorem hdX7_house : yX7_house.cls ≠ "java/lang/invoke/MethodHandle" ∧ yX7_house.cls ≠ "java/lang/invoke/VarHandle" ∧ (parseMethodDescriptor yX7_house.desc).map (fun d => d.parameters.length) = some 2 := by decide +kernel
set_option maxHeartbeats 4000000 in
set_option maxRecDepth 100000 in
theorem kX7_house (l : Launch) (K : zK) (a0 a1 a2 a3 a4 a5 a6 a7 a8 a9 a10 a11 a12 a13 a14 a15 a16 a17 a18 a19 a20 a21 a22 a23 a24 a25 a26 a27 a28 a29 a30 a31 a32 a33 a34 a35 a36 : Nat) (S : zMn) (p1 : Int32) (p2 : Int32) (R : Int32 × zMn) (hf : fX7_house S p1 p2 = some R) : zC l yX7_house wsX7_house ({ frames := 2, cells := 0, slots := 0, locals := 43 } : Room) K [.ref a0, .int p1, .int p2] (cMn K a0 a1 a2 a3 a4 a5 a6 a7 a8 a9 a10 a11 a12 a13 a14 a15 a16 a17 a18 a19 a20 a21 a22 a23 a24 a25 a26 a27 a28 a29 a30 a31 a32 a33 a34 a35 a36 S) (some (.int R.1)) (cMn K a0 a1 a2 a3 a4 a5 a6 a7 a8 a9 a10 a11 a12 a13 a14 a15 a16 a17 a18 a19 a20 a21 a22 a23 a24 a25 a26 a27 a28 a29 a30 a31 a32 a33 a34 a35 a36 R.2) := by
  refine zC_i R.1 (cc := cX7_house) (maxL := 3) (by decide +kernel) rfl (Nat.le_of_ble_eq_true rfl) rfl rfl ?_
  intro p e s m below meth c Q A X hret ls hl hh
  have X : zX p m c cX7_house 3 s ([.ref a0, .int p1, .int p2] : List Value).toArray wsX7_house RX7 K A := X
  have hx := X.1.1
  have hb := X.1.2.1
  have hr2 : ∀ (pc : Nat) (ls : Array Slot) (H : Heap) (locs : List Loc) (v : Int32) (S : zMn), some (v, S) = some R → decode cX7_house pc = .ok (.ireturn, 1) → zW K A s H locs (cMn K a0 a1 a2 a3 a4 a5 a6 a7 a8 a9 a10 a11 a12 a13 a14 a15 a16 a17 a18 a19 a20 a21 a22 a23 a24 a25 a26 a27 a28 a29 a30 a31 a32 a33 a34 a35 a36 S) → W p l e ({ frames := 2, cells := 0, slots := 0, locals := 43 } : Room) s m ([.ref a0, .int p1, .int p2] : List Value).toArray below meth c H locs 0 0 Q (F0 m pc ls [.int v]) := by
    intro pc ls H locs v S h hd hh
    cases h; exact hret pc ls H locs _ rfl hd hh
  have hl : lv_has ls 3 [(0, .ref a0), (1, .int p1), (2, .int p2)] := hl
  have hJ27 : ∀ (S : zMn), ∀ (H : Heap) (locs : List Loc) (ls : Array Slot), fX7_house_j27 S = some R → lv_has ls 3 [(0, .ref a0)] → zW K A s H locs (cMn K a0 a1 a2 a3 a4 a5 a6 a7 a8 a9 a10 a11 a12 a13 a14 a15 a16 a17 a18 a19 a20 a21 a22 a23 a24 a25 a26 a27 a28 a29 a30 a31 a32 a33 a34 a35 a36 S) → W p l e ({ frames := 2, cells := 0, slots := 0, locals := 43 } : Room) s m ([.ref a0, .int p1, .int p2] : List Value).toArray below meth c H locs 0 0 Q (F0 m 27 ls []) := by
    intro S H locs ls hf hl hh
    unfold fX7_house_j27 at hf
    refine lv_aload_n hx hb dX7_house_27 rfl (lv_at hl 0 rfl) ?_
    refine lv_bipush (v := (-2 : Int32)) hx hb dX7_house_28 (by decide) ?_
    obtain ⟨u1, hu1, hf⟩ := ob_bind hf
    refine zcallV (ci := 6) (q0 := 0) (As := [.int (-2 : Int32)]) (rest := []) (wr := []) (ws' := cMn K a0 a1 a2 a3 a4 a5 a6 a7 a8 a9 a10 a11 a12 a13 a14 a15 a16 a17 a18 a19 a20 a21 a22 a23 a24 a25 a26 a27 a28 a29 a30 a31 a32 a33 a34 a35 a36 u1.2) (ov := some (.int u1.1)) X hh hl (kX7_refuse l K a0 a1 a2 a3 a4 a5 a6 a7 a8 a9 a10 a11 a12 a13 a14 a15 a16 a17 a18 a19 a20 a21 a22 a23 a24 a25 a26 a27 a28 a29 a30 a31 a32 a33 a34 a35 a36 S (-2 : Int32) u1 hu1) (fun ht => cwV 1 ht gX7_house_X7_refuse rfl rfl rfl ⟨rfl, hdX7_refuse⟩ ⟨Nat.le_of_ble_eq_true rfl, Nat.le_of_ble_eq_true rfl⟩) [0, 1, 2, 3, 4, 5, 6, 7, 8, 9, 10, 11, 12, 13, 14, 15, 16, 17, 18, 19, 20, 21, 22, 23, 24, 25, 26, 27, 28, 29, 30, 31, 32, 33, 34, 35, 36] [] [0, 1, 2, 3, 4, 5, 6, 7, 8, 9, 10, 11, 12, 13, 14, 15, 16, 17, 18, 19, 20, 21, 22, 23, 24, 25, 26, 27, 28, 29, 30, 31, 32, 33, 34, 35, 36] rfl rfl rfl rfl (by decide) rfl rfl rfl rfl rfl rfl (Nat.le_of_ble_eq_true rfl) dX7_house_30 ⟨Nat.zero_le _, Nat.zero_le _⟩ (fun H locs hh => ?_)
    exact hr2 33 ls H locs u1.1 u1.2 hf dX7_house_33 hh
  unfold fX7_house at hf
  refine (fun (hmain : ∀ (H : Heap) (locs : List Loc), zW K A s H locs (cMn K a0 a1 a2 a3 a4 a5 a6 a7 a8 a9 a10 a11 a12 a13 a14 a15 a16 a17 a18 a19 a20 a21 a22 a23 a24 a25 a26 a27 a28 a29 a30 a31 a32 a33 a34 a35 a36 S) → W p l e ({ frames := 2, cells := 0, slots := 0, locals := 43 } : Room) s m ([.ref a0, .int p1, .int p2] : List Value).toArray below meth c H locs 0 0 Q (F0 m 0 ls [])) => hmain s.heap [] hh) (fun H locs hh => ?_)
  refine lv_aload_n hx hb dX7_house_0 rfl (lv_at hl 0 rfl) ?_
  refine zget (v := .ref a1) (ref := "SumOfTwoThatStand") (C := RX7) (T := TX7) (N := 10) (index := 10) X hh inX7_house_X7 0 rfl rfl 0 (by decide) mmX7_house_0 rfl rfl dX7_house_1 ?_
  refine lv_iload_n hx hb dX7_house_4 rfl (lv_at hl 1 rfl) ?_
  refine zcallV (ci := 5) (q0 := 1) (As := [.int p1]) (rest := []) (wr := zsel (cMn K a0 a1 a2 a3 a4 a5 a6 a7 a8 a9 a10 a11 a12 a13 a14 a15 a16 a17 a18 a19 a20 a21 a22 a23 a24 a25 a26 a27 a28 a29 a30 a31 a32 a33 a34 a35 a36 S) [0, 9, 10, 11, 12, 13, 14, 15, 16, 17, 18, 19, 20, 21, 22, 23, 24, 25, 26, 27, 28, 29, 30, 31, 32, 33, 34, 35, 36]) (ws' := cMn K a0 a1 a2 a3 a4 a5 a6 a7 a8 a9 a10 a11 a12 a13 a14 a15 a16 a17 a18 a19 a20 a21 a22 a23 a24 a25 a26 a27 a28 a29 a30 a31 a32 a33 a34 a35 a36 S) (ov := some (.int (fX5_has (mn_live S) p1))) X hh hl (kX5_has l K a1 a2 a3 a4 a5 a6 a7 a8 (mn_live S) p1 (fX5_has (mn_live S) p1) rfl) (fun ht => cwV 1 ht gX7_house_X5_has rfl rfl rfl ⟨rfl, hdX5_has⟩ ⟨Nat.le_of_ble_eq_true rfl, Nat.le_of_ble_eq_true rfl⟩) [1, 2, 3, 4, 5, 6, 7, 8] [0, 9, 10, 11, 12, 13, 14, 15, 16, 17, 18, 19, 20, 21, 22, 23, 24, 25, 26, 27, 28, 29, 30, 31, 32, 33, 34, 35, 36] [0, 29, 30, 31, 32, 33, 34, 35, 36, 1, 2, 3, 4, 5, 6, 7, 8, 9, 10, 11, 12, 13, 14, 15, 16, 17, 18, 19, 20, 21, 22, 23, 24, 25, 26, 27, 28] rfl rfl rfl rfl (by decide) rfl rfl rfl rfl rfl rfl (Nat.le_of_ble_eq_true rfl) dX7_house_5 ⟨Nat.zero_le _, Nat.zero_le _⟩ (fun H locs hh => ?_)
  refine lv_if_ne (tgt := 17) hx hb dX7_house_8 (by decide) (fun c3 => ?_) (fun c3 => ?_)
  · replace hf := (if_neg c3).symm.trans hf
    refine lv_iload_n hx hb dX7_house_17 rfl (lv_at hl 2 rfl) ?_
    refine lv_if_lt (tgt := 27) hx hb dX7_house_18 (by decide) (fun c4 => ?_) (fun c4 => ?_)
    · replace hf := (if_pos c4).symm.trans hf
      exact hJ27 S H locs ls hf (lv_sub hl [0] rfl) hh
    · replace hf := (if_neg c4).symm.trans hf
      refine lv_iload_n hx hb dX7_house_21 rfl (lv_at hl 2 rfl) ?_
      refine lv_bipush (v := (7 : Int32)) hx hb dX7_house_22 (by decide) ?_
      refine lv_icmp_le (tgt := 34) hx hb dX7_house_24 (by decide) (fun c5 => ?_) (fun c5 => ?_)
      · replace hf := (if_pos c5).symm.trans hf
        refine lv_aload_n hx hb dX7_house_34 rfl (lv_at hl 0 rfl) ?_
        refine zget (v := .ref a1) (ref := "SumOfTwoThatStand") (C := RX7) (T := TX7) (N := 10) (index := 10) X hh inX7_house_X7 0 rfl rfl 0 (by decide) mmX7_house_0 rfl rfl dX7_house_35 ?_
        refine lv_iload_n hx hb dX7_house_38 rfl (lv_at hl 1 rfl) ?_
        refine lv_iload_n hx hb dX7_house_39 rfl (lv_at hl 2 rfl) ?_
        obtain ⟨u6, hu6, hf⟩ := ob_bind hf
        refine zcallV (ci := 5) (q0 := 1) (As := [.int p1, .int p2]) (rest := []) (wr := zsel (cMn K a0 a1 a2 a3 a4 a5 a6 a7 a8 a9 a10 a11 a12 a13 a14 a15 a16 a17 a18 a19 a20 a21 a22 a23 a24 a25 a26 a27 a28 a29 a30 a31 a32 a33 a34 a35 a36 S) [0, 9, 10, 11, 12, 13, 14, 15, 16, 17, 18, 19, 20, 21, 22, 23, 24, 25, 26, 27, 28, 29, 30, 31, 32, 33, 34, 35, 36]) (ws' := cMn K a0 a1 a2 a3 a4 a5 a6 a7 a8 a9 a10 a11 a12 a13 a14 a15 a16 a17 a18 a19 a20 a21 a22 a23 a24 a25 a26 a27 a28 a29 a30 a31 a32 a33 a34 a35 a36 S) (ov := some (.int u6)) X hh hl (kX5_tell l K a1 a2 a3 a4 a5 a6 a7 a8 (mn_live S) p1 p2 u6 hu6) (fun ht => cwV 2 ht gX7_house_X5_tell rfl rfl rfl ⟨rfl, hdX5_tell⟩ ⟨Nat.le_of_ble_eq_true rfl, Nat.le_of_ble_eq_true rfl⟩) [1, 2, 3, 4, 5, 6, 7, 8] [0, 9, 10, 11, 12, 13, 14, 15, 16, 17, 18, 19, 20, 21, 22, 23, 24, 25, 26, 27, 28, 29, 30, 31, 32, 33, 34, 35, 36] [0, 29, 30, 31, 32, 33, 34, 35, 36, 1, 2, 3, 4, 5, 6, 7, 8, 9, 10, 11, 12, 13, 14, 15, 16, 17, 18, 19, 20, 21, 22, 23, 24, 25, 26, 27, 28] rfl rfl rfl rfl (by decide) rfl rfl rfl rfl rfl rfl (Nat.le_of_ble_eq_true rfl) dX7_house_40 ⟨Nat.zero_le _, Nat.zero_le _⟩ (fun H locs hh => ?_)
        exact hr2 43 ls H locs u6 S hf dX7_house_43 hh
      · replace hf := (if_neg c5).symm.trans hf
        exact hJ27 S H locs ls hf (lv_sub hl [0] rfl) hh
  · replace hf := (if_pos c3).symm.trans hf
    refine lv_aload_n hx hb dX7_house_11 rfl (lv_at hl 0 rfl) ?_
    refine lv_iconst (v := (-1 : Int32)) hx hb dX7_house_12 (by decide) ?_
    obtain ⟨u7, hu7, hf⟩ := ob_bind hf
    refine zcallV (ci := 6) (q0 := 0) (As := [.int (-1 : Int32)]) (rest := []) (wr := []) (ws' := cMn K a0 a1 a2 a3 a4 a5 a6 a7 a8 a9 a10 a11 a12 a13 a14 a15 a16 a17 a18 a19 a20 a21 a22 a23 a24 a25 a26 a27 a28 a29 a30 a31 a32 a33 a34 a35 a36 u7.2) (ov := some (.int u7.1)) X hh hl (kX7_refuse l K a0 a1 a2 a3 a4 a5 a6 a7 a8 a9 a10 a11 a12 a13 a14 a15 a16 a17 a18 a19 a20 a21 a22 a23 a24 a25 a26 a27 a28 a29 a30 a31 a32 a33 a34 a35 a36 S (-1 : Int32) u7 hu7) (fun ht => cwV 1 ht gX7_house_X7_refuse rfl rfl rfl ⟨rfl, hdX7_refuse⟩ ⟨Nat.le_of_ble_eq_true rfl, Nat.le_of_ble_eq_true rfl⟩) [0, 1, 2, 3, 4, 5, 6, 7, 8, 9, 10, 11, 12, 13, 14, 15, 16, 17, 18, 19, 20, 21, 22, 23, 24, 25, 26, 27, 28, 29, 30, 31, 32, 33, 34, 35, 36] [] [0, 1, 2, 3, 4, 5, 6, 7, 8, 9, 10, 11, 12, 13, 14, 15, 16, 17, 18, 19, 20, 21, 22, 23, 24, 25, 26, 27, 28, 29, 30, 31, 32, 33, 34, 35, 36] rfl rfl rfl rfl (by decide) rfl rfl rfl rfl rfl rfl (Nat.le_of_ble_eq_true rfl) dX7_house_13 ⟨Nat.zero_le _, Nat.zero_le _⟩ (fun H locs hh => ?_)
    exact hr2 16 ls H locs u7.1 u7.2 hf dX7_house_16 hh
theorem inX7_law_X7 : ∀ w ∈ wsX70, w ∈ wsX7_law := by decide +kernel
theorem mmX7_law_0 : Cond.fieldLink RX7 10 "SumOfTwoThatStand" "live" "LSumOfTwoThatStand$Street;" ∈ wsX7_law := by decide +kernel
theorem hdX7_law : yX7_law.cls ≠ "java/lang/invoke/MethodHandle" ∧ yX7_law.cls ≠ "java/lang/invoke/VarHandle" ∧ (parseMethodDescriptor yX7_law.desc).map (fun d => d.parameters.length) = some 2 := by decide +kernel
set_option maxHeartbeats 4000000 in
set_option maxRecDepth 100000 in
theorem kX7_law (l : Launch) (K : zK) (a0 a1 a2 a3 a4 a5 a6 a7 a8 a9 a10 a11 a12 a13 a14 a15 a16 a17 a18 a19 a20 a21 a22 a23 a24 a25 a26 a27 a28 a29 a30 a31 a32 a33 a34 a35 a36 : Nat) (S : zMn) (p1 : Int32) (p2 : Int32) (R : Int32 × zMn) (hf : fX7_law S p1 p2 = some R) : zC l yX7_law wsX7_law ({ frames := 1, cells := 0, slots := 0, locals := 22 } : Room) K [.ref a0, .int p1, .int p2] (cMn K a0 a1 a2 a3 a4 a5 a6 a7 a8 a9 a10 a11 a12 a13 a14 a15 a16 a17 a18 a19 a20 a21 a22 a23 a24 a25 a26 a27 a28 a29 a30 a31 a32 a33 a34 a35 a36 S) (some (.int R.1)) (cMn K a0 a1 a2 a3 a4 a5 a6 a7 a8 a9 a10 a11 a12 a13 a14 a15 a16 a17 a18 a19 a20 a21 a22 a23 a24 a25 a26 a27 a28 a29 a30 a31 a32 a33 a34 a35 a36 R.2) := by
  refine zC_i R.1 (cc := cX7_law) (maxL := 6) (by decide +kernel) rfl (Nat.le_of_ble_eq_true rfl) rfl rfl ?_
  intro p e s m below meth c Q A X hret ls hl hh
  have X : zX p m c cX7_law 6 s ([.ref a0, .int p1, .int p2] : List Value).toArray wsX7_law RX7 K A := X
  have hx := X.1.1
  have hb := X.1.2.1
  have hr2 : ∀ (pc : Nat) (ls : Array Slot) (H : Heap) (locs : List Loc) (v : Int32) (S : zMn), some (v, S) = some R → decode cX7_law pc = .ok (.ireturn, 1) → zW K A s H locs (cMn K a0 a1 a2 a3 a4 a5 a6 a7 a8 a9 a10 a11 a12 a13 a14 a15 a16 a17 a18 a19 a20 a21 a22 a23 a24 a25 a26 a27 a28 a29 a30 a31 a32 a33 a34 a35 a36 S) → W p l e ({ frames := 1, cells := 0, slots := 0, locals := 22 } : Room) s m ([.ref a0, .int p1, .int p2] : List Value).toArray below meth c H locs 0 0 Q (F0 m pc ls [.int v]) := by
    intro pc ls H locs v S h hd hh
    cases h; exact hret pc ls H locs _ rfl hd hh
  have hl : lv_has ls 6 [(0, .ref a0), (1, .int p1), (2, .int p2)] := hl
  have hJ70 : ∀ (v3 : Int32) (v4 : Int32) (t0 : Int32) (S : zMn), ∀ (H : Heap) (locs : List Loc) (ls : Array Slot), fX7_law_j70 v3 v4 t0 S = some R → lv_has ls 6 [(0, .ref a0), (3, .int v3), (4, .int v4)] → zW K A s H locs (cMn K a0 a1 a2 a3 a4 a5 a6 a7 a8 a9 a10 a11 a12 a13 a14 a15 a16 a17 a18 a19 a20 a21 a22 a23 a24 a25 a26 a27 a28 a29 a30 a31 a32 a33 a34 a35 a36 S) → W p l e ({ frames := 1, cells := 0, slots := 0, locals := 22 } : Room) s m ([.ref a0, .int p1, .int p2] : List Value).toArray below meth c H locs 0 0 Q (F0 m 70 ls [.int t0]) := by
    intro v3 v4 t0 S H locs ls hf hl hh
    unfold fX7_law_j70 at hf
    refine lv_istore (lv' := [(5, .int t0), (0, .ref a0), (3, .int v3), (4, .int v4)]) hx hb dX7_law_70 hl (by decide) rfl (fun ls hl => ?_)
    refine lv_aload_n hx hb dX7_law_72 rfl (lv_at hl 1 rfl) ?_
    refine zget (v := .ref a1) (ref := "SumOfTwoThatStand") (C := RX7) (T := TX7) (N := 10) (index := 10) X hh inX7_law_X7 0 rfl rfl 0 (by decide) mmX7_law_0 rfl rfl dX7_law_73 ?_
    refine lv_iload hx hb dX7_law_76 (lv_at hl 3 rfl) ?_
    refine lv_iload hx hb dX7_law_78 (lv_at hl 0 rfl) ?_
    refine zcallV (ci := 5) (q0 := 1) (As := [.int v4, .int t0]) (rest := []) (wr := zsel (cMn K a0 a1 a2 a3 a4 a5 a6 a7 a8 a9 a10 a11 a12 a13 a14 a15 a16 a17 a18 a19 a20 a21 a22 a23 a24 a25 a26 a27 a28 a29 a30 a31 a32 a33 a34 a35 a36 S) [0, 9, 10, 11, 12, 13, 14, 15, 16, 17, 18, 19, 20, 21, 22, 23, 24, 25, 26, 27, 28, 29, 30, 31, 32, 33, 34, 35, 36]) (ws' := cMn K a0 a1 a2 a3 a4 a5 a6 a7 a8 a9 a10 a11 a12 a13 a14 a15 a16 a17 a18 a19 a20 a21 a22 a23 a24 a25 a26 a27 a28 a29 a30 a31 a32 a33 a34 a35 a36 (mn_set_live S (fX5_changeLaws (mn_live S) v4 t0).2)) (ov := some (.int (fX5_changeLaws (mn_live S) v4 t0).1)) X hh hl (kX5_changeLaws l K a1 a2 a3 a4 a5 a6 a7 a8 (mn_live S) v4 t0 (fX5_changeLaws (mn_live S) v4 t0) rfl) (fun ht => cwV 2 ht gX7_law_X5_changeLaws rfl rfl rfl ⟨rfl, hdX5_changeLaws⟩ ⟨Nat.le_of_ble_eq_true rfl, Nat.le_of_ble_eq_true rfl⟩) [1, 2, 3, 4, 5, 6, 7, 8] [0, 9, 10, 11, 12, 13, 14, 15, 16, 17, 18, 19, 20, 21, 22, 23, 24, 25, 26, 27, 28, 29, 30, 31, 32, 33, 34, 35, 36] [0, 29, 30, 31, 32, 33, 34, 35, 36, 1, 2, 3, 4, 5, 6, 7, 8, 9, 10, 11, 12, 13, 14, 15, 16, 17, 18, 19, 20, 21, 22, 23, 24, 25, 26, 27, 28] rfl rfl rfl rfl (by decide) rfl rfl rfl rfl rfl rfl (Nat.le_of_ble_eq_true rfl) dX7_law_80 ⟨Nat.zero_le _, Nat.zero_le _⟩ (fun H locs hh => ?_)
    refine lv_if_eq (tgt := 90) hx hb dX7_law_83 (by decide) (fun c2 => ?_) (fun c2 => ?_)
    · replace hf := (if_pos c2).symm.trans hf
      refine lv_aload_n hx hb dX7_law_90 rfl (lv_at hl 1 rfl) ?_
      refine lv_bipush (v := (-2 : Int32)) hx hb dX7_law_91 (by decide) ?_
      obtain ⟨u3, hu3, hf⟩ := ob_bind hf
      refine zcallV (ci := 6) (q0 := 0) (As := [.int (-2 : Int32)]) (rest := []) (wr := []) (ws' := cMn K a0 a1 a2 a3 a4 a5 a6 a7 a8 a9 a10 a11 a12 a13 a14 a15 a16 a17 a18 a19 a20 a21 a22 a23 a24 a25 a26 a27 a28 a29 a30 a31 a32 a33 a34 a35 a36 u3.2) (ov := some (.int u3.1)) X hh hl (kX7_refuse l K a0 a1 a2 a3 a4 a5 a6 a7 a8 a9 a10 a11 a12 a13 a14 a15 a16 a17 a18 a19 a20 a21 a22 a23 a24 a25 a26 a27 a28 a29 a30 a31 a32 a33 a34 a35 a36 (mn_set_live S (fX5_changeLaws (mn_live S) v4 t0).2) (-2 : Int32) u3 hu3) (fun ht => cwV 1 ht gX7_law_X7_refuse rfl rfl rfl ⟨rfl, hdX7_refuse⟩ ⟨Nat.le_of_ble_eq_true rfl, Nat.le_of_ble_eq_true rfl⟩) [0, 1, 2, 3, 4, 5, 6, 7, 8, 9, 10, 11, 12, 13, 14, 15, 16, 17, 18, 19, 20, 21, 22, 23, 24, 25, 26, 27, 28, 29, 30, 31, 32, 33, 34, 35, 36] [] [0, 1, 2, 3, 4, 5, 6, 7, 8, 9, 10, 11, 12, 13, 14, 15, 16, 17, 18, 19, 20, 21, 22, 23, 24, 25, 26, 27, 28, 29, 30, 31, 32, 33, 34, 35, 36] rfl rfl rfl rfl (by decide) rfl rfl rfl rfl rfl rfl (Nat.le_of_ble_eq_true rfl) dX7_law_93 ⟨Nat.zero_le _, Nat.zero_le _⟩ (fun H locs hh => ?_)
      exact hr2 96 ls H locs u3.1 u3.2 hf dX7_law_96 hh
    · replace hf := (if_neg c2).symm.trans hf
      refine lv_iload_n hx hb dX7_law_86 rfl (lv_at hl 2 rfl) ?_
      refine lv_goto (tgt := 96) hx hb dX7_law_87 (by decide) ?_
      exact hr2 96 ls H locs v3 (mn_set_live S (fX5_changeLaws (mn_live S) v4 t0).2) hf dX7_law_96 hh
  have hJ53 : ∀ (v1 : Int32) (v2 : Int32) (v3 : Int32) (t0 : Int32) (S : zMn), ∀ (H : Heap) (locs : List Loc) (ls : Array Slot), fX7_law_j53 v1 v2 v3 t0 S = some R → lv_has ls 6 [(0, .ref a0), (1, .int v1), (2, .int v2), (3, .int v3)] → zW K A s H locs (cMn K a0 a1 a2 a3 a4 a5 a6 a7 a8 a9 a10 a11 a12 a13 a14 a15 a16 a17 a18 a19 a20 a21 a22 a23 a24 a25 a26 a27 a28 a29 a30 a31 a32 a33 a34 a35 a36 S) → W p l e ({ frames := 1, cells := 0, slots := 0, locals := 22 } : Room) s m ([.ref a0, .int p1, .int p2] : List Value).toArray below meth c H locs 0 0 Q (F0 m 53 ls [.int t0]) := by
    intro v1 v2 v3 t0 S H locs ls hf hl hh
    unfold fX7_law_j53 at hf
    refine lv_istore (lv' := [(4, .int t0), (0, .ref a0), (1, .int v1), (2, .int v2), (3, .int v3)]) hx hb dX7_law_53 hl (by decide) rfl (fun ls hl => ?_)
    refine lv_iload_n hx hb dX7_law_55 rfl (lv_at hl 2 rfl) ?_
    refine lv_if_ne (tgt := 69) hx hb dX7_law_56 (by decide) (fun c4 => ?_) (fun c4 => ?_)
    · replace hf := (if_neg c4).symm.trans hf
      refine lv_iload_n hx hb dX7_law_69 rfl (lv_at hl 3 rfl) ?_
      exact hJ70 v3 t0 v2 S H locs ls hf (lv_sub hl [1, 4, 0] rfl) hh
    · replace hf := (if_pos c4).symm.trans hf
      refine lv_aload_n hx hb dX7_law_59 rfl (lv_at hl 1 rfl) ?_
      refine zget (v := .ref a1) (ref := "SumOfTwoThatStand") (C := RX7) (T := TX7) (N := 10) (index := 10) X hh inX7_law_X7 0 rfl rfl 0 (by decide) mmX7_law_0 rfl rfl dX7_law_60 ?_
      refine zcallV (ci := 5) (q0 := 1) (As := []) (rest := []) (wr := zsel (cMn K a0 a1 a2 a3 a4 a5 a6 a7 a8 a9 a10 a11 a12 a13 a14 a15 a16 a17 a18 a19 a20 a21 a22 a23 a24 a25 a26 a27 a28 a29 a30 a31 a32 a33 a34 a35 a36 S) [0, 9, 10, 11, 12, 13, 14, 15, 16, 17, 18, 19, 20, 21, 22, 23, 24, 25, 26, 27, 28, 29, 30, 31, 32, 33, 34, 35, 36]) (ws' := cMn K a0 a1 a2 a3 a4 a5 a6 a7 a8 a9 a10 a11 a12 a13 a14 a15 a16 a17 a18 a19 a20 a21 a22 a23 a24 a25 a26 a27 a28 a29 a30 a31 a32 a33 a34 a35 a36 S) (ov := some (.int (fX5_fallsLaw (mn_live S)))) X hh hl (kX5_fallsLaw l K a1 a2 a3 a4 a5 a6 a7 a8 (mn_live S) (fX5_fallsLaw (mn_live S)) rfl) (fun ht => cwV 0 ht gX7_law_X5_fallsLaw rfl rfl rfl ⟨rfl, hdX5_fallsLaw⟩ ⟨Nat.le_of_ble_eq_true rfl, Nat.le_of_ble_eq_true rfl⟩) [1, 2, 3, 4, 5, 6, 7, 8] [0, 9, 10, 11, 12, 13, 14, 15, 16, 17, 18, 19, 20, 21, 22, 23, 24, 25, 26, 27, 28, 29, 30, 31, 32, 33, 34, 35, 36] [0, 29, 30, 31, 32, 33, 34, 35, 36, 1, 2, 3, 4, 5, 6, 7, 8, 9, 10, 11, 12, 13, 14, 15, 16, 17, 18, 19, 20, 21, 22, 23, 24, 25, 26, 27, 28] rfl rfl rfl rfl (by decide) rfl rfl rfl rfl rfl rfl (Nat.le_of_ble_eq_true rfl) dX7_law_63 ⟨Nat.zero_le _, Nat.zero_le _⟩ (fun H locs hh => ?_)
      refine lv_goto (tgt := 70) hx hb dX7_law_66 (by decide) ?_
      exact hJ70 v3 t0 (fX5_fallsLaw (mn_live S)) S H locs ls hf (lv_sub hl [1, 4, 0] rfl) hh
  have hJ37 : ∀ (v1 : Int32) (v2 : Int32) (t0 : Int32) (S : zMn), ∀ (H : Heap) (locs : List Loc) (ls : Array Slot), fX7_law_j37 v1 v2 t0 S = some R → lv_has ls 6 [(0, .ref a0), (1, .int v1), (2, .int v2)] → zW K A s H locs (cMn K a0 a1 a2 a3 a4 a5 a6 a7 a8 a9 a10 a11 a12 a13 a14 a15 a16 a17 a18 a19 a20 a21 a22 a23 a24 a25 a26 a27 a28 a29 a30 a31 a32 a33 a34 a35 a36 S) → W p l e ({ frames := 1, cells := 0, slots := 0, locals := 22 } : Room) s m ([.ref a0, .int p1, .int p2] : List Value).toArray below meth c H locs 0 0 Q (F0 m 37 ls [.int t0]) := by
    intro v1 v2 t0 S H locs ls hf hl hh
    unfold fX7_law_j37 at hf
    refine lv_istore_n (lv' := [(3, .int t0), (0, .ref a0), (1, .int v1), (2, .int v2)]) hx hb dX7_law_37 rfl hl (by decide) rfl (fun ls hl => ?_)
    refine lv_iload_n hx hb dX7_law_38 rfl (lv_at hl 2 rfl) ?_
    refine lv_if_ne (tgt := 46) hx hb dX7_law_39 (by decide) (fun c6 => ?_) (fun c6 => ?_)
    · replace hf := (if_neg c6).symm.trans hf
      refine lv_aload_n hx hb dX7_law_46 rfl (lv_at hl 1 rfl) ?_
      refine zget (v := .ref a1) (ref := "SumOfTwoThatStand") (C := RX7) (T := TX7) (N := 10) (index := 10) X hh inX7_law_X7 0 rfl rfl 0 (by decide) mmX7_law_0 rfl rfl dX7_law_47 ?_
      refine zcallV (ci := 5) (q0 := 1) (As := []) (rest := []) (wr := zsel (cMn K a0 a1 a2 a3 a4 a5 a6 a7 a8 a9 a10 a11 a12 a13 a14 a15 a16 a17 a18 a19 a20 a21 a22 a23 a24 a25 a26 a27 a28 a29 a30 a31 a32 a33 a34 a35 a36 S) [0, 9, 10, 11, 12, 13, 14, 15, 16, 17, 18, 19, 20, 21, 22, 23, 24, 25, 26, 27, 28, 29, 30, 31, 32, 33, 34, 35, 36]) (ws' := cMn K a0 a1 a2 a3 a4 a5 a6 a7 a8 a9 a10 a11 a12 a13 a14 a15 a16 a17 a18 a19 a20 a21 a22 a23 a24 a25 a26 a27 a28 a29 a30 a31 a32 a33 a34 a35 a36 S) (ov := some (.int (fX5_sumsLaw (mn_live S)))) X hh hl (kX5_sumsLaw l K a1 a2 a3 a4 a5 a6 a7 a8 (mn_live S) (fX5_sumsLaw (mn_live S)) rfl) (fun ht => cwV 0 ht gX7_law_X5_sumsLaw rfl rfl rfl ⟨rfl, hdX5_sumsLaw⟩ ⟨Nat.le_of_ble_eq_true rfl, Nat.le_of_ble_eq_true rfl⟩) [1, 2, 3, 4, 5, 6, 7, 8] [0, 9, 10, 11, 12, 13, 14, 15, 16, 17, 18, 19, 20, 21, 22, 23, 24, 25, 26, 27, 28, 29, 30, 31, 32, 33, 34, 35, 36] [0, 29, 30, 31, 32, 33, 34, 35, 36, 1, 2, 3, 4, 5, 6, 7, 8, 9, 10, 11, 12, 13, 14, 15, 16, 17, 18, 19, 20, 21, 22, 23, 24, 25, 26, 27, 28] rfl rfl rfl rfl (by decide) rfl rfl rfl rfl rfl rfl (Nat.le_of_ble_eq_true rfl) dX7_law_50 ⟨Nat.zero_le _, Nat.zero_le _⟩ (fun H locs hh => ?_)
      exact hJ53 v1 v2 t0 (fX5_sumsLaw (mn_live S)) S H locs ls hf (lv_sub hl [1, 2, 3, 0] rfl) hh
    · replace hf := (if_pos c6).symm.trans hf
      refine lv_iload_n hx hb dX7_law_42 rfl (lv_at hl 3 rfl) ?_
      refine lv_goto (tgt := 53) hx hb dX7_law_43 (by decide) ?_
      exact hJ53 v1 v2 t0 v2 S H locs ls hf (lv_sub hl [1, 2, 3, 0] rfl) hh
  have hJ9 : ∀ (S : zMn), ∀ (H : Heap) (locs : List Loc) (ls : Array Slot), fX7_law_j9 S = some R → lv_has ls 6 [(0, .ref a0)] → zW K A s H locs (cMn K a0 a1 a2 a3 a4 a5 a6 a7 a8 a9 a10 a11 a12 a13 a14 a15 a16 a17 a18 a19 a20 a21 a22 a23 a24 a25 a26 a27 a28 a29 a30 a31 a32 a33 a34 a35 a36 S) → W p l e ({ frames := 1, cells := 0, slots := 0, locals := 22 } : Room) s m ([.ref a0, .int p1, .int p2] : List Value).toArray below meth c H locs 0 0 Q (F0 m 9 ls []) := by
    intro S H locs ls hf hl hh
    unfold fX7_law_j9 at hf
    refine lv_aload_n hx hb dX7_law_9 rfl (lv_at hl 0 rfl) ?_
    refine lv_bipush (v := (-2 : Int32)) hx hb dX7_law_10 (by decide) ?_
    obtain ⟨u8, hu8, hf⟩ := ob_bind hf
    refine zcallV (ci := 6) (q0 := 0) (As := [.int (-2 : Int32)]) (rest := []) (wr := []) (ws' := cMn K a0 a1 a2 a3 a4 a5 a6 a7 a8 a9 a10 a11 a12 a13 a14 a15 a16 a17 a18 a19 a20 a21 a22 a23 a24 a25 a26 a27 a28 a29 a30 a31 a32 a33 a34 a35 a36 u8.2) (ov := some (.int u8.1)) X hh hl (kX7_refuse l K a0 a1 a2 a3 a4 a5 a6 a7 a8 a9 a10 a11 a12 a13 a14 a15 a16 a17 a18 a19 a20 a21 a22 a23 a24 a25 a26 a27 a28 a29 a30 a31 a32 a33 a34 a35 a36 S (-2 : Int32) u8 hu8) (fun ht => cwV 1 ht gX7_law_X7_refuse rfl rfl rfl ⟨rfl, hdX7_refuse⟩ ⟨Nat.le_of_ble_eq_true rfl, Nat.le_of_ble_eq_true rfl⟩) [0, 1, 2, 3, 4, 5, 6, 7, 8, 9, 10, 11, 12, 13, 14, 15, 16, 17, 18, 19, 20, 21, 22, 23, 24, 25, 26, 27, 28, 29, 30, 31, 32, 33, 34, 35, 36] [] [0, 1, 2, 3, 4, 5, 6, 7, 8, 9, 10, 11, 12, 13, 14, 15, 16, 17, 18, 19, 20, 21, 22, 23, 24, 25, 26, 27, 28, 29, 30, 31, 32, 33, 34, 35, 36] rfl rfl rfl rfl (by decide) rfl rfl rfl rfl rfl rfl (Nat.le_of_ble_eq_true rfl) dX7_law_12 ⟨Nat.zero_le _, Nat.zero_le _⟩ (fun H locs hh => ?_)
    exact hr2 15 ls H locs u8.1 u8.2 hf dX7_law_15 hh
  unfold fX7_law at hf
  refine (fun (hmain : ∀ (H : Heap) (locs : List Loc), zW K A s H locs (cMn K a0 a1 a2 a3 a4 a5 a6 a7 a8 a9 a10 a11 a12 a13 a14 a15 a16 a17 a18 a19 a20 a21 a22 a23 a24 a25 a26 a27 a28 a29 a30 a31 a32 a33 a34 a35 a36 S) → W p l e ({ frames := 1, cells := 0, slots := 0, locals := 22 } : Room) s m ([.ref a0, .int p1, .int p2] : List Value).toArray below meth c H locs 0 0 Q (F0 m 0 ls [])) => hmain s.heap [] hh) (fun H locs hh => ?_)
  refine lv_iload_n hx hb dX7_law_0 rfl (lv_at hl 1 rfl) ?_
  refine lv_if_lt (tgt := 9) hx hb dX7_law_1 (by decide) (fun c9 => ?_) (fun c9 => ?_)
  · replace hf := (if_pos c9).symm.trans hf
    exact hJ9 S H locs ls hf (lv_sub hl [0] rfl) hh
  · replace hf := (if_neg c9).symm.trans hf
    refine lv_iload_n hx hb dX7_law_4 rfl (lv_at hl 1 rfl) ?_
    refine lv_iconst (v := (1 : Int32)) hx hb dX7_law_5 (by decide) ?_
    refine lv_icmp_le (tgt := 16) hx hb dX7_law_6 (by decide) (fun c10 => ?_) (fun c10 => ?_)
    · replace hf := (if_pos c10).symm.trans hf
      refine lv_iload_n hx hb dX7_law_16 rfl (lv_at hl 1 rfl) ?_
      refine lv_if_ne (tgt := 30) hx hb dX7_law_17 (by decide) (fun c11 => ?_) (fun c11 => ?_)
      · replace hf := (if_neg c11).symm.trans hf
        refine lv_aload_n hx hb dX7_law_30 rfl (lv_at hl 0 rfl) ?_
        refine zget (v := .ref a1) (ref := "SumOfTwoThatStand") (C := RX7) (T := TX7) (N := 10) (index := 10) X hh inX7_law_X7 0 rfl rfl 0 (by decide) mmX7_law_0 rfl rfl dX7_law_31 ?_
        refine zcallV (ci := 5) (q0 := 1) (As := []) (rest := []) (wr := zsel (cMn K a0 a1 a2 a3 a4 a5 a6 a7 a8 a9 a10 a11 a12 a13 a14 a15 a16 a17 a18 a19 a20 a21 a22 a23 a24 a25 a26 a27 a28 a29 a30 a31 a32 a33 a34 a35 a36 S) [0, 9, 10, 11, 12, 13, 14, 15, 16, 17, 18, 19, 20, 21, 22, 23, 24, 25, 26, 27, 28, 29, 30, 31, 32, 33, 34, 35, 36]) (ws' := cMn K a0 a1 a2 a3 a4 a5 a6 a7 a8 a9 a10 a11 a12 a13 a14 a15 a16 a17 a18 a19 a20 a21 a22 a23 a24 a25 a26 a27 a28 a29 a30 a31 a32 a33 a34 a35 a36 S) (ov := some (.int (fX5_fallsLaw (mn_live S)))) X hh hl (kX5_fallsLaw l K a1 a2 a3 a4 a5 a6 a7 a8 (mn_live S) (fX5_fallsLaw (mn_live S)) rfl) (fun ht => cwV 0 ht gX7_law_X5_fallsLaw rfl rfl rfl ⟨rfl, hdX5_fallsLaw⟩ ⟨Nat.le_of_ble_eq_true rfl, Nat.le_of_ble_eq_true rfl⟩) [1, 2, 3, 4, 5, 6, 7, 8] [0, 9, 10, 11, 12, 13, 14, 15, 16, 17, 18, 19, 20, 21, 22, 23, 24, 25, 26, 27, 28, 29, 30, 31, 32, 33, 34, 35, 36] [0, 29, 30, 31, 32, 33, 34, 35, 36, 1, 2, 3, 4, 5, 6, 7, 8, 9, 10, 11, 12, 13, 14, 15, 16, 17, 18, 19, 20, 21, 22, 23, 24, 25, 26, 27, 28] rfl rfl rfl rfl (by decide) rfl rfl rfl rfl rfl rfl (Nat.le_of_ble_eq_true rfl) dX7_law_34 ⟨Nat.zero_le _, Nat.zero_le _⟩ (fun H locs hh => ?_)
        exact hJ37 p1 p2 (fX5_fallsLaw (mn_live S)) S H locs ls hf (lv_sub hl [0, 1, 2] rfl) hh
      · replace hf := (if_pos c11).symm.trans hf
        refine lv_aload_n hx hb dX7_law_20 rfl (lv_at hl 0 rfl) ?_
        refine zget (v := .ref a1) (ref := "SumOfTwoThatStand") (C := RX7) (T := TX7) (N := 10) (index := 10) X hh inX7_law_X7 0 rfl rfl 0 (by decide) mmX7_law_0 rfl rfl dX7_law_21 ?_
        refine zcallV (ci := 5) (q0 := 1) (As := []) (rest := []) (wr := zsel (cMn K a0 a1 a2 a3 a4 a5 a6 a7 a8 a9 a10 a11 a12 a13 a14 a15 a16 a17 a18 a19 a20 a21 a22 a23 a24 a25 a26 a27 a28 a29 a30 a31 a32 a33 a34 a35 a36 S) [0, 9, 10, 11, 12, 13, 14, 15, 16, 17, 18, 19, 20, 21, 22, 23, 24, 25, 26, 27, 28, 29, 30, 31, 32, 33, 34, 35, 36]) (ws' := cMn K a0 a1 a2 a3 a4 a5 a6 a7 a8 a9 a10 a11 a12 a13 a14 a15 a16 a17 a18 a19 a20 a21 a22 a23 a24 a25 a26 a27 a28 a29 a30 a31 a32 a33 a34 a35 a36 S) (ov := some (.int (fX5_sumsLaw (mn_live S)))) X hh hl (kX5_sumsLaw l K a1 a2 a3 a4 a5 a6 a7 a8 (mn_live S) (fX5_sumsLaw (mn_live S)) rfl) (fun ht => cwV 0 ht gX7_law_X5_sumsLaw rfl rfl rfl ⟨rfl, hdX5_sumsLaw⟩ ⟨Nat.le_of_ble_eq_true rfl, Nat.le_of_ble_eq_true rfl⟩) [1, 2, 3, 4, 5, 6, 7, 8] [0, 9, 10, 11, 12, 13, 14, 15, 16, 17, 18, 19, 20, 21, 22, 23, 24, 25, 26, 27, 28, 29, 30, 31, 32, 33, 34, 35, 36] [0, 29, 30, 31, 32, 33, 34, 35, 36, 1, 2, 3, 4, 5, 6, 7, 8, 9, 10, 11, 12, 13, 14, 15, 16, 17, 18, 19, 20, 21, 22, 23, 24, 25, 26, 27, 28] rfl rfl rfl rfl (by decide) rfl rfl rfl rfl rfl rfl (Nat.le_of_ble_eq_true rfl) dX7_law_24 ⟨Nat.zero_le _, Nat.zero_le _⟩ (fun H locs hh => ?_)
        refine lv_goto (tgt := 37) hx hb dX7_law_27 (by decide) ?_
        exact hJ37 p1 p2 (fX5_sumsLaw (mn_live S)) S H locs ls hf (lv_sub hl [0, 1, 2] rfl) hh
    · replace hf := (if_neg c10).symm.trans hf
      exact hJ9 S H locs ls hf (lv_sub hl [0] rfl) hh
theorem inX7_may_X7 : ∀ w ∈ wsX70, w ∈ wsX7_may := by decide +kernel
theorem mmX7_may_0 : Cond.fieldLink RX7 10 "SumOfTwoThatStand" "live" "LSumOfTwoThatStand$Street;" ∈ wsX7_may := by decide +kernel
theorem hdX7_may : yX7_may.cls ≠ "java/lang/invoke/MethodHandle" ∧ yX7_may.cls ≠ "java/lang/invoke/VarHandle" ∧ (parseMethodDescriptor yX7_may.desc).map (fun d => d.parameters.length) = some 2 := by decide +kernel
set_option maxHeartbeats 4000000 in
set_option maxRecDepth 100000 in
theorem kX7_may (l : Launch) (K : zK) (a0 a1 a2 a3 a4 a5 a6 a7 a8 a9 a10 a11 a12 a13 a14 a15 a16 a17 a18 a19 a20 a21 a22 a23 a24 a25 a26 a27 a28 a29 a30 a31 a32 a33 a34 a35 a36 : Nat) (S : zMn) (p1 : Int32) (p2 : Int32) (R : Int32 × zMn) (hf : fX7_may S p1 p2 = some R) : zC l yX7_may wsX7_may ({ frames := 3, cells := 0, slots := 0, locals := 67 } : Room) K [.ref a0, .int p1, .int p2] (cMn K a0 a1 a2 a3 a4 a5 a6 a7 a8 a9 a10 a11 a12 a13 a14 a15 a16 a17 a18 a19 a20 a21 a22 a23 a24 a25 a26 a27 a28 a29 a30 a31 a32 a33 a34 a35 a36 S) (some (.int R.1)) (cMn K a0 a1 a2 a3 a4 a5 a6 a7 a8 a9 a10 a11 a12 a13 a14 a15 a16 a17 a18 a19 a20 a21 a22 a23 a24 a25 a26 a27 a28 a29 a30 a31 a32 a33 a34 a35 a36 R.2) := by
  refine zC_i R.1 (cc := cX7_may) (maxL := 3) (by decide +kernel) rfl (Nat.le_of_ble_eq_true rfl) rfl rfl ?_
  intro p e s m below meth c Q A X hret ls hl hh
  have X : zX p m c cX7_may 3 s ([.ref a0, .int p1, .int p2] : List Value).toArray wsX7_may RX7 K A := X
  have hx := X.1.1
  have hb := X.1.2.1
  have hr2 : ∀ (pc : Nat) (ls : Array Slot) (H : Heap) (locs : List Loc) (v : Int32) (S : zMn), some (v, S) = some R → decode cX7_may pc = .ok (.ireturn, 1) → zW K A s H locs (cMn K a0 a1 a2 a3 a4 a5 a6 a7 a8 a9 a10 a11 a12 a13 a14 a15 a16 a17 a18 a19 a20 a21 a22 a23 a24 a25 a26 a27 a28 a29 a30 a31 a32 a33 a34 a35 a36 S) → W p l e ({ frames := 3, cells := 0, slots := 0, locals := 67 } : Room) s m ([.ref a0, .int p1, .int p2] : List Value).toArray below meth c H locs 0 0 Q (F0 m pc ls [.int v]) := by
    intro pc ls H locs v S h hd hh
    cases h; exact hret pc ls H locs _ rfl hd hh
  have hl : lv_has ls 3 [(0, .ref a0), (1, .int p1), (2, .int p2)] := hl
  have hJ50 : ∀ (S : zMn), ∀ (H : Heap) (locs : List Loc) (ls : Array Slot), fX7_may_j50 S = some R → lv_has ls 3 [(0, .ref a0)] → zW K A s H locs (cMn K a0 a1 a2 a3 a4 a5 a6 a7 a8 a9 a10 a11 a12 a13 a14 a15 a16 a17 a18 a19 a20 a21 a22 a23 a24 a25 a26 a27 a28 a29 a30 a31 a32 a33 a34 a35 a36 S) → W p l e ({ frames := 3, cells := 0, slots := 0, locals := 67 } : Room) s m ([.ref a0, .int p1, .int p2] : List Value).toArray below meth c H locs 0 0 Q (F0 m 50 ls []) := by
    intro S H locs ls hf hl hh
    unfold fX7_may_j50 at hf
    refine lv_aload_n hx hb dX7_may_50 rfl (lv_at hl 0 rfl) ?_
    refine lv_bipush (v := (-3 : Int32)) hx hb dX7_may_51 (by decide) ?_
    obtain ⟨u1, hu1, hf⟩ := ob_bind hf
    refine zcallV (ci := 6) (q0 := 0) (As := [.int (-3 : Int32)]) (rest := []) (wr := []) (ws' := cMn K a0 a1 a2 a3 a4 a5 a6 a7 a8 a9 a10 a11 a12 a13 a14 a15 a16 a17 a18 a19 a20 a21 a22 a23 a24 a25 a26 a27 a28 a29 a30 a31 a32 a33 a34 a35 a36 u1.2) (ov := some (.int u1.1)) X hh hl (kX7_refuse l K a0 a1 a2 a3 a4 a5 a6 a7 a8 a9 a10 a11 a12 a13 a14 a15 a16 a17 a18 a19 a20 a21 a22 a23 a24 a25 a26 a27 a28 a29 a30 a31 a32 a33 a34 a35 a36 S (-3 : Int32) u1 hu1) (fun ht => cwV 1 ht gX7_may_X7_refuse rfl rfl rfl ⟨rfl, hdX7_refuse⟩ ⟨Nat.le_of_ble_eq_true rfl, Nat.le_of_ble_eq_true rfl⟩) [0, 1, 2, 3, 4, 5, 6, 7, 8, 9, 10, 11, 12, 13, 14, 15, 16, 17, 18, 19, 20, 21, 22, 23, 24, 25, 26, 27, 28, 29, 30, 31, 32, 33, 34, 35, 36] [] [0, 1, 2, 3, 4, 5, 6, 7, 8, 9, 10, 11, 12, 13, 14, 15, 16, 17, 18, 19, 20, 21, 22, 23, 24, 25, 26, 27, 28, 29, 30, 31, 32, 33, 34, 35, 36] rfl rfl rfl rfl (by decide) rfl rfl rfl rfl rfl rfl (Nat.le_of_ble_eq_true rfl) dX7_may_53 ⟨Nat.zero_le _, Nat.zero_le _⟩ (fun H locs hh => ?_)
    exact hr2 56 ls H locs u1.1 u1.2 hf dX7_may_56 hh
  have hJ22 : ∀ (S : zMn), ∀ (H : Heap) (locs : List Loc) (ls : Array Slot), fX7_may_j22 S = some R → lv_has ls 3 [(0, .ref a0)] → zW K A s H locs (cMn K a0 a1 a2 a3 a4 a5 a6 a7 a8 a9 a10 a11 a12 a13 a14 a15 a16 a17 a18 a19 a20 a21 a22 a23 a24 a25 a26 a27 a28 a29 a30 a31 a32 a33 a34 a35 a36 S) → W p l e ({ frames := 3, cells := 0, slots := 0, locals := 67 } : Room) s m ([.ref a0, .int p1, .int p2] : List Value).toArray below meth c H locs 0 0 Q (F0 m 22 ls []) := by
    intro S H locs ls hf hl hh
    unfold fX7_may_j22 at hf
    refine lv_aload_n hx hb dX7_may_22 rfl (lv_at hl 0 rfl) ?_
    refine lv_iconst (v := (-1 : Int32)) hx hb dX7_may_23 (by decide) ?_
    obtain ⟨u2, hu2, hf⟩ := ob_bind hf
    refine zcallV (ci := 6) (q0 := 0) (As := [.int (-1 : Int32)]) (rest := []) (wr := []) (ws' := cMn K a0 a1 a2 a3 a4 a5 a6 a7 a8 a9 a10 a11 a12 a13 a14 a15 a16 a17 a18 a19 a20 a21 a22 a23 a24 a25 a26 a27 a28 a29 a30 a31 a32 a33 a34 a35 a36 u2.2) (ov := some (.int u2.1)) X hh hl (kX7_refuse l K a0 a1 a2 a3 a4 a5 a6 a7 a8 a9 a10 a11 a12 a13 a14 a15 a16 a17 a18 a19 a20 a21 a22 a23 a24 a25 a26 a27 a28 a29 a30 a31 a32 a33 a34 a35 a36 S (-1 : Int32) u2 hu2) (fun ht => cwV 1 ht gX7_may_X7_refuse rfl rfl rfl ⟨rfl, hdX7_refuse⟩ ⟨Nat.le_of_ble_eq_true rfl, Nat.le_of_ble_eq_true rfl⟩) [0, 1, 2, 3, 4, 5, 6, 7, 8, 9, 10, 11, 12, 13, 14, 15, 16, 17, 18, 19, 20, 21, 22, 23, 24, 25, 26, 27, 28, 29, 30, 31, 32, 33, 34, 35, 36] [] [0, 1, 2, 3, 4, 5, 6, 7, 8, 9, 10, 11, 12, 13, 14, 15, 16, 17, 18, 19, 20, 21, 22, 23, 24, 25, 26, 27, 28, 29, 30, 31, 32, 33, 34, 35, 36] rfl rfl rfl rfl (by decide) rfl rfl rfl rfl rfl rfl (Nat.le_of_ble_eq_true rfl) dX7_may_24 ⟨Nat.zero_le _, Nat.zero_le _⟩ (fun H locs hh => ?_)
    exact hr2 27 ls H locs u2.1 u2.2 hf dX7_may_27 hh
  unfold fX7_may at hf
  refine (fun (hmain : ∀ (H : Heap) (locs : List Loc), zW K A s H locs (cMn K a0 a1 a2 a3 a4 a5 a6 a7 a8 a9 a10 a11 a12 a13 a14 a15 a16 a17 a18 a19 a20 a21 a22 a23 a24 a25 a26 a27 a28 a29 a30 a31 a32 a33 a34 a35 a36 S) → W p l e ({ frames := 3, cells := 0, slots := 0, locals := 67 } : Room) s m ([.ref a0, .int p1, .int p2] : List Value).toArray below meth c H locs 0 0 Q (F0 m 0 ls [])) => hmain s.heap [] hh) (fun H locs hh => ?_)
  refine lv_aload_n hx hb dX7_may_0 rfl (lv_at hl 0 rfl) ?_
  refine zget (v := .ref a1) (ref := "SumOfTwoThatStand") (C := RX7) (T := TX7) (N := 10) (index := 10) X hh inX7_may_X7 0 rfl rfl 0 (by decide) mmX7_may_0 rfl rfl dX7_may_1 ?_
  refine lv_iload_n hx hb dX7_may_4 rfl (lv_at hl 1 rfl) ?_
  refine zcallV (ci := 5) (q0 := 1) (As := [.int p1]) (rest := []) (wr := zsel (cMn K a0 a1 a2 a3 a4 a5 a6 a7 a8 a9 a10 a11 a12 a13 a14 a15 a16 a17 a18 a19 a20 a21 a22 a23 a24 a25 a26 a27 a28 a29 a30 a31 a32 a33 a34 a35 a36 S) [0, 9, 10, 11, 12, 13, 14, 15, 16, 17, 18, 19, 20, 21, 22, 23, 24, 25, 26, 27, 28, 29, 30, 31, 32, 33, 34, 35, 36]) (ws' := cMn K a0 a1 a2 a3 a4 a5 a6 a7 a8 a9 a10 a11 a12 a13 a14 a15 a16 a17 a18 a19 a20 a21 a22 a23 a24 a25 a26 a27 a28 a29 a30 a31 a32 a33 a34 a35 a36 S) (ov := some (.int (fX5_has (mn_live S) p1))) X hh hl (kX5_has l K a1 a2 a3 a4 a5 a6 a7 a8 (mn_live S) p1 (fX5_has (mn_live S) p1) rfl) (fun ht => cwV 1 ht gX7_may_X5_has rfl rfl rfl ⟨rfl, hdX5_has⟩ ⟨Nat.le_of_ble_eq_true rfl, Nat.le_of_ble_eq_true rfl⟩) [1, 2, 3, 4, 5, 6, 7, 8] [0, 9, 10, 11, 12, 13, 14, 15, 16, 17, 18, 19, 20, 21, 22, 23, 24, 25, 26, 27, 28, 29, 30, 31, 32, 33, 34, 35, 36] [0, 29, 30, 31, 32, 33, 34, 35, 36, 1, 2, 3, 4, 5, 6, 7, 8, 9, 10, 11, 12, 13, 14, 15, 16, 17, 18, 19, 20, 21, 22, 23, 24, 25, 26, 27, 28] rfl rfl rfl rfl (by decide) rfl rfl rfl rfl rfl rfl (Nat.le_of_ble_eq_true rfl) dX7_may_5 ⟨Nat.zero_le _, Nat.zero_le _⟩ (fun H locs hh => ?_)
  refine lv_if_eq (tgt := 22) hx hb dX7_may_8 (by decide) (fun c4 => ?_) (fun c4 => ?_)
  · replace hf := (if_pos c4).symm.trans hf
    exact hJ22 S H locs ls hf (lv_sub hl [0] rfl) hh
  · replace hf := (if_neg c4).symm.trans hf
    refine lv_aload_n hx hb dX7_may_11 rfl (lv_at hl 0 rfl) ?_
    refine zget (v := .ref a1) (ref := "SumOfTwoThatStand") (C := RX7) (T := TX7) (N := 10) (index := 10) X hh inX7_may_X7 0 rfl rfl 0 (by decide) mmX7_may_0 rfl rfl dX7_may_12 ?_
    refine lv_iload_n hx hb dX7_may_15 rfl (lv_at hl 2 rfl) ?_
    refine zcallV (ci := 5) (q0 := 1) (As := [.int p2]) (rest := []) (wr := zsel (cMn K a0 a1 a2 a3 a4 a5 a6 a7 a8 a9 a10 a11 a12 a13 a14 a15 a16 a17 a18 a19 a20 a21 a22 a23 a24 a25 a26 a27 a28 a29 a30 a31 a32 a33 a34 a35 a36 S) [0, 9, 10, 11, 12, 13, 14, 15, 16, 17, 18, 19, 20, 21, 22, 23, 24, 25, 26, 27, 28, 29, 30, 31, 32, 33, 34, 35, 36]) (ws' := cMn K a0 a1 a2 a3 a4 a5 a6 a7 a8 a9 a10 a11 a12 a13 a14 a15 a16 a17 a18 a19 a20 a21 a22 a23 a24 a25 a26 a27 a28 a29 a30 a31 a32 a33 a34 a35 a36 S) (ov := some (.int (fX5_has (mn_live S) p2))) X hh hl (kX5_has l K a1 a2 a3 a4 a5 a6 a7 a8 (mn_live S) p2 (fX5_has (mn_live S) p2) rfl) (fun ht => cwV 1 ht gX7_may_X5_has rfl rfl rfl ⟨rfl, hdX5_has⟩ ⟨Nat.le_of_ble_eq_true rfl, Nat.le_of_ble_eq_true rfl⟩) [1, 2, 3, 4, 5, 6, 7, 8] [0, 9, 10, 11, 12, 13, 14, 15, 16, 17, 18, 19, 20, 21, 22, 23, 24, 25, 26, 27, 28, 29, 30, 31, 32, 33, 34, 35, 36] [0, 29, 30, 31, 32, 33, 34, 35, 36, 1, 2, 3, 4, 5, 6, 7, 8, 9, 10, 11, 12, 13, 14, 15, 16, 17, 18, 19, 20, 21, 22, 23, 24, 25, 26, 27, 28] rfl rfl rfl rfl (by decide) rfl rfl rfl rfl rfl rfl (Nat.le_of_ble_eq_true rfl) dX7_may_16 ⟨Nat.zero_le _, Nat.zero_le _⟩ (fun H locs hh => ?_)
    refine lv_if_ne (tgt := 28) hx hb dX7_may_19 (by decide) (fun c6 => ?_) (fun c6 => ?_)
    · replace hf := (if_neg c6).symm.trans hf
      refine lv_aload_n hx hb dX7_may_28 rfl (lv_at hl 0 rfl) ?_
      refine zget (v := .ref a1) (ref := "SumOfTwoThatStand") (C := RX7) (T := TX7) (N := 10) (index := 10) X hh inX7_may_X7 0 rfl rfl 0 (by decide) mmX7_may_0 rfl rfl dX7_may_29 ?_
      refine lv_iload_n hx hb dX7_may_32 rfl (lv_at hl 1 rfl) ?_
      refine zcallV (ci := 5) (q0 := 1) (As := [.int p1]) (rest := []) (wr := zsel (cMn K a0 a1 a2 a3 a4 a5 a6 a7 a8 a9 a10 a11 a12 a13 a14 a15 a16 a17 a18 a19 a20 a21 a22 a23 a24 a25 a26 a27 a28 a29 a30 a31 a32 a33 a34 a35 a36 S) [0, 9, 10, 11, 12, 13, 14, 15, 16, 17, 18, 19, 20, 21, 22, 23, 24, 25, 26, 27, 28, 29, 30, 31, 32, 33, 34, 35, 36]) (ws' := cMn K a0 a1 a2 a3 a4 a5 a6 a7 a8 a9 a10 a11 a12 a13 a14 a15 a16 a17 a18 a19 a20 a21 a22 a23 a24 a25 a26 a27 a28 a29 a30 a31 a32 a33 a34 a35 a36 S) (ov := some (.int (fX5_stands (mn_live S) p1))) X hh hl (kX5_stands l K a1 a2 a3 a4 a5 a6 a7 a8 (mn_live S) p1 (fX5_stands (mn_live S) p1) rfl) (fun ht => cwV 1 ht gX7_may_X5_stands rfl rfl rfl ⟨rfl, hdX5_stands⟩ ⟨Nat.le_of_ble_eq_true rfl, Nat.le_of_ble_eq_true rfl⟩) [1, 2, 3, 4, 5, 6, 7, 8] [0, 9, 10, 11, 12, 13, 14, 15, 16, 17, 18, 19, 20, 21, 22, 23, 24, 25, 26, 27, 28, 29, 30, 31, 32, 33, 34, 35, 36] [0, 29, 30, 31, 32, 33, 34, 35, 36, 1, 2, 3, 4, 5, 6, 7, 8, 9, 10, 11, 12, 13, 14, 15, 16, 17, 18, 19, 20, 21, 22, 23, 24, 25, 26, 27, 28] rfl rfl rfl rfl (by decide) rfl rfl rfl rfl rfl rfl (Nat.le_of_ble_eq_true rfl) dX7_may_33 ⟨Nat.zero_le _, Nat.zero_le _⟩ (fun H locs hh => ?_)
      refine lv_if_eq (tgt := 50) hx hb dX7_may_36 (by decide) (fun c8 => ?_) (fun c8 => ?_)
      · replace hf := (if_pos c8).symm.trans hf
        exact hJ50 S H locs ls hf (lv_sub hl [0] rfl) hh
      · replace hf := (if_neg c8).symm.trans hf
        refine lv_aload_n hx hb dX7_may_39 rfl (lv_at hl 0 rfl) ?_
        refine zget (v := .ref a1) (ref := "SumOfTwoThatStand") (C := RX7) (T := TX7) (N := 10) (index := 10) X hh inX7_may_X7 0 rfl rfl 0 (by decide) mmX7_may_0 rfl rfl dX7_may_40 ?_
        refine lv_iload_n hx hb dX7_may_43 rfl (lv_at hl 2 rfl) ?_
        refine zcallV (ci := 5) (q0 := 1) (As := [.int p2]) (rest := []) (wr := zsel (cMn K a0 a1 a2 a3 a4 a5 a6 a7 a8 a9 a10 a11 a12 a13 a14 a15 a16 a17 a18 a19 a20 a21 a22 a23 a24 a25 a26 a27 a28 a29 a30 a31 a32 a33 a34 a35 a36 S) [0, 9, 10, 11, 12, 13, 14, 15, 16, 17, 18, 19, 20, 21, 22, 23, 24, 25, 26, 27, 28, 29, 30, 31, 32, 33, 34, 35, 36]) (ws' := cMn K a0 a1 a2 a3 a4 a5 a6 a7 a8 a9 a10 a11 a12 a13 a14 a15 a16 a17 a18 a19 a20 a21 a22 a23 a24 a25 a26 a27 a28 a29 a30 a31 a32 a33 a34 a35 a36 S) (ov := some (.int (fX5_stands (mn_live S) p2))) X hh hl (kX5_stands l K a1 a2 a3 a4 a5 a6 a7 a8 (mn_live S) p2 (fX5_stands (mn_live S) p2) rfl) (fun ht => cwV 1 ht gX7_may_X5_stands rfl rfl rfl ⟨rfl, hdX5_stands⟩ ⟨Nat.le_of_ble_eq_true rfl, Nat.le_of_ble_eq_true rfl⟩) [1, 2, 3, 4, 5, 6, 7, 8] [0, 9, 10, 11, 12, 13, 14, 15, 16, 17, 18, 19, 20, 21, 22, 23, 24, 25, 26, 27, 28, 29, 30, 31, 32, 33, 34, 35, 36] [0, 29, 30, 31, 32, 33, 34, 35, 36, 1, 2, 3, 4, 5, 6, 7, 8, 9, 10, 11, 12, 13, 14, 15, 16, 17, 18, 19, 20, 21, 22, 23, 24, 25, 26, 27, 28] rfl rfl rfl rfl (by decide) rfl rfl rfl rfl rfl rfl (Nat.le_of_ble_eq_true rfl) dX7_may_44 ⟨Nat.zero_le _, Nat.zero_le _⟩ (fun H locs hh => ?_)
        refine lv_if_ne (tgt := 57) hx hb dX7_may_47 (by decide) (fun c10 => ?_) (fun c10 => ?_)
        · replace hf := (if_neg c10).symm.trans hf
          refine lv_aload_n hx hb dX7_may_57 rfl (lv_at hl 0 rfl) ?_
          refine zget (v := .ref a1) (ref := "SumOfTwoThatStand") (C := RX7) (T := TX7) (N := 10) (index := 10) X hh inX7_may_X7 0 rfl rfl 0 (by decide) mmX7_may_0 rfl rfl dX7_may_58 ?_
          refine lv_iload_n hx hb dX7_may_61 rfl (lv_at hl 1 rfl) ?_
          refine lv_iload_n hx hb dX7_may_62 rfl (lv_at hl 2 rfl) ?_
          obtain ⟨u11, hu11, hf⟩ := ob_bind hf
          refine zcallV (ci := 5) (q0 := 1) (As := [.int p1, .int p2]) (rest := []) (wr := zsel (cMn K a0 a1 a2 a3 a4 a5 a6 a7 a8 a9 a10 a11 a12 a13 a14 a15 a16 a17 a18 a19 a20 a21 a22 a23 a24 a25 a26 a27 a28 a29 a30 a31 a32 a33 a34 a35 a36 S) [0, 9, 10, 11, 12, 13, 14, 15, 16, 17, 18, 19, 20, 21, 22, 23, 24, 25, 26, 27, 28, 29, 30, 31, 32, 33, 34, 35, 36]) (ws' := cMn K a0 a1 a2 a3 a4 a5 a6 a7 a8 a9 a10 a11 a12 a13 a14 a15 a16 a17 a18 a19 a20 a21 a22 a23 a24 a25 a26 a27 a28 a29 a30 a31 a32 a33 a34 a35 a36 S) (ov := some (.int u11)) X hh hl (kX5_mayBe l K a1 a2 a3 a4 a5 a6 a7 a8 (mn_live S) p1 p2 u11 hu11) (fun ht => cwV 2 ht gX7_may_X5_mayBe rfl rfl rfl ⟨rfl, hdX5_mayBe⟩ ⟨Nat.le_of_ble_eq_true rfl, Nat.le_of_ble_eq_true rfl⟩) [1, 2, 3, 4, 5, 6, 7, 8] [0, 9, 10, 11, 12, 13, 14, 15, 16, 17, 18, 19, 20, 21, 22, 23, 24, 25, 26, 27, 28, 29, 30, 31, 32, 33, 34, 35, 36] [0, 29, 30, 31, 32, 33, 34, 35, 36, 1, 2, 3, 4, 5, 6, 7, 8, 9, 10, 11, 12, 13, 14, 15, 16, 17, 18, 19, 20, 21, 22, 23, 24, 25, 26, 27, 28] rfl rfl rfl rfl (by decide) rfl rfl rfl rfl rfl rfl (Nat.le_of_ble_eq_true rfl) dX7_may_63 ⟨Nat.zero_le _, Nat.zero_le _⟩ (fun H locs hh => ?_)
          refine lv_if_eq (tgt := 73) hx hb dX7_may_66 (by decide) (fun c12 => ?_) (fun c12 => ?_)
          · replace hf := (if_pos c12).symm.trans hf
            refine lv_iconst (v := (0 : Int32)) hx hb dX7_may_73 (by decide) ?_
            exact hr2 74 ls H locs (0 : Int32) S hf dX7_may_74 hh
          · replace hf := (if_neg c12).symm.trans hf
            refine lv_iconst (v := (1 : Int32)) hx hb dX7_may_69 (by decide) ?_
            refine lv_goto (tgt := 74) hx hb dX7_may_70 (by decide) ?_
            exact hr2 74 ls H locs (1 : Int32) S hf dX7_may_74 hh
        · replace hf := (if_pos c10).symm.trans hf
          exact hJ50 S H locs ls hf (lv_sub hl [0] rfl) hh
    · replace hf := (if_pos c6).symm.trans hf
      exact hJ22 S H locs ls hf (lv_sub hl [0] rfl) hh
theorem inX7_cost_X7 : ∀ w ∈ wsX70, w ∈ wsX7_cost := by decide +kernel
theorem mmX7_cost_0 : Cond.fieldLink RX7 10 "SumOfTwoThatStand" "live" "LSumOfTwoThatStand$Street;" ∈ wsX7_cost := by decide +kernel
theorem hdX7_cost : yX7_cost.cls ≠ "java/lang/invoke/MethodHandle" ∧ yX7_cost.cls ≠ "java/lang/invoke/VarHandle" ∧ (parseMethodDescriptor yX7_cost.desc).map (fun d => d.parameters.length) = some 2 := by decide +kernel
set_option maxHeartbeats 4000000 in
set_option maxRecDepth 100000 in
theorem kX7_cost (l : Launch) (K : zK) (a0 a1 a2 a3 a4 a5 a6 a7 a8 a9 a10 a11 a12 a13 a14 a15 a16 a17 a18 a19 a20 a21 a22 a23 a24 a25 a26 a27 a28 a29 a30 a31 a32 a33 a34 a35 a36 : Nat) (S : zMn) (p1 : Int32) (p2 : Int32) (R : Int32 × zMn) (hf : fX7_cost S p1 p2 = some R) : zC l yX7_cost wsX7_cost ({ frames := 3, cells := 0, slots := 0, locals := 67 } : Room) K [.ref a0, .int p1, .int p2] (cMn K a0 a1 a2 a3 a4 a5 a6 a7 a8 a9 a10 a11 a12 a13 a14 a15 a16 a17 a18 a19 a20 a21 a22 a23 a24 a25 a26 a27 a28 a29 a30 a31 a32 a33 a34 a35 a36 S) (some (.int R.1)) (cMn K a0 a1 a2 a3 a4 a5 a6 a7 a8 a9 a10 a11 a12 a13 a14 a15 a16 a17 a18 a19 a20 a21 a22 a23 a24 a25 a26 a27 a28 a29 a30 a31 a32 a33 a34 a35 a36 R.2) := by
  refine zC_i R.1 (cc := cX7_cost) (maxL := 3) (by decide +kernel) rfl (Nat.le_of_ble_eq_true rfl) rfl rfl ?_
  intro p e s m below meth c Q A X hret ls hl hh
  have X : zX p m c cX7_cost 3 s ([.ref a0, .int p1, .int p2] : List Value).toArray wsX7_cost RX7 K A := X
  have hx := X.1.1
  have hb := X.1.2.1
  have hr2 : ∀ (pc : Nat) (ls : Array Slot) (H : Heap) (locs : List Loc) (v : Int32) (S : zMn), some (v, S) = some R → decode cX7_cost pc = .ok (.ireturn, 1) → zW K A s H locs (cMn K a0 a1 a2 a3 a4 a5 a6 a7 a8 a9 a10 a11 a12 a13 a14 a15 a16 a17 a18 a19 a20 a21 a22 a23 a24 a25 a26 a27 a28 a29 a30 a31 a32 a33 a34 a35 a36 S) → W p l e ({ frames := 3, cells := 0, slots := 0, locals := 67 } : Room) s m ([.ref a0, .int p1, .int p2] : List Value).toArray below meth c H locs 0 0 Q (F0 m pc ls [.int v]) := by
    intro pc ls H locs v S h hd hh
    cases h; exact hret pc ls H locs _ rfl hd hh
  have hl : lv_has ls 3 [(0, .ref a0), (1, .int p1), (2, .int p2)] := hl
  have hJ22 : ∀ (S : zMn), ∀ (H : Heap) (locs : List Loc) (ls : Array Slot), fX7_cost_j22 S = some R → lv_has ls 3 [(0, .ref a0)] → zW K A s H locs (cMn K a0 a1 a2 a3 a4 a5 a6 a7 a8 a9 a10 a11 a12 a13 a14 a15 a16 a17 a18 a19 a20 a21 a22 a23 a24 a25 a26 a27 a28 a29 a30 a31 a32 a33 a34 a35 a36 S) → W p l e ({ frames := 3, cells := 0, slots := 0, locals := 67 } : Room) s m ([.ref a0, .int p1, .int p2] : List Value).toArray below meth c H locs 0 0 Q (F0 m 22 ls []) := by
    intro S H locs ls hf hl hh
    unfold fX7_cost_j22 at hf
    refine lv_aload_n hx hb dX7_cost_22 rfl (lv_at hl 0 rfl) ?_
    refine lv_iconst (v := (-1 : Int32)) hx hb dX7_cost_23 (by decide) ?_
    obtain ⟨u1, hu1, hf⟩ := ob_bind hf
    refine zcallV (ci := 6) (q0 := 0) (As := [.int (-1 : Int32)]) (rest := []) (wr := []) (ws' := cMn K a0 a1 a2 a3 a4 a5 a6 a7 a8 a9 a10 a11 a12 a13 a14 a15 a16 a17 a18 a19 a20 a21 a22 a23 a24 a25 a26 a27 a28 a29 a30 a31 a32 a33 a34 a35 a36 u1.2) (ov := some (.int u1.1)) X hh hl (kX7_refuse l K a0 a1 a2 a3 a4 a5 a6 a7 a8 a9 a10 a11 a12 a13 a14 a15 a16 a17 a18 a19 a20 a21 a22 a23 a24 a25 a26 a27 a28 a29 a30 a31 a32 a33 a34 a35 a36 S (-1 : Int32) u1 hu1) (fun ht => cwV 1 ht gX7_cost_X7_refuse rfl rfl rfl ⟨rfl, hdX7_refuse⟩ ⟨Nat.le_of_ble_eq_true rfl, Nat.le_of_ble_eq_true rfl⟩) [0, 1, 2, 3, 4, 5, 6, 7, 8, 9, 10, 11, 12, 13, 14, 15, 16, 17, 18, 19, 20, 21, 22, 23, 24, 25, 26, 27, 28, 29, 30, 31, 32, 33, 34, 35, 36] [] [0, 1, 2, 3, 4, 5, 6, 7, 8, 9, 10, 11, 12, 13, 14, 15, 16, 17, 18, 19, 20, 21, 22, 23, 24, 25, 26, 27, 28, 29, 30, 31, 32, 33, 34, 35, 36] rfl rfl rfl rfl (by decide) rfl rfl rfl rfl rfl rfl (Nat.le_of_ble_eq_true rfl) dX7_cost_24 ⟨Nat.zero_le _, Nat.zero_le _⟩ (fun H locs hh => ?_)
    exact hr2 27 ls H locs u1.1 u1.2 hf dX7_cost_27 hh
  unfold fX7_cost at hf
  refine (fun (hmain : ∀ (H : Heap) (locs : List Loc), zW K A s H locs (cMn K a0 a1 a2 a3 a4 a5 a6 a7 a8 a9 a10 a11 a12 a13 a14 a15 a16 a17 a18 a19 a20 a21 a22 a23 a24 a25 a26 a27 a28 a29 a30 a31 a32 a33 a34 a35 a36 S) → W p l e ({ frames := 3, cells := 0, slots := 0, locals := 67 } : Room) s m ([.ref a0, .int p1, .int p2] : List Value).toArray below meth c H locs 0 0 Q (F0 m 0 ls [])) => hmain s.heap [] hh) (fun H locs hh => ?_)
  refine lv_aload_n hx hb dX7_cost_0 rfl (lv_at hl 0 rfl) ?_
  refine zget (v := .ref a1) (ref := "SumOfTwoThatStand") (C := RX7) (T := TX7) (N := 10) (index := 10) X hh inX7_cost_X7 0 rfl rfl 0 (by decide) mmX7_cost_0 rfl rfl dX7_cost_1 ?_
  refine lv_iload_n hx hb dX7_cost_4 rfl (lv_at hl 1 rfl) ?_
  refine zcallV (ci := 5) (q0 := 1) (As := [.int p1]) (rest := []) (wr := zsel (cMn K a0 a1 a2 a3 a4 a5 a6 a7 a8 a9 a10 a11 a12 a13 a14 a15 a16 a17 a18 a19 a20 a21 a22 a23 a24 a25 a26 a27 a28 a29 a30 a31 a32 a33 a34 a35 a36 S) [0, 9, 10, 11, 12, 13, 14, 15, 16, 17, 18, 19, 20, 21, 22, 23, 24, 25, 26, 27, 28, 29, 30, 31, 32, 33, 34, 35, 36]) (ws' := cMn K a0 a1 a2 a3 a4 a5 a6 a7 a8 a9 a10 a11 a12 a13 a14 a15 a16 a17 a18 a19 a20 a21 a22 a23 a24 a25 a26 a27 a28 a29 a30 a31 a32 a33 a34 a35 a36 S) (ov := some (.int (fX5_has (mn_live S) p1))) X hh hl (kX5_has l K a1 a2 a3 a4 a5 a6 a7 a8 (mn_live S) p1 (fX5_has (mn_live S) p1) rfl) (fun ht => cwV 1 ht gX7_cost_X5_has rfl rfl rfl ⟨rfl, hdX5_has⟩ ⟨Nat.le_of_ble_eq_true rfl, Nat.le_of_ble_eq_true rfl⟩) [1, 2, 3, 4, 5, 6, 7, 8] [0, 9, 10, 11, 12, 13, 14, 15, 16, 17, 18, 19, 20, 21, 22, 23, 24, 25, 26, 27, 28, 29, 30, 31, 32, 33, 34, 35, 36] [0, 29, 30, 31, 32, 33, 34, 35, 36, 1, 2, 3, 4, 5, 6, 7, 8, 9, 10, 11, 12, 13, 14, 15, 16, 17, 18, 19, 20, 21, 22, 23, 24, 25, 26, 27, 28] rfl rfl rfl rfl (by decide) rfl rfl rfl rfl rfl rfl (Nat.le_of_ble_eq_true rfl) dX7_cost_5 ⟨Nat.zero_le _, Nat.zero_le _⟩ (fun H locs hh => ?_)
  refine lv_if_eq (tgt := 22) hx hb dX7_cost_8 (by decide) (fun c3 => ?_) (fun c3 => ?_)
  · replace hf := (if_pos c3).symm.trans hf
    exact hJ22 S H locs ls hf (lv_sub hl [0] rfl) hh
  · replace hf := (if_neg c3).symm.trans hf
    refine lv_aload_n hx hb dX7_cost_11 rfl (lv_at hl 0 rfl) ?_
    refine zget (v := .ref a1) (ref := "SumOfTwoThatStand") (C := RX7) (T := TX7) (N := 10) (index := 10) X hh inX7_cost_X7 0 rfl rfl 0 (by decide) mmX7_cost_0 rfl rfl dX7_cost_12 ?_
    refine lv_iload_n hx hb dX7_cost_15 rfl (lv_at hl 2 rfl) ?_
    refine zcallV (ci := 5) (q0 := 1) (As := [.int p2]) (rest := []) (wr := zsel (cMn K a0 a1 a2 a3 a4 a5 a6 a7 a8 a9 a10 a11 a12 a13 a14 a15 a16 a17 a18 a19 a20 a21 a22 a23 a24 a25 a26 a27 a28 a29 a30 a31 a32 a33 a34 a35 a36 S) [0, 9, 10, 11, 12, 13, 14, 15, 16, 17, 18, 19, 20, 21, 22, 23, 24, 25, 26, 27, 28, 29, 30, 31, 32, 33, 34, 35, 36]) (ws' := cMn K a0 a1 a2 a3 a4 a5 a6 a7 a8 a9 a10 a11 a12 a13 a14 a15 a16 a17 a18 a19 a20 a21 a22 a23 a24 a25 a26 a27 a28 a29 a30 a31 a32 a33 a34 a35 a36 S) (ov := some (.int (fX5_has (mn_live S) p2))) X hh hl (kX5_has l K a1 a2 a3 a4 a5 a6 a7 a8 (mn_live S) p2 (fX5_has (mn_live S) p2) rfl) (fun ht => cwV 1 ht gX7_cost_X5_has rfl rfl rfl ⟨rfl, hdX5_has⟩ ⟨Nat.le_of_ble_eq_true rfl, Nat.le_of_ble_eq_true rfl⟩) [1, 2, 3, 4, 5, 6, 7, 8] [0, 9, 10, 11, 12, 13, 14, 15, 16, 17, 18, 19, 20, 21, 22, 23, 24, 25, 26, 27, 28, 29, 30, 31, 32, 33, 34, 35, 36] [0, 29, 30, 31, 32, 33, 34, 35, 36, 1, 2, 3, 4, 5, 6, 7, 8, 9, 10, 11, 12, 13, 14, 15, 16, 17, 18, 19, 20, 21, 22, 23, 24, 25, 26, 27, 28] rfl rfl rfl rfl (by decide) rfl rfl rfl rfl rfl rfl (Nat.le_of_ble_eq_true rfl) dX7_cost_16 ⟨Nat.zero_le _, Nat.zero_le _⟩ (fun H locs hh => ?_)
    refine lv_if_ne (tgt := 28) hx hb dX7_cost_19 (by decide) (fun c5 => ?_) (fun c5 => ?_)
    · replace hf := (if_neg c5).symm.trans hf
      refine lv_aload_n hx hb dX7_cost_28 rfl (lv_at hl 0 rfl) ?_
      refine zget (v := .ref a1) (ref := "SumOfTwoThatStand") (C := RX7) (T := TX7) (N := 10) (index := 10) X hh inX7_cost_X7 0 rfl rfl 0 (by decide) mmX7_cost_0 rfl rfl dX7_cost_29 ?_
      refine lv_iload_n hx hb dX7_cost_32 rfl (lv_at hl 1 rfl) ?_
      refine lv_iload_n hx hb dX7_cost_33 rfl (lv_at hl 2 rfl) ?_
      obtain ⟨u6, hu6, hf⟩ := ob_bind hf
      refine zcallV (ci := 5) (q0 := 1) (As := [.int p1, .int p2]) (rest := []) (wr := zsel (cMn K a0 a1 a2 a3 a4 a5 a6 a7 a8 a9 a10 a11 a12 a13 a14 a15 a16 a17 a18 a19 a20 a21 a22 a23 a24 a25 a26 a27 a28 a29 a30 a31 a32 a33 a34 a35 a36 S) [0, 9, 10, 11, 12, 13, 14, 15, 16, 17, 18, 19, 20, 21, 22, 23, 24, 25, 26, 27, 28, 29, 30, 31, 32, 33, 34, 35, 36]) (ws' := cMn K a0 a1 a2 a3 a4 a5 a6 a7 a8 a9 a10 a11 a12 a13 a14 a15 a16 a17 a18 a19 a20 a21 a22 a23 a24 a25 a26 a27 a28 a29 a30 a31 a32 a33 a34 a35 a36 S) (ov := some (.int u6)) X hh hl (kX5_mayBe l K a1 a2 a3 a4 a5 a6 a7 a8 (mn_live S) p1 p2 u6 hu6) (fun ht => cwV 2 ht gX7_cost_X5_mayBe rfl rfl rfl ⟨rfl, hdX5_mayBe⟩ ⟨Nat.le_of_ble_eq_true rfl, Nat.le_of_ble_eq_true rfl⟩) [1, 2, 3, 4, 5, 6, 7, 8] [0, 9, 10, 11, 12, 13, 14, 15, 16, 17, 18, 19, 20, 21, 22, 23, 24, 25, 26, 27, 28, 29, 30, 31, 32, 33, 34, 35, 36] [0, 29, 30, 31, 32, 33, 34, 35, 36, 1, 2, 3, 4, 5, 6, 7, 8, 9, 10, 11, 12, 13, 14, 15, 16, 17, 18, 19, 20, 21, 22, 23, 24, 25, 26, 27, 28] rfl rfl rfl rfl (by decide) rfl rfl rfl rfl rfl rfl (Nat.le_of_ble_eq_true rfl) dX7_cost_34 ⟨Nat.zero_le _, Nat.zero_le _⟩ (fun H locs hh => ?_)
      refine lv_if_ne (tgt := 47) hx hb dX7_cost_37 (by decide) (fun c7 => ?_) (fun c7 => ?_)
      · replace hf := (if_neg c7).symm.trans hf
        refine lv_aload_n hx hb dX7_cost_47 rfl (lv_at hl 0 rfl) ?_
        refine zget (v := .ref a1) (ref := "SumOfTwoThatStand") (C := RX7) (T := TX7) (N := 10) (index := 10) X hh inX7_cost_X7 0 rfl rfl 0 (by decide) mmX7_cost_0 rfl rfl dX7_cost_48 ?_
        refine lv_iload_n hx hb dX7_cost_51 rfl (lv_at hl 1 rfl) ?_
        obtain ⟨u8, hu8, hf⟩ := ob_bind hf
        refine zcallV (ci := 5) (q0 := 1) (As := [.int p1]) (rest := []) (wr := zsel (cMn K a0 a1 a2 a3 a4 a5 a6 a7 a8 a9 a10 a11 a12 a13 a14 a15 a16 a17 a18 a19 a20 a21 a22 a23 a24 a25 a26 a27 a28 a29 a30 a31 a32 a33 a34 a35 a36 S) [0, 9, 10, 11, 12, 13, 14, 15, 16, 17, 18, 19, 20, 21, 22, 23, 24, 25, 26, 27, 28, 29, 30, 31, 32, 33, 34, 35, 36]) (ws' := cMn K a0 a1 a2 a3 a4 a5 a6 a7 a8 a9 a10 a11 a12 a13 a14 a15 a16 a17 a18 a19 a20 a21 a22 a23 a24 a25 a26 a27 a28 a29 a30 a31 a32 a33 a34 a35 a36 S) (ov := some (.int u8)) X hh hl (kX5_fee l K a1 a2 a3 a4 a5 a6 a7 a8 (mn_live S) p1 u8 hu8) (fun ht => cwV 1 ht gX7_cost_X5_fee rfl rfl rfl ⟨rfl, hdX5_fee⟩ ⟨Nat.le_of_ble_eq_true rfl, Nat.le_of_ble_eq_true rfl⟩) [1, 2, 3, 4, 5, 6, 7, 8] [0, 9, 10, 11, 12, 13, 14, 15, 16, 17, 18, 19, 20, 21, 22, 23, 24, 25, 26, 27, 28, 29, 30, 31, 32, 33, 34, 35, 36] [0, 29, 30, 31, 32, 33, 34, 35, 36, 1, 2, 3, 4, 5, 6, 7, 8, 9, 10, 11, 12, 13, 14, 15, 16, 17, 18, 19, 20, 21, 22, 23, 24, 25, 26, 27, 28] rfl rfl rfl rfl (by decide) rfl rfl rfl rfl rfl rfl (Nat.le_of_ble_eq_true rfl) dX7_cost_52 ⟨Nat.zero_le _, Nat.zero_le _⟩ (fun H locs hh => ?_)
        refine lv_aload_n hx hb dX7_cost_55 rfl (lv_at hl 0 rfl) ?_
        refine zget (v := .ref a1) (ref := "SumOfTwoThatStand") (C := RX7) (T := TX7) (N := 10) (index := 10) X hh inX7_cost_X7 0 rfl rfl 0 (by decide) mmX7_cost_0 rfl rfl dX7_cost_56 ?_
        refine lv_iload_n hx hb dX7_cost_59 rfl (lv_at hl 2 rfl) ?_
        obtain ⟨u9, hu9, hf⟩ := ob_bind hf
        refine zcallV (ci := 5) (q0 := 1) (As := [.int p2]) (rest := [.int u8]) (wr := zsel (cMn K a0 a1 a2 a3 a4 a5 a6 a7 a8 a9 a10 a11 a12 a13 a14 a15 a16 a17 a18 a19 a20 a21 a22 a23 a24 a25 a26 a27 a28 a29 a30 a31 a32 a33 a34 a35 a36 S) [0, 9, 10, 11, 12, 13, 14, 15, 16, 17, 18, 19, 20, 21, 22, 23, 24, 25, 26, 27, 28, 29, 30, 31, 32, 33, 34, 35, 36]) (ws' := cMn K a0 a1 a2 a3 a4 a5 a6 a7 a8 a9 a10 a11 a12 a13 a14 a15 a16 a17 a18 a19 a20 a21 a22 a23 a24 a25 a26 a27 a28 a29 a30 a31 a32 a33 a34 a35 a36 S) (ov := some (.int u9)) X hh hl (kX5_fee l K a1 a2 a3 a4 a5 a6 a7 a8 (mn_live S) p2 u9 hu9) (fun ht => cwV 1 ht gX7_cost_X5_fee rfl rfl rfl ⟨rfl, hdX5_fee⟩ ⟨Nat.le_of_ble_eq_true rfl, Nat.le_of_ble_eq_true rfl⟩) [1, 2, 3, 4, 5, 6, 7, 8] [0, 9, 10, 11, 12, 13, 14, 15, 16, 17, 18, 19, 20, 21, 22, 23, 24, 25, 26, 27, 28, 29, 30, 31, 32, 33, 34, 35, 36] [0, 29, 30, 31, 32, 33, 34, 35, 36, 1, 2, 3, 4, 5, 6, 7, 8, 9, 10, 11, 12, 13, 14, 15, 16, 17, 18, 19, 20, 21, 22, 23, 24, 25, 26, 27, 28] rfl rfl rfl rfl (by decide) rfl rfl rfl rfl rfl rfl (Nat.le_of_ble_eq_true rfl) dX7_cost_60 ⟨Nat.zero_le _, Nat.zero_le _⟩ (fun H locs hh => ?_)
        refine lv_iadd hx hb dX7_cost_63 ?_
        exact hr2 64 ls H locs (u8 + u9) S hf dX7_cost_64 hh
      · replace hf := (if_pos c7).symm.trans hf
        refine lv_aload_n hx hb dX7_cost_40 rfl (lv_at hl 0 rfl) ?_
        refine lv_bipush (v := (-3 : Int32)) hx hb dX7_cost_41 (by decide) ?_
        obtain ⟨u10, hu10, hf⟩ := ob_bind hf
        refine zcallV (ci := 6) (q0 := 0) (As := [.int (-3 : Int32)]) (rest := []) (wr := []) (ws' := cMn K a0 a1 a2 a3 a4 a5 a6 a7 a8 a9 a10 a11 a12 a13 a14 a15 a16 a17 a18 a19 a20 a21 a22 a23 a24 a25 a26 a27 a28 a29 a30 a31 a32 a33 a34 a35 a36 u10.2) (ov := some (.int u10.1)) X hh hl (kX7_refuse l K a0 a1 a2 a3 a4 a5 a6 a7 a8 a9 a10 a11 a12 a13 a14 a15 a16 a17 a18 a19 a20 a21 a22 a23 a24 a25 a26 a27 a28 a29 a30 a31 a32 a33 a34 a35 a36 S (-3 : Int32) u10 hu10) (fun ht => cwV 1 ht gX7_cost_X7_refuse rfl rfl rfl ⟨rfl, hdX7_refuse⟩ ⟨Nat.le_of_ble_eq_true rfl, Nat.le_of_ble_eq_true rfl⟩) [0, 1, 2, 3, 4, 5, 6, 7, 8, 9, 10, 11, 12, 13, 14, 15, 16, 17, 18, 19, 20, 21, 22, 23, 24, 25, 26, 27, 28, 29, 30, 31, 32, 33, 34, 35, 36] [] [0, 1, 2, 3, 4, 5, 6, 7, 8, 9, 10, 11, 12, 13, 14, 15, 16, 17, 18, 19, 20, 21, 22, 23, 24, 25, 26, 27, 28, 29, 30, 31, 32, 33, 34, 35, 36] rfl rfl rfl rfl (by decide) rfl rfl rfl rfl rfl rfl (Nat.le_of_ble_eq_true rfl) dX7_cost_43 ⟨Nat.zero_le _, Nat.zero_le _⟩ (fun H locs hh => ?_)
        exact hr2 46 ls H locs u10.1 u10.2 hf dX7_cost_46 hh
    · replace hf := (if_pos c5).symm.trans hf
      exact hJ22 S H locs ls hf (lv_sub hl [0] rfl) hh
theorem inX7_add_X7 : ∀ w ∈ wsX70, w ∈ wsX7_add := by decide +kernel
theorem mmX7_add_0 : Cond.fieldLink RX7 10 "SumOfTwoThatStand" "live" "LSumOfTwoThatStand$Street;" ∈ wsX7_add := by decide +kernel
theorem hdX7_add : yX7_add.cls ≠ "java/lang/invoke/MethodHandle" ∧ yX7_add.cls ≠ "java/lang/invoke/VarHandle" ∧ (parseMethodDescriptor yX7_add.desc).map (fun d => d.parameters.length) = some 4 := by decide +kernel
set_option maxHeartbeats 4000000 in
set_option maxRecDepth 100000 in
theorem kX7_add (l : Launch) (K : zK) (a0 a1 a2 a3 a4 a5 a6 a7 a8 a9 a10 a11 a12 a13 a14 a15 a16 a17 a18 a19 a20 a21 a22 a23 a24 a25 a26 a27 a28 a29 a30 a31 a32 a33 a34 a35 a36 : Nat) (S : zMn) (p1 : Int32) (p2 : Int32) (p3 : Int32) (p4 : Int32) (R : Int32 × zMn) (hf : fX7_add S p1 p2 p3 p4 = some R) : zC l yX7_add wsX7_add ({ frames := 4, cells := 0, slots := 0, locals := 91 } : Room) K [.ref a0, .int p1, .int p2, .int p3, .int p4] (cMn K a0 a1 a2 a3 a4 a5 a6 a7 a8 a9 a10 a11 a12 a13 a14 a15 a16 a17 a18 a19 a20 a21 a22 a23 a24 a25 a26 a27 a28 a29 a30 a31 a32 a33 a34 a35 a36 S) (some (.int R.1)) (cMn K a0 a1 a2 a3 a4 a5 a6 a7 a8 a9 a10 a11 a12 a13 a14 a15 a16 a17 a18 a19 a20 a21 a22 a23 a24 a25 a26 a27 a28 a29 a30 a31 a32 a33 a34 a35 a36 R.2) := by
  refine zC_i R.1 (cc := cX7_add) (maxL := 5) (by decide +kernel) rfl (Nat.le_of_ble_eq_true rfl) rfl rfl ?_
  intro p e s m below meth c Q A X hret ls hl hh
  have X : zX p m c cX7_add 5 s ([.ref a0, .int p1, .int p2, .int p3, .int p4] : List Value).toArray wsX7_add RX7 K A := X
  have hx := X.1.1
  have hb := X.1.2.1
  have hr2 : ∀ (pc : Nat) (ls : Array Slot) (H : Heap) (locs : List Loc) (v : Int32) (S : zMn), some (v, S) = some R → decode cX7_add pc = .ok (.ireturn, 1) → zW K A s H locs (cMn K a0 a1 a2 a3 a4 a5 a6 a7 a8 a9 a10 a11 a12 a13 a14 a15 a16 a17 a18 a19 a20 a21 a22 a23 a24 a25 a26 a27 a28 a29 a30 a31 a32 a33 a34 a35 a36 S) → W p l e ({ frames := 4, cells := 0, slots := 0, locals := 91 } : Room) s m ([.ref a0, .int p1, .int p2, .int p3, .int p4] : List Value).toArray below meth c H locs 0 0 Q (F0 m pc ls [.int v]) := by
    intro pc ls H locs v S h hd hh
    cases h; exact hret pc ls H locs _ rfl hd hh
  have hl : lv_has ls 5 [(0, .ref a0), (1, .int p1), (2, .int p2), (3, .int p3), (4, .int p4)] := hl
  have hJ22 : ∀ (S : zMn), ∀ (H : Heap) (locs : List Loc) (ls : Array Slot), fX7_add_j22 S = some R → lv_has ls 5 [(0, .ref a0)] → zW K A s H locs (cMn K a0 a1 a2 a3 a4 a5 a6 a7 a8 a9 a10 a11 a12 a13 a14 a15 a16 a17 a18 a19 a20 a21 a22 a23 a24 a25 a26 a27 a28 a29 a30 a31 a32 a33 a34 a35 a36 S) → W p l e ({ frames := 4, cells := 0, slots := 0, locals := 91 } : Room) s m ([.ref a0, .int p1, .int p2, .int p3, .int p4] : List Value).toArray below meth c H locs 0 0 Q (F0 m 22 ls []) := by
    intro S H locs ls hf hl hh
    unfold fX7_add_j22 at hf
    refine lv_aload_n hx hb dX7_add_22 rfl (lv_at hl 0 rfl) ?_
    refine lv_iconst (v := (-1 : Int32)) hx hb dX7_add_23 (by decide) ?_
    obtain ⟨u1, hu1, hf⟩ := ob_bind hf
    refine zcallV (ci := 6) (q0 := 0) (As := [.int (-1 : Int32)]) (rest := []) (wr := []) (ws' := cMn K a0 a1 a2 a3 a4 a5 a6 a7 a8 a9 a10 a11 a12 a13 a14 a15 a16 a17 a18 a19 a20 a21 a22 a23 a24 a25 a26 a27 a28 a29 a30 a31 a32 a33 a34 a35 a36 u1.2) (ov := some (.int u1.1)) X hh hl (kX7_refuse l K a0 a1 a2 a3 a4 a5 a6 a7 a8 a9 a10 a11 a12 a13 a14 a15 a16 a17 a18 a19 a20 a21 a22 a23 a24 a25 a26 a27 a28 a29 a30 a31 a32 a33 a34 a35 a36 S (-1 : Int32) u1 hu1) (fun ht => cwV 1 ht gX7_add_X7_refuse rfl rfl rfl ⟨rfl, hdX7_refuse⟩ ⟨Nat.le_of_ble_eq_true rfl, Nat.le_of_ble_eq_true rfl⟩) [0, 1, 2, 3, 4, 5, 6, 7, 8, 9, 10, 11, 12, 13, 14, 15, 16, 17, 18, 19, 20, 21, 22, 23, 24, 25, 26, 27, 28, 29, 30, 31, 32, 33, 34, 35, 36] [] [0, 1, 2, 3, 4, 5, 6, 7, 8, 9, 10, 11, 12, 13, 14, 15, 16, 17, 18, 19, 20, 21, 22, 23, 24, 25, 26, 27, 28, 29, 30, 31, 32, 33, 34, 35, 36] rfl rfl rfl rfl (by decide) rfl rfl rfl rfl rfl rfl (Nat.le_of_ble_eq_true rfl) dX7_add_24 ⟨Nat.zero_le _, Nat.zero_le _⟩ (fun H locs hh => ?_)
    exact hr2 27 ls H locs u1.1 u1.2 hf dX7_add_27 hh
  unfold fX7_add at hf
  refine (fun (hmain : ∀ (H : Heap) (locs : List Loc), zW K A s H locs (cMn K a0 a1 a2 a3 a4 a5 a6 a7 a8 a9 a10 a11 a12 a13 a14 a15 a16 a17 a18 a19 a20 a21 a22 a23 a24 a25 a26 a27 a28 a29 a30 a31 a32 a33 a34 a35 a36 S) → W p l e ({ frames := 4, cells := 0, slots := 0, locals := 91 } : Room) s m ([.ref a0, .int p1, .int p2, .int p3, .int p4] : List Value).toArray below meth c H locs 0 0 Q (F0 m 0 ls [])) => hmain s.heap [] hh) (fun H locs hh => ?_)
  refine lv_aload_n hx hb dX7_add_0 rfl (lv_at hl 0 rfl) ?_
  refine zget (v := .ref a1) (ref := "SumOfTwoThatStand") (C := RX7) (T := TX7) (N := 10) (index := 10) X hh inX7_add_X7 0 rfl rfl 0 (by decide) mmX7_add_0 rfl rfl dX7_add_1 ?_
  refine lv_iload_n hx hb dX7_add_4 rfl (lv_at hl 1 rfl) ?_
  refine zcallV (ci := 5) (q0 := 1) (As := [.int p1]) (rest := []) (wr := zsel (cMn K a0 a1 a2 a3 a4 a5 a6 a7 a8 a9 a10 a11 a12 a13 a14 a15 a16 a17 a18 a19 a20 a21 a22 a23 a24 a25 a26 a27 a28 a29 a30 a31 a32 a33 a34 a35 a36 S) [0, 9, 10, 11, 12, 13, 14, 15, 16, 17, 18, 19, 20, 21, 22, 23, 24, 25, 26, 27, 28, 29, 30, 31, 32, 33, 34, 35, 36]) (ws' := cMn K a0 a1 a2 a3 a4 a5 a6 a7 a8 a9 a10 a11 a12 a13 a14 a15 a16 a17 a18 a19 a20 a21 a22 a23 a24 a25 a26 a27 a28 a29 a30 a31 a32 a33 a34 a35 a36 S) (ov := some (.int (fX5_has (mn_live S) p1))) X hh hl (kX5_has l K a1 a2 a3 a4 a5 a6 a7 a8 (mn_live S) p1 (fX5_has (mn_live S) p1) rfl) (fun ht => cwV 1 ht gX7_add_X5_has rfl rfl rfl ⟨rfl, hdX5_has⟩ ⟨Nat.le_of_ble_eq_true rfl, Nat.le_of_ble_eq_true rfl⟩) [1, 2, 3, 4, 5, 6, 7, 8] [0, 9, 10, 11, 12, 13, 14, 15, 16, 17, 18, 19, 20, 21, 22, 23, 24, 25, 26, 27, 28, 29, 30, 31, 32, 33, 34, 35, 36] [0, 29, 30, 31, 32, 33, 34, 35, 36, 1, 2, 3, 4, 5, 6, 7, 8, 9, 10, 11, 12, 13, 14, 15, 16, 17, 18, 19, 20, 21, 22, 23, 24, 25, 26, 27, 28] rfl rfl rfl rfl (by decide) rfl rfl rfl rfl rfl rfl (Nat.le_of_ble_eq_true rfl) dX7_add_5 ⟨Nat.zero_le _, Nat.zero_le _⟩ (fun H locs hh => ?_)
  refine lv_if_eq (tgt := 22) hx hb dX7_add_8 (by decide) (fun c3 => ?_) (fun c3 => ?_)
  · replace hf := (if_pos c3).symm.trans hf
    exact hJ22 S H locs ls hf (lv_sub hl [0] rfl) hh
  · replace hf := (if_neg c3).symm.trans hf
    refine lv_aload_n hx hb dX7_add_11 rfl (lv_at hl 0 rfl) ?_
    refine zget (v := .ref a1) (ref := "SumOfTwoThatStand") (C := RX7) (T := TX7) (N := 10) (index := 10) X hh inX7_add_X7 0 rfl rfl 0 (by decide) mmX7_add_0 rfl rfl dX7_add_12 ?_
    refine lv_iload_n hx hb dX7_add_15 rfl (lv_at hl 2 rfl) ?_
    refine zcallV (ci := 5) (q0 := 1) (As := [.int p2]) (rest := []) (wr := zsel (cMn K a0 a1 a2 a3 a4 a5 a6 a7 a8 a9 a10 a11 a12 a13 a14 a15 a16 a17 a18 a19 a20 a21 a22 a23 a24 a25 a26 a27 a28 a29 a30 a31 a32 a33 a34 a35 a36 S) [0, 9, 10, 11, 12, 13, 14, 15, 16, 17, 18, 19, 20, 21, 22, 23, 24, 25, 26, 27, 28, 29, 30, 31, 32, 33, 34, 35, 36]) (ws' := cMn K a0 a1 a2 a3 a4 a5 a6 a7 a8 a9 a10 a11 a12 a13 a14 a15 a16 a17 a18 a19 a20 a21 a22 a23 a24 a25 a26 a27 a28 a29 a30 a31 a32 a33 a34 a35 a36 S) (ov := some (.int (fX5_has (mn_live S) p2))) X hh hl (kX5_has l K a1 a2 a3 a4 a5 a6 a7 a8 (mn_live S) p2 (fX5_has (mn_live S) p2) rfl) (fun ht => cwV 1 ht gX7_add_X5_has rfl rfl rfl ⟨rfl, hdX5_has⟩ ⟨Nat.le_of_ble_eq_true rfl, Nat.le_of_ble_eq_true rfl⟩) [1, 2, 3, 4, 5, 6, 7, 8] [0, 9, 10, 11, 12, 13, 14, 15, 16, 17, 18, 19, 20, 21, 22, 23, 24, 25, 26, 27, 28, 29, 30, 31, 32, 33, 34, 35, 36] [0, 29, 30, 31, 32, 33, 34, 35, 36, 1, 2, 3, 4, 5, 6, 7, 8, 9, 10, 11, 12, 13, 14, 15, 16, 17, 18, 19, 20, 21, 22, 23, 24, 25, 26, 27, 28] rfl rfl rfl rfl (by decide) rfl rfl rfl rfl rfl rfl (Nat.le_of_ble_eq_true rfl) dX7_add_16 ⟨Nat.zero_le _, Nat.zero_le _⟩ (fun H locs hh => ?_)
    refine lv_if_ne (tgt := 28) hx hb dX7_add_19 (by decide) (fun c5 => ?_) (fun c5 => ?_)
    · replace hf := (if_neg c5).symm.trans hf
      refine lv_iload_n hx hb dX7_add_28 rfl (lv_at hl 3 rfl) ?_
      refine zcallS (As := [.int p3]) (rest := []) (wr := cMn K a0 a1 a2 a3 a4 a5 a6 a7 a8 a9 a10 a11 a12 a13 a14 a15 a16 a17 a18 a19 a20 a21 a22 a23 a24 a25 a26 a27 a28 a29 a30 a31 a32 a33 a34 a35 a36 S) (ws' := cMn K a0 a1 a2 a3 a4 a5 a6 a7 a8 a9 a10 a11 a12 a13 a14 a15 a16 a17 a18 a19 a20 a21 a22 a23 a24 a25 a26 a27 a28 a29 a30 a31 a32 a33 a34 a35 a36 S) (ov := some (.int (fX5_isKind p3))) X hh hl (kX5_isKind l K p3 (fX5_isKind p3) rfl) (fun ht => va_cwS 1 ht gX7_add_X5_isKind rfl rfl rfl hdX5_isKind ⟨Nat.le_of_ble_eq_true rfl, Nat.le_of_ble_eq_true rfl⟩) [] [0, 1, 2, 3, 4, 5, 6, 7, 8, 9, 10, 11, 12, 13, 14, 15, 16, 17, 18, 19, 20, 21, 22, 23, 24, 25, 26, 27, 28, 29, 30, 31, 32, 33, 34, 35, 36] [0, 1, 2, 3, 4, 5, 6, 7, 8, 9, 10, 11, 12, 13, 14, 15, 16, 17, 18, 19, 20, 21, 22, 23, 24, 25, 26, 27, 28, 29, 30, 31, 32, 33, 34, 35, 36] rfl rfl rfl rfl (by decide) rfl rfl rfl rfl (Nat.le_of_ble_eq_true rfl) dX7_add_29 ⟨Nat.zero_le _, Nat.zero_le _⟩ (fun H locs hh => ?_)
      refine lv_if_ne (tgt := 42) hx hb dX7_add_32 (by decide) (fun c7 => ?_) (fun c7 => ?_)
      · replace hf := (if_neg c7).symm.trans hf
        refine lv_iload hx hb dX7_add_42 (lv_at hl 4 rfl) ?_
        refine lv_if_ge (tgt := 54) hx hb dX7_add_44 (by decide) (fun c8 => ?_) (fun c8 => ?_)
        · replace hf := (if_pos c8).symm.trans hf
          refine lv_iload hx hb dX7_add_54 (lv_at hl 4 rfl) ?_
          refine lv_bipush (v := (9 : Int32)) hx hb dX7_add_56 (by decide) ?_
          refine lv_icmp_le (tgt := 68) hx hb dX7_add_58 (by decide) (fun c9 => ?_) (fun c9 => ?_)
          · replace hf := (if_pos c9).symm.trans hf
            refine lv_aload_n hx hb dX7_add_68 rfl (lv_at hl 0 rfl) ?_
            refine zget (v := .ref a1) (ref := "SumOfTwoThatStand") (C := RX7) (T := TX7) (N := 10) (index := 10) X hh inX7_add_X7 0 rfl rfl 0 (by decide) mmX7_add_0 rfl rfl dX7_add_69 ?_
            refine lv_iload_n hx hb dX7_add_72 rfl (lv_at hl 1 rfl) ?_
            refine lv_iload_n hx hb dX7_add_73 rfl (lv_at hl 2 rfl) ?_
            obtain ⟨u10, hu10, hf⟩ := ob_bind hf
            refine zcallV (ci := 5) (q0 := 1) (As := [.int p1, .int p2]) (rest := []) (wr := zsel (cMn K a0 a1 a2 a3 a4 a5 a6 a7 a8 a9 a10 a11 a12 a13 a14 a15 a16 a17 a18 a19 a20 a21 a22 a23 a24 a25 a26 a27 a28 a29 a30 a31 a32 a33 a34 a35 a36 S) [0, 9, 10, 11, 12, 13, 14, 15, 16, 17, 18, 19, 20, 21, 22, 23, 24, 25, 26, 27, 28, 29, 30, 31, 32, 33, 34, 35, 36]) (ws' := cMn K a0 a1 a2 a3 a4 a5 a6 a7 a8 a9 a10 a11 a12 a13 a14 a15 a16 a17 a18 a19 a20 a21 a22 a23 a24 a25 a26 a27 a28 a29 a30 a31 a32 a33 a34 a35 a36 S) (ov := some (.int u10)) X hh hl (kX5_mayBe l K a1 a2 a3 a4 a5 a6 a7 a8 (mn_live S) p1 p2 u10 hu10) (fun ht => cwV 2 ht gX7_add_X5_mayBe rfl rfl rfl ⟨rfl, hdX5_mayBe⟩ ⟨Nat.le_of_ble_eq_true rfl, Nat.le_of_ble_eq_true rfl⟩) [1, 2, 3, 4, 5, 6, 7, 8] [0, 9, 10, 11, 12, 13, 14, 15, 16, 17, 18, 19, 20, 21, 22, 23, 24, 25, 26, 27, 28, 29, 30, 31, 32, 33, 34, 35, 36] [0, 29, 30, 31, 32, 33, 34, 35, 36, 1, 2, 3, 4, 5, 6, 7, 8, 9, 10, 11, 12, 13, 14, 15, 16, 17, 18, 19, 20, 21, 22, 23, 24, 25, 26, 27, 28] rfl rfl rfl rfl (by decide) rfl rfl rfl rfl rfl rfl (Nat.le_of_ble_eq_true rfl) dX7_add_74 ⟨Nat.zero_le _, Nat.zero_le _⟩ (fun H locs hh => ?_)
            refine lv_if_ne (tgt := 87) hx hb dX7_add_77 (by decide) (fun c11 => ?_) (fun c11 => ?_)
            · replace hf := (if_neg c11).symm.trans hf
              refine lv_aload_n hx hb dX7_add_87 rfl (lv_at hl 0 rfl) ?_
              refine zget (v := .ref a1) (ref := "SumOfTwoThatStand") (C := RX7) (T := TX7) (N := 10) (index := 10) X hh inX7_add_X7 0 rfl rfl 0 (by decide) mmX7_add_0 rfl rfl dX7_add_88 ?_
              refine lv_iload_n hx hb dX7_add_91 rfl (lv_at hl 1 rfl) ?_
              refine lv_iload_n hx hb dX7_add_92 rfl (lv_at hl 2 rfl) ?_
              refine lv_iload_n hx hb dX7_add_93 rfl (lv_at hl 3 rfl) ?_
              refine lv_iload hx hb dX7_add_94 (lv_at hl 4 rfl) ?_
              obtain ⟨u12, hu12, hf⟩ := ob_bind hf
              refine zcallV (ci := 5) (q0 := 1) (As := [.int p1, .int p2, .int p3, .int p4]) (rest := []) (wr := zsel (cMn K a0 a1 a2 a3 a4 a5 a6 a7 a8 a9 a10 a11 a12 a13 a14 a15 a16 a17 a18 a19 a20 a21 a22 a23 a24 a25 a26 a27 a28 a29 a30 a31 a32 a33 a34 a35 a36 S) [0, 9, 10, 11, 12, 13, 14, 15, 16, 17, 18, 19, 20, 21, 22, 23, 24, 25, 26, 27, 28, 29, 30, 31, 32, 33, 34, 35, 36]) (ws' := cMn K a0 a1 a2 a3 a4 a5 a6 a7 a8 a9 a10 a11 a12 a13 a14 a15 a16 a17 a18 a19 a20 a21 a22 a23 a24 a25 a26 a27 a28 a29 a30 a31 a32 a33 a34 a35 a36 (mn_set_live S u12.2)) (ov := some (.int u12.1)) X hh hl (kX5_build l K a1 a2 a3 a4 a5 a6 a7 a8 (mn_live S) p1 p2 p3 p4 u12 hu12) (fun ht => cwV 4 ht gX7_add_X5_build rfl rfl rfl ⟨rfl, hdX5_build⟩ ⟨Nat.le_of_ble_eq_true rfl, Nat.le_of_ble_eq_true rfl⟩) [1, 2, 3, 4, 5, 6, 7, 8] [0, 9, 10, 11, 12, 13, 14, 15, 16, 17, 18, 19, 20, 21, 22, 23, 24, 25, 26, 27, 28, 29, 30, 31, 32, 33, 34, 35, 36] [0, 29, 30, 31, 32, 33, 34, 35, 36, 1, 2, 3, 4, 5, 6, 7, 8, 9, 10, 11, 12, 13, 14, 15, 16, 17, 18, 19, 20, 21, 22, 23, 24, 25, 26, 27, 28] rfl rfl rfl rfl (by decide) rfl rfl rfl rfl rfl rfl (Nat.le_of_ble_eq_true rfl) dX7_add_96 ⟨Nat.zero_le _, Nat.zero_le _⟩ (fun H locs hh => ?_)
              refine lv_if_ne (tgt := 109) hx hb dX7_add_99 (by decide) (fun c13 => ?_) (fun c13 => ?_)
              · replace hf := (if_neg c13).symm.trans hf
                refine lv_aload_n hx hb dX7_add_109 rfl (lv_at hl 0 rfl) ?_
                refine zget (v := .ref a1) (ref := "SumOfTwoThatStand") (C := RX7) (T := TX7) (N := 10) (index := 10) X hh inX7_add_X7 0 rfl rfl 0 (by decide) mmX7_add_0 rfl rfl dX7_add_110 ?_
                refine zcallV (ci := 5) (q0 := 1) (As := []) (rest := []) (wr := zsel (cMn K a0 a1 a2 a3 a4 a5 a6 a7 a8 a9 a10 a11 a12 a13 a14 a15 a16 a17 a18 a19 a20 a21 a22 a23 a24 a25 a26 a27 a28 a29 a30 a31 a32 a33 a34 a35 a36 (mn_set_live S u12.2)) [0, 9, 10, 11, 12, 13, 14, 15, 16, 17, 18, 19, 20, 21, 22, 23, 24, 25, 26, 27, 28, 29, 30, 31, 32, 33, 34, 35, 36]) (ws' := cMn K a0 a1 a2 a3 a4 a5 a6 a7 a8 a9 a10 a11 a12 a13 a14 a15 a16 a17 a18 a19 a20 a21 a22 a23 a24 a25 a26 a27 a28 a29 a30 a31 a32 a33 a34 a35 a36 (mn_set_live S u12.2)) (ov := some (.int (fX5_cameCount u12.2))) X hh hl (kX5_cameCount l K a1 a2 a3 a4 a5 a6 a7 a8 u12.2 (fX5_cameCount u12.2) rfl) (fun ht => cwV 0 ht gX7_add_X5_cameCount rfl rfl rfl ⟨rfl, hdX5_cameCount⟩ ⟨Nat.le_of_ble_eq_true rfl, Nat.le_of_ble_eq_true rfl⟩) [1, 2, 3, 4, 5, 6, 7, 8] [0, 9, 10, 11, 12, 13, 14, 15, 16, 17, 18, 19, 20, 21, 22, 23, 24, 25, 26, 27, 28, 29, 30, 31, 32, 33, 34, 35, 36] [0, 29, 30, 31, 32, 33, 34, 35, 36, 1, 2, 3, 4, 5, 6, 7, 8, 9, 10, 11, 12, 13, 14, 15, 16, 17, 18, 19, 20, 21, 22, 23, 24, 25, 26, 27, 28] rfl rfl rfl rfl (by decide) rfl rfl rfl rfl rfl rfl (Nat.le_of_ble_eq_true rfl) dX7_add_113 ⟨Nat.zero_le _, Nat.zero_le _⟩ (fun H locs hh => ?_)
                refine lv_iconst (v := (1 : Int32)) hx hb dX7_add_116 (by decide) ?_
                refine lv_isub hx hb dX7_add_117 ?_
                exact hr2 118 ls H locs ((fX5_cameCount u12.2) - (1 : Int32)) (mn_set_live S u12.2) hf dX7_add_118 hh
              · replace hf := (if_pos c13).symm.trans hf
                refine lv_aload_n hx hb dX7_add_102 rfl (lv_at hl 0 rfl) ?_
                refine lv_bipush (v := (-6 : Int32)) hx hb dX7_add_103 (by decide) ?_
                obtain ⟨u15, hu15, hf⟩ := ob_bind hf
                refine zcallV (ci := 6) (q0 := 0) (As := [.int (-6 : Int32)]) (rest := []) (wr := []) (ws' := cMn K a0 a1 a2 a3 a4 a5 a6 a7 a8 a9 a10 a11 a12 a13 a14 a15 a16 a17 a18 a19 a20 a21 a22 a23 a24 a25 a26 a27 a28 a29 a30 a31 a32 a33 a34 a35 a36 u15.2) (ov := some (.int u15.1)) X hh hl (kX7_refuse l K a0 a1 a2 a3 a4 a5 a6 a7 a8 a9 a10 a11 a12 a13 a14 a15 a16 a17 a18 a19 a20 a21 a22 a23 a24 a25 a26 a27 a28 a29 a30 a31 a32 a33 a34 a35 a36 (mn_set_live S u12.2) (-6 : Int32) u15 hu15) (fun ht => cwV 1 ht gX7_add_X7_refuse rfl rfl rfl ⟨rfl, hdX7_refuse⟩ ⟨Nat.le_of_ble_eq_true rfl, Nat.le_of_ble_eq_true rfl⟩) [0, 1, 2, 3, 4, 5, 6, 7, 8, 9, 10, 11, 12, 13, 14, 15, 16, 17, 18, 19, 20, 21, 22, 23, 24, 25, 26, 27, 28, 29, 30, 31, 32, 33, 34, 35, 36] [] [0, 1, 2, 3, 4, 5, 6, 7, 8, 9, 10, 11, 12, 13, 14, 15, 16, 17, 18, 19, 20, 21, 22, 23, 24, 25, 26, 27, 28, 29, 30, 31, 32, 33, 34, 35, 36] rfl rfl rfl rfl (by decide) rfl rfl rfl rfl rfl rfl (Nat.le_of_ble_eq_true rfl) dX7_add_105 ⟨Nat.zero_le _, Nat.zero_le _⟩ (fun H locs hh => ?_)
                exact hr2 108 ls H locs u15.1 u15.2 hf dX7_add_108 hh
            · replace hf := (if_pos c11).symm.trans hf
              refine lv_aload_n hx hb dX7_add_80 rfl (lv_at hl 0 rfl) ?_
              refine lv_bipush (v := (-3 : Int32)) hx hb dX7_add_81 (by decide) ?_
              obtain ⟨u16, hu16, hf⟩ := ob_bind hf
              refine zcallV (ci := 6) (q0 := 0) (As := [.int (-3 : Int32)]) (rest := []) (wr := []) (ws' := cMn K a0 a1 a2 a3 a4 a5 a6 a7 a8 a9 a10 a11 a12 a13 a14 a15 a16 a17 a18 a19 a20 a21 a22 a23 a24 a25 a26 a27 a28 a29 a30 a31 a32 a33 a34 a35 a36 u16.2) (ov := some (.int u16.1)) X hh hl (kX7_refuse l K a0 a1 a2 a3 a4 a5 a6 a7 a8 a9 a10 a11 a12 a13 a14 a15 a16 a17 a18 a19 a20 a21 a22 a23 a24 a25 a26 a27 a28 a29 a30 a31 a32 a33 a34 a35 a36 S (-3 : Int32) u16 hu16) (fun ht => cwV 1 ht gX7_add_X7_refuse rfl rfl rfl ⟨rfl, hdX7_refuse⟩ ⟨Nat.le_of_ble_eq_true rfl, Nat.le_of_ble_eq_true rfl⟩) [0, 1, 2, 3, 4, 5, 6, 7, 8, 9, 10, 11, 12, 13, 14, 15, 16, 17, 18, 19, 20, 21, 22, 23, 24, 25, 26, 27, 28, 29, 30, 31, 32, 33, 34, 35, 36] [] [0, 1, 2, 3, 4, 5, 6, 7, 8, 9, 10, 11, 12, 13, 14, 15, 16, 17, 18, 19, 20, 21, 22, 23, 24, 25, 26, 27, 28, 29, 30, 31, 32, 33, 34, 35, 36] rfl rfl rfl rfl (by decide) rfl rfl rfl rfl rfl rfl (Nat.le_of_ble_eq_true rfl) dX7_add_83 ⟨Nat.zero_le _, Nat.zero_le _⟩ (fun H locs hh => ?_)
              exact hr2 86 ls H locs u16.1 u16.2 hf dX7_add_86 hh
          · replace hf := (if_neg c9).symm.trans hf
            refine lv_aload_n hx hb dX7_add_61 rfl (lv_at hl 0 rfl) ?_
            refine lv_bipush (v := (-6 : Int32)) hx hb dX7_add_62 (by decide) ?_
            obtain ⟨u17, hu17, hf⟩ := ob_bind hf
            refine zcallV (ci := 6) (q0 := 0) (As := [.int (-6 : Int32)]) (rest := []) (wr := []) (ws' := cMn K a0 a1 a2 a3 a4 a5 a6 a7 a8 a9 a10 a11 a12 a13 a14 a15 a16 a17 a18 a19 a20 a21 a22 a23 a24 a25 a26 a27 a28 a29 a30 a31 a32 a33 a34 a35 a36 u17.2) (ov := some (.int u17.1)) X hh hl (kX7_refuse l K a0 a1 a2 a3 a4 a5 a6 a7 a8 a9 a10 a11 a12 a13 a14 a15 a16 a17 a18 a19 a20 a21 a22 a23 a24 a25 a26 a27 a28 a29 a30 a31 a32 a33 a34 a35 a36 S (-6 : Int32) u17 hu17) (fun ht => cwV 1 ht gX7_add_X7_refuse rfl rfl rfl ⟨rfl, hdX7_refuse⟩ ⟨Nat.le_of_ble_eq_true rfl, Nat.le_of_ble_eq_true rfl⟩) [0, 1, 2, 3, 4, 5, 6, 7, 8, 9, 10, 11, 12, 13, 14, 15, 16, 17, 18, 19, 20, 21, 22, 23, 24, 25, 26, 27, 28, 29, 30, 31, 32, 33, 34, 35, 36] [] [0, 1, 2, 3, 4, 5, 6, 7, 8, 9, 10, 11, 12, 13, 14, 15, 16, 17, 18, 19, 20, 21, 22, 23, 24, 25, 26, 27, 28, 29, 30, 31, 32, 33, 34, 35, 36] rfl rfl rfl rfl (by decide) rfl rfl rfl rfl rfl rfl (Nat.le_of_ble_eq_true rfl) dX7_add_64 ⟨Nat.zero_le _, Nat.zero_le _⟩ (fun H locs hh => ?_)
            exact hr2 67 ls H locs u17.1 u17.2 hf dX7_add_67 hh
        · replace hf := (if_neg c8).symm.trans hf
          refine lv_aload_n hx hb dX7_add_47 rfl (lv_at hl 0 rfl) ?_
          refine lv_bipush (v := (-4 : Int32)) hx hb dX7_add_48 (by decide) ?_
          obtain ⟨u18, hu18, hf⟩ := ob_bind hf
          refine zcallV (ci := 6) (q0 := 0) (As := [.int (-4 : Int32)]) (rest := []) (wr := []) (ws' := cMn K a0 a1 a2 a3 a4 a5 a6 a7 a8 a9 a10 a11 a12 a13 a14 a15 a16 a17 a18 a19 a20 a21 a22 a23 a24 a25 a26 a27 a28 a29 a30 a31 a32 a33 a34 a35 a36 u18.2) (ov := some (.int u18.1)) X hh hl (kX7_refuse l K a0 a1 a2 a3 a4 a5 a6 a7 a8 a9 a10 a11 a12 a13 a14 a15 a16 a17 a18 a19 a20 a21 a22 a23 a24 a25 a26 a27 a28 a29 a30 a31 a32 a33 a34 a35 a36 S (-4 : Int32) u18 hu18) (fun ht => cwV 1 ht gX7_add_X7_refuse rfl rfl rfl ⟨rfl, hdX7_refuse⟩ ⟨Nat.le_of_ble_eq_true rfl, Nat.le_of_ble_eq_true rfl⟩) [0, 1, 2, 3, 4, 5, 6, 7, 8, 9, 10, 11, 12, 13, 14, 15, 16, 17, 18, 19, 20, 21, 22, 23, 24, 25, 26, 27, 28, 29, 30, 31, 32, 33, 34, 35, 36] [] [0, 1, 2, 3, 4, 5, 6, 7, 8, 9, 10, 11, 12, 13, 14, 15, 16, 17, 18, 19, 20, 21, 22, 23, 24, 25, 26, 27, 28, 29, 30, 31, 32, 33, 34, 35, 36] rfl rfl rfl rfl (by decide) rfl rfl rfl rfl rfl rfl (Nat.le_of_ble_eq_true rfl) dX7_add_50 ⟨Nat.zero_le _, Nat.zero_le _⟩ (fun H locs hh => ?_)
          exact hr2 53 ls H locs u18.1 u18.2 hf dX7_add_53 hh
      · replace hf := (if_pos c7).symm.trans hf
        refine lv_aload_n hx hb dX7_add_35 rfl (lv_at hl 0 rfl) ?_
        refine lv_bipush (v := (-2 : Int32)) hx hb dX7_add_36 (by decide) ?_
        obtain ⟨u19, hu19, hf⟩ := ob_bind hf
        refine zcallV (ci := 6) (q0 := 0) (As := [.int (-2 : Int32)]) (rest := []) (wr := []) (ws' := cMn K a0 a1 a2 a3 a4 a5 a6 a7 a8 a9 a10 a11 a12 a13 a14 a15 a16 a17 a18 a19 a20 a21 a22 a23 a24 a25 a26 a27 a28 a29 a30 a31 a32 a33 a34 a35 a36 u19.2) (ov := some (.int u19.1)) X hh hl (kX7_refuse l K a0 a1 a2 a3 a4 a5 a6 a7 a8 a9 a10 a11 a12 a13 a14 a15 a16 a17 a18 a19 a20 a21 a22 a23 a24 a25 a26 a27 a28 a29 a30 a31 a32 a33 a34 a35 a36 S (-2 : Int32) u19 hu19) (fun ht => cwV 1 ht gX7_add_X7_refuse rfl rfl rfl ⟨rfl, hdX7_refuse⟩ ⟨Nat.le_of_ble_eq_true rfl, Nat.le_of_ble_eq_true rfl⟩) [0, 1, 2, 3, 4, 5, 6, 7, 8, 9, 10, 11, 12, 13, 14, 15, 16, 17, 18, 19, 20, 21, 22, 23, 24, 25, 26, 27, 28, 29, 30, 31, 32, 33, 34, 35, 36] [] [0, 1, 2, 3, 4, 5, 6, 7, 8, 9, 10, 11, 12, 13, 14, 15, 16, 17, 18, 19, 20, 21, 22, 23, 24, 25, 26, 27, 28, 29, 30, 31, 32, 33, 34, 35, 36] rfl rfl rfl rfl (by decide) rfl rfl rfl rfl rfl rfl (Nat.le_of_ble_eq_true rfl) dX7_add_38 ⟨Nat.zero_le _, Nat.zero_le _⟩ (fun H locs hh => ?_)
        exact hr2 41 ls H locs u19.1 u19.2 hf dX7_add_41 hh
    · replace hf := (if_pos c5).symm.trans hf
      exact hJ22 S H locs ls hf (lv_sub hl [0] rfl) hh
theorem inX7_burn_X7 : ∀ w ∈ wsX70, w ∈ wsX7_burn := by decide +kernel
theorem mmX7_burn_0 : Cond.fieldLink RX7 10 "SumOfTwoThatStand" "live" "LSumOfTwoThatStand$Street;" ∈ wsX7_burn := by decide +kernel
theorem hdX7_burn : yX7_burn.cls ≠ "java/lang/invoke/MethodHandle" ∧ yX7_burn.cls ≠ "java/lang/invoke/VarHandle" ∧ (parseMethodDescriptor yX7_burn.desc).map (fun d => d.parameters.length) = some 1 := by decide +kernel
set_option maxHeartbeats 4000000 in
set_option maxRecDepth 100000 in
theorem kX7_burn (l : Launch) (K : zK) (a0 a1 a2 a3 a4 a5 a6 a7 a8 a9 a10 a11 a12 a13 a14 a15 a16 a17 a18 a19 a20 a21 a22 a23 a24 a25 a26 a27 a28 a29 a30 a31 a32 a33 a34 a35 a36 : Nat) (S : zMn) (p1 : Int32) (R : Int32 × zMn) (hf : fX7_burn S p1 = some R) : zC l yX7_burn wsX7_burn ({ frames := 4, cells := 0, slots := 0, locals := 88 } : Room) K [.ref a0, .int p1] (cMn K a0 a1 a2 a3 a4 a5 a6 a7 a8 a9 a10 a11 a12 a13 a14 a15 a16 a17 a18 a19 a20 a21 a22 a23 a24 a25 a26 a27 a28 a29 a30 a31 a32 a33 a34 a35 a36 S) (some (.int R.1)) (cMn K a0 a1 a2 a3 a4 a5 a6 a7 a8 a9 a10 a11 a12 a13 a14 a15 a16 a17 a18 a19 a20 a21 a22 a23 a24 a25 a26 a27 a28 a29 a30 a31 a32 a33 a34 a35 a36 R.2) := by
  refine zC_i R.1 (cc := cX7_burn) (maxL := 2) (by decide +kernel) rfl (Nat.le_of_ble_eq_true rfl) rfl rfl ?_
  intro p e s m below meth c Q A X hret ls hl hh
  have X : zX p m c cX7_burn 2 s ([.ref a0, .int p1] : List Value).toArray wsX7_burn RX7 K A := X
  have hx := X.1.1
  have hb := X.1.2.1
  have hr2 : ∀ (pc : Nat) (ls : Array Slot) (H : Heap) (locs : List Loc) (v : Int32) (S : zMn), some (v, S) = some R → decode cX7_burn pc = .ok (.ireturn, 1) → zW K A s H locs (cMn K a0 a1 a2 a3 a4 a5 a6 a7 a8 a9 a10 a11 a12 a13 a14 a15 a16 a17 a18 a19 a20 a21 a22 a23 a24 a25 a26 a27 a28 a29 a30 a31 a32 a33 a34 a35 a36 S) → W p l e ({ frames := 4, cells := 0, slots := 0, locals := 88 } : Room) s m ([.ref a0, .int p1] : List Value).toArray below meth c H locs 0 0 Q (F0 m pc ls [.int v]) := by
    intro pc ls H locs v S h hd hh
    cases h; exact hret pc ls H locs _ rfl hd hh
  have hl : lv_has ls 2 [(0, .ref a0), (1, .int p1)] := hl
  unfold fX7_burn at hf
  refine (fun (hmain : ∀ (H : Heap) (locs : List Loc), zW K A s H locs (cMn K a0 a1 a2 a3 a4 a5 a6 a7 a8 a9 a10 a11 a12 a13 a14 a15 a16 a17 a18 a19 a20 a21 a22 a23 a24 a25 a26 a27 a28 a29 a30 a31 a32 a33 a34 a35 a36 S) → W p l e ({ frames := 4, cells := 0, slots := 0, locals := 88 } : Room) s m ([.ref a0, .int p1] : List Value).toArray below meth c H locs 0 0 Q (F0 m 0 ls [])) => hmain s.heap [] hh) (fun H locs hh => ?_)
  refine lv_aload_n hx hb dX7_burn_0 rfl (lv_at hl 0 rfl) ?_
  refine zget (v := .ref a1) (ref := "SumOfTwoThatStand") (C := RX7) (T := TX7) (N := 10) (index := 10) X hh inX7_burn_X7 0 rfl rfl 0 (by decide) mmX7_burn_0 rfl rfl dX7_burn_1 ?_
  refine lv_iload_n hx hb dX7_burn_4 rfl (lv_at hl 1 rfl) ?_
  refine zcallV (ci := 5) (q0 := 1) (As := [.int p1]) (rest := []) (wr := zsel (cMn K a0 a1 a2 a3 a4 a5 a6 a7 a8 a9 a10 a11 a12 a13 a14 a15 a16 a17 a18 a19 a20 a21 a22 a23 a24 a25 a26 a27 a28 a29 a30 a31 a32 a33 a34 a35 a36 S) [0, 9, 10, 11, 12, 13, 14, 15, 16, 17, 18, 19, 20, 21, 22, 23, 24, 25, 26, 27, 28, 29, 30, 31, 32, 33, 34, 35, 36]) (ws' := cMn K a0 a1 a2 a3 a4 a5 a6 a7 a8 a9 a10 a11 a12 a13 a14 a15 a16 a17 a18 a19 a20 a21 a22 a23 a24 a25 a26 a27 a28 a29 a30 a31 a32 a33 a34 a35 a36 S) (ov := some (.int (fX5_has (mn_live S) p1))) X hh hl (kX5_has l K a1 a2 a3 a4 a5 a6 a7 a8 (mn_live S) p1 (fX5_has (mn_live S) p1) rfl) (fun ht => cwV 1 ht gX7_burn_X5_has rfl rfl rfl ⟨rfl, hdX5_has⟩ ⟨Nat.le_of_ble_eq_true rfl, Nat.le_of_ble_eq_true rfl⟩) [1, 2, 3, 4, 5, 6, 7, 8] [0, 9, 10, 11, 12, 13, 14, 15, 16, 17, 18, 19, 20, 21, 22, 23, 24, 25, 26, 27, 28, 29, 30, 31, 32, 33, 34, 35, 36] [0, 29, 30, 31, 32, 33, 34, 35, 36, 1, 2, 3, 4, 5, 6, 7, 8, 9, 10, 11, 12, 13, 14, 15, 16, 17, 18, 19, 20, 21, 22, 23, 24, 25, 26, 27, 28] rfl rfl rfl rfl (by decide) rfl rfl rfl rfl rfl rfl (Nat.le_of_ble_eq_true rfl) dX7_burn_5 ⟨Nat.zero_le _, Nat.zero_le _⟩ (fun H locs hh => ?_)
  refine lv_if_ne (tgt := 17) hx hb dX7_burn_8 (by decide) (fun c2 => ?_) (fun c2 => ?_)
  · replace hf := (if_neg c2).symm.trans hf
    refine lv_aload_n hx hb dX7_burn_17 rfl (lv_at hl 0 rfl) ?_
    refine zget (v := .ref a1) (ref := "SumOfTwoThatStand") (C := RX7) (T := TX7) (N := 10) (index := 10) X hh inX7_burn_X7 0 rfl rfl 0 (by decide) mmX7_burn_0 rfl rfl dX7_burn_18 ?_
    refine lv_iload_n hx hb dX7_burn_21 rfl (lv_at hl 1 rfl) ?_
    refine zcallV (ci := 5) (q0 := 1) (As := [.int p1]) (rest := []) (wr := zsel (cMn K a0 a1 a2 a3 a4 a5 a6 a7 a8 a9 a10 a11 a12 a13 a14 a15 a16 a17 a18 a19 a20 a21 a22 a23 a24 a25 a26 a27 a28 a29 a30 a31 a32 a33 a34 a35 a36 S) [0, 9, 10, 11, 12, 13, 14, 15, 16, 17, 18, 19, 20, 21, 22, 23, 24, 25, 26, 27, 28, 29, 30, 31, 32, 33, 34, 35, 36]) (ws' := cMn K a0 a1 a2 a3 a4 a5 a6 a7 a8 a9 a10 a11 a12 a13 a14 a15 a16 a17 a18 a19 a20 a21 a22 a23 a24 a25 a26 a27 a28 a29 a30 a31 a32 a33 a34 a35 a36 S) (ov := some (.int (fX5_stands (mn_live S) p1))) X hh hl (kX5_stands l K a1 a2 a3 a4 a5 a6 a7 a8 (mn_live S) p1 (fX5_stands (mn_live S) p1) rfl) (fun ht => cwV 1 ht gX7_burn_X5_stands rfl rfl rfl ⟨rfl, hdX5_stands⟩ ⟨Nat.le_of_ble_eq_true rfl, Nat.le_of_ble_eq_true rfl⟩) [1, 2, 3, 4, 5, 6, 7, 8] [0, 9, 10, 11, 12, 13, 14, 15, 16, 17, 18, 19, 20, 21, 22, 23, 24, 25, 26, 27, 28, 29, 30, 31, 32, 33, 34, 35, 36] [0, 29, 30, 31, 32, 33, 34, 35, 36, 1, 2, 3, 4, 5, 6, 7, 8, 9, 10, 11, 12, 13, 14, 15, 16, 17, 18, 19, 20, 21, 22, 23, 24, 25, 26, 27, 28] rfl rfl rfl rfl (by decide) rfl rfl rfl rfl rfl rfl (Nat.le_of_ble_eq_true rfl) dX7_burn_22 ⟨Nat.zero_le _, Nat.zero_le _⟩ (fun H locs hh => ?_)
    refine lv_if_ne (tgt := 35) hx hb dX7_burn_25 (by decide) (fun c4 => ?_) (fun c4 => ?_)
    · replace hf := (if_neg c4).symm.trans hf
      refine lv_aload_n hx hb dX7_burn_35 rfl (lv_at hl 0 rfl) ?_
      refine zget (v := .ref a1) (ref := "SumOfTwoThatStand") (C := RX7) (T := TX7) (N := 10) (index := 10) X hh inX7_burn_X7 0 rfl rfl 0 (by decide) mmX7_burn_0 rfl rfl dX7_burn_36 ?_
      refine lv_iload_n hx hb dX7_burn_39 rfl (lv_at hl 1 rfl) ?_
      obtain ⟨u5, hu5, hf⟩ := ob_bind hf
      refine zcallV (ci := 5) (q0 := 1) (As := [.int p1]) (rest := []) (wr := zsel (cMn K a0 a1 a2 a3 a4 a5 a6 a7 a8 a9 a10 a11 a12 a13 a14 a15 a16 a17 a18 a19 a20 a21 a22 a23 a24 a25 a26 a27 a28 a29 a30 a31 a32 a33 a34 a35 a36 S) [0, 9, 10, 11, 12, 13, 14, 15, 16, 17, 18, 19, 20, 21, 22, 23, 24, 25, 26, 27, 28, 29, 30, 31, 32, 33, 34, 35, 36]) (ws' := cMn K a0 a1 a2 a3 a4 a5 a6 a7 a8 a9 a10 a11 a12 a13 a14 a15 a16 a17 a18 a19 a20 a21 a22 a23 a24 a25 a26 a27 a28 a29 a30 a31 a32 a33 a34 a35 a36 (mn_set_live S u5.2)) (ov := some (.int u5.1)) X hh hl (kX5_fire l K a1 a2 a3 a4 a5 a6 a7 a8 (mn_live S) p1 u5 hu5) (fun ht => cwV 1 ht gX7_burn_X5_fire rfl rfl rfl ⟨rfl, hdX5_fire⟩ ⟨Nat.le_of_ble_eq_true rfl, Nat.le_of_ble_eq_true rfl⟩) [1, 2, 3, 4, 5, 6, 7, 8] [0, 9, 10, 11, 12, 13, 14, 15, 16, 17, 18, 19, 20, 21, 22, 23, 24, 25, 26, 27, 28, 29, 30, 31, 32, 33, 34, 35, 36] [0, 29, 30, 31, 32, 33, 34, 35, 36, 1, 2, 3, 4, 5, 6, 7, 8, 9, 10, 11, 12, 13, 14, 15, 16, 17, 18, 19, 20, 21, 22, 23, 24, 25, 26, 27, 28] rfl rfl rfl rfl (by decide) rfl rfl rfl rfl rfl rfl (Nat.le_of_ble_eq_true rfl) dX7_burn_40 ⟨Nat.zero_le _, Nat.zero_le _⟩ (fun H locs hh => ?_)
      exact hr2 43 ls H locs u5.1 (mn_set_live S u5.2) hf dX7_burn_43 hh
    · replace hf := (if_pos c4).symm.trans hf
      refine lv_aload_n hx hb dX7_burn_28 rfl (lv_at hl 0 rfl) ?_
      refine lv_bipush (v := (-3 : Int32)) hx hb dX7_burn_29 (by decide) ?_
      obtain ⟨u6, hu6, hf⟩ := ob_bind hf
      refine zcallV (ci := 6) (q0 := 0) (As := [.int (-3 : Int32)]) (rest := []) (wr := []) (ws' := cMn K a0 a1 a2 a3 a4 a5 a6 a7 a8 a9 a10 a11 a12 a13 a14 a15 a16 a17 a18 a19 a20 a21 a22 a23 a24 a25 a26 a27 a28 a29 a30 a31 a32 a33 a34 a35 a36 u6.2) (ov := some (.int u6.1)) X hh hl (kX7_refuse l K a0 a1 a2 a3 a4 a5 a6 a7 a8 a9 a10 a11 a12 a13 a14 a15 a16 a17 a18 a19 a20 a21 a22 a23 a24 a25 a26 a27 a28 a29 a30 a31 a32 a33 a34 a35 a36 S (-3 : Int32) u6 hu6) (fun ht => cwV 1 ht gX7_burn_X7_refuse rfl rfl rfl ⟨rfl, hdX7_refuse⟩ ⟨Nat.le_of_ble_eq_true rfl, Nat.le_of_ble_eq_true rfl⟩) [0, 1, 2, 3, 4, 5, 6, 7, 8, 9, 10, 11, 12, 13, 14, 15, 16, 17, 18, 19, 20, 21, 22, 23, 24, 25, 26, 27, 28, 29, 30, 31, 32, 33, 34, 35, 36] [] [0, 1, 2, 3, 4, 5, 6, 7, 8, 9, 10, 11, 12, 13, 14, 15, 16, 17, 18, 19, 20, 21, 22, 23, 24, 25, 26, 27, 28, 29, 30, 31, 32, 33, 34, 35, 36] rfl rfl rfl rfl (by decide) rfl rfl rfl rfl rfl rfl (Nat.le_of_ble_eq_true rfl) dX7_burn_31 ⟨Nat.zero_le _, Nat.zero_le _⟩ (fun H locs hh => ?_)
      exact hr2 34 ls H locs u6.1 u6.2 hf dX7_burn_34 hh
  · replace hf := (if_pos c2).symm.trans hf
    refine lv_aload_n hx hb dX7_burn_11 rfl (lv_at hl 0 rfl) ?_
    refine lv_iconst (v := (-1 : Int32)) hx hb dX7_burn_12 (by decide) ?_
    obtain ⟨u7, hu7, hf⟩ := ob_bind hf
    refine zcallV (ci := 6) (q0 := 0) (As := [.int (-1 : Int32)]) (rest := []) (wr := []) (ws' := cMn K a0 a1 a2 a3 a4 a5 a6 a7 a8 a9 a10 a11 a12 a13 a14 a15 a16 a17 a18 a19 a20 a21 a22 a23 a24 a25 a26 a27 a28 a29 a30 a31 a32 a33 a34 a35 a36 u7.2) (ov := some (.int u7.1)) X hh hl (kX7_refuse l K a0 a1 a2 a3 a4 a5 a6 a7 a8 a9 a10 a11 a12 a13 a14 a15 a16 a17 a18 a19 a20 a21 a22 a23 a24 a25 a26 a27 a28 a29 a30 a31 a32 a33 a34 a35 a36 S (-1 : Int32) u7 hu7) (fun ht => cwV 1 ht gX7_burn_X7_refuse rfl rfl rfl ⟨rfl, hdX7_refuse⟩ ⟨Nat.le_of_ble_eq_true rfl, Nat.le_of_ble_eq_true rfl⟩) [0, 1, 2, 3, 4, 5, 6, 7, 8, 9, 10, 11, 12, 13, 14, 15, 16, 17, 18, 19, 20, 21, 22, 23, 24, 25, 26, 27, 28, 29, 30, 31, 32, 33, 34, 35, 36] [] [0, 1, 2, 3, 4, 5, 6, 7, 8, 9, 10, 11, 12, 13, 14, 15, 16, 17, 18, 19, 20, 21, 22, 23, 24, 25, 26, 27, 28, 29, 30, 31, 32, 33, 34, 35, 36] rfl rfl rfl rfl (by decide) rfl rfl rfl rfl rfl rfl (Nat.le_of_ble_eq_true rfl) dX7_burn_13 ⟨Nat.zero_le _, Nat.zero_le _⟩ (fun H locs hh => ?_)
    exact hr2 16 ls H locs u7.1 u7.2 hf dX7_burn_16 hh
theorem inX7_hangs_X7 : ∀ w ∈ wsX70, w ∈ wsX7_hangs := by decide +kernel
theorem mmX7_hangs_0 : Cond.fieldLink RX7 10 "SumOfTwoThatStand" "live" "LSumOfTwoThatStand$Street;" ∈ wsX7_hangs := by decide +kernel
theorem hdX7_hangs : yX7_hangs.cls ≠ "java/lang/invoke/MethodHandle" ∧ yX7_hangs.cls ≠ "java/lang/invoke/VarHandle" ∧ (parseMethodDescriptor yX7_hangs.desc).map (fun d => d.parameters.length) = some 1 := by decide +kernel
set_option maxHeartbeats 4000000 in
set_option maxRecDepth 100000 in
theorem kX7_hangs (l : Launch) (K : zK) (a0 a1 a2 a3 a4 a5 a6 a7 a8 a9 a10 a11 a12 a13 a14 a15 a16 a17 a18 a19 a20 a21 a22 a23 a24 a25 a26 a27 a28 a29 a30 a31 a32 a33 a34 a35 a36 : Nat) (S : zMn) (p1 : Int32) (R : Int32 × zMn) (hf : fX7_hangs S p1 = some R) : zC l yX7_hangs wsX7_hangs ({ frames := 3, cells := 0, slots := 0, locals := 66 } : Room) K [.ref a0, .int p1] (cMn K a0 a1 a2 a3 a4 a5 a6 a7 a8 a9 a10 a11 a12 a13 a14 a15 a16 a17 a18 a19 a20 a21 a22 a23 a24 a25 a26 a27 a28 a29 a30 a31 a32 a33 a34 a35 a36 S) (some (.int R.1)) (cMn K a0 a1 a2 a3 a4 a5 a6 a7 a8 a9 a10 a11 a12 a13 a14 a15 a16 a17 a18 a19 a20 a21 a22 a23 a24 a25 a26 a27 a28 a29 a30 a31 a32 a33 a34 a35 a36 R.2) := by
  refine zC_i R.1 (cc := cX7_hangs) (maxL := 2) (by decide +kernel) rfl (Nat.le_of_ble_eq_true rfl) rfl rfl ?_
  intro p e s m below meth c Q A X hret ls hl hh
  have X : zX p m c cX7_hangs 2 s ([.ref a0, .int p1] : List Value).toArray wsX7_hangs RX7 K A := X
  have hx := X.1.1
  have hb := X.1.2.1
  have hr2 : ∀ (pc : Nat) (ls : Array Slot) (H : Heap) (locs : List Loc) (v : Int32) (S : zMn), some (v, S) = some R → decode cX7_hangs pc = .ok (.ireturn, 1) → zW K A s H locs (cMn K a0 a1 a2 a3 a4 a5 a6 a7 a8 a9 a10 a11 a12 a13 a14 a15 a16 a17 a18 a19 a20 a21 a22 a23 a24 a25 a26 a27 a28 a29 a30 a31 a32 a33 a34 a35 a36 S) → W p l e ({ frames := 3, cells := 0, slots := 0, locals := 66 } : Room) s m ([.ref a0, .int p1] : List Value).toArray below meth c H locs 0 0 Q (F0 m pc ls [.int v]) := by
    intro pc ls H locs v S h hd hh
    cases h; exact hret pc ls H locs _ rfl hd hh
  have hl : lv_has ls 2 [(0, .ref a0), (1, .int p1)] := hl
  unfold fX7_hangs at hf
  refine (fun (hmain : ∀ (H : Heap) (locs : List Loc), zW K A s H locs (cMn K a0 a1 a2 a3 a4 a5 a6 a7 a8 a9 a10 a11 a12 a13 a14 a15 a16 a17 a18 a19 a20 a21 a22 a23 a24 a25 a26 a27 a28 a29 a30 a31 a32 a33 a34 a35 a36 S) → W p l e ({ frames := 3, cells := 0, slots := 0, locals := 66 } : Room) s m ([.ref a0, .int p1] : List Value).toArray below meth c H locs 0 0 Q (F0 m 0 ls [])) => hmain s.heap [] hh) (fun H locs hh => ?_)
  refine lv_aload_n hx hb dX7_hangs_0 rfl (lv_at hl 0 rfl) ?_
  refine zget (v := .ref a1) (ref := "SumOfTwoThatStand") (C := RX7) (T := TX7) (N := 10) (index := 10) X hh inX7_hangs_X7 0 rfl rfl 0 (by decide) mmX7_hangs_0 rfl rfl dX7_hangs_1 ?_
  refine lv_iload_n hx hb dX7_hangs_4 rfl (lv_at hl 1 rfl) ?_
  refine zcallV (ci := 5) (q0 := 1) (As := [.int p1]) (rest := []) (wr := zsel (cMn K a0 a1 a2 a3 a4 a5 a6 a7 a8 a9 a10 a11 a12 a13 a14 a15 a16 a17 a18 a19 a20 a21 a22 a23 a24 a25 a26 a27 a28 a29 a30 a31 a32 a33 a34 a35 a36 S) [0, 9, 10, 11, 12, 13, 14, 15, 16, 17, 18, 19, 20, 21, 22, 23, 24, 25, 26, 27, 28, 29, 30, 31, 32, 33, 34, 35, 36]) (ws' := cMn K a0 a1 a2 a3 a4 a5 a6 a7 a8 a9 a10 a11 a12 a13 a14 a15 a16 a17 a18 a19 a20 a21 a22 a23 a24 a25 a26 a27 a28 a29 a30 a31 a32 a33 a34 a35 a36 S) (ov := some (.int (fX5_has (mn_live S) p1))) X hh hl (kX5_has l K a1 a2 a3 a4 a5 a6 a7 a8 (mn_live S) p1 (fX5_has (mn_live S) p1) rfl) (fun ht => cwV 1 ht gX7_hangs_X5_has rfl rfl rfl ⟨rfl, hdX5_has⟩ ⟨Nat.le_of_ble_eq_true rfl, Nat.le_of_ble_eq_true rfl⟩) [1, 2, 3, 4, 5, 6, 7, 8] [0, 9, 10, 11, 12, 13, 14, 15, 16, 17, 18, 19, 20, 21, 22, 23, 24, 25, 26, 27, 28, 29, 30, 31, 32, 33, 34, 35, 36] [0, 29, 30, 31, 32, 33, 34, 35, 36, 1, 2, 3, 4, 5, 6, 7, 8, 9, 10, 11, 12, 13, 14, 15, 16, 17, 18, 19, 20, 21, 22, 23, 24, 25, 26, 27, 28] rfl rfl rfl rfl (by decide) rfl rfl rfl rfl rfl rfl (Nat.le_of_ble_eq_true rfl) dX7_hangs_5 ⟨Nat.zero_le _, Nat.zero_le _⟩ (fun H locs hh => ?_)
  refine lv_if_ne (tgt := 17) hx hb dX7_hangs_8 (by decide) (fun c2 => ?_) (fun c2 => ?_)
  · replace hf := (if_neg c2).symm.trans hf
    refine lv_aload_n hx hb dX7_hangs_17 rfl (lv_at hl 0 rfl) ?_
    refine zget (v := .ref a1) (ref := "SumOfTwoThatStand") (C := RX7) (T := TX7) (N := 10) (index := 10) X hh inX7_hangs_X7 0 rfl rfl 0 (by decide) mmX7_hangs_0 rfl rfl dX7_hangs_18 ?_
    refine lv_iload_n hx hb dX7_hangs_21 rfl (lv_at hl 1 rfl) ?_
    refine zcallV (ci := 5) (q0 := 1) (As := [.int p1]) (rest := []) (wr := zsel (cMn K a0 a1 a2 a3 a4 a5 a6 a7 a8 a9 a10 a11 a12 a13 a14 a15 a16 a17 a18 a19 a20 a21 a22 a23 a24 a25 a26 a27 a28 a29 a30 a31 a32 a33 a34 a35 a36 S) [0, 9, 10, 11, 12, 13, 14, 15, 16, 17, 18, 19, 20, 21, 22, 23, 24, 25, 26, 27, 28, 29, 30, 31, 32, 33, 34, 35, 36]) (ws' := cMn K a0 a1 a2 a3 a4 a5 a6 a7 a8 a9 a10 a11 a12 a13 a14 a15 a16 a17 a18 a19 a20 a21 a22 a23 a24 a25 a26 a27 a28 a29 a30 a31 a32 a33 a34 a35 a36 S) (ov := some (.int (fX5_stands (mn_live S) p1))) X hh hl (kX5_stands l K a1 a2 a3 a4 a5 a6 a7 a8 (mn_live S) p1 (fX5_stands (mn_live S) p1) rfl) (fun ht => cwV 1 ht gX7_hangs_X5_stands rfl rfl rfl ⟨rfl, hdX5_stands⟩ ⟨Nat.le_of_ble_eq_true rfl, Nat.le_of_ble_eq_true rfl⟩) [1, 2, 3, 4, 5, 6, 7, 8] [0, 9, 10, 11, 12, 13, 14, 15, 16, 17, 18, 19, 20, 21, 22, 23, 24, 25, 26, 27, 28, 29, 30, 31, 32, 33, 34, 35, 36] [0, 29, 30, 31, 32, 33, 34, 35, 36, 1, 2, 3, 4, 5, 6, 7, 8, 9, 10, 11, 12, 13, 14, 15, 16, 17, 18, 19, 20, 21, 22, 23, 24, 25, 26, 27, 28] rfl rfl rfl rfl (by decide) rfl rfl rfl rfl rfl rfl (Nat.le_of_ble_eq_true rfl) dX7_hangs_22 ⟨Nat.zero_le _, Nat.zero_le _⟩ (fun H locs hh => ?_)
    refine lv_if_ne (tgt := 35) hx hb dX7_hangs_25 (by decide) (fun c4 => ?_) (fun c4 => ?_)
    · replace hf := (if_neg c4).symm.trans hf
      refine lv_aload_n hx hb dX7_hangs_35 rfl (lv_at hl 0 rfl) ?_
      refine zget (v := .ref a1) (ref := "SumOfTwoThatStand") (C := RX7) (T := TX7) (N := 10) (index := 10) X hh inX7_hangs_X7 0 rfl rfl 0 (by decide) mmX7_hangs_0 rfl rfl dX7_hangs_36 ?_
      refine lv_iload_n hx hb dX7_hangs_39 rfl (lv_at hl 1 rfl) ?_
      obtain ⟨u5, hu5, hf⟩ := ob_bind hf
      refine zcallV (ci := 5) (q0 := 1) (As := [.int p1]) (rest := []) (wr := zsel (cMn K a0 a1 a2 a3 a4 a5 a6 a7 a8 a9 a10 a11 a12 a13 a14 a15 a16 a17 a18 a19 a20 a21 a22 a23 a24 a25 a26 a27 a28 a29 a30 a31 a32 a33 a34 a35 a36 S) [0, 9, 10, 11, 12, 13, 14, 15, 16, 17, 18, 19, 20, 21, 22, 23, 24, 25, 26, 27, 28, 29, 30, 31, 32, 33, 34, 35, 36]) (ws' := cMn K a0 a1 a2 a3 a4 a5 a6 a7 a8 a9 a10 a11 a12 a13 a14 a15 a16 a17 a18 a19 a20 a21 a22 a23 a24 a25 a26 a27 a28 a29 a30 a31 a32 a33 a34 a35 a36 S) (ov := some (.int u5)) X hh hl (kX5_fallsWith l K a1 a2 a3 a4 a5 a6 a7 a8 (mn_live S) p1 u5 hu5) (fun ht => cwV 1 ht gX7_hangs_X5_fallsWith rfl rfl rfl ⟨rfl, hdX5_fallsWith⟩ ⟨Nat.le_of_ble_eq_true rfl, Nat.le_of_ble_eq_true rfl⟩) [1, 2, 3, 4, 5, 6, 7, 8] [0, 9, 10, 11, 12, 13, 14, 15, 16, 17, 18, 19, 20, 21, 22, 23, 24, 25, 26, 27, 28, 29, 30, 31, 32, 33, 34, 35, 36] [0, 29, 30, 31, 32, 33, 34, 35, 36, 1, 2, 3, 4, 5, 6, 7, 8, 9, 10, 11, 12, 13, 14, 15, 16, 17, 18, 19, 20, 21, 22, 23, 24, 25, 26, 27, 28] rfl rfl rfl rfl (by decide) rfl rfl rfl rfl rfl rfl (Nat.le_of_ble_eq_true rfl) dX7_hangs_40 ⟨Nat.zero_le _, Nat.zero_le _⟩ (fun H locs hh => ?_)
      exact hr2 43 ls H locs u5 S hf dX7_hangs_43 hh
    · replace hf := (if_pos c4).symm.trans hf
      refine lv_aload_n hx hb dX7_hangs_28 rfl (lv_at hl 0 rfl) ?_
      refine lv_bipush (v := (-3 : Int32)) hx hb dX7_hangs_29 (by decide) ?_
      obtain ⟨u6, hu6, hf⟩ := ob_bind hf
      refine zcallV (ci := 6) (q0 := 0) (As := [.int (-3 : Int32)]) (rest := []) (wr := []) (ws' := cMn K a0 a1 a2 a3 a4 a5 a6 a7 a8 a9 a10 a11 a12 a13 a14 a15 a16 a17 a18 a19 a20 a21 a22 a23 a24 a25 a26 a27 a28 a29 a30 a31 a32 a33 a34 a35 a36 u6.2) (ov := some (.int u6.1)) X hh hl (kX7_refuse l K a0 a1 a2 a3 a4 a5 a6 a7 a8 a9 a10 a11 a12 a13 a14 a15 a16 a17 a18 a19 a20 a21 a22 a23 a24 a25 a26 a27 a28 a29 a30 a31 a32 a33 a34 a35 a36 S (-3 : Int32) u6 hu6) (fun ht => cwV 1 ht gX7_hangs_X7_refuse rfl rfl rfl ⟨rfl, hdX7_refuse⟩ ⟨Nat.le_of_ble_eq_true rfl, Nat.le_of_ble_eq_true rfl⟩) [0, 1, 2, 3, 4, 5, 6, 7, 8, 9, 10, 11, 12, 13, 14, 15, 16, 17, 18, 19, 20, 21, 22, 23, 24, 25, 26, 27, 28, 29, 30, 31, 32, 33, 34, 35, 36] [] [0, 1, 2, 3, 4, 5, 6, 7, 8, 9, 10, 11, 12, 13, 14, 15, 16, 17, 18, 19, 20, 21, 22, 23, 24, 25, 26, 27, 28, 29, 30, 31, 32, 33, 34, 35, 36] rfl rfl rfl rfl (by decide) rfl rfl rfl rfl rfl rfl (Nat.le_of_ble_eq_true rfl) dX7_hangs_31 ⟨Nat.zero_le _, Nat.zero_le _⟩ (fun H locs hh => ?_)
      exact hr2 34 ls H locs u6.1 u6.2 hf dX7_hangs_34 hh
  · replace hf := (if_pos c2).symm.trans hf
    refine lv_aload_n hx hb dX7_hangs_11 rfl (lv_at hl 0 rfl) ?_
    refine lv_iconst (v := (-1 : Int32)) hx hb dX7_hangs_12 (by decide) ?_
    obtain ⟨u7, hu7, hf⟩ := ob_bind hf
    refine zcallV (ci := 6) (q0 := 0) (As := [.int (-1 : Int32)]) (rest := []) (wr := []) (ws' := cMn K a0 a1 a2 a3 a4 a5 a6 a7 a8 a9 a10 a11 a12 a13 a14 a15 a16 a17 a18 a19 a20 a21 a22 a23 a24 a25 a26 a27 a28 a29 a30 a31 a32 a33 a34 a35 a36 u7.2) (ov := some (.int u7.1)) X hh hl (kX7_refuse l K a0 a1 a2 a3 a4 a5 a6 a7 a8 a9 a10 a11 a12 a13 a14 a15 a16 a17 a18 a19 a20 a21 a22 a23 a24 a25 a26 a27 a28 a29 a30 a31 a32 a33 a34 a35 a36 S (-1 : Int32) u7 hu7) (fun ht => cwV 1 ht gX7_hangs_X7_refuse rfl rfl rfl ⟨rfl, hdX7_refuse⟩ ⟨Nat.le_of_ble_eq_true rfl, Nat.le_of_ble_eq_true rfl⟩) [0, 1, 2, 3, 4, 5, 6, 7, 8, 9, 10, 11, 12, 13, 14, 15, 16, 17, 18, 19, 20, 21, 22, 23, 24, 25, 26, 27, 28, 29, 30, 31, 32, 33, 34, 35, 36] [] [0, 1, 2, 3, 4, 5, 6, 7, 8, 9, 10, 11, 12, 13, 14, 15, 16, 17, 18, 19, 20, 21, 22, 23, 24, 25, 26, 27, 28, 29, 30, 31, 32, 33, 34, 35, 36] rfl rfl rfl rfl (by decide) rfl rfl rfl rfl rfl rfl (Nat.le_of_ble_eq_true rfl) dX7_hangs_13 ⟨Nat.zero_le _, Nat.zero_le _⟩ (fun H locs hh => ?_)
    exact hr2 16 ls H locs u7.1 u7.2 hf dX7_hangs_16 hh
theorem inX7_save_X7 : ∀ w ∈ wsX70, w ∈ wsX7_save := by decide +kernel
theorem mmX7_save_0 : Cond.fieldLink RX7 10 "SumOfTwoThatStand" "live" "LSumOfTwoThatStand$Street;" ∈ wsX7_save := by decide +kernel
theorem hdX7_save : yX7_save.cls ≠ "java/lang/invoke/MethodHandle" ∧ yX7_save.cls ≠ "java/lang/invoke/VarHandle" ∧ (parseMethodDescriptor yX7_save.desc).map (fun d => d.parameters.length) = some 0 := by decide +kernel
set_option maxHeartbeats 4000000 in
set_option maxRecDepth 100000 in
theorem kX7_save (l : Launch) (K : zK) (a0 a1 a2 a3 a4 a5 a6 a7 a8 a9 a10 a11 a12 a13 a14 a15 a16 a17 a18 a19 a20 a21 a22 a23 a24 a25 a26 a27 a28 a29 a30 a31 a32 a33 a34 a35 a36 : Nat) (S : zMn) (R : Int32) (hf : fX7_save S = some R) : zC l yX7_save wsX7_save ({ frames := 3, cells := 0, slots := 0, locals := 66 } : Room) K [.ref a0] (cMn K a0 a1 a2 a3 a4 a5 a6 a7 a8 a9 a10 a11 a12 a13 a14 a15 a16 a17 a18 a19 a20 a21 a22 a23 a24 a25 a26 a27 a28 a29 a30 a31 a32 a33 a34 a35 a36 S) (some (.int R)) (cMn K a0 a1 a2 a3 a4 a5 a6 a7 a8 a9 a10 a11 a12 a13 a14 a15 a16 a17 a18 a19 a20 a21 a22 a23 a24 a25 a26 a27 a28 a29 a30 a31 a32 a33 a34 a35 a36 S) := by
  refine zC_i R (cc := cX7_save) (maxL := 5) (by decide +kernel) rfl (Nat.le_of_ble_eq_true rfl) rfl rfl ?_
  intro p e s m below meth c Q A X hret ls hl hh
  have X : zX p m c cX7_save 5 s ([.ref a0] : List Value).toArray wsX7_save RX7 K A := X
  have hx := X.1.1
  have hb := X.1.2.1
  have hr2 : ∀ (pc : Nat) (ls : Array Slot) (H : Heap) (locs : List Loc) (v : Int32), some v = some R → decode cX7_save pc = .ok (.ireturn, 1) → zW K A s H locs (cMn K a0 a1 a2 a3 a4 a5 a6 a7 a8 a9 a10 a11 a12 a13 a14 a15 a16 a17 a18 a19 a20 a21 a22 a23 a24 a25 a26 a27 a28 a29 a30 a31 a32 a33 a34 a35 a36 S) → W p l e ({ frames := 3, cells := 0, slots := 0, locals := 66 } : Room) s m ([.ref a0] : List Value).toArray below meth c H locs 0 0 Q (F0 m pc ls [.int v]) := by
    intro pc ls H locs v h hd hh
    cases h; exact hret pc ls H locs _ rfl hd hh
  have hl : lv_has ls 5 [(0, .ref a0)] := hl
  have hJ44 : ∀ (v1 : Int32) (v2 : Int32) (v3 : Int32) (t0 : Int32) (k7 : (Int32) → (Int32) → (Int32) → Option (Int32)), (∀ (v1 : Int32) (v2 : Int32) (v3 : Int32) (H : Heap) (locs : List Loc) (ls : Array Slot), k7 v1 v2 v3 = some R → lv_has ls 5 [(0, .ref a0), (1, .int v1), (2, .int v2), (3, .int v3)] → zW K A s H locs (cMn K a0 a1 a2 a3 a4 a5 a6 a7 a8 a9 a10 a11 a12 a13 a14 a15 a16 a17 a18 a19 a20 a21 a22 a23 a24 a25 a26 a27 a28 a29 a30 a31 a32 a33 a34 a35 a36 S) → W p l e ({ frames := 3, cells := 0, slots := 0, locals := 66 } : Room) s m ([.ref a0] : List Value).toArray below meth c H locs 0 0 Q (F0 m 7 ls [])) → ∀ (H : Heap) (locs : List Loc) (ls : Array Slot), fX7_save_j44 S v1 v2 v3 t0 k7 = some R → lv_has ls 5 [(0, .ref a0), (1, .int v1), (2, .int v2), (3, .int v3)] → zW K A s H locs (cMn K a0 a1 a2 a3 a4 a5 a6 a7 a8 a9 a10 a11 a12 a13 a14 a15 a16 a17 a18 a19 a20 a21 a22 a23 a24 a25 a26 a27 a28 a29 a30 a31 a32 a33 a34 a35 a36 S) → W p l e ({ frames := 3, cells := 0, slots := 0, locals := 66 } : Room) s m ([.ref a0] : List Value).toArray below meth c H locs 0 0 Q (F0 m 44 ls [.int t0]) := by
    intro v1 v2 v3 t0 k7 hk7 H locs ls hf hl hh
    unfold fX7_save_j44 at hf
    refine lv_istore (lv' := [(4, .int t0), (0, .ref a0), (1, .int v1), (2, .int v2), (3, .int v3)]) hx hb dX7_save_44 hl (by decide) rfl (fun ls hl => ?_)
    refine lv_iload hx hb dX7_save_46 (lv_at hl 0 rfl) ?_
    refine lv_iload_n hx hb dX7_save_48 rfl (lv_at hl 3 rfl) ?_
    refine lv_icmp_le (tgt := 57) hx hb dX7_save_49 (by decide) (fun c1 => ?_) (fun c1 => ?_)
    · replace hf := (if_pos c1).symm.trans hf
      refine lv_iinc (v := (v3 + (1 : Int32))) (lv' := [(3, .int (v3 + (1 : Int32))), (4, .int t0), (0, .ref a0), (1, .int v1), (2, .int v2)]) hx hb dX7_save_57 hl (k := 4) rfl rfl (by decide) rfl (fun ls hl => ?_)
      refine lv_goto (tgt := 7) hx hb dX7_save_60 (by decide) ?_
      exact hk7 v1 v2 (v3 + (1 : Int32)) H locs ls hf (lv_sub hl [2, 3, 4, 0] rfl) hh
    · replace hf := (if_neg c1).symm.trans hf
      refine lv_iload hx hb dX7_save_52 (lv_at hl 0 rfl) ?_
      refine lv_istore_n (lv' := [(2, .int t0), (4, .int t0), (0, .ref a0), (1, .int v1), (3, .int v3)]) hx hb dX7_save_54 rfl hl (by decide) rfl (fun ls hl => ?_)
      refine lv_iload_n hx hb dX7_save_55 rfl (lv_at hl 4 rfl) ?_
      refine lv_istore_n (lv' := [(1, .int v3), (2, .int t0), (4, .int t0), (0, .ref a0), (3, .int v3)]) hx hb dX7_save_56 rfl hl (by decide) rfl (fun ls hl => ?_)
      refine lv_iinc (v := (v3 + (1 : Int32))) (lv' := [(3, .int (v3 + (1 : Int32))), (1, .int v3), (2, .int t0), (4, .int t0), (0, .ref a0)]) hx hb dX7_save_57 hl (k := 4) rfl rfl (by decide) rfl (fun ls hl => ?_)
      refine lv_goto (tgt := 7) hx hb dX7_save_60 (by decide) ?_
      exact hk7 v3 t0 (v3 + (1 : Int32)) H locs ls hf (lv_sub hl [4, 1, 2, 0] rfl) hh
  have hL7 : ∀ (n : Nat) (v1 : Int32) (v2 : Int32) (v3 : Int32), ∀ (H : Heap) (locs : List Loc) (ls : Array Slot), fX7_save_l7 S n v1 v2 v3 = some R → lv_has ls 5 [(0, .ref a0), (1, .int v1), (2, .int v2), (3, .int v3)] → zW K A s H locs (cMn K a0 a1 a2 a3 a4 a5 a6 a7 a8 a9 a10 a11 a12 a13 a14 a15 a16 a17 a18 a19 a20 a21 a22 a23 a24 a25 a26 a27 a28 a29 a30 a31 a32 a33 a34 a35 a36 S) → W p l e ({ frames := 3, cells := 0, slots := 0, locals := 66 } : Room) s m ([.ref a0] : List Value).toArray below meth c H locs 0 0 Q (F0 m 7 ls []) := by
    intro n
    induction n with
    | zero =>
      intro v1 v2 v3 H locs ls hf hl hh
      rw [fX7_save_l7] at hf; cases hf
    | succ n ih =>
      intro v1 v2 v3 H locs ls hf hl hh
      rw [fX7_save_l7] at hf
      refine lv_iload_n hx hb dX7_save_7 rfl (lv_at hl 3 rfl) ?_
      refine lv_aload_n hx hb dX7_save_8 rfl (lv_at hl 0 rfl) ?_
      refine zget (v := .ref a1) (ref := "SumOfTwoThatStand") (C := RX7) (T := TX7) (N := 10) (index := 10) X hh inX7_save_X7 0 rfl rfl 0 (by decide) mmX7_save_0 rfl rfl dX7_save_9 ?_
      refine zcallV (ci := 5) (q0 := 1) (As := []) (rest := [.int v3]) (wr := zsel (cMn K a0 a1 a2 a3 a4 a5 a6 a7 a8 a9 a10 a11 a12 a13 a14 a15 a16 a17 a18 a19 a20 a21 a22 a23 a24 a25 a26 a27 a28 a29 a30 a31 a32 a33 a34 a35 a36 S) [0, 9, 10, 11, 12, 13, 14, 15, 16, 17, 18, 19, 20, 21, 22, 23, 24, 25, 26, 27, 28, 29, 30, 31, 32, 33, 34, 35, 36]) (ws' := cMn K a0 a1 a2 a3 a4 a5 a6 a7 a8 a9 a10 a11 a12 a13 a14 a15 a16 a17 a18 a19 a20 a21 a22 a23 a24 a25 a26 a27 a28 a29 a30 a31 a32 a33 a34 a35 a36 S) (ov := some (.int (fX5_cameCount (mn_live S)))) X hh hl (kX5_cameCount l K a1 a2 a3 a4 a5 a6 a7 a8 (mn_live S) (fX5_cameCount (mn_live S)) rfl) (fun ht => cwV 0 ht gX7_save_X5_cameCount rfl rfl rfl ⟨rfl, hdX5_cameCount⟩ ⟨Nat.le_of_ble_eq_true rfl, Nat.le_of_ble_eq_true rfl⟩) [1, 2, 3, 4, 5, 6, 7, 8] [0, 9, 10, 11, 12, 13, 14, 15, 16, 17, 18, 19, 20, 21, 22, 23, 24, 25, 26, 27, 28, 29, 30, 31, 32, 33, 34, 35, 36] [0, 29, 30, 31, 32, 33, 34, 35, 36, 1, 2, 3, 4, 5, 6, 7, 8, 9, 10, 11, 12, 13, 14, 15, 16, 17, 18, 19, 20, 21, 22, 23, 24, 25, 26, 27, 28] rfl rfl rfl rfl (by decide) rfl rfl rfl rfl rfl rfl (Nat.le_of_ble_eq_true rfl) dX7_save_12 ⟨Nat.zero_le _, Nat.zero_le _⟩ (fun H locs hh => ?_)
      refine lv_icmp_ge (tgt := 63) hx hb dX7_save_15 (by decide) (fun c3 => ?_) (fun c3 => ?_)
      · replace hf := (if_pos c3).symm.trans hf
        refine lv_iload_n hx hb dX7_save_63 rfl (lv_at hl 1 rfl) ?_
        exact hr2 64 ls H locs v1 hf dX7_save_64 hh
      · replace hf := (if_neg c3).symm.trans hf
        refine lv_aload_n hx hb dX7_save_18 rfl (lv_at hl 0 rfl) ?_
        refine zget (v := .ref a1) (ref := "SumOfTwoThatStand") (C := RX7) (T := TX7) (N := 10) (index := 10) X hh inX7_save_X7 0 rfl rfl 0 (by decide) mmX7_save_0 rfl rfl dX7_save_19 ?_
        refine lv_iload_n hx hb dX7_save_22 rfl (lv_at hl 3 rfl) ?_
        refine zcallV (ci := 5) (q0 := 1) (As := [.int v3]) (rest := []) (wr := zsel (cMn K a0 a1 a2 a3 a4 a5 a6 a7 a8 a9 a10 a11 a12 a13 a14 a15 a16 a17 a18 a19 a20 a21 a22 a23 a24 a25 a26 a27 a28 a29 a30 a31 a32 a33 a34 a35 a36 S) [0, 9, 10, 11, 12, 13, 14, 15, 16, 17, 18, 19, 20, 21, 22, 23, 24, 25, 26, 27, 28, 29, 30, 31, 32, 33, 34, 35, 36]) (ws' := cMn K a0 a1 a2 a3 a4 a5 a6 a7 a8 a9 a10 a11 a12 a13 a14 a15 a16 a17 a18 a19 a20 a21 a22 a23 a24 a25 a26 a27 a28 a29 a30 a31 a32 a33 a34 a35 a36 S) (ov := some (.int (fX5_stands (mn_live S) v3))) X hh hl (kX5_stands l K a1 a2 a3 a4 a5 a6 a7 a8 (mn_live S) v3 (fX5_stands (mn_live S) v3) rfl) (fun ht => cwV 1 ht gX7_save_X5_stands rfl rfl rfl ⟨rfl, hdX5_stands⟩ ⟨Nat.le_of_ble_eq_true rfl, Nat.le_of_ble_eq_true rfl⟩) [1, 2, 3, 4, 5, 6, 7, 8] [0, 9, 10, 11, 12, 13, 14, 15, 16, 17, 18, 19, 20, 21, 22, 23, 24, 25, 26, 27, 28, 29, 30, 31, 32, 33, 34, 35, 36] [0, 29, 30, 31, 32, 33, 34, 35, 36, 1, 2, 3, 4, 5, 6, 7, 8, 9, 10, 11, 12, 13, 14, 15, 16, 17, 18, 19, 20, 21, 22, 23, 24, 25, 26, 27, 28] rfl rfl rfl rfl (by decide) rfl rfl rfl rfl rfl rfl (Nat.le_of_ble_eq_true rfl) dX7_save_23 ⟨Nat.zero_le _, Nat.zero_le _⟩ (fun H locs hh => ?_)
        refine lv_if_eq (tgt := 43) hx hb dX7_save_26 (by decide) (fun c5 => ?_) (fun c5 => ?_)
        · replace hf := (if_pos c5).symm.trans hf
          refine lv_iconst (v := (0 : Int32)) hx hb dX7_save_43 (by decide) ?_
          exact hJ44 v1 v2 v3 (0 : Int32) (fX7_save_l7 S n) (ih) H locs ls hf (lv_sub hl [0, 1, 2, 3] rfl) hh
        · replace hf := (if_neg c5).symm.trans hf
          refine lv_aload_n hx hb dX7_save_29 rfl (lv_at hl 0 rfl) ?_
          refine zget (v := .ref a1) (ref := "SumOfTwoThatStand") (C := RX7) (T := TX7) (N := 10) (index := 10) X hh inX7_save_X7 0 rfl rfl 0 (by decide) mmX7_save_0 rfl rfl dX7_save_30 ?_
          refine lv_iload_n hx hb dX7_save_33 rfl (lv_at hl 3 rfl) ?_
          obtain ⟨u6, hu6, hf⟩ := ob_bind hf
          refine zcallV (ci := 5) (q0 := 1) (As := [.int v3]) (rest := []) (wr := zsel (cMn K a0 a1 a2 a3 a4 a5 a6 a7 a8 a9 a10 a11 a12 a13 a14 a15 a16 a17 a18 a19 a20 a21 a22 a23 a24 a25 a26 a27 a28 a29 a30 a31 a32 a33 a34 a35 a36 S) [0, 9, 10, 11, 12, 13, 14, 15, 16, 17, 18, 19, 20, 21, 22, 23, 24, 25, 26, 27, 28, 29, 30, 31, 32, 33, 34, 35, 36]) (ws' := cMn K a0 a1 a2 a3 a4 a5 a6 a7 a8 a9 a10 a11 a12 a13 a14 a15 a16 a17 a18 a19 a20 a21 a22 a23 a24 a25 a26 a27 a28 a29 a30 a31 a32 a33 a34 a35 a36 S) (ov := some (.int u6)) X hh hl (kX5_fallsWith l K a1 a2 a3 a4 a5 a6 a7 a8 (mn_live S) v3 u6 hu6) (fun ht => cwV 1 ht gX7_save_X5_fallsWith rfl rfl rfl ⟨rfl, hdX5_fallsWith⟩ ⟨Nat.le_of_ble_eq_true rfl, Nat.le_of_ble_eq_true rfl⟩) [1, 2, 3, 4, 5, 6, 7, 8] [0, 9, 10, 11, 12, 13, 14, 15, 16, 17, 18, 19, 20, 21, 22, 23, 24, 25, 26, 27, 28, 29, 30, 31, 32, 33, 34, 35, 36] [0, 29, 30, 31, 32, 33, 34, 35, 36, 1, 2, 3, 4, 5, 6, 7, 8, 9, 10, 11, 12, 13, 14, 15, 16, 17, 18, 19, 20, 21, 22, 23, 24, 25, 26, 27, 28] rfl rfl rfl rfl (by decide) rfl rfl rfl rfl rfl rfl (Nat.le_of_ble_eq_true rfl) dX7_save_34 ⟨Nat.zero_le _, Nat.zero_le _⟩ (fun H locs hh => ?_)
          refine zcallS (As := [.int u6]) (rest := []) (wr := cMn K a0 a1 a2 a3 a4 a5 a6 a7 a8 a9 a10 a11 a12 a13 a14 a15 a16 a17 a18 a19 a20 a21 a22 a23 a24 a25 a26 a27 a28 a29 a30 a31 a32 a33 a34 a35 a36 S) (ws' := cMn K a0 a1 a2 a3 a4 a5 a6 a7 a8 a9 a10 a11 a12 a13 a14 a15 a16 a17 a18 a19 a20 a21 a22 a23 a24 a25 a26 a27 a28 a29 a30 a31 a32 a33 a34 a35 a36 S) (ov := some (.int (fJ6_bitCount_0f7a4 u6))) X hh hl (kJ6_bitCount_0f7a4 l K u6 (fJ6_bitCount_0f7a4 u6) rfl) (fun ht => va_cwS 1 ht gX7_save_J6_bitCount_0f7a4 rfl rfl rfl hdJ6_bitCount_0f7a4 ⟨Nat.le_of_ble_eq_true rfl, Nat.le_of_ble_eq_true rfl⟩) [] [0, 1, 2, 3, 4, 5, 6, 7, 8, 9, 10, 11, 12, 13, 14, 15, 16, 17, 18, 19, 20, 21, 22, 23, 24, 25, 26, 27, 28, 29, 30, 31, 32, 33, 34, 35, 36] [0, 1, 2, 3, 4, 5, 6, 7, 8, 9, 10, 11, 12, 13, 14, 15, 16, 17, 18, 19, 20, 21, 22, 23, 24, 25, 26, 27, 28, 29, 30, 31, 32, 33, 34, 35, 36] rfl rfl rfl rfl (by decide) rfl rfl rfl rfl (Nat.le_of_ble_eq_true rfl) dX7_save_37 ⟨Nat.zero_le _, Nat.zero_le _⟩ (fun H locs hh => ?_)
          refine lv_goto (tgt := 44) hx hb dX7_save_40 (by decide) ?_
          exact hJ44 v1 v2 v3 (fJ6_bitCount_0f7a4 u6) (fX7_save_l7 S n) (ih) H locs ls hf (lv_sub hl [0, 1, 2, 3] rfl) hh
  unfold fX7_save at hf
  refine (fun (hmain : ∀ (H : Heap) (locs : List Loc), zW K A s H locs (cMn K a0 a1 a2 a3 a4 a5 a6 a7 a8 a9 a10 a11 a12 a13 a14 a15 a16 a17 a18 a19 a20 a21 a22 a23 a24 a25 a26 a27 a28 a29 a30 a31 a32 a33 a34 a35 a36 S) → W p l e ({ frames := 3, cells := 0, slots := 0, locals := 66 } : Room) s m ([.ref a0] : List Value).toArray below meth c H locs 0 0 Q (F0 m 0 ls [])) => hmain s.heap [] hh) (fun H locs hh => ?_)
  refine lv_bipush (v := (-9 : Int32)) hx hb dX7_save_0 (by decide) ?_
  refine lv_istore_n (lv' := [(1, .int (-9 : Int32)), (0, .ref a0)]) hx hb dX7_save_2 rfl hl (by decide) rfl (fun ls hl => ?_)
  refine lv_iconst (v := (0 : Int32)) hx hb dX7_save_3 (by decide) ?_
  refine lv_istore_n (lv' := [(2, .int (0 : Int32)), (1, .int (-9 : Int32)), (0, .ref a0)]) hx hb dX7_save_4 rfl hl (by decide) rfl (fun ls hl => ?_)
  refine lv_iconst (v := (0 : Int32)) hx hb dX7_save_5 (by decide) ?_
  refine lv_istore_n (lv' := [(3, .int (0 : Int32)), (2, .int (0 : Int32)), (1, .int (-9 : Int32)), (0, .ref a0)]) hx hb dX7_save_6 rfl hl (by decide) rfl (fun ls hl => ?_)
  exact hL7 FU (-9 : Int32) (0 : Int32) (0 : Int32) H locs ls hf (lv_sub hl [3, 2, 1, 0] rfl) hh
theorem inX7_fewest_X7 : ∀ w ∈ wsX70, w ∈ wsX7_fewest := by decide +kernel
theorem mmX7_fewest_0 : Cond.fieldLink RX7 39 "SumOfTwoThatStand" "chains" "LSumOfTwoThatStand$Chains;" ∈ wsX7_fewest := by decide +kernel
theorem hdX7_fewest : yX7_fewest.cls ≠ "java/lang/invoke/MethodHandle" ∧ yX7_fewest.cls ≠ "java/lang/invoke/VarHandle" ∧ (parseMethodDescriptor yX7_fewest.desc).map (fun d => d.parameters.length) = some 1 := by decide +kernel
set_option maxHeartbeats 4000000 in
set_option maxRecDepth 100000 in
theorem kX7_fewest (l : Launch) (K : zK) (a0 a1 a2 a3 a4 a5 a6 a7 a8 a9 a10 a11 a12 a13 a14 a15 a16 a17 a18 a19 a20 a21 a22 a23 a24 a25 a26 a27 a28 a29 a30 a31 a32 a33 a34 a35 a36 : Nat) (S : zMn) (p1 : Int32) (R : Int32 × zMn) (hf : fX7_fewest S p1 = some R) : zC l yX7_fewest wsX7_fewest ({ frames := 18, cells := 0, slots := 0, locals := 493 } : Room) K [.ref a0, .int p1] (cMn K a0 a1 a2 a3 a4 a5 a6 a7 a8 a9 a10 a11 a12 a13 a14 a15 a16 a17 a18 a19 a20 a21 a22 a23 a24 a25 a26 a27 a28 a29 a30 a31 a32 a33 a34 a35 a36 S) (some (.int R.1)) (cMn K a0 a1 a2 a3 a4 a5 a6 a7 a8 a9 a10 a11 a12 a13 a14 a15 a16 a17 a18 a19 a20 a21 a22 a23 a24 a25 a26 a27 a28 a29 a30 a31 a32 a33 a34 a35 a36 R.2) := by
  refine zC_i R.1 (cc := cX7_fewest) (maxL := 3) (by decide +kernel) rfl (Nat.le_of_ble_eq_true rfl) rfl rfl ?_
  intro p e s m below meth c Q A X hret ls hl hh
  have X : zX p m c cX7_fewest 3 s ([.ref a0, .int p1] : List Value).toArray wsX7_fewest RX7 K A := X
  have hx := X.1.1
  have hb := X.1.2.1
  have hr2 : ∀ (pc : Nat) (ls : Array Slot) (H : Heap) (locs : List Loc) (v : Int32) (S : zMn), some (v, S) = some R → decode cX7_fewest pc = .ok (.ireturn, 1) → zW K A s H locs (cMn K a0 a1 a2 a3 a4 a5 a6 a7 a8 a9 a10 a11 a12 a13 a14 a15 a16 a17 a18 a19 a20 a21 a22 a23 a24 a25 a26 a27 a28 a29 a30 a31 a32 a33 a34 a35 a36 S) → W p l e ({ frames := 18, cells := 0, slots := 0, locals := 493 } : Room) s m ([.ref a0, .int p1] : List Value).toArray below meth c H locs 0 0 Q (F0 m pc ls [.int v]) := by
    intro pc ls H locs v S h hd hh
    cases h; exact hret pc ls H locs _ rfl hd hh
  have hl : lv_has ls 3 [(0, .ref a0), (1, .int p1)] := hl
  unfold fX7_fewest at hf
  refine (fun (hmain : ∀ (H : Heap) (locs : List Loc), zW K A s H locs (cMn K a0 a1 a2 a3 a4 a5 a6 a7 a8 a9 a10 a11 a12 a13 a14 a15 a16 a17 a18 a19 a20 a21 a22 a23 a24 a25 a26 a27 a28 a29 a30 a31 a32 a33 a34 a35 a36 S) → W p l e ({ frames := 18, cells := 0, slots := 0, locals := 493 } : Room) s m ([.ref a0, .int p1] : List Value).toArray below meth c H locs 0 0 Q (F0 m 0 ls [])) => hmain s.heap [] hh) (fun H locs hh => ?_)
  refine lv_iload_n hx hb dX7_fewest_0 rfl (lv_at hl 1 rfl) ?_
  refine lv_iconst (v := (1 : Int32)) hx hb dX7_fewest_1 (by decide) ?_
  refine lv_bipush (v := (100 : Int32)) hx hb dX7_fewest_2 (by decide) ?_
  refine zcallS (As := [.int p1, .int (1 : Int32), .int (100 : Int32)]) (rest := []) (wr := cMn K a0 a1 a2 a3 a4 a5 a6 a7 a8 a9 a10 a11 a12 a13 a14 a15 a16 a17 a18 a19 a20 a21 a22 a23 a24 a25 a26 a27 a28 a29 a30 a31 a32 a33 a34 a35 a36 S) (ws' := cMn K a0 a1 a2 a3 a4 a5 a6 a7 a8 a9 a10 a11 a12 a13 a14 a15 a16 a17 a18 a19 a20 a21 a22 a23 a24 a25 a26 a27 a28 a29 a30 a31 a32 a33 a34 a35 a36 S) (ov := some (.int (fX7_outside p1 (1 : Int32) (100 : Int32)))) X hh hl (kX7_outside l K p1 (1 : Int32) (100 : Int32) (fX7_outside p1 (1 : Int32) (100 : Int32)) rfl) (fun ht => va_cwS 3 ht gX7_fewest_X7_outside rfl rfl rfl hdX7_outside ⟨Nat.le_of_ble_eq_true rfl, Nat.le_of_ble_eq_true rfl⟩) [] [0, 1, 2, 3, 4, 5, 6, 7, 8, 9, 10, 11, 12, 13, 14, 15, 16, 17, 18, 19, 20, 21, 22, 23, 24, 25, 26, 27, 28, 29, 30, 31, 32, 33, 34, 35, 36] [0, 1, 2, 3, 4, 5, 6, 7, 8, 9, 10, 11, 12, 13, 14, 15, 16, 17, 18, 19, 20, 21, 22, 23, 24, 25, 26, 27, 28, 29, 30, 31, 32, 33, 34, 35, 36] rfl rfl rfl rfl (by decide) rfl rfl rfl rfl (Nat.le_of_ble_eq_true rfl) dX7_fewest_4 ⟨Nat.zero_le _, Nat.zero_le _⟩ (fun H locs hh => ?_)
  refine lv_istore_n (lv' := [(2, .int (fX7_outside p1 (1 : Int32) (100 : Int32))), (0, .ref a0), (1, .int p1)]) hx hb dX7_fewest_7 rfl hl (by decide) rfl (fun ls hl => ?_)
  refine lv_iload_n hx hb dX7_fewest_8 rfl (lv_at hl 0 rfl) ?_
  refine lv_if_eq (tgt := 20) hx hb dX7_fewest_9 (by decide) (fun c2 => ?_) (fun c2 => ?_)
  · replace hf := (if_pos c2).symm.trans hf
    refine lv_aload_n hx hb dX7_fewest_20 rfl (lv_at hl 1 rfl) ?_
    refine zget (v := .ref a30) (ref := "SumOfTwoThatStand") (C := RX7) (T := TX7) (N := 10) (index := 39) X hh inX7_fewest_X7 0 rfl rfl 5 (by decide) mmX7_fewest_0 rfl rfl dX7_fewest_21 ?_
    refine lv_iconst (v := (1 : Int32)) hx hb dX7_fewest_24 (by decide) ?_
    refine lv_iload_n hx hb dX7_fewest_25 rfl (lv_at hl 2 rfl) ?_
    obtain ⟨u3, hu3, hf⟩ := ob_bind hf
    refine zcallV (ci := 0) (q0 := 30) (As := [.int (1 : Int32), .int p1]) (rest := []) (wr := zsel (cMn K a0 a1 a2 a3 a4 a5 a6 a7 a8 a9 a10 a11 a12 a13 a14 a15 a16 a17 a18 a19 a20 a21 a22 a23 a24 a25 a26 a27 a28 a29 a30 a31 a32 a33 a34 a35 a36 S) [0, 1, 2, 3, 4, 5, 6, 7, 8, 9, 10, 11, 12, 13, 14, 15, 16, 17, 18, 19, 20, 21, 22, 23, 24, 25, 26, 27, 28, 29, 32, 33, 34, 35, 36]) (ws' := cMn K a0 a1 a2 a3 a4 a5 a6 a7 a8 a9 a10 a11 a12 a13 a14 a15 a16 a17 a18 a19 a20 a21 a22 a23 a24 a25 a26 a27 a28 a29 a30 a31 a32 a33 a34 a35 a36 (mn_set_chains S u3.2)) (ov := some (.int u3.1)) X hh hl (kX0_shortest l K a30 a31 (mn_chains S) (1 : Int32) p1 u3 hu3) (fun ht => cwV 2 ht gX7_fewest_X0_shortest rfl rfl rfl ⟨rfl, hdX0_shortest⟩ ⟨Nat.le_of_ble_eq_true rfl, Nat.le_of_ble_eq_true rfl⟩) [30, 31] [0, 1, 2, 3, 4, 5, 6, 7, 8, 9, 10, 11, 12, 13, 14, 15, 16, 17, 18, 19, 20, 21, 22, 23, 24, 25, 26, 27, 28, 29, 32, 33, 34, 35, 36] [0, 1, 2, 3, 4, 5, 6, 7, 8, 9, 10, 11, 12, 13, 14, 15, 16, 17, 18, 19, 20, 21, 22, 23, 24, 25, 26, 27, 28, 29, 35, 36, 30, 31, 32, 33, 34] rfl rfl rfl rfl (by decide) rfl rfl rfl rfl rfl rfl (Nat.le_of_ble_eq_true rfl) dX7_fewest_26 ⟨Nat.zero_le _, Nat.zero_le _⟩ (fun H locs hh => ?_)
    exact hr2 29 ls H locs u3.1 (mn_set_chains S u3.2) hf dX7_fewest_29 hh
  · replace hf := (if_neg c2).symm.trans hf
    refine lv_aload_n hx hb dX7_fewest_12 rfl (lv_at hl 1 rfl) ?_
    refine lv_iload_n hx hb dX7_fewest_13 rfl (lv_at hl 0 rfl) ?_
    obtain ⟨u4, hu4, hf⟩ := ob_bind hf
    refine zcallV (ci := 6) (q0 := 0) (As := [.int (fX7_outside p1 (1 : Int32) (100 : Int32))]) (rest := []) (wr := []) (ws' := cMn K a0 a1 a2 a3 a4 a5 a6 a7 a8 a9 a10 a11 a12 a13 a14 a15 a16 a17 a18 a19 a20 a21 a22 a23 a24 a25 a26 a27 a28 a29 a30 a31 a32 a33 a34 a35 a36 u4.2) (ov := some (.int u4.1)) X hh hl (kX7_refuse l K a0 a1 a2 a3 a4 a5 a6 a7 a8 a9 a10 a11 a12 a13 a14 a15 a16 a17 a18 a19 a20 a21 a22 a23 a24 a25 a26 a27 a28 a29 a30 a31 a32 a33 a34 a35 a36 S (fX7_outside p1 (1 : Int32) (100 : Int32)) u4 hu4) (fun ht => cwV 1 ht gX7_fewest_X7_refuse rfl rfl rfl ⟨rfl, hdX7_refuse⟩ ⟨Nat.le_of_ble_eq_true rfl, Nat.le_of_ble_eq_true rfl⟩) [0, 1, 2, 3, 4, 5, 6, 7, 8, 9, 10, 11, 12, 13, 14, 15, 16, 17, 18, 19, 20, 21, 22, 23, 24, 25, 26, 27, 28, 29, 30, 31, 32, 33, 34, 35, 36] [] [0, 1, 2, 3, 4, 5, 6, 7, 8, 9, 10, 11, 12, 13, 14, 15, 16, 17, 18, 19, 20, 21, 22, 23, 24, 25, 26, 27, 28, 29, 30, 31, 32, 33, 34, 35, 36] rfl rfl rfl rfl (by decide) rfl rfl rfl rfl rfl rfl (Nat.le_of_ble_eq_true rfl) dX7_fewest_14 ⟨Nat.zero_le _, Nat.zero_le _⟩ (fun H locs hh => ?_)
    refine lv_goto (tgt := 29) hx hb dX7_fewest_17 (by decide) ?_
    exact hr2 29 ls H locs u4.1 u4.2 hf dX7_fewest_29 hh
theorem inX7_chain_X7 : ∀ w ∈ wsX70, w ∈ wsX7_chain := by decide +kernel
theorem mmX7_chain_0 : Cond.fieldLink RX7 39 "SumOfTwoThatStand" "chains" "LSumOfTwoThatStand$Chains;" ∈ wsX7_chain := by decide +kernel
theorem hdX7_chain : yX7_chain.cls ≠ "java/lang/invoke/MethodHandle" ∧ yX7_chain.cls ≠ "java/lang/invoke/VarHandle" ∧ (parseMethodDescriptor yX7_chain.desc).map (fun d => d.parameters.length) = some 2 := by decide +kernel
set_option maxHeartbeats 4000000 in
set_option maxRecDepth 100000 in
theorem kX7_chain (l : Launch) (K : zK) (a0 a1 a2 a3 a4 a5 a6 a7 a8 a9 a10 a11 a12 a13 a14 a15 a16 a17 a18 a19 a20 a21 a22 a23 a24 a25 a26 a27 a28 a29 a30 a31 a32 a33 a34 a35 a36 : Nat) (S : zMn) (p1 : Int32) (p2 : Int32) (R : Int32 × zMn) (hf : fX7_chain S p1 p2 = some R) : zC l yX7_chain wsX7_chain ({ frames := 18, cells := 0, slots := 0, locals := 493 } : Room) K [.ref a0, .int p1, .int p2] (cMn K a0 a1 a2 a3 a4 a5 a6 a7 a8 a9 a10 a11 a12 a13 a14 a15 a16 a17 a18 a19 a20 a21 a22 a23 a24 a25 a26 a27 a28 a29 a30 a31 a32 a33 a34 a35 a36 S) (some (.int R.1)) (cMn K a0 a1 a2 a3 a4 a5 a6 a7 a8 a9 a10 a11 a12 a13 a14 a15 a16 a17 a18 a19 a20 a21 a22 a23 a24 a25 a26 a27 a28 a29 a30 a31 a32 a33 a34 a35 a36 R.2) := by
  refine zC_i R.1 (cc := cX7_chain) (maxL := 4) (by decide +kernel) rfl (Nat.le_of_ble_eq_true rfl) rfl rfl ?_
  intro p e s m below meth c Q A X hret ls hl hh
  have X : zX p m c cX7_chain 4 s ([.ref a0, .int p1, .int p2] : List Value).toArray wsX7_chain RX7 K A := X
  have hx := X.1.1
  have hb := X.1.2.1
  have hr2 : ∀ (pc : Nat) (ls : Array Slot) (H : Heap) (locs : List Loc) (v : Int32) (S : zMn), some (v, S) = some R → decode cX7_chain pc = .ok (.ireturn, 1) → zW K A s H locs (cMn K a0 a1 a2 a3 a4 a5 a6 a7 a8 a9 a10 a11 a12 a13 a14 a15 a16 a17 a18 a19 a20 a21 a22 a23 a24 a25 a26 a27 a28 a29 a30 a31 a32 a33 a34 a35 a36 S) → W p l e ({ frames := 18, cells := 0, slots := 0, locals := 493 } : Room) s m ([.ref a0, .int p1, .int p2] : List Value).toArray below meth c H locs 0 0 Q (F0 m pc ls [.int v]) := by
    intro pc ls H locs v S h hd hh
    cases h; exact hret pc ls H locs _ rfl hd hh
  have hl : lv_has ls 4 [(0, .ref a0), (1, .int p1), (2, .int p2)] := hl
  unfold fX7_chain at hf
  refine (fun (hmain : ∀ (H : Heap) (locs : List Loc), zW K A s H locs (cMn K a0 a1 a2 a3 a4 a5 a6 a7 a8 a9 a10 a11 a12 a13 a14 a15 a16 a17 a18 a19 a20 a21 a22 a23 a24 a25 a26 a27 a28 a29 a30 a31 a32 a33 a34 a35 a36 S) → W p l e ({ frames := 18, cells := 0, slots := 0, locals := 493 } : Room) s m ([.ref a0, .int p1, .int p2] : List Value).toArray below meth c H locs 0 0 Q (F0 m 0 ls [])) => hmain s.heap [] hh) (fun H locs hh => ?_)
  refine lv_iload_n hx hb dX7_chain_0 rfl (lv_at hl 2 rfl) ?_
  refine lv_if_ge (tgt := 11) hx hb dX7_chain_1 (by decide) (fun c1 => ?_) (fun c1 => ?_)
  · replace hf := (if_pos c1).symm.trans hf
    refine lv_iload_n hx hb dX7_chain_11 rfl (lv_at hl 1 rfl) ?_
    refine lv_iconst (v := (1 : Int32)) hx hb dX7_chain_12 (by decide) ?_
    refine lv_bipush (v := (100 : Int32)) hx hb dX7_chain_13 (by decide) ?_
    refine zcallS (As := [.int p1, .int (1 : Int32), .int (100 : Int32)]) (rest := []) (wr := cMn K a0 a1 a2 a3 a4 a5 a6 a7 a8 a9 a10 a11 a12 a13 a14 a15 a16 a17 a18 a19 a20 a21 a22 a23 a24 a25 a26 a27 a28 a29 a30 a31 a32 a33 a34 a35 a36 S) (ws' := cMn K a0 a1 a2 a3 a4 a5 a6 a7 a8 a9 a10 a11 a12 a13 a14 a15 a16 a17 a18 a19 a20 a21 a22 a23 a24 a25 a26 a27 a28 a29 a30 a31 a32 a33 a34 a35 a36 S) (ov := some (.int (fX7_outside p1 (1 : Int32) (100 : Int32)))) X hh hl (kX7_outside l K p1 (1 : Int32) (100 : Int32) (fX7_outside p1 (1 : Int32) (100 : Int32)) rfl) (fun ht => va_cwS 3 ht gX7_chain_X7_outside rfl rfl rfl hdX7_outside ⟨Nat.le_of_ble_eq_true rfl, Nat.le_of_ble_eq_true rfl⟩) [] [0, 1, 2, 3, 4, 5, 6, 7, 8, 9, 10, 11, 12, 13, 14, 15, 16, 17, 18, 19, 20, 21, 22, 23, 24, 25, 26, 27, 28, 29, 30, 31, 32, 33, 34, 35, 36] [0, 1, 2, 3, 4, 5, 6, 7, 8, 9, 10, 11, 12, 13, 14, 15, 16, 17, 18, 19, 20, 21, 22, 23, 24, 25, 26, 27, 28, 29, 30, 31, 32, 33, 34, 35, 36] rfl rfl rfl rfl (by decide) rfl rfl rfl rfl (Nat.le_of_ble_eq_true rfl) dX7_chain_15 ⟨Nat.zero_le _, Nat.zero_le _⟩ (fun H locs hh => ?_)
    refine lv_istore_n (lv' := [(3, .int (fX7_outside p1 (1 : Int32) (100 : Int32))), (0, .ref a0), (1, .int p1), (2, .int p2)]) hx hb dX7_chain_18 rfl hl (by decide) rfl (fun ls hl => ?_)
    refine lv_iload_n hx hb dX7_chain_19 rfl (lv_at hl 0 rfl) ?_
    refine lv_if_eq (tgt := 29) hx hb dX7_chain_20 (by decide) (fun c3 => ?_) (fun c3 => ?_)
    · replace hf := (if_pos c3).symm.trans hf
      refine lv_iload_n hx hb dX7_chain_29 rfl (lv_at hl 3 rfl) ?_
      refine lv_aload_n hx hb dX7_chain_30 rfl (lv_at hl 1 rfl) ?_
      refine zget (v := .ref a30) (ref := "SumOfTwoThatStand") (C := RX7) (T := TX7) (N := 10) (index := 39) X hh inX7_chain_X7 0 rfl rfl 5 (by decide) mmX7_chain_0 rfl rfl dX7_chain_31 ?_
      refine lv_iconst (v := (1 : Int32)) hx hb dX7_chain_34 (by decide) ?_
      refine lv_iload_n hx hb dX7_chain_35 rfl (lv_at hl 2 rfl) ?_
      obtain ⟨u4, hu4, hf⟩ := ob_bind hf
      refine zcallV (ci := 0) (q0 := 30) (As := [.int (1 : Int32), .int p1]) (rest := [.int p2]) (wr := zsel (cMn K a0 a1 a2 a3 a4 a5 a6 a7 a8 a9 a10 a11 a12 a13 a14 a15 a16 a17 a18 a19 a20 a21 a22 a23 a24 a25 a26 a27 a28 a29 a30 a31 a32 a33 a34 a35 a36 S) [0, 1, 2, 3, 4, 5, 6, 7, 8, 9, 10, 11, 12, 13, 14, 15, 16, 17, 18, 19, 20, 21, 22, 23, 24, 25, 26, 27, 28, 29, 32, 33, 34, 35, 36]) (ws' := cMn K a0 a1 a2 a3 a4 a5 a6 a7 a8 a9 a10 a11 a12 a13 a14 a15 a16 a17 a18 a19 a20 a21 a22 a23 a24 a25 a26 a27 a28 a29 a30 a31 a32 a33 a34 a35 a36 (mn_set_chains S u4.2)) (ov := some (.int u4.1)) X hh hl (kX0_shortest l K a30 a31 (mn_chains S) (1 : Int32) p1 u4 hu4) (fun ht => cwV 2 ht gX7_chain_X0_shortest rfl rfl rfl ⟨rfl, hdX0_shortest⟩ ⟨Nat.le_of_ble_eq_true rfl, Nat.le_of_ble_eq_true rfl⟩) [30, 31] [0, 1, 2, 3, 4, 5, 6, 7, 8, 9, 10, 11, 12, 13, 14, 15, 16, 17, 18, 19, 20, 21, 22, 23, 24, 25, 26, 27, 28, 29, 32, 33, 34, 35, 36] [0, 1, 2, 3, 4, 5, 6, 7, 8, 9, 10, 11, 12, 13, 14, 15, 16, 17, 18, 19, 20, 21, 22, 23, 24, 25, 26, 27, 28, 29, 35, 36, 30, 31, 32, 33, 34] rfl rfl rfl rfl (by decide) rfl rfl rfl rfl rfl rfl (Nat.le_of_ble_eq_true rfl) dX7_chain_36 ⟨Nat.zero_le _, Nat.zero_le _⟩ (fun H locs hh => ?_)
      refine lv_icmp_ge (tgt := 53) hx hb dX7_chain_39 (by decide) (fun c5 => ?_) (fun c5 => ?_)
      · replace hf := (if_pos c5).symm.trans hf
        refine lv_bipush (v := (-9 : Int32)) hx hb dX7_chain_53 (by decide) ?_
        exact hr2 55 ls H locs (-9 : Int32) (mn_set_chains S u4.2) hf dX7_chain_55 hh
      · replace hf := (if_neg c5).symm.trans hf
        refine lv_aload_n hx hb dX7_chain_42 rfl (lv_at hl 1 rfl) ?_
        refine zget (v := .ref a30) (ref := "SumOfTwoThatStand") (C := RX7) (T := TX7) (N := 10) (index := 39) X hh inX7_chain_X7 0 rfl rfl 5 (by decide) mmX7_chain_0 rfl rfl dX7_chain_43 ?_
        refine lv_iload_n hx hb dX7_chain_46 rfl (lv_at hl 3 rfl) ?_
        obtain ⟨u6, hu6, hf⟩ := ob_bind hf
        refine zcallV (ci := 0) (q0 := 30) (As := [.int p2]) (rest := []) (wr := zsel (cMn K a0 a1 a2 a3 a4 a5 a6 a7 a8 a9 a10 a11 a12 a13 a14 a15 a16 a17 a18 a19 a20 a21 a22 a23 a24 a25 a26 a27 a28 a29 a30 a31 a32 a33 a34 a35 a36 (mn_set_chains S u4.2)) [0, 1, 2, 3, 4, 5, 6, 7, 8, 9, 10, 11, 12, 13, 14, 15, 16, 17, 18, 19, 20, 21, 22, 23, 24, 25, 26, 27, 28, 29, 32, 33, 34, 35, 36]) (ws' := cMn K a0 a1 a2 a3 a4 a5 a6 a7 a8 a9 a10 a11 a12 a13 a14 a15 a16 a17 a18 a19 a20 a21 a22 a23 a24 a25 a26 a27 a28 a29 a30 a31 a32 a33 a34 a35 a36 (mn_set_chains S u4.2)) (ov := some (.int u6)) X hh hl (kX0_numberAt l K a30 a31 u4.2 p2 u6 hu6) (fun ht => cwV 1 ht gX7_chain_X0_numberAt rfl rfl rfl ⟨rfl, hdX0_numberAt⟩ ⟨Nat.le_of_ble_eq_true rfl, Nat.le_of_ble_eq_true rfl⟩) [30, 31] [0, 1, 2, 3, 4, 5, 6, 7, 8, 9, 10, 11, 12, 13, 14, 15, 16, 17, 18, 19, 20, 21, 22, 23, 24, 25, 26, 27, 28, 29, 32, 33, 34, 35, 36] [0, 1, 2, 3, 4, 5, 6, 7, 8, 9, 10, 11, 12, 13, 14, 15, 16, 17, 18, 19, 20, 21, 22, 23, 24, 25, 26, 27, 28, 29, 35, 36, 30, 31, 32, 33, 34] rfl rfl rfl rfl (by decide) rfl rfl rfl rfl rfl rfl (Nat.le_of_ble_eq_true rfl) dX7_chain_47 ⟨Nat.zero_le _, Nat.zero_le _⟩ (fun H locs hh => ?_)
        refine lv_goto (tgt := 55) hx hb dX7_chain_50 (by decide) ?_
        exact hr2 55 ls H locs u6 (mn_set_chains S u4.2) hf dX7_chain_55 hh
    · replace hf := (if_neg c3).symm.trans hf
      refine lv_aload_n hx hb dX7_chain_23 rfl (lv_at hl 1 rfl) ?_
      refine lv_iload_n hx hb dX7_chain_24 rfl (lv_at hl 0 rfl) ?_
      obtain ⟨u7, hu7, hf⟩ := ob_bind hf
      refine zcallV (ci := 6) (q0 := 0) (As := [.int (fX7_outside p1 (1 : Int32) (100 : Int32))]) (rest := []) (wr := []) (ws' := cMn K a0 a1 a2 a3 a4 a5 a6 a7 a8 a9 a10 a11 a12 a13 a14 a15 a16 a17 a18 a19 a20 a21 a22 a23 a24 a25 a26 a27 a28 a29 a30 a31 a32 a33 a34 a35 a36 u7.2) (ov := some (.int u7.1)) X hh hl (kX7_refuse l K a0 a1 a2 a3 a4 a5 a6 a7 a8 a9 a10 a11 a12 a13 a14 a15 a16 a17 a18 a19 a20 a21 a22 a23 a24 a25 a26 a27 a28 a29 a30 a31 a32 a33 a34 a35 a36 S (fX7_outside p1 (1 : Int32) (100 : Int32)) u7 hu7) (fun ht => cwV 1 ht gX7_chain_X7_refuse rfl rfl rfl ⟨rfl, hdX7_refuse⟩ ⟨Nat.le_of_ble_eq_true rfl, Nat.le_of_ble_eq_true rfl⟩) [0, 1, 2, 3, 4, 5, 6, 7, 8, 9, 10, 11, 12, 13, 14, 15, 16, 17, 18, 19, 20, 21, 22, 23, 24, 25, 26, 27, 28, 29, 30, 31, 32, 33, 34, 35, 36] [] [0, 1, 2, 3, 4, 5, 6, 7, 8, 9, 10, 11, 12, 13, 14, 15, 16, 17, 18, 19, 20, 21, 22, 23, 24, 25, 26, 27, 28, 29, 30, 31, 32, 33, 34, 35, 36] rfl rfl rfl rfl (by decide) rfl rfl rfl rfl rfl rfl (Nat.le_of_ble_eq_true rfl) dX7_chain_25 ⟨Nat.zero_le _, Nat.zero_le _⟩ (fun H locs hh => ?_)
      exact hr2 28 ls H locs u7.1 u7.2 hf dX7_chain_28 hh
  · replace hf := (if_neg c1).symm.trans hf
    refine lv_aload_n hx hb dX7_chain_4 rfl (lv_at hl 0 rfl) ?_
    refine lv_bipush (v := (-4 : Int32)) hx hb dX7_chain_5 (by decide) ?_
    obtain ⟨u8, hu8, hf⟩ := ob_bind hf
    refine zcallV (ci := 6) (q0 := 0) (As := [.int (-4 : Int32)]) (rest := []) (wr := []) (ws' := cMn K a0 a1 a2 a3 a4 a5 a6 a7 a8 a9 a10 a11 a12 a13 a14 a15 a16 a17 a18 a19 a20 a21 a22 a23 a24 a25 a26 a27 a28 a29 a30 a31 a32 a33 a34 a35 a36 u8.2) (ov := some (.int u8.1)) X hh hl (kX7_refuse l K a0 a1 a2 a3 a4 a5 a6 a7 a8 a9 a10 a11 a12 a13 a14 a15 a16 a17 a18 a19 a20 a21 a22 a23 a24 a25 a26 a27 a28 a29 a30 a31 a32 a33 a34 a35 a36 S (-4 : Int32) u8 hu8) (fun ht => cwV 1 ht gX7_chain_X7_refuse rfl rfl rfl ⟨rfl, hdX7_refuse⟩ ⟨Nat.le_of_ble_eq_true rfl, Nat.le_of_ble_eq_true rfl⟩) [0, 1, 2, 3, 4, 5, 6, 7, 8, 9, 10, 11, 12, 13, 14, 15, 16, 17, 18, 19, 20, 21, 22, 23, 24, 25, 26, 27, 28, 29, 30, 31, 32, 33, 34, 35, 36] [] [0, 1, 2, 3, 4, 5, 6, 7, 8, 9, 10, 11, 12, 13, 14, 15, 16, 17, 18, 19, 20, 21, 22, 23, 24, 25, 26, 27, 28, 29, 30, 31, 32, 33, 34, 35, 36] rfl rfl rfl rfl (by decide) rfl rfl rfl rfl rfl rfl (Nat.le_of_ble_eq_true rfl) dX7_chain_7 ⟨Nat.zero_le _, Nat.zero_le _⟩ (fun H locs hh => ?_)
    exact hr2 10 ls H locs u8.1 u8.2 hf dX7_chain_10 hh
theorem hdX7_way : yX7_way.cls ≠ "java/lang/invoke/MethodHandle" ∧ yX7_way.cls ≠ "java/lang/invoke/VarHandle" ∧ (parseMethodDescriptor yX7_way.desc).map (fun d => d.parameters.length) = some 2 := by decide +kernel
set_option maxHeartbeats 4000000 in
set_option maxRecDepth 100000 in
theorem kX7_way (l : Launch) (K : zK) (a0 a1 a2 a3 a4 a5 a6 a7 a8 a9 a10 a11 a12 a13 a14 a15 a16 a17 a18 a19 a20 a21 a22 a23 a24 a25 a26 a27 a28 a29 a30 a31 a32 a33 a34 a35 a36 : Nat) (S : zMn) (p1 : Int32) (p2 : Int32) (R : Int32 × zMn) (hf : fX7_way S p1 p2 = some R) : zC l yX7_way wsX7_way ({ frames := 47, cells := 0, slots := 0, locals := 1031 } : Room) K [.ref a0, .int p1, .int p2] (cMn K a0 a1 a2 a3 a4 a5 a6 a7 a8 a9 a10 a11 a12 a13 a14 a15 a16 a17 a18 a19 a20 a21 a22 a23 a24 a25 a26 a27 a28 a29 a30 a31 a32 a33 a34 a35 a36 S) (some (.int R.1)) (cMn K a0 a1 a2 a3 a4 a5 a6 a7 a8 a9 a10 a11 a12 a13 a14 a15 a16 a17 a18 a19 a20 a21 a22 a23 a24 a25 a26 a27 a28 a29 a30 a31 a32 a33 a34 a35 a36 R.2) := by
  refine zC_i R.1 (cc := cX7_way) (maxL := 4) (by decide +kernel) rfl (Nat.le_of_ble_eq_true rfl) rfl rfl ?_
  intro p e s m below meth c Q A X hret ls hl hh
  have X : zX p m c cX7_way 4 s ([.ref a0, .int p1, .int p2] : List Value).toArray wsX7_way RX7 K A := X
  have hx := X.1.1
  have hb := X.1.2.1
  have hr2 : ∀ (pc : Nat) (ls : Array Slot) (H : Heap) (locs : List Loc) (v : Int32) (S : zMn), some (v, S) = some R → decode cX7_way pc = .ok (.ireturn, 1) → zW K A s H locs (cMn K a0 a1 a2 a3 a4 a5 a6 a7 a8 a9 a10 a11 a12 a13 a14 a15 a16 a17 a18 a19 a20 a21 a22 a23 a24 a25 a26 a27 a28 a29 a30 a31 a32 a33 a34 a35 a36 S) → W p l e ({ frames := 47, cells := 0, slots := 0, locals := 1031 } : Room) s m ([.ref a0, .int p1, .int p2] : List Value).toArray below meth c H locs 0 0 Q (F0 m pc ls [.int v]) := by
    intro pc ls H locs v S h hd hh
    cases h; exact hret pc ls H locs _ rfl hd hh
  have hl : lv_has ls 4 [(0, .ref a0), (1, .int p1), (2, .int p2)] := hl
  have hJ20 : ∀ (v1 : Int32) (v2 : Int32) (t0 : Int32) (S : zMn), ∀ (H : Heap) (locs : List Loc) (ls : Array Slot), fX7_way_j20 v1 v2 t0 S = some R → lv_has ls 4 [(0, .ref a0), (1, .int v1), (2, .int v2)] → zW K A s H locs (cMn K a0 a1 a2 a3 a4 a5 a6 a7 a8 a9 a10 a11 a12 a13 a14 a15 a16 a17 a18 a19 a20 a21 a22 a23 a24 a25 a26 a27 a28 a29 a30 a31 a32 a33 a34 a35 a36 S) → W p l e ({ frames := 47, cells := 0, slots := 0, locals := 1031 } : Room) s m ([.ref a0, .int p1, .int p2] : List Value).toArray below meth c H locs 0 0 Q (F0 m 20 ls [.int t0]) := by
    intro v1 v2 t0 S H locs ls hf hl hh
    unfold fX7_way_j20 at hf
    refine lv_istore_n (lv' := [(3, .int t0), (0, .ref a0), (1, .int v1), (2, .int v2)]) hx hb dX7_way_20 rfl hl (by decide) rfl (fun ls hl => ?_)
    refine lv_iload_n hx hb dX7_way_21 rfl (lv_at hl 0 rfl) ?_
    refine lv_if_eq (tgt := 31) hx hb dX7_way_22 (by decide) (fun c1 => ?_) (fun c1 => ?_)
    · replace hf := (if_pos c1).symm.trans hf
      refine lv_iload_n hx hb dX7_way_31 rfl (lv_at hl 3 rfl) ?_
      refine lv_if_ne (tgt := 42) hx hb dX7_way_32 (by decide) (fun c2 => ?_) (fun c2 => ?_)
      · replace hf := (if_neg c2).symm.trans hf
        refine lv_iload_n hx hb dX7_way_42 rfl (lv_at hl 2 rfl) ?_
        obtain ⟨u3, hu3, hf⟩ := ob_bind hf
        refine zcallS (As := [.int v1]) (rest := []) (wr := cMn K a0 a1 a2 a3 a4 a5 a6 a7 a8 a9 a10 a11 a12 a13 a14 a15 a16 a17 a18 a19 a20 a21 a22 a23 a24 a25 a26 a27 a28 a29 a30 a31 a32 a33 a34 a35 a36 S) (ws' := cMn K a0 a1 a2 a3 a4 a5 a6 a7 a8 a9 a10 a11 a12 a13 a14 a15 a16 a17 a18 a19 a20 a21 a22 a23 a24 a25 a26 a27 a28 a29 a30 a31 a32 a33 a34 a35 a36 S) (ov := some (.int u3)) X hh hl (kX0_byFactors l K v1 u3 hu3) (fun ht => va_cwS 1 ht gX7_way_X0_byFactors rfl rfl rfl hdX0_byFactors ⟨Nat.le_of_ble_eq_true rfl, Nat.le_of_ble_eq_true rfl⟩) [] [0, 1, 2, 3, 4, 5, 6, 7, 8, 9, 10, 11, 12, 13, 14, 15, 16, 17, 18, 19, 20, 21, 22, 23, 24, 25, 26, 27, 28, 29, 30, 31, 32, 33, 34, 35, 36] [0, 1, 2, 3, 4, 5, 6, 7, 8, 9, 10, 11, 12, 13, 14, 15, 16, 17, 18, 19, 20, 21, 22, 23, 24, 25, 26, 27, 28, 29, 30, 31, 32, 33, 34, 35, 36] rfl rfl rfl rfl (by decide) rfl rfl rfl rfl (Nat.le_of_ble_eq_true rfl) dX7_way_43 ⟨Nat.zero_le _, Nat.zero_le _⟩ (fun H locs hh => ?_)
        exact hr2 46 ls H locs u3 S hf dX7_way_46 hh
      · replace hf := (if_pos c2).symm.trans hf
        refine lv_iload_n hx hb dX7_way_35 rfl (lv_at hl 2 rfl) ?_
        refine zcallS (As := [.int v1]) (rest := []) (wr := cMn K a0 a1 a2 a3 a4 a5 a6 a7 a8 a9 a10 a11 a12 a13 a14 a15 a16 a17 a18 a19 a20 a21 a22 a23 a24 a25 a26 a27 a28 a29 a30 a31 a32 a33 a34 a35 a36 S) (ws' := cMn K a0 a1 a2 a3 a4 a5 a6 a7 a8 a9 a10 a11 a12 a13 a14 a15 a16 a17 a18 a19 a20 a21 a22 a23 a24 a25 a26 a27 a28 a29 a30 a31 a32 a33 a34 a35 a36 S) (ov := some (.int (fX0_byHalves v1))) X hh hl (kX0_byHalves l K v1 (fX0_byHalves v1) rfl) (fun ht => va_cwS 1 ht gX7_way_X0_byHalves rfl rfl rfl hdX0_byHalves ⟨Nat.le_of_ble_eq_true rfl, Nat.le_of_ble_eq_true rfl⟩) [] [0, 1, 2, 3, 4, 5, 6, 7, 8, 9, 10, 11, 12, 13, 14, 15, 16, 17, 18, 19, 20, 21, 22, 23, 24, 25, 26, 27, 28, 29, 30, 31, 32, 33, 34, 35, 36] [0, 1, 2, 3, 4, 5, 6, 7, 8, 9, 10, 11, 12, 13, 14, 15, 16, 17, 18, 19, 20, 21, 22, 23, 24, 25, 26, 27, 28, 29, 30, 31, 32, 33, 34, 35, 36] rfl rfl rfl rfl (by decide) rfl rfl rfl rfl (Nat.le_of_ble_eq_true rfl) dX7_way_36 ⟨Nat.zero_le _, Nat.zero_le _⟩ (fun H locs hh => ?_)
        refine lv_goto (tgt := 46) hx hb dX7_way_39 (by decide) ?_
        exact hr2 46 ls H locs (fX0_byHalves v1) S hf dX7_way_46 hh
    · replace hf := (if_neg c1).symm.trans hf
      refine lv_aload_n hx hb dX7_way_25 rfl (lv_at hl 1 rfl) ?_
      refine lv_iload_n hx hb dX7_way_26 rfl (lv_at hl 0 rfl) ?_
      obtain ⟨u5, hu5, hf⟩ := ob_bind hf
      refine zcallV (ci := 6) (q0 := 0) (As := [.int t0]) (rest := []) (wr := []) (ws' := cMn K a0 a1 a2 a3 a4 a5 a6 a7 a8 a9 a10 a11 a12 a13 a14 a15 a16 a17 a18 a19 a20 a21 a22 a23 a24 a25 a26 a27 a28 a29 a30 a31 a32 a33 a34 a35 a36 u5.2) (ov := some (.int u5.1)) X hh hl (kX7_refuse l K a0 a1 a2 a3 a4 a5 a6 a7 a8 a9 a10 a11 a12 a13 a14 a15 a16 a17 a18 a19 a20 a21 a22 a23 a24 a25 a26 a27 a28 a29 a30 a31 a32 a33 a34 a35 a36 S t0 u5 hu5) (fun ht => cwV 1 ht gX7_way_X7_refuse rfl rfl rfl ⟨rfl, hdX7_refuse⟩ ⟨Nat.le_of_ble_eq_true rfl, Nat.le_of_ble_eq_true rfl⟩) [0, 1, 2, 3, 4, 5, 6, 7, 8, 9, 10, 11, 12, 13, 14, 15, 16, 17, 18, 19, 20, 21, 22, 23, 24, 25, 26, 27, 28, 29, 30, 31, 32, 33, 34, 35, 36] [] [0, 1, 2, 3, 4, 5, 6, 7, 8, 9, 10, 11, 12, 13, 14, 15, 16, 17, 18, 19, 20, 21, 22, 23, 24, 25, 26, 27, 28, 29, 30, 31, 32, 33, 34, 35, 36] rfl rfl rfl rfl (by decide) rfl rfl rfl rfl rfl rfl (Nat.le_of_ble_eq_true rfl) dX7_way_27 ⟨Nat.zero_le _, Nat.zero_le _⟩ (fun H locs hh => ?_)
      exact hr2 30 ls H locs u5.1 u5.2 hf dX7_way_30 hh
  unfold fX7_way at hf
  refine (fun (hmain : ∀ (H : Heap) (locs : List Loc), zW K A s H locs (cMn K a0 a1 a2 a3 a4 a5 a6 a7 a8 a9 a10 a11 a12 a13 a14 a15 a16 a17 a18 a19 a20 a21 a22 a23 a24 a25 a26 a27 a28 a29 a30 a31 a32 a33 a34 a35 a36 S) → W p l e ({ frames := 47, cells := 0, slots := 0, locals := 1031 } : Room) s m ([.ref a0, .int p1, .int p2] : List Value).toArray below meth c H locs 0 0 Q (F0 m 0 ls [])) => hmain s.heap [] hh) (fun H locs hh => ?_)
  refine lv_iload_n hx hb dX7_way_0 rfl (lv_at hl 2 rfl) ?_
  refine zcallS (As := [.int p2]) (rest := []) (wr := cMn K a0 a1 a2 a3 a4 a5 a6 a7 a8 a9 a10 a11 a12 a13 a14 a15 a16 a17 a18 a19 a20 a21 a22 a23 a24 a25 a26 a27 a28 a29 a30 a31 a32 a33 a34 a35 a36 S) (ws' := cMn K a0 a1 a2 a3 a4 a5 a6 a7 a8 a9 a10 a11 a12 a13 a14 a15 a16 a17 a18 a19 a20 a21 a22 a23 a24 a25 a26 a27 a28 a29 a30 a31 a32 a33 a34 a35 a36 S) (ov := some (.int (fX7_isOneOfTwo p2))) X hh hl (kX7_isOneOfTwo l K p2 (fX7_isOneOfTwo p2) rfl) (fun ht => va_cwS 1 ht gX7_way_X7_isOneOfTwo rfl rfl rfl hdX7_isOneOfTwo ⟨Nat.le_of_ble_eq_true rfl, Nat.le_of_ble_eq_true rfl⟩) [] [0, 1, 2, 3, 4, 5, 6, 7, 8, 9, 10, 11, 12, 13, 14, 15, 16, 17, 18, 19, 20, 21, 22, 23, 24, 25, 26, 27, 28, 29, 30, 31, 32, 33, 34, 35, 36] [0, 1, 2, 3, 4, 5, 6, 7, 8, 9, 10, 11, 12, 13, 14, 15, 16, 17, 18, 19, 20, 21, 22, 23, 24, 25, 26, 27, 28, 29, 30, 31, 32, 33, 34, 35, 36] rfl rfl rfl rfl (by decide) rfl rfl rfl rfl (Nat.le_of_ble_eq_true rfl) dX7_way_1 ⟨Nat.zero_le _, Nat.zero_le _⟩ (fun H locs hh => ?_)
  refine lv_if_eq (tgt := 18) hx hb dX7_way_4 (by decide) (fun c7 => ?_) (fun c7 => ?_)
  · replace hf := (if_pos c7).symm.trans hf
    refine lv_bipush (v := (-2 : Int32)) hx hb dX7_way_18 (by decide) ?_
    exact hJ20 p1 p2 (-2 : Int32) S H locs ls hf (lv_sub hl [0, 1, 2] rfl) hh
  · replace hf := (if_neg c7).symm.trans hf
    refine lv_iload_n hx hb dX7_way_7 rfl (lv_at hl 1 rfl) ?_
    refine lv_iconst (v := (1 : Int32)) hx hb dX7_way_8 (by decide) ?_
    refine lv_sipush (v := (300 : Int32)) hx hb dX7_way_9 (by decide) ?_
    refine zcallS (As := [.int p1, .int (1 : Int32), .int (300 : Int32)]) (rest := []) (wr := cMn K a0 a1 a2 a3 a4 a5 a6 a7 a8 a9 a10 a11 a12 a13 a14 a15 a16 a17 a18 a19 a20 a21 a22 a23 a24 a25 a26 a27 a28 a29 a30 a31 a32 a33 a34 a35 a36 S) (ws' := cMn K a0 a1 a2 a3 a4 a5 a6 a7 a8 a9 a10 a11 a12 a13 a14 a15 a16 a17 a18 a19 a20 a21 a22 a23 a24 a25 a26 a27 a28 a29 a30 a31 a32 a33 a34 a35 a36 S) (ov := some (.int (fX7_outside p1 (1 : Int32) (300 : Int32)))) X hh hl (kX7_outside l K p1 (1 : Int32) (300 : Int32) (fX7_outside p1 (1 : Int32) (300 : Int32)) rfl) (fun ht => va_cwS 3 ht gX7_way_X7_outside rfl rfl rfl hdX7_outside ⟨Nat.le_of_ble_eq_true rfl, Nat.le_of_ble_eq_true rfl⟩) [] [0, 1, 2, 3, 4, 5, 6, 7, 8, 9, 10, 11, 12, 13, 14, 15, 16, 17, 18, 19, 20, 21, 22, 23, 24, 25, 26, 27, 28, 29, 30, 31, 32, 33, 34, 35, 36] [0, 1, 2, 3, 4, 5, 6, 7, 8, 9, 10, 11, 12, 13, 14, 15, 16, 17, 18, 19, 20, 21, 22, 23, 24, 25, 26, 27, 28, 29, 30, 31, 32, 33, 34, 35, 36] rfl rfl rfl rfl (by decide) rfl rfl rfl rfl (Nat.le_of_ble_eq_true rfl) dX7_way_12 ⟨Nat.zero_le _, Nat.zero_le _⟩ (fun H locs hh => ?_)
    refine lv_goto (tgt := 20) hx hb dX7_way_15 (by decide) ?_
    exact hJ20 p1 p2 (fX7_outside p1 (1 : Int32) (300 : Int32)) S H locs ls hf (lv_sub hl [0, 1, 2] rfl) hh
theorem inX7_both_X7 : ∀ w ∈ wsX70, w ∈ wsX7_both := by decide +kernel
theorem mmX7_both_0 : Cond.fieldLink RX7 39 "SumOfTwoThatStand" "chains" "LSumOfTwoThatStand$Chains;" ∈ wsX7_both := by decide +kernel
theorem mmX7_both_1 : Cond.methodLink RX7 161 Lib.Math.min.name ∈ wsX7_both := by decide +kernel
theorem mmX7_both_2 : Cond.static Lib.Math.min.name ∈ wsX7_both := by decide +kernel
theorem mmX7_both_3 : Cond.initialized "java/lang/Math" ∈ wsX7_both := by decide +kernel
theorem mmX7_both_4 : Cond.code Lib.Math.min.name Lib.Math.min.code 2 (some .int) ∈ wsX7_both := by decide +kernel
theorem mmX7_both_5 : Cond.methodLink RX7 166 Lib.Math.max.name ∈ wsX7_both := by decide +kernel
theorem mmX7_both_6 : Cond.static Lib.Math.max.name ∈ wsX7_both := by decide +kernel
theorem mmX7_both_7 : Cond.code Lib.Math.max.name Lib.Math.max.code 2 (some .int) ∈ wsX7_both := by decide +kernel
theorem hdX7_both : yX7_both.cls ≠ "java/lang/invoke/MethodHandle" ∧ yX7_both.cls ≠ "java/lang/invoke/VarHandle" ∧ (parseMethodDescriptor yX7_both.desc).map (fun d => d.parameters.length) = some 2 := by decide +kernel
set_option maxHeartbeats 4000000 in
set_option maxRecDepth 100000 in
theorem kX7_both (l : Launch) (K : zK) (a0 a1 a2 a3 a4 a5 a6 a7 a8 a9 a10 a11 a12 a13 a14 a15 a16 a17 a18 a19 a20 a21 a22 a23 a24 a25 a26 a27 a28 a29 a30 a31 a32 a33 a34 a35 a36 : Nat) (S : zMn) (p1 : Int32) (p2 : Int32) (R : Int32 × zMn) (hf : fX7_both S p1 p2 = some R) : zC l yX7_both wsX7_both ({ frames := 18, cells := 0, slots := 0, locals := 493 } : Room) K [.ref a0, .int p1, .int p2] (cMn K a0 a1 a2 a3 a4 a5 a6 a7 a8 a9 a10 a11 a12 a13 a14 a15 a16 a17 a18 a19 a20 a21 a22 a23 a24 a25 a26 a27 a28 a29 a30 a31 a32 a33 a34 a35 a36 S) (some (.int R.1)) (cMn K a0 a1 a2 a3 a4 a5 a6 a7 a8 a9 a10 a11 a12 a13 a14 a15 a16 a17 a18 a19 a20 a21 a22 a23 a24 a25 a26 a27 a28 a29 a30 a31 a32 a33 a34 a35 a36 R.2) := by
  refine zC_i R.1 (cc := cX7_both) (maxL := 6) (by decide +kernel) rfl (Nat.le_of_ble_eq_true rfl) rfl rfl ?_
  intro p e s m below meth c Q A X hret ls hl hh
  have X : zX p m c cX7_both 6 s ([.ref a0, .int p1, .int p2] : List Value).toArray wsX7_both RX7 K A := X
  have hx := X.1.1
  have hb := X.1.2.1
  have hr2 : ∀ (pc : Nat) (ls : Array Slot) (H : Heap) (locs : List Loc) (v : Int32) (S : zMn), some (v, S) = some R → decode cX7_both pc = .ok (.ireturn, 1) → zW K A s H locs (cMn K a0 a1 a2 a3 a4 a5 a6 a7 a8 a9 a10 a11 a12 a13 a14 a15 a16 a17 a18 a19 a20 a21 a22 a23 a24 a25 a26 a27 a28 a29 a30 a31 a32 a33 a34 a35 a36 S) → W p l e ({ frames := 18, cells := 0, slots := 0, locals := 493 } : Room) s m ([.ref a0, .int p1, .int p2] : List Value).toArray below meth c H locs 0 0 Q (F0 m pc ls [.int v]) := by
    intro pc ls H locs v S h hd hh
    cases h; exact hret pc ls H locs _ rfl hd hh
  have hl : lv_has ls 6 [(0, .ref a0), (1, .int p1), (2, .int p2)] := hl
  have hJ31 : ∀ (v3 : Int32) (v4 : Int32) (t0 : Int32) (S : zMn), ∀ (H : Heap) (locs : List Loc) (ls : Array Slot), fX7_both_j31 v3 v4 t0 S = some R → lv_has ls 6 [(0, .ref a0), (3, .int v3), (4, .int v4)] → zW K A s H locs (cMn K a0 a1 a2 a3 a4 a5 a6 a7 a8 a9 a10 a11 a12 a13 a14 a15 a16 a17 a18 a19 a20 a21 a22 a23 a24 a25 a26 a27 a28 a29 a30 a31 a32 a33 a34 a35 a36 S) → W p l e ({ frames := 18, cells := 0, slots := 0, locals := 493 } : Room) s m ([.ref a0, .int p1, .int p2] : List Value).toArray below meth c H locs 0 0 Q (F0 m 31 ls [.int t0]) := by
    intro v3 v4 t0 S H locs ls hf hl hh
    unfold fX7_both_j31 at hf
    refine lv_istore (lv' := [(5, .int t0), (0, .ref a0), (3, .int v3), (4, .int v4)]) hx hb dX7_both_31 hl (by decide) rfl (fun ls hl => ?_)
    refine lv_iload hx hb dX7_both_33 (lv_at hl 0 rfl) ?_
    refine lv_if_eq (tgt := 47) hx hb dX7_both_35 (by decide) (fun c1 => ?_) (fun c1 => ?_)
    · replace hf := (if_pos c1).symm.trans hf
      refine lv_aload_n hx hb dX7_both_47 rfl (lv_at hl 1 rfl) ?_
      refine zget (v := .ref a30) (ref := "SumOfTwoThatStand") (C := RX7) (T := TX7) (N := 10) (index := 39) X hh inX7_both_X7 0 rfl rfl 5 (by decide) mmX7_both_0 rfl rfl dX7_both_48 ?_
      refine lv_iload_n hx hb dX7_both_51 rfl (lv_at hl 2 rfl) ?_
      refine lv_iload hx hb dX7_both_52 (lv_at hl 3 rfl) ?_
      obtain ⟨u2, hu2, hf⟩ := ob_bind hf
      refine zcallV (ci := 0) (q0 := 30) (As := [.int v3, .int v4]) (rest := []) (wr := zsel (cMn K a0 a1 a2 a3 a4 a5 a6 a7 a8 a9 a10 a11 a12 a13 a14 a15 a16 a17 a18 a19 a20 a21 a22 a23 a24 a25 a26 a27 a28 a29 a30 a31 a32 a33 a34 a35 a36 S) [0, 1, 2, 3, 4, 5, 6, 7, 8, 9, 10, 11, 12, 13, 14, 15, 16, 17, 18, 19, 20, 21, 22, 23, 24, 25, 26, 27, 28, 29, 32, 33, 34, 35, 36]) (ws' := cMn K a0 a1 a2 a3 a4 a5 a6 a7 a8 a9 a10 a11 a12 a13 a14 a15 a16 a17 a18 a19 a20 a21 a22 a23 a24 a25 a26 a27 a28 a29 a30 a31 a32 a33 a34 a35 a36 (mn_set_chains S u2.2)) (ov := some (.int u2.1)) X hh hl (kX0_shortest l K a30 a31 (mn_chains S) v3 v4 u2 hu2) (fun ht => cwV 2 ht gX7_both_X0_shortest rfl rfl rfl ⟨rfl, hdX0_shortest⟩ ⟨Nat.le_of_ble_eq_true rfl, Nat.le_of_ble_eq_true rfl⟩) [30, 31] [0, 1, 2, 3, 4, 5, 6, 7, 8, 9, 10, 11, 12, 13, 14, 15, 16, 17, 18, 19, 20, 21, 22, 23, 24, 25, 26, 27, 28, 29, 32, 33, 34, 35, 36] [0, 1, 2, 3, 4, 5, 6, 7, 8, 9, 10, 11, 12, 13, 14, 15, 16, 17, 18, 19, 20, 21, 22, 23, 24, 25, 26, 27, 28, 29, 35, 36, 30, 31, 32, 33, 34] rfl rfl rfl rfl (by decide) rfl rfl rfl rfl rfl rfl (Nat.le_of_ble_eq_true rfl) dX7_both_54 ⟨Nat.zero_le _, Nat.zero_le _⟩ (fun H locs hh => ?_)
      exact hr2 57 ls H locs u2.1 (mn_set_chains S u2.2) hf dX7_both_57 hh
    · replace hf := (if_neg c1).symm.trans hf
      refine lv_aload_n hx hb dX7_both_38 rfl (lv_at hl 1 rfl) ?_
      refine lv_iload hx hb dX7_both_39 (lv_at hl 0 rfl) ?_
      obtain ⟨u3, hu3, hf⟩ := ob_bind hf
      refine zcallV (ci := 6) (q0 := 0) (As := [.int t0]) (rest := []) (wr := []) (ws' := cMn K a0 a1 a2 a3 a4 a5 a6 a7 a8 a9 a10 a11 a12 a13 a14 a15 a16 a17 a18 a19 a20 a21 a22 a23 a24 a25 a26 a27 a28 a29 a30 a31 a32 a33 a34 a35 a36 u3.2) (ov := some (.int u3.1)) X hh hl (kX7_refuse l K a0 a1 a2 a3 a4 a5 a6 a7 a8 a9 a10 a11 a12 a13 a14 a15 a16 a17 a18 a19 a20 a21 a22 a23 a24 a25 a26 a27 a28 a29 a30 a31 a32 a33 a34 a35 a36 S t0 u3 hu3) (fun ht => cwV 1 ht gX7_both_X7_refuse rfl rfl rfl ⟨rfl, hdX7_refuse⟩ ⟨Nat.le_of_ble_eq_true rfl, Nat.le_of_ble_eq_true rfl⟩) [0, 1, 2, 3, 4, 5, 6, 7, 8, 9, 10, 11, 12, 13, 14, 15, 16, 17, 18, 19, 20, 21, 22, 23, 24, 25, 26, 27, 28, 29, 30, 31, 32, 33, 34, 35, 36] [] [0, 1, 2, 3, 4, 5, 6, 7, 8, 9, 10, 11, 12, 13, 14, 15, 16, 17, 18, 19, 20, 21, 22, 23, 24, 25, 26, 27, 28, 29, 30, 31, 32, 33, 34, 35, 36] rfl rfl rfl rfl (by decide) rfl rfl rfl rfl rfl rfl (Nat.le_of_ble_eq_true rfl) dX7_both_41 ⟨Nat.zero_le _, Nat.zero_le _⟩ (fun H locs hh => ?_)
      refine lv_goto (tgt := 57) hx hb dX7_both_44 (by decide) ?_
      exact hr2 57 ls H locs u3.1 u3.2 hf dX7_both_57 hh
  unfold fX7_both at hf
  refine (fun (hmain : ∀ (H : Heap) (locs : List Loc), zW K A s H locs (cMn K a0 a1 a2 a3 a4 a5 a6 a7 a8 a9 a10 a11 a12 a13 a14 a15 a16 a17 a18 a19 a20 a21 a22 a23 a24 a25 a26 a27 a28 a29 a30 a31 a32 a33 a34 a35 a36 S) → W p l e ({ frames := 18, cells := 0, slots := 0, locals := 493 } : Room) s m ([.ref a0, .int p1, .int p2] : List Value).toArray below meth c H locs 0 0 Q (F0 m 0 ls [])) => hmain s.heap [] hh) (fun H locs hh => ?_)
  refine lv_iload_n hx hb dX7_both_0 rfl (lv_at hl 1 rfl) ?_
  refine lv_iload_n hx hb dX7_both_1 rfl (lv_at hl 2 rfl) ?_
  refine va_mmin hx hb (X.1.2.2.1.trans hl.1.symm) X.1.2.2.2.1 (X.1.2.2.2.2 _ mmX7_both_1) (X.1.2.2.2.2 _ mmX7_both_2) (X.1.2.2.2.2 _ mmX7_both_3) (X.1.2.2.2.2 _ mmX7_both_4) (Nat.le_of_ble_eq_true rfl) (Nat.le_of_ble_eq_true rfl) (Nat.zero_le _) (Nat.zero_le _) dX7_both_2 ?_
  refine lv_istore_n (lv' := [(3, .int (if p2 < p1 then p2 else p1)), (0, .ref a0), (1, .int p1), (2, .int p2)]) hx hb dX7_both_5 rfl hl (by decide) rfl (fun ls hl => ?_)
  refine lv_iload_n hx hb dX7_both_6 rfl (lv_at hl 2 rfl) ?_
  refine lv_iload_n hx hb dX7_both_7 rfl (lv_at hl 3 rfl) ?_
  refine va_mmax hx hb (X.1.2.2.1.trans hl.1.symm) X.1.2.2.2.1 (X.1.2.2.2.2 _ mmX7_both_5) (X.1.2.2.2.2 _ mmX7_both_6) (X.1.2.2.2.2 _ mmX7_both_3) (X.1.2.2.2.2 _ mmX7_both_7) (Nat.le_of_ble_eq_true rfl) (Nat.le_of_ble_eq_true rfl) (Nat.zero_le _) (Nat.zero_le _) dX7_both_8 ?_
  refine lv_istore (lv' := [(4, .int (if p1 < p2 then p2 else p1)), (3, .int (if p2 < p1 then p2 else p1)), (0, .ref a0), (1, .int p1), (2, .int p2)]) hx hb dX7_both_11 hl (by decide) rfl (fun ls hl => ?_)
  refine lv_iload_n hx hb dX7_both_13 rfl (lv_at hl 1 rfl) ?_
  refine lv_iconst (v := (1 : Int32)) hx hb dX7_both_14 (by decide) ?_
  refine lv_icmp_ge (tgt := 23) hx hb dX7_both_15 (by decide) (fun c4 => ?_) (fun c4 => ?_)
  · replace hf := (if_pos c4).symm.trans hf
    refine lv_iload hx hb dX7_both_23 (lv_at hl 0 rfl) ?_
    refine lv_iconst (v := (1 : Int32)) hx hb dX7_both_25 (by decide) ?_
    refine lv_bipush (v := (30 : Int32)) hx hb dX7_both_26 (by decide) ?_
    refine zcallS (As := [.int (if p1 < p2 then p2 else p1), .int (1 : Int32), .int (30 : Int32)]) (rest := []) (wr := cMn K a0 a1 a2 a3 a4 a5 a6 a7 a8 a9 a10 a11 a12 a13 a14 a15 a16 a17 a18 a19 a20 a21 a22 a23 a24 a25 a26 a27 a28 a29 a30 a31 a32 a33 a34 a35 a36 S) (ws' := cMn K a0 a1 a2 a3 a4 a5 a6 a7 a8 a9 a10 a11 a12 a13 a14 a15 a16 a17 a18 a19 a20 a21 a22 a23 a24 a25 a26 a27 a28 a29 a30 a31 a32 a33 a34 a35 a36 S) (ov := some (.int (fX7_outside (if p1 < p2 then p2 else p1) (1 : Int32) (30 : Int32)))) X hh hl (kX7_outside l K (if p1 < p2 then p2 else p1) (1 : Int32) (30 : Int32) (fX7_outside (if p1 < p2 then p2 else p1) (1 : Int32) (30 : Int32)) rfl) (fun ht => va_cwS 3 ht gX7_both_X7_outside rfl rfl rfl hdX7_outside ⟨Nat.le_of_ble_eq_true rfl, Nat.le_of_ble_eq_true rfl⟩) [] [0, 1, 2, 3, 4, 5, 6, 7, 8, 9, 10, 11, 12, 13, 14, 15, 16, 17, 18, 19, 20, 21, 22, 23, 24, 25, 26, 27, 28, 29, 30, 31, 32, 33, 34, 35, 36] [0, 1, 2, 3, 4, 5, 6, 7, 8, 9, 10, 11, 12, 13, 14, 15, 16, 17, 18, 19, 20, 21, 22, 23, 24, 25, 26, 27, 28, 29, 30, 31, 32, 33, 34, 35, 36] rfl rfl rfl rfl (by decide) rfl rfl rfl rfl (Nat.le_of_ble_eq_true rfl) dX7_both_28 ⟨Nat.zero_le _, Nat.zero_le _⟩ (fun H locs hh => ?_)
    exact hJ31 (if p2 < p1 then p2 else p1) (if p1 < p2 then p2 else p1) (fX7_outside (if p1 < p2 then p2 else p1) (1 : Int32) (30 : Int32)) S H locs ls hf (lv_sub hl [2, 1, 0] rfl) hh
  · replace hf := (if_neg c4).symm.trans hf
    refine lv_bipush (v := (-4 : Int32)) hx hb dX7_both_18 (by decide) ?_
    refine lv_goto (tgt := 31) hx hb dX7_both_20 (by decide) ?_
    exact hJ31 (if p2 < p1 then p2 else p1) (if p1 < p2 then p2 else p1) (-4 : Int32) S H locs ls hf (lv_sub hl [2, 1, 0] rfl) hh
theorem hdX7_far : yX7_far.cls ≠ "java/lang/invoke/MethodHandle" ∧ yX7_far.cls ≠ "java/lang/invoke/VarHandle" ∧ (parseMethodDescriptor yX7_far.desc).map (fun d => d.parameters.length) = some 1 := by decide +kernel
set_option maxHeartbeats 4000000 in
set_option maxRecDepth 100000 in
theorem kX7_far (l : Launch) (K : zK) (a0 a1 a2 a3 a4 a5 a6 a7 a8 a9 a10 a11 a12 a13 a14 a15 a16 a17 a18 a19 a20 a21 a22 a23 a24 a25 a26 a27 a28 a29 a30 a31 a32 a33 a34 a35 a36 : Nat) (S : zMn) (p1 : Int32) (R : Int32 × zMn) (hf : fX7_far S p1 = some R) : zC l yX7_far wsX7_far ({ frames := 1, cells := 0, slots := 0, locals := 22 } : Room) K [.ref a0, .int p1] (cMn K a0 a1 a2 a3 a4 a5 a6 a7 a8 a9 a10 a11 a12 a13 a14 a15 a16 a17 a18 a19 a20 a21 a22 a23 a24 a25 a26 a27 a28 a29 a30 a31 a32 a33 a34 a35 a36 S) (some (.int R.1)) (cMn K a0 a1 a2 a3 a4 a5 a6 a7 a8 a9 a10 a11 a12 a13 a14 a15 a16 a17 a18 a19 a20 a21 a22 a23 a24 a25 a26 a27 a28 a29 a30 a31 a32 a33 a34 a35 a36 R.2) := by
  refine zC_i R.1 (cc := cX7_far) (maxL := 3) (by decide +kernel) rfl (Nat.le_of_ble_eq_true rfl) rfl rfl ?_
  intro p e s m below meth c Q A X hret ls hl hh
  have X : zX p m c cX7_far 3 s ([.ref a0, .int p1] : List Value).toArray wsX7_far RX7 K A := X
  have hx := X.1.1
  have hb := X.1.2.1
  have hr2 : ∀ (pc : Nat) (ls : Array Slot) (H : Heap) (locs : List Loc) (v : Int32) (S : zMn), some (v, S) = some R → decode cX7_far pc = .ok (.ireturn, 1) → zW K A s H locs (cMn K a0 a1 a2 a3 a4 a5 a6 a7 a8 a9 a10 a11 a12 a13 a14 a15 a16 a17 a18 a19 a20 a21 a22 a23 a24 a25 a26 a27 a28 a29 a30 a31 a32 a33 a34 a35 a36 S) → W p l e ({ frames := 1, cells := 0, slots := 0, locals := 22 } : Room) s m ([.ref a0, .int p1] : List Value).toArray below meth c H locs 0 0 Q (F0 m pc ls [.int v]) := by
    intro pc ls H locs v S h hd hh
    cases h; exact hret pc ls H locs _ rfl hd hh
  have hl : lv_has ls 3 [(0, .ref a0), (1, .int p1)] := hl
  unfold fX7_far at hf
  refine (fun (hmain : ∀ (H : Heap) (locs : List Loc), zW K A s H locs (cMn K a0 a1 a2 a3 a4 a5 a6 a7 a8 a9 a10 a11 a12 a13 a14 a15 a16 a17 a18 a19 a20 a21 a22 a23 a24 a25 a26 a27 a28 a29 a30 a31 a32 a33 a34 a35 a36 S) → W p l e ({ frames := 1, cells := 0, slots := 0, locals := 22 } : Room) s m ([.ref a0, .int p1] : List Value).toArray below meth c H locs 0 0 Q (F0 m 0 ls [])) => hmain s.heap [] hh) (fun H locs hh => ?_)
  refine lv_iload_n hx hb dX7_far_0 rfl (lv_at hl 1 rfl) ?_
  refine lv_iconst (v := (1 : Int32)) hx hb dX7_far_1 (by decide) ?_
  refine lv_bipush (v := (12 : Int32)) hx hb dX7_far_2 (by decide) ?_
  refine zcallS (As := [.int p1, .int (1 : Int32), .int (12 : Int32)]) (rest := []) (wr := cMn K a0 a1 a2 a3 a4 a5 a6 a7 a8 a9 a10 a11 a12 a13 a14 a15 a16 a17 a18 a19 a20 a21 a22 a23 a24 a25 a26 a27 a28 a29 a30 a31 a32 a33 a34 a35 a36 S) (ws' := cMn K a0 a1 a2 a3 a4 a5 a6 a7 a8 a9 a10 a11 a12 a13 a14 a15 a16 a17 a18 a19 a20 a21 a22 a23 a24 a25 a26 a27 a28 a29 a30 a31 a32 a33 a34 a35 a36 S) (ov := some (.int (fX7_outside p1 (1 : Int32) (12 : Int32)))) X hh hl (kX7_outside l K p1 (1 : Int32) (12 : Int32) (fX7_outside p1 (1 : Int32) (12 : Int32)) rfl) (fun ht => va_cwS 3 ht gX7_far_X7_outside rfl rfl rfl hdX7_outside ⟨Nat.le_of_ble_eq_true rfl, Nat.le_of_ble_eq_true rfl⟩) [] [0, 1, 2, 3, 4, 5, 6, 7, 8, 9, 10, 11, 12, 13, 14, 15, 16, 17, 18, 19, 20, 21, 22, 23, 24, 25, 26, 27, 28, 29, 30, 31, 32, 33, 34, 35, 36] [0, 1, 2, 3, 4, 5, 6, 7, 8, 9, 10, 11, 12, 13, 14, 15, 16, 17, 18, 19, 20, 21, 22, 23, 24, 25, 26, 27, 28, 29, 30, 31, 32, 33, 34, 35, 36] rfl rfl rfl rfl (by decide) rfl rfl rfl rfl (Nat.le_of_ble_eq_true rfl) dX7_far_4 ⟨Nat.zero_le _, Nat.zero_le _⟩ (fun H locs hh => ?_)
  refine lv_istore_n (lv' := [(2, .int (fX7_outside p1 (1 : Int32) (12 : Int32))), (0, .ref a0), (1, .int p1)]) hx hb dX7_far_7 rfl hl (by decide) rfl (fun ls hl => ?_)
  refine lv_iload_n hx hb dX7_far_8 rfl (lv_at hl 0 rfl) ?_
  refine lv_if_eq (tgt := 20) hx hb dX7_far_9 (by decide) (fun c2 => ?_) (fun c2 => ?_)
  · replace hf := (if_pos c2).symm.trans hf
    refine lv_iconst (v := (1 : Int32)) hx hb dX7_far_20 (by decide) ?_
    refine lv_iload_n hx hb dX7_far_21 rfl (lv_at hl 2 rfl) ?_
    refine lv_iconst (v := (1 : Int32)) hx hb dX7_far_22 (by decide) ?_
    refine lv_isub hx hb dX7_far_23 ?_
    refine lv_ishl hx hb dX7_far_24 ?_
    exact hr2 25 ls H locs ((1 : Int32) <<< ((p1 - (1 : Int32)) &&& 31)) S hf dX7_far_25 hh
  · replace hf := (if_neg c2).symm.trans hf
    refine lv_aload_n hx hb dX7_far_12 rfl (lv_at hl 1 rfl) ?_
    refine lv_iload_n hx hb dX7_far_13 rfl (lv_at hl 0 rfl) ?_
    obtain ⟨u3, hu3, hf⟩ := ob_bind hf
    refine zcallV (ci := 6) (q0 := 0) (As := [.int (fX7_outside p1 (1 : Int32) (12 : Int32))]) (rest := []) (wr := []) (ws' := cMn K a0 a1 a2 a3 a4 a5 a6 a7 a8 a9 a10 a11 a12 a13 a14 a15 a16 a17 a18 a19 a20 a21 a22 a23 a24 a25 a26 a27 a28 a29 a30 a31 a32 a33 a34 a35 a36 u3.2) (ov := some (.int u3.1)) X hh hl (kX7_refuse l K a0 a1 a2 a3 a4 a5 a6 a7 a8 a9 a10 a11 a12 a13 a14 a15 a16 a17 a18 a19 a20 a21 a22 a23 a24 a25 a26 a27 a28 a29 a30 a31 a32 a33 a34 a35 a36 S (fX7_outside p1 (1 : Int32) (12 : Int32)) u3 hu3) (fun ht => cwV 1 ht gX7_far_X7_refuse rfl rfl rfl ⟨rfl, hdX7_refuse⟩ ⟨Nat.le_of_ble_eq_true rfl, Nat.le_of_ble_eq_true rfl⟩) [0, 1, 2, 3, 4, 5, 6, 7, 8, 9, 10, 11, 12, 13, 14, 15, 16, 17, 18, 19, 20, 21, 22, 23, 24, 25, 26, 27, 28, 29, 30, 31, 32, 33, 34, 35, 36] [] [0, 1, 2, 3, 4, 5, 6, 7, 8, 9, 10, 11, 12, 13, 14, 15, 16, 17, 18, 19, 20, 21, 22, 23, 24, 25, 26, 27, 28, 29, 30, 31, 32, 33, 34, 35, 36] rfl rfl rfl rfl (by decide) rfl rfl rfl rfl rfl rfl (Nat.le_of_ble_eq_true rfl) dX7_far_14 ⟨Nat.zero_le _, Nat.zero_le _⟩ (fun H locs hh => ?_)
    refine lv_goto (tgt := 25) hx hb dX7_far_17 (by decide) ?_
    exact hr2 25 ls H locs u3.1 u3.2 hf dX7_far_25 hh
theorem inX7_can_X7 : ∀ w ∈ wsX70, w ∈ wsX7_can := by decide +kernel
theorem mmX7_can_0 : Cond.fieldLink RX7 39 "SumOfTwoThatStand" "chains" "LSumOfTwoThatStand$Chains;" ∈ wsX7_can := by decide +kernel
theorem mmX7_can_1 : Cond.constantLong RX7 178 (-1) ∈ wsX7_can := by decide +kernel
theorem hdX7_can : yX7_can.cls ≠ "java/lang/invoke/MethodHandle" ∧ yX7_can.cls ≠ "java/lang/invoke/VarHandle" ∧ (parseMethodDescriptor yX7_can.desc).map (fun d => d.parameters.length) = some 2 := by decide +kernel
set_option maxHeartbeats 4000000 in
set_option maxRecDepth 100000 in
theorem kX7_can (l : Launch) (K : zK) (a0 a1 a2 a3 a4 a5 a6 a7 a8 a9 a10 a11 a12 a13 a14 a15 a16 a17 a18 a19 a20 a21 a22 a23 a24 a25 a26 a27 a28 a29 a30 a31 a32 a33 a34 a35 a36 : Nat) (S : zMn) (p1 : Int32) (p2 : Int32) (R : Int32 × zMn) (hf : fX7_can S p1 p2 = some R) : zC l yX7_can wsX7_can ({ frames := 18, cells := 0, slots := 0, locals := 476 } : Room) K [.ref a0, .int p1, .int p2] (cMn K a0 a1 a2 a3 a4 a5 a6 a7 a8 a9 a10 a11 a12 a13 a14 a15 a16 a17 a18 a19 a20 a21 a22 a23 a24 a25 a26 a27 a28 a29 a30 a31 a32 a33 a34 a35 a36 S) (some (.int R.1)) (cMn K a0 a1 a2 a3 a4 a5 a6 a7 a8 a9 a10 a11 a12 a13 a14 a15 a16 a17 a18 a19 a20 a21 a22 a23 a24 a25 a26 a27 a28 a29 a30 a31 a32 a33 a34 a35 a36 R.2) := by
  refine zC_i R.1 (cc := cX7_can) (maxL := 6) (by decide +kernel) rfl (Nat.le_of_ble_eq_true rfl) rfl rfl ?_
  intro p e s m below meth c Q A X hret ls hl hh
  have X : zX p m c cX7_can 6 s ([.ref a0, .int p1, .int p2] : List Value).toArray wsX7_can RX7 K A := X
  have hx := X.1.1
  have hb := X.1.2.1
  have hr2 : ∀ (pc : Nat) (ls : Array Slot) (H : Heap) (locs : List Loc) (v : Int32) (S : zMn), some (v, S) = some R → decode cX7_can pc = .ok (.ireturn, 1) → zW K A s H locs (cMn K a0 a1 a2 a3 a4 a5 a6 a7 a8 a9 a10 a11 a12 a13 a14 a15 a16 a17 a18 a19 a20 a21 a22 a23 a24 a25 a26 a27 a28 a29 a30 a31 a32 a33 a34 a35 a36 S) → W p l e ({ frames := 18, cells := 0, slots := 0, locals := 476 } : Room) s m ([.ref a0, .int p1, .int p2] : List Value).toArray below meth c H locs 0 0 Q (F0 m pc ls [.int v]) := by
    intro pc ls H locs v S h hd hh
    cases h; exact hret pc ls H locs _ rfl hd hh
  have hl : lv_has ls 6 [(0, .ref a0), (1, .int p1), (2, .int p2)] := hl
  have hJ19 : ∀ (v1 : Int32) (v2 : Int32) (t0 : Int32) (S : zMn), ∀ (H : Heap) (locs : List Loc) (ls : Array Slot), fX7_can_j19 v1 v2 t0 S = some R → lv_has ls 6 [(0, .ref a0), (1, .int v1), (2, .int v2)] → zW K A s H locs (cMn K a0 a1 a2 a3 a4 a5 a6 a7 a8 a9 a10 a11 a12 a13 a14 a15 a16 a17 a18 a19 a20 a21 a22 a23 a24 a25 a26 a27 a28 a29 a30 a31 a32 a33 a34 a35 a36 S) → W p l e ({ frames := 18, cells := 0, slots := 0, locals := 476 } : Room) s m ([.ref a0, .int p1, .int p2] : List Value).toArray below meth c H locs 0 0 Q (F0 m 19 ls [.int t0]) := by
    intro v1 v2 t0 S H locs ls hf hl hh
    unfold fX7_can_j19 at hf
    refine lv_istore_n (lv' := [(3, .int t0), (0, .ref a0), (1, .int v1), (2, .int v2)]) hx hb dX7_can_19 rfl hl (by decide) rfl (fun ls hl => ?_)
    refine lv_iload_n hx hb dX7_can_20 rfl (lv_at hl 0 rfl) ?_
    refine lv_if_eq (tgt := 30) hx hb dX7_can_21 (by decide) (fun c1 => ?_) (fun c1 => ?_)
    · replace hf := (if_pos c1).symm.trans hf
      refine lv_aload_n hx hb dX7_can_30 rfl (lv_at hl 1 rfl) ?_
      refine zget (v := .ref a30) (ref := "SumOfTwoThatStand") (C := RX7) (T := TX7) (N := 10) (index := 39) X hh inX7_can_X7 0 rfl rfl 5 (by decide) mmX7_can_0 rfl rfl dX7_can_31 ?_
      refine lv_iload_n hx hb dX7_can_34 rfl (lv_at hl 2 rfl) ?_
      obtain ⟨u2, hu2, hf⟩ := ob_bind hf
      refine zcallV (ci := 0) (q0 := 30) (As := [.int v1]) (rest := []) (wr := zsel (cMn K a0 a1 a2 a3 a4 a5 a6 a7 a8 a9 a10 a11 a12 a13 a14 a15 a16 a17 a18 a19 a20 a21 a22 a23 a24 a25 a26 a27 a28 a29 a30 a31 a32 a33 a34 a35 a36 S) [0, 1, 2, 3, 4, 5, 6, 7, 8, 9, 10, 11, 12, 13, 14, 15, 16, 17, 18, 19, 20, 21, 22, 23, 24, 25, 26, 27, 28, 29, 32, 33, 34, 35, 36]) (ws' := cMn K a0 a1 a2 a3 a4 a5 a6 a7 a8 a9 a10 a11 a12 a13 a14 a15 a16 a17 a18 a19 a20 a21 a22 a23 a24 a25 a26 a27 a28 a29 a30 a31 a32 a33 a34 a35 a36 (mn_set_chains S u2.2)) (ov := some (.long u2.1)) X hh hl (kX0_reachable l K a30 a31 (mn_chains S) v1 u2 hu2) (fun ht => cwV 1 ht gX7_can_X0_reachable rfl rfl rfl ⟨rfl, hdX0_reachable⟩ ⟨Nat.le_of_ble_eq_true rfl, Nat.le_of_ble_eq_true rfl⟩) [30, 31] [0, 1, 2, 3, 4, 5, 6, 7, 8, 9, 10, 11, 12, 13, 14, 15, 16, 17, 18, 19, 20, 21, 22, 23, 24, 25, 26, 27, 28, 29, 32, 33, 34, 35, 36] [0, 1, 2, 3, 4, 5, 6, 7, 8, 9, 10, 11, 12, 13, 14, 15, 16, 17, 18, 19, 20, 21, 22, 23, 24, 25, 26, 27, 28, 29, 35, 36, 30, 31, 32, 33, 34] rfl rfl rfl rfl (by decide) rfl rfl rfl rfl rfl rfl (Nat.le_of_ble_eq_true rfl) dX7_can_35 ⟨Nat.zero_le _, Nat.zero_le _⟩ (fun H locs hh => ?_)
      refine lv_lstore (lv' := [(4, .long u2.1), (3, .int t0), (0, .ref a0), (1, .int v1), (2, .int v2)]) hx hb dX7_can_38 hl (by decide) rfl (fun ls hl => ?_)
      refine lv_iload_n hx hb dX7_can_40 rfl (lv_at hl 4 rfl) ?_
      refine lv_if_ne (tgt := 52) hx hb dX7_can_41 (by decide) (fun c3 => ?_) (fun c3 => ?_)
      · replace hf := (if_neg c3).symm.trans hf
        refine lv_lload hx hb dX7_can_52 (lv_at hl 0 rfl) ?_
        refine lv_ldc2 (v := (-1 : Int64)) hx hb X.1.2.2.2.1 (X.1.2.2.2.2 _ mmX7_can_1) dX7_can_54 ?_
        refine lv_lxor hx hb dX7_can_57 ?_
        refine zcallS (As := [.long (u2.1 ^^^ (-1 : Int64))]) (rest := []) (wr := cMn K a0 a1 a2 a3 a4 a5 a6 a7 a8 a9 a10 a11 a12 a13 a14 a15 a16 a17 a18 a19 a20 a21 a22 a23 a24 a25 a26 a27 a28 a29 a30 a31 a32 a33 a34 a35 a36 (mn_set_chains S u2.2)) (ws' := cMn K a0 a1 a2 a3 a4 a5 a6 a7 a8 a9 a10 a11 a12 a13 a14 a15 a16 a17 a18 a19 a20 a21 a22 a23 a24 a25 a26 a27 a28 a29 a30 a31 a32 a33 a34 a35 a36 (mn_set_chains S u2.2)) (ov := some (.int (fJ13_numberOfTrailingZeros_95d88 (u2.1 ^^^ (-1 : Int64))))) X hh hl (kJ13_numberOfTrailingZeros_95d88 l K (u2.1 ^^^ (-1 : Int64)) (fJ13_numberOfTrailingZeros_95d88 (u2.1 ^^^ (-1 : Int64))) rfl) (fun ht => va_cwS 1 ht gX7_can_J13_numberOfTrailingZeros_95d88 rfl rfl rfl hdJ13_numberOfTrailingZeros_95d88 ⟨Nat.le_of_ble_eq_true rfl, Nat.le_of_ble_eq_true rfl⟩) [] [0, 1, 2, 3, 4, 5, 6, 7, 8, 9, 10, 11, 12, 13, 14, 15, 16, 17, 18, 19, 20, 21, 22, 23, 24, 25, 26, 27, 28, 29, 30, 31, 32, 33, 34, 35, 36] [0, 1, 2, 3, 4, 5, 6, 7, 8, 9, 10, 11, 12, 13, 14, 15, 16, 17, 18, 19, 20, 21, 22, 23, 24, 25, 26, 27, 28, 29, 30, 31, 32, 33, 34, 35, 36] rfl rfl rfl rfl (by decide) rfl rfl rfl rfl (Nat.le_of_ble_eq_true rfl) dX7_can_58 ⟨Nat.zero_le _, Nat.zero_le _⟩ (fun H locs hh => ?_)
        refine lv_iconst (v := (1 : Int32)) hx hb dX7_can_61 (by decide) ?_
        refine lv_iadd hx hb dX7_can_62 ?_
        exact hr2 63 ls H locs ((fJ13_numberOfTrailingZeros_95d88 (u2.1 ^^^ (-1 : Int64))) + (1 : Int32)) (mn_set_chains S u2.2) hf dX7_can_63 hh
      · replace hf := (if_pos c3).symm.trans hf
        refine lv_lload hx hb dX7_can_44 (lv_at hl 0 rfl) ?_
        refine zcallS (As := [.long u2.1]) (rest := []) (wr := cMn K a0 a1 a2 a3 a4 a5 a6 a7 a8 a9 a10 a11 a12 a13 a14 a15 a16 a17 a18 a19 a20 a21 a22 a23 a24 a25 a26 a27 a28 a29 a30 a31 a32 a33 a34 a35 a36 (mn_set_chains S u2.2)) (ws' := cMn K a0 a1 a2 a3 a4 a5 a6 a7 a8 a9 a10 a11 a12 a13 a14 a15 a16 a17 a18 a19 a20 a21 a22 a23 a24 a25 a26 a27 a28 a29 a30 a31 a32 a33 a34 a35 a36 (mn_set_chains S u2.2)) (ov := some (.int (fJ13_bitCount_95d88 u2.1))) X hh hl (kJ13_bitCount_95d88 l K u2.1 (fJ13_bitCount_95d88 u2.1) rfl) (fun ht => va_cwS 1 ht gX7_can_J13_bitCount_95d88 rfl rfl rfl hdJ13_bitCount_95d88 ⟨Nat.le_of_ble_eq_true rfl, Nat.le_of_ble_eq_true rfl⟩) [] [0, 1, 2, 3, 4, 5, 6, 7, 8, 9, 10, 11, 12, 13, 14, 15, 16, 17, 18, 19, 20, 21, 22, 23, 24, 25, 26, 27, 28, 29, 30, 31, 32, 33, 34, 35, 36] [0, 1, 2, 3, 4, 5, 6, 7, 8, 9, 10, 11, 12, 13, 14, 15, 16, 17, 18, 19, 20, 21, 22, 23, 24, 25, 26, 27, 28, 29, 30, 31, 32, 33, 34, 35, 36] rfl rfl rfl rfl (by decide) rfl rfl rfl rfl (Nat.le_of_ble_eq_true rfl) dX7_can_46 ⟨Nat.zero_le _, Nat.zero_le _⟩ (fun H locs hh => ?_)
        refine lv_goto (tgt := 63) hx hb dX7_can_49 (by decide) ?_
        exact hr2 63 ls H locs (fJ13_bitCount_95d88 u2.1) (mn_set_chains S u2.2) hf dX7_can_63 hh
    · replace hf := (if_neg c1).symm.trans hf
      refine lv_aload_n hx hb dX7_can_24 rfl (lv_at hl 1 rfl) ?_
      refine lv_iload_n hx hb dX7_can_25 rfl (lv_at hl 0 rfl) ?_
      obtain ⟨u6, hu6, hf⟩ := ob_bind hf
      refine zcallV (ci := 6) (q0 := 0) (As := [.int t0]) (rest := []) (wr := []) (ws' := cMn K a0 a1 a2 a3 a4 a5 a6 a7 a8 a9 a10 a11 a12 a13 a14 a15 a16 a17 a18 a19 a20 a21 a22 a23 a24 a25 a26 a27 a28 a29 a30 a31 a32 a33 a34 a35 a36 u6.2) (ov := some (.int u6.1)) X hh hl (kX7_refuse l K a0 a1 a2 a3 a4 a5 a6 a7 a8 a9 a10 a11 a12 a13 a14 a15 a16 a17 a18 a19 a20 a21 a22 a23 a24 a25 a26 a27 a28 a29 a30 a31 a32 a33 a34 a35 a36 S t0 u6 hu6) (fun ht => cwV 1 ht gX7_can_X7_refuse rfl rfl rfl ⟨rfl, hdX7_refuse⟩ ⟨Nat.le_of_ble_eq_true rfl, Nat.le_of_ble_eq_true rfl⟩) [0, 1, 2, 3, 4, 5, 6, 7, 8, 9, 10, 11, 12, 13, 14, 15, 16, 17, 18, 19, 20, 21, 22, 23, 24, 25, 26, 27, 28, 29, 30, 31, 32, 33, 34, 35, 36] [] [0, 1, 2, 3, 4, 5, 6, 7, 8, 9, 10, 11, 12, 13, 14, 15, 16, 17, 18, 19, 20, 21, 22, 23, 24, 25, 26, 27, 28, 29, 30, 31, 32, 33, 34, 35, 36] rfl rfl rfl rfl (by decide) rfl rfl rfl rfl rfl rfl (Nat.le_of_ble_eq_true rfl) dX7_can_26 ⟨Nat.zero_le _, Nat.zero_le _⟩ (fun H locs hh => ?_)
      exact hr2 29 ls H locs u6.1 u6.2 hf dX7_can_29 hh
  unfold fX7_can at hf
  refine (fun (hmain : ∀ (H : Heap) (locs : List Loc), zW K A s H locs (cMn K a0 a1 a2 a3 a4 a5 a6 a7 a8 a9 a10 a11 a12 a13 a14 a15 a16 a17 a18 a19 a20 a21 a22 a23 a24 a25 a26 a27 a28 a29 a30 a31 a32 a33 a34 a35 a36 S) → W p l e ({ frames := 18, cells := 0, slots := 0, locals := 476 } : Room) s m ([.ref a0, .int p1, .int p2] : List Value).toArray below meth c H locs 0 0 Q (F0 m 0 ls [])) => hmain s.heap [] hh) (fun H locs hh => ?_)
  refine lv_iload_n hx hb dX7_can_0 rfl (lv_at hl 2 rfl) ?_
  refine zcallS (As := [.int p2]) (rest := []) (wr := cMn K a0 a1 a2 a3 a4 a5 a6 a7 a8 a9 a10 a11 a12 a13 a14 a15 a16 a17 a18 a19 a20 a21 a22 a23 a24 a25 a26 a27 a28 a29 a30 a31 a32 a33 a34 a35 a36 S) (ws' := cMn K a0 a1 a2 a3 a4 a5 a6 a7 a8 a9 a10 a11 a12 a13 a14 a15 a16 a17 a18 a19 a20 a21 a22 a23 a24 a25 a26 a27 a28 a29 a30 a31 a32 a33 a34 a35 a36 S) (ov := some (.int (fX7_isOneOfTwo p2))) X hh hl (kX7_isOneOfTwo l K p2 (fX7_isOneOfTwo p2) rfl) (fun ht => va_cwS 1 ht gX7_can_X7_isOneOfTwo rfl rfl rfl hdX7_isOneOfTwo ⟨Nat.le_of_ble_eq_true rfl, Nat.le_of_ble_eq_true rfl⟩) [] [0, 1, 2, 3, 4, 5, 6, 7, 8, 9, 10, 11, 12, 13, 14, 15, 16, 17, 18, 19, 20, 21, 22, 23, 24, 25, 26, 27, 28, 29, 30, 31, 32, 33, 34, 35, 36] [0, 1, 2, 3, 4, 5, 6, 7, 8, 9, 10, 11, 12, 13, 14, 15, 16, 17, 18, 19, 20, 21, 22, 23, 24, 25, 26, 27, 28, 29, 30, 31, 32, 33, 34, 35, 36] rfl rfl rfl rfl (by decide) rfl rfl rfl rfl (Nat.le_of_ble_eq_true rfl) dX7_can_1 ⟨Nat.zero_le _, Nat.zero_le _⟩ (fun H locs hh => ?_)
  refine lv_if_eq (tgt := 17) hx hb dX7_can_4 (by decide) (fun c8 => ?_) (fun c8 => ?_)
  · replace hf := (if_pos c8).symm.trans hf
    refine lv_bipush (v := (-2 : Int32)) hx hb dX7_can_17 (by decide) ?_
    exact hJ19 p1 p2 (-2 : Int32) S H locs ls hf (lv_sub hl [0, 1, 2] rfl) hh
  · replace hf := (if_neg c8).symm.trans hf
    refine lv_iload_n hx hb dX7_can_7 rfl (lv_at hl 1 rfl) ?_
    refine lv_iconst (v := (1 : Int32)) hx hb dX7_can_8 (by decide) ?_
    refine lv_bipush (v := (7 : Int32)) hx hb dX7_can_9 (by decide) ?_
    refine zcallS (As := [.int p1, .int (1 : Int32), .int (7 : Int32)]) (rest := []) (wr := cMn K a0 a1 a2 a3 a4 a5 a6 a7 a8 a9 a10 a11 a12 a13 a14 a15 a16 a17 a18 a19 a20 a21 a22 a23 a24 a25 a26 a27 a28 a29 a30 a31 a32 a33 a34 a35 a36 S) (ws' := cMn K a0 a1 a2 a3 a4 a5 a6 a7 a8 a9 a10 a11 a12 a13 a14 a15 a16 a17 a18 a19 a20 a21 a22 a23 a24 a25 a26 a27 a28 a29 a30 a31 a32 a33 a34 a35 a36 S) (ov := some (.int (fX7_outside p1 (1 : Int32) (7 : Int32)))) X hh hl (kX7_outside l K p1 (1 : Int32) (7 : Int32) (fX7_outside p1 (1 : Int32) (7 : Int32)) rfl) (fun ht => va_cwS 3 ht gX7_can_X7_outside rfl rfl rfl hdX7_outside ⟨Nat.le_of_ble_eq_true rfl, Nat.le_of_ble_eq_true rfl⟩) [] [0, 1, 2, 3, 4, 5, 6, 7, 8, 9, 10, 11, 12, 13, 14, 15, 16, 17, 18, 19, 20, 21, 22, 23, 24, 25, 26, 27, 28, 29, 30, 31, 32, 33, 34, 35, 36] [0, 1, 2, 3, 4, 5, 6, 7, 8, 9, 10, 11, 12, 13, 14, 15, 16, 17, 18, 19, 20, 21, 22, 23, 24, 25, 26, 27, 28, 29, 30, 31, 32, 33, 34, 35, 36] rfl rfl rfl rfl (by decide) rfl rfl rfl rfl (Nat.le_of_ble_eq_true rfl) dX7_can_11 ⟨Nat.zero_le _, Nat.zero_le _⟩ (fun H locs hh => ?_)
    refine lv_goto (tgt := 19) hx hb dX7_can_14 (by decide) ?_
    exact hJ19 p1 p2 (fX7_outside p1 (1 : Int32) (7 : Int32)) S H locs ls hf (lv_sub hl [0, 1, 2] rfl) hh
theorem inX7_more_X7 : ∀ w ∈ wsX70, w ∈ wsX7_more := by decide +kernel
theorem mmX7_more_0 : Cond.fieldLink RX7 10 "SumOfTwoThatStand" "live" "LSumOfTwoThatStand$Street;" ∈ wsX7_more := by decide +kernel
theorem hdX7_more : yX7_more.cls ≠ "java/lang/invoke/MethodHandle" ∧ yX7_more.cls ≠ "java/lang/invoke/VarHandle" ∧ (parseMethodDescriptor yX7_more.desc).map (fun d => d.parameters.length) = some 1 := by decide +kernel
set_option maxHeartbeats 4000000 in
set_option maxRecDepth 100000 in
theorem kX7_more (l : Launch) (K : zK) (a0 a1 a2 a3 a4 a5 a6 a7 a8 a9 a10 a11 a12 a13 a14 a15 a16 a17 a18 a19 a20 a21 a22 a23 a24 a25 a26 a27 a28 a29 a30 a31 a32 a33 a34 a35 a36 : Nat) (S : zMn) (p1 : Int32) (R : Int32 × zMn) (hf : fX7_more S p1 = some R) : zC l yX7_more wsX7_more ({ frames := 5, cells := 0, slots := 0, locals := 114 } : Room) K [.ref a0, .int p1] (cMn K a0 a1 a2 a3 a4 a5 a6 a7 a8 a9 a10 a11 a12 a13 a14 a15 a16 a17 a18 a19 a20 a21 a22 a23 a24 a25 a26 a27 a28 a29 a30 a31 a32 a33 a34 a35 a36 S) (some (.int R.1)) (cMn K a0 a1 a2 a3 a4 a5 a6 a7 a8 a9 a10 a11 a12 a13 a14 a15 a16 a17 a18 a19 a20 a21 a22 a23 a24 a25 a26 a27 a28 a29 a30 a31 a32 a33 a34 a35 a36 R.2) := by
  refine zC_i R.1 (cc := cX7_more) (maxL := 3) (by decide +kernel) rfl (Nat.le_of_ble_eq_true rfl) rfl rfl ?_
  intro p e s m below meth c Q A X hret ls hl hh
  have X : zX p m c cX7_more 3 s ([.ref a0, .int p1] : List Value).toArray wsX7_more RX7 K A := X
  have hx := X.1.1
  have hb := X.1.2.1
  have hr2 : ∀ (pc : Nat) (ls : Array Slot) (H : Heap) (locs : List Loc) (v : Int32) (S : zMn), some (v, S) = some R → decode cX7_more pc = .ok (.ireturn, 1) → zW K A s H locs (cMn K a0 a1 a2 a3 a4 a5 a6 a7 a8 a9 a10 a11 a12 a13 a14 a15 a16 a17 a18 a19 a20 a21 a22 a23 a24 a25 a26 a27 a28 a29 a30 a31 a32 a33 a34 a35 a36 S) → W p l e ({ frames := 5, cells := 0, slots := 0, locals := 114 } : Room) s m ([.ref a0, .int p1] : List Value).toArray below meth c H locs 0 0 Q (F0 m pc ls [.int v]) := by
    intro pc ls H locs v S h hd hh
    cases h; exact hret pc ls H locs _ rfl hd hh
  have hl : lv_has ls 3 [(0, .ref a0), (1, .int p1)] := hl
  unfold fX7_more at hf
  refine (fun (hmain : ∀ (H : Heap) (locs : List Loc), zW K A s H locs (cMn K a0 a1 a2 a3 a4 a5 a6 a7 a8 a9 a10 a11 a12 a13 a14 a15 a16 a17 a18 a19 a20 a21 a22 a23 a24 a25 a26 a27 a28 a29 a30 a31 a32 a33 a34 a35 a36 S) → W p l e ({ frames := 5, cells := 0, slots := 0, locals := 114 } : Room) s m ([.ref a0, .int p1] : List Value).toArray below meth c H locs 0 0 Q (F0 m 0 ls [])) => hmain s.heap [] hh) (fun H locs hh => ?_)
  refine lv_iload_n hx hb dX7_more_0 rfl (lv_at hl 1 rfl) ?_
  refine lv_iconst (v := (1 : Int32)) hx hb dX7_more_1 (by decide) ?_
  refine lv_sipush (v := (300 : Int32)) hx hb dX7_more_2 (by decide) ?_
  refine zcallS (As := [.int p1, .int (1 : Int32), .int (300 : Int32)]) (rest := []) (wr := cMn K a0 a1 a2 a3 a4 a5 a6 a7 a8 a9 a10 a11 a12 a13 a14 a15 a16 a17 a18 a19 a20 a21 a22 a23 a24 a25 a26 a27 a28 a29 a30 a31 a32 a33 a34 a35 a36 S) (ws' := cMn K a0 a1 a2 a3 a4 a5 a6 a7 a8 a9 a10 a11 a12 a13 a14 a15 a16 a17 a18 a19 a20 a21 a22 a23 a24 a25 a26 a27 a28 a29 a30 a31 a32 a33 a34 a35 a36 S) (ov := some (.int (fX7_outside p1 (1 : Int32) (300 : Int32)))) X hh hl (kX7_outside l K p1 (1 : Int32) (300 : Int32) (fX7_outside p1 (1 : Int32) (300 : Int32)) rfl) (fun ht => va_cwS 3 ht gX7_more_X7_outside rfl rfl rfl hdX7_outside ⟨Nat.le_of_ble_eq_true rfl, Nat.le_of_ble_eq_true rfl⟩) [] [0, 1, 2, 3, 4, 5, 6, 7, 8, 9, 10, 11, 12, 13, 14, 15, 16, 17, 18, 19, 20, 21, 22, 23, 24, 25, 26, 27, 28, 29, 30, 31, 32, 33, 34, 35, 36] [0, 1, 2, 3, 4, 5, 6, 7, 8, 9, 10, 11, 12, 13, 14, 15, 16, 17, 18, 19, 20, 21, 22, 23, 24, 25, 26, 27, 28, 29, 30, 31, 32, 33, 34, 35, 36] rfl rfl rfl rfl (by decide) rfl rfl rfl rfl (Nat.le_of_ble_eq_true rfl) dX7_more_5 ⟨Nat.zero_le _, Nat.zero_le _⟩ (fun H locs hh => ?_)
  refine lv_istore_n (lv' := [(2, .int (fX7_outside p1 (1 : Int32) (300 : Int32))), (0, .ref a0), (1, .int p1)]) hx hb dX7_more_8 rfl hl (by decide) rfl (fun ls hl => ?_)
  refine lv_iload_n hx hb dX7_more_9 rfl (lv_at hl 0 rfl) ?_
  refine lv_if_eq (tgt := 19) hx hb dX7_more_10 (by decide) (fun c2 => ?_) (fun c2 => ?_)
  · replace hf := (if_pos c2).symm.trans hf
    refine lv_aload_n hx hb dX7_more_19 rfl (lv_at hl 1 rfl) ?_
    refine zget (v := .ref a1) (ref := "SumOfTwoThatStand") (C := RX7) (T := TX7) (N := 10) (index := 10) X hh inX7_more_X7 0 rfl rfl 0 (by decide) mmX7_more_0 rfl rfl dX7_more_20 ?_
    refine lv_iload_n hx hb dX7_more_23 rfl (lv_at hl 2 rfl) ?_
    obtain ⟨u3, hu3, hf⟩ := ob_bind hf
    refine zcallV (ci := 5) (q0 := 1) (As := [.int p1]) (rest := []) (wr := zsel (cMn K a0 a1 a2 a3 a4 a5 a6 a7 a8 a9 a10 a11 a12 a13 a14 a15 a16 a17 a18 a19 a20 a21 a22 a23 a24 a25 a26 a27 a28 a29 a30 a31 a32 a33 a34 a35 a36 S) [0, 9, 10, 11, 12, 13, 14, 15, 16, 17, 18, 19, 20, 21, 22, 23, 24, 25, 26, 27, 28, 29, 30, 31, 32, 33, 34, 35, 36]) (ws' := cMn K a0 a1 a2 a3 a4 a5 a6 a7 a8 a9 a10 a11 a12 a13 a14 a15 a16 a17 a18 a19 a20 a21 a22 a23 a24 a25 a26 a27 a28 a29 a30 a31 a32 a33 a34 a35 a36 S) (ov := some (.int u3)) X hh hl (kX5_isThere l K a1 a2 a3 a4 a5 a6 a7 a8 (mn_live S) p1 u3 hu3) (fun ht => cwV 1 ht gX7_more_X5_isThere rfl rfl rfl ⟨rfl, hdX5_isThere⟩ ⟨Nat.le_of_ble_eq_true rfl, Nat.le_of_ble_eq_true rfl⟩) [1, 2, 3, 4, 5, 6, 7, 8] [0, 9, 10, 11, 12, 13, 14, 15, 16, 17, 18, 19, 20, 21, 22, 23, 24, 25, 26, 27, 28, 29, 30, 31, 32, 33, 34, 35, 36] [0, 29, 30, 31, 32, 33, 34, 35, 36, 1, 2, 3, 4, 5, 6, 7, 8, 9, 10, 11, 12, 13, 14, 15, 16, 17, 18, 19, 20, 21, 22, 23, 24, 25, 26, 27, 28] rfl rfl rfl rfl (by decide) rfl rfl rfl rfl rfl rfl (Nat.le_of_ble_eq_true rfl) dX7_more_24 ⟨Nat.zero_le _, Nat.zero_le _⟩ (fun H locs hh => ?_)
    refine lv_if_eq (tgt := 32) hx hb dX7_more_27 (by decide) (fun c4 => ?_) (fun c4 => ?_)
    · replace hf := (if_pos c4).symm.trans hf
      refine lv_aload_n hx hb dX7_more_32 rfl (lv_at hl 1 rfl) ?_
      refine zget (v := .ref a1) (ref := "SumOfTwoThatStand") (C := RX7) (T := TX7) (N := 10) (index := 10) X hh inX7_more_X7 0 rfl rfl 0 (by decide) mmX7_more_0 rfl rfl dX7_more_33 ?_
      refine lv_iload_n hx hb dX7_more_36 rfl (lv_at hl 2 rfl) ?_
      obtain ⟨u5, hu5, hf⟩ := ob_bind hf
      refine zcallV (ci := 5) (q0 := 1) (As := [.int p1]) (rest := []) (wr := zsel (cMn K a0 a1 a2 a3 a4 a5 a6 a7 a8 a9 a10 a11 a12 a13 a14 a15 a16 a17 a18 a19 a20 a21 a22 a23 a24 a25 a26 a27 a28 a29 a30 a31 a32 a33 a34 a35 a36 S) [0, 9, 10, 11, 12, 13, 14, 15, 16, 17, 18, 19, 20, 21, 22, 23, 24, 25, 26, 27, 28, 29, 30, 31, 32, 33, 34, 35, 36]) (ws' := cMn K a0 a1 a2 a3 a4 a5 a6 a7 a8 a9 a10 a11 a12 a13 a14 a15 a16 a17 a18 a19 a20 a21 a22 a23 a24 a25 a26 a27 a28 a29 a30 a31 a32 a33 a34 a35 a36 S) (ov := some (.int u5)) X hh hl (kX5_comesNext l K a1 a2 a3 a4 a5 a6 a7 a8 (mn_live S) p1 u5 hu5) (fun ht => cwV 1 ht gX7_more_X5_comesNext rfl rfl rfl ⟨rfl, hdX5_comesNext⟩ ⟨Nat.le_of_ble_eq_true rfl, Nat.le_of_ble_eq_true rfl⟩) [1, 2, 3, 4, 5, 6, 7, 8] [0, 9, 10, 11, 12, 13, 14, 15, 16, 17, 18, 19, 20, 21, 22, 23, 24, 25, 26, 27, 28, 29, 30, 31, 32, 33, 34, 35, 36] [0, 29, 30, 31, 32, 33, 34, 35, 36, 1, 2, 3, 4, 5, 6, 7, 8, 9, 10, 11, 12, 13, 14, 15, 16, 17, 18, 19, 20, 21, 22, 23, 24, 25, 26, 27, 28] rfl rfl rfl rfl (by decide) rfl rfl rfl rfl rfl rfl (Nat.le_of_ble_eq_true rfl) dX7_more_37 ⟨Nat.zero_le _, Nat.zero_le _⟩ (fun H locs hh => ?_)
      refine lv_if_eq (tgt := 45) hx hb dX7_more_40 (by decide) (fun c6 => ?_) (fun c6 => ?_)
      · replace hf := (if_pos c6).symm.trans hf
        refine lv_aload_n hx hb dX7_more_45 rfl (lv_at hl 1 rfl) ?_
        refine lv_iload_n hx hb dX7_more_46 rfl (lv_at hl 2 rfl) ?_
        obtain ⟨u7, hu7, hf⟩ := ob_bind hf
        refine zcallV (ci := 6) (q0 := 0) (As := [.int p1]) (rest := []) (wr := []) (ws' := cMn K a0 a1 a2 a3 a4 a5 a6 a7 a8 a9 a10 a11 a12 a13 a14 a15 a16 a17 a18 a19 a20 a21 a22 a23 a24 a25 a26 a27 a28 a29 a30 a31 a32 a33 a34 a35 a36 u7.2) (ov := some (.int u7.1)) X hh hl (kX7_comesNextButOne l K a0 a1 a2 a3 a4 a5 a6 a7 a8 a9 a10 a11 a12 a13 a14 a15 a16 a17 a18 a19 a20 a21 a22 a23 a24 a25 a26 a27 a28 a29 a30 a31 a32 a33 a34 a35 a36 S p1 u7 hu7) (fun ht => cwV 1 ht gX7_more_X7_comesNextButOne rfl rfl rfl ⟨rfl, hdX7_comesNextButOne⟩ ⟨Nat.le_of_ble_eq_true rfl, Nat.le_of_ble_eq_true rfl⟩) [0, 1, 2, 3, 4, 5, 6, 7, 8, 9, 10, 11, 12, 13, 14, 15, 16, 17, 18, 19, 20, 21, 22, 23, 24, 25, 26, 27, 28, 29, 30, 31, 32, 33, 34, 35, 36] [] [0, 1, 2, 3, 4, 5, 6, 7, 8, 9, 10, 11, 12, 13, 14, 15, 16, 17, 18, 19, 20, 21, 22, 23, 24, 25, 26, 27, 28, 29, 30, 31, 32, 33, 34, 35, 36] rfl rfl rfl rfl (by decide) rfl rfl rfl rfl rfl rfl (Nat.le_of_ble_eq_true rfl) dX7_more_47 ⟨Nat.zero_le _, Nat.zero_le _⟩ (fun H locs hh => ?_)
        refine lv_if_eq (tgt := 57) hx hb dX7_more_50 (by decide) (fun c8 => ?_) (fun c8 => ?_)
        · replace hf := (if_pos c8).symm.trans hf
          refine lv_bipush (v := (-9 : Int32)) hx hb dX7_more_57 (by decide) ?_
          exact hr2 59 ls H locs (-9 : Int32) u7.2 hf dX7_more_59 hh
        · replace hf := (if_neg c8).symm.trans hf
          refine lv_iconst (v := (2 : Int32)) hx hb dX7_more_53 (by decide) ?_
          refine lv_goto (tgt := 59) hx hb dX7_more_54 (by decide) ?_
          exact hr2 59 ls H locs (2 : Int32) u7.2 hf dX7_more_59 hh
      · replace hf := (if_neg c6).symm.trans hf
        refine lv_iconst (v := (1 : Int32)) hx hb dX7_more_43 (by decide) ?_
        exact hr2 44 ls H locs (1 : Int32) S hf dX7_more_44 hh
    · replace hf := (if_neg c4).symm.trans hf
      refine lv_iconst (v := (0 : Int32)) hx hb dX7_more_30 (by decide) ?_
      exact hr2 31 ls H locs (0 : Int32) S hf dX7_more_31 hh
  · replace hf := (if_neg c2).symm.trans hf
    refine lv_aload_n hx hb dX7_more_13 rfl (lv_at hl 1 rfl) ?_
    refine lv_iload_n hx hb dX7_more_14 rfl (lv_at hl 0 rfl) ?_
    obtain ⟨u9, hu9, hf⟩ := ob_bind hf
    refine zcallV (ci := 6) (q0 := 0) (As := [.int (fX7_outside p1 (1 : Int32) (300 : Int32))]) (rest := []) (wr := []) (ws' := cMn K a0 a1 a2 a3 a4 a5 a6 a7 a8 a9 a10 a11 a12 a13 a14 a15 a16 a17 a18 a19 a20 a21 a22 a23 a24 a25 a26 a27 a28 a29 a30 a31 a32 a33 a34 a35 a36 u9.2) (ov := some (.int u9.1)) X hh hl (kX7_refuse l K a0 a1 a2 a3 a4 a5 a6 a7 a8 a9 a10 a11 a12 a13 a14 a15 a16 a17 a18 a19 a20 a21 a22 a23 a24 a25 a26 a27 a28 a29 a30 a31 a32 a33 a34 a35 a36 S (fX7_outside p1 (1 : Int32) (300 : Int32)) u9 hu9) (fun ht => cwV 1 ht gX7_more_X7_refuse rfl rfl rfl ⟨rfl, hdX7_refuse⟩ ⟨Nat.le_of_ble_eq_true rfl, Nat.le_of_ble_eq_true rfl⟩) [0, 1, 2, 3, 4, 5, 6, 7, 8, 9, 10, 11, 12, 13, 14, 15, 16, 17, 18, 19, 20, 21, 22, 23, 24, 25, 26, 27, 28, 29, 30, 31, 32, 33, 34, 35, 36] [] [0, 1, 2, 3, 4, 5, 6, 7, 8, 9, 10, 11, 12, 13, 14, 15, 16, 17, 18, 19, 20, 21, 22, 23, 24, 25, 26, 27, 28, 29, 30, 31, 32, 33, 34, 35, 36] rfl rfl rfl rfl (by decide) rfl rfl rfl rfl rfl rfl (Nat.le_of_ble_eq_true rfl) dX7_more_15 ⟨Nat.zero_le _, Nat.zero_le _⟩ (fun H locs hh => ?_)
    exact hr2 18 ls H locs u9.1 u9.2 hf dX7_more_18 hh
theorem inX7_orders_X7 : ∀ w ∈ wsX70, w ∈ wsX7_orders := by decide +kernel
theorem mmX7_orders_0 : Cond.fieldLink RX7 46 "SumOfTwoThatStand" "comings" "LSumOfTwoThatStand$Orders;" ∈ wsX7_orders := by decide +kernel
theorem mmX7_orders_1 : Cond.fieldLink RX7 10 "SumOfTwoThatStand" "live" "LSumOfTwoThatStand$Street;" ∈ wsX7_orders := by decide +kernel
theorem hdX7_orders : yX7_orders.cls ≠ "java/lang/invoke/MethodHandle" ∧ yX7_orders.cls ≠ "java/lang/invoke/VarHandle" ∧ (parseMethodDescriptor yX7_orders.desc).map (fun d => d.parameters.length) = some 0 := by decide +kernel
set_option maxHeartbeats 4000000 in
set_option maxRecDepth 100000 in
theorem kX7_orders (l : Launch) (K : zK) (a0 a1 a2 a3 a4 a5 a6 a7 a8 a9 a10 a11 a12 a13 a14 a15 a16 a17 a18 a19 a20 a21 a22 a23 a24 a25 a26 a27 a28 a29 a30 a31 a32 a33 a34 a35 a36 : Nat) (S : zMn) (R : Int32 × zMn) (hf : fX7_orders S = some R) : zC l yX7_orders wsX7_orders ({ frames := 6, cells := 0, slots := 0, locals := 134 } : Room) K [.ref a0] (cMn K a0 a1 a2 a3 a4 a5 a6 a7 a8 a9 a10 a11 a12 a13 a14 a15 a16 a17 a18 a19 a20 a21 a22 a23 a24 a25 a26 a27 a28 a29 a30 a31 a32 a33 a34 a35 a36 S) (some (.int R.1)) (cMn K a0 a1 a2 a3 a4 a5 a6 a7 a8 a9 a10 a11 a12 a13 a14 a15 a16 a17 a18 a19 a20 a21 a22 a23 a24 a25 a26 a27 a28 a29 a30 a31 a32 a33 a34 a35 a36 R.2) := by
  refine zC_i R.1 (cc := cX7_orders) (maxL := 1) (by decide +kernel) rfl (Nat.le_of_ble_eq_true rfl) rfl rfl ?_
  intro p e s m below meth c Q A X hret ls hl hh
  have X : zX p m c cX7_orders 1 s ([.ref a0] : List Value).toArray wsX7_orders RX7 K A := X
  have hx := X.1.1
  have hb := X.1.2.1
  have hr2 : ∀ (pc : Nat) (ls : Array Slot) (H : Heap) (locs : List Loc) (v : Int32) (S : zMn), some (v, S) = some R → decode cX7_orders pc = .ok (.ireturn, 1) → zW K A s H locs (cMn K a0 a1 a2 a3 a4 a5 a6 a7 a8 a9 a10 a11 a12 a13 a14 a15 a16 a17 a18 a19 a20 a21 a22 a23 a24 a25 a26 a27 a28 a29 a30 a31 a32 a33 a34 a35 a36 S) → W p l e ({ frames := 6, cells := 0, slots := 0, locals := 134 } : Room) s m ([.ref a0] : List Value).toArray below meth c H locs 0 0 Q (F0 m pc ls [.int v]) := by
    intro pc ls H locs v S h hd hh
    cases h; exact hret pc ls H locs _ rfl hd hh
  have hl : lv_has ls 1 [(0, .ref a0)] := hl
  unfold fX7_orders at hf
  refine (fun (hmain : ∀ (H : Heap) (locs : List Loc), zW K A s H locs (cMn K a0 a1 a2 a3 a4 a5 a6 a7 a8 a9 a10 a11 a12 a13 a14 a15 a16 a17 a18 a19 a20 a21 a22 a23 a24 a25 a26 a27 a28 a29 a30 a31 a32 a33 a34 a35 a36 S) → W p l e ({ frames := 6, cells := 0, slots := 0, locals := 134 } : Room) s m ([.ref a0] : List Value).toArray below meth c H locs 0 0 Q (F0 m 0 ls [])) => hmain s.heap [] hh) (fun H locs hh => ?_)
  refine lv_aload_n hx hb dX7_orders_0 rfl (lv_at hl 0 rfl) ?_
  refine zget (v := .ref a32) (ref := "SumOfTwoThatStand") (C := RX7) (T := TX7) (N := 10) (index := 46) X hh inX7_orders_X7 0 rfl rfl 6 (by decide) mmX7_orders_0 rfl rfl dX7_orders_1 ?_
  refine lv_aload_n hx hb dX7_orders_4 rfl (lv_at hl 0 rfl) ?_
  refine zget (v := .ref a1) (ref := "SumOfTwoThatStand") (C := RX7) (T := TX7) (N := 10) (index := 10) X hh inX7_orders_X7 0 rfl rfl 0 (by decide) mmX7_orders_1 rfl rfl dX7_orders_5 ?_
  obtain ⟨u1, hu1, hf⟩ := ob_bind hf
  refine zcallV (ci := 3) (q0 := 32) (As := [.ref a1]) (rest := []) (wr := zsel (cMn K a0 a1 a2 a3 a4 a5 a6 a7 a8 a9 a10 a11 a12 a13 a14 a15 a16 a17 a18 a19 a20 a21 a22 a23 a24 a25 a26 a27 a28 a29 a30 a31 a32 a33 a34 a35 a36 S) [0, 9, 10, 11, 12, 13, 14, 15, 16, 17, 18, 19, 20, 21, 22, 23, 24, 25, 26, 27, 28, 29, 30, 31, 34, 35, 36]) (ws' := cMn K a0 a1 a2 a3 a4 a5 a6 a7 a8 a9 a10 a11 a12 a13 a14 a15 a16 a17 a18 a19 a20 a21 a22 a23 a24 a25 a26 a27 a28 a29 a30 a31 a32 a33 a34 a35 a36 (mn_set_comings S u1.2)) (ov := some (.int u1.1)) X hh hl (kX3_of l K a32 a33 a1 a2 a3 a4 a5 a6 a7 a8 (mn_comings S) (mn_live S) u1 hu1) (fun ht => cwV 1 ht gX7_orders_X3_of rfl rfl rfl ⟨rfl, hdX3_of⟩ ⟨Nat.le_of_ble_eq_true rfl, Nat.le_of_ble_eq_true rfl⟩) [32, 33, 1, 2, 3, 4, 5, 6, 7, 8] [0, 9, 10, 11, 12, 13, 14, 15, 16, 17, 18, 19, 20, 21, 22, 23, 24, 25, 26, 27, 28, 29, 30, 31, 34, 35, 36] [0, 29, 30, 31, 32, 33, 34, 35, 36, 1, 2, 3, 4, 5, 6, 7, 8, 9, 10, 11, 12, 13, 14, 15, 16, 17, 18, 19, 20, 21, 22, 23, 27, 28, 24, 25, 26] rfl rfl rfl rfl (by decide) rfl rfl rfl rfl rfl rfl (Nat.le_of_ble_eq_true rfl) dX7_orders_8 ⟨Nat.zero_le _, Nat.zero_le _⟩ (fun H locs hh => ?_)
  exact hr2 11 ls H locs u1.1 (mn_set_comings S u1.2) hf dX7_orders_11 hh
theorem inX7_game_X7 : ∀ w ∈ wsX70, w ∈ wsX7_game := by decide +kernel
theorem mmX7_game_0 : Cond.fieldLink RX7 53 "SumOfTwoThatStand" "builders" "LSumOfTwoThatStand$Game;" ∈ wsX7_game := by decide +kernel
theorem hdX7_game : yX7_game.cls ≠ "java/lang/invoke/MethodHandle" ∧ yX7_game.cls ≠ "java/lang/invoke/VarHandle" ∧ (parseMethodDescriptor yX7_game.desc).map (fun d => d.parameters.length) = some 1 := by decide +kernel
set_option maxHeartbeats 4000000 in
set_option maxRecDepth 100000 in
theorem kX7_game (l : Launch) (K : zK) (a0 a1 a2 a3 a4 a5 a6 a7 a8 a9 a10 a11 a12 a13 a14 a15 a16 a17 a18 a19 a20 a21 a22 a23 a24 a25 a26 a27 a28 a29 a30 a31 a32 a33 a34 a35 a36 : Nat) (S : zMn) (p1 : Int32) (R : Int32 × zMn) (hf : fX7_game S p1 = some R) : zC l yX7_game wsX7_game ({ frames := 3, cells := 0, slots := 0, locals := 70 } : Room) K [.ref a0, .int p1] (cMn K a0 a1 a2 a3 a4 a5 a6 a7 a8 a9 a10 a11 a12 a13 a14 a15 a16 a17 a18 a19 a20 a21 a22 a23 a24 a25 a26 a27 a28 a29 a30 a31 a32 a33 a34 a35 a36 S) (some (.int R.1)) (cMn K a0 a1 a2 a3 a4 a5 a6 a7 a8 a9 a10 a11 a12 a13 a14 a15 a16 a17 a18 a19 a20 a21 a22 a23 a24 a25 a26 a27 a28 a29 a30 a31 a32 a33 a34 a35 a36 R.2) := by
  refine zC_i R.1 (cc := cX7_game) (maxL := 3) (by decide +kernel) rfl (Nat.le_of_ble_eq_true rfl) rfl rfl ?_
  intro p e s m below meth c Q A X hret ls hl hh
  have X : zX p m c cX7_game 3 s ([.ref a0, .int p1] : List Value).toArray wsX7_game RX7 K A := X
  have hx := X.1.1
  have hb := X.1.2.1
  have hr2 : ∀ (pc : Nat) (ls : Array Slot) (H : Heap) (locs : List Loc) (v : Int32) (S : zMn), some (v, S) = some R → decode cX7_game pc = .ok (.ireturn, 1) → zW K A s H locs (cMn K a0 a1 a2 a3 a4 a5 a6 a7 a8 a9 a10 a11 a12 a13 a14 a15 a16 a17 a18 a19 a20 a21 a22 a23 a24 a25 a26 a27 a28 a29 a30 a31 a32 a33 a34 a35 a36 S) → W p l e ({ frames := 3, cells := 0, slots := 0, locals := 70 } : Room) s m ([.ref a0, .int p1] : List Value).toArray below meth c H locs 0 0 Q (F0 m pc ls [.int v]) := by
    intro pc ls H locs v S h hd hh
    cases h; exact hret pc ls H locs _ rfl hd hh
  have hl : lv_has ls 3 [(0, .ref a0), (1, .int p1)] := hl
  unfold fX7_game at hf
  refine (fun (hmain : ∀ (H : Heap) (locs : List Loc), zW K A s H locs (cMn K a0 a1 a2 a3 a4 a5 a6 a7 a8 a9 a10 a11 a12 a13 a14 a15 a16 a17 a18 a19 a20 a21 a22 a23 a24 a25 a26 a27 a28 a29 a30 a31 a32 a33 a34 a35 a36 S) → W p l e ({ frames := 3, cells := 0, slots := 0, locals := 70 } : Room) s m ([.ref a0, .int p1] : List Value).toArray below meth c H locs 0 0 Q (F0 m 0 ls [])) => hmain s.heap [] hh) (fun H locs hh => ?_)
  refine lv_iload_n hx hb dX7_game_0 rfl (lv_at hl 1 rfl) ?_
  refine lv_iconst (v := (2 : Int32)) hx hb dX7_game_1 (by decide) ?_
  refine lv_bipush (v := (12 : Int32)) hx hb dX7_game_2 (by decide) ?_
  refine zcallS (As := [.int p1, .int (2 : Int32), .int (12 : Int32)]) (rest := []) (wr := cMn K a0 a1 a2 a3 a4 a5 a6 a7 a8 a9 a10 a11 a12 a13 a14 a15 a16 a17 a18 a19 a20 a21 a22 a23 a24 a25 a26 a27 a28 a29 a30 a31 a32 a33 a34 a35 a36 S) (ws' := cMn K a0 a1 a2 a3 a4 a5 a6 a7 a8 a9 a10 a11 a12 a13 a14 a15 a16 a17 a18 a19 a20 a21 a22 a23 a24 a25 a26 a27 a28 a29 a30 a31 a32 a33 a34 a35 a36 S) (ov := some (.int (fX7_outside p1 (2 : Int32) (12 : Int32)))) X hh hl (kX7_outside l K p1 (2 : Int32) (12 : Int32) (fX7_outside p1 (2 : Int32) (12 : Int32)) rfl) (fun ht => va_cwS 3 ht gX7_game_X7_outside rfl rfl rfl hdX7_outside ⟨Nat.le_of_ble_eq_true rfl, Nat.le_of_ble_eq_true rfl⟩) [] [0, 1, 2, 3, 4, 5, 6, 7, 8, 9, 10, 11, 12, 13, 14, 15, 16, 17, 18, 19, 20, 21, 22, 23, 24, 25, 26, 27, 28, 29, 30, 31, 32, 33, 34, 35, 36] [0, 1, 2, 3, 4, 5, 6, 7, 8, 9, 10, 11, 12, 13, 14, 15, 16, 17, 18, 19, 20, 21, 22, 23, 24, 25, 26, 27, 28, 29, 30, 31, 32, 33, 34, 35, 36] rfl rfl rfl rfl (by decide) rfl rfl rfl rfl (Nat.le_of_ble_eq_true rfl) dX7_game_4 ⟨Nat.zero_le _, Nat.zero_le _⟩ (fun H locs hh => ?_)
  refine lv_istore_n (lv' := [(2, .int (fX7_outside p1 (2 : Int32) (12 : Int32))), (0, .ref a0), (1, .int p1)]) hx hb dX7_game_7 rfl hl (by decide) rfl (fun ls hl => ?_)
  refine lv_iload_n hx hb dX7_game_8 rfl (lv_at hl 0 rfl) ?_
  refine lv_if_eq (tgt := 18) hx hb dX7_game_9 (by decide) (fun c2 => ?_) (fun c2 => ?_)
  · replace hf := (if_pos c2).symm.trans hf
    refine lv_aload_n hx hb dX7_game_18 rfl (lv_at hl 1 rfl) ?_
    refine zget (v := .ref a34) (ref := "SumOfTwoThatStand") (C := RX7) (T := TX7) (N := 10) (index := 53) X hh inX7_game_X7 0 rfl rfl 7 (by decide) mmX7_game_0 rfl rfl dX7_game_19 ?_
    refine lv_iload_n hx hb dX7_game_22 rfl (lv_at hl 2 rfl) ?_
    obtain ⟨u3, hu3, hf⟩ := ob_bind hf
    refine zcallV (ci := 1) (q0 := 34) (As := [.int p1]) (rest := []) (wr := zsel (cMn K a0 a1 a2 a3 a4 a5 a6 a7 a8 a9 a10 a11 a12 a13 a14 a15 a16 a17 a18 a19 a20 a21 a22 a23 a24 a25 a26 a27 a28 a29 a30 a31 a32 a33 a34 a35 a36 S) [0, 1, 2, 3, 4, 5, 6, 7, 8, 9, 10, 11, 12, 13, 14, 15, 16, 17, 18, 19, 20, 21, 22, 23, 24, 25, 26, 27, 28, 29, 30, 31, 32, 33, 36]) (ws' := cMn K a0 a1 a2 a3 a4 a5 a6 a7 a8 a9 a10 a11 a12 a13 a14 a15 a16 a17 a18 a19 a20 a21 a22 a23 a24 a25 a26 a27 a28 a29 a30 a31 a32 a33 a34 a35 a36 (mn_set_builders S u3.2)) (ov := some (.int u3.1)) X hh hl (kX1_isWonByFirst l K a34 a35 (mn_builders S) p1 u3 hu3) (fun ht => cwV 1 ht gX7_game_X1_isWonByFirst rfl rfl rfl ⟨rfl, hdX1_isWonByFirst⟩ ⟨Nat.le_of_ble_eq_true rfl, Nat.le_of_ble_eq_true rfl⟩) [34, 35] [0, 1, 2, 3, 4, 5, 6, 7, 8, 9, 10, 11, 12, 13, 14, 15, 16, 17, 18, 19, 20, 21, 22, 23, 24, 25, 26, 27, 28, 29, 30, 31, 32, 33, 36] [0, 1, 2, 3, 4, 5, 6, 7, 8, 9, 10, 11, 12, 13, 14, 15, 16, 17, 18, 19, 20, 21, 22, 23, 24, 25, 26, 27, 28, 29, 30, 31, 32, 33, 35, 36, 34] rfl rfl rfl rfl (by decide) rfl rfl rfl rfl rfl rfl (Nat.le_of_ble_eq_true rfl) dX7_game_23 ⟨Nat.zero_le _, Nat.zero_le _⟩ (fun H locs hh => ?_)
    refine lv_if_eq (tgt := 33) hx hb dX7_game_26 (by decide) (fun c4 => ?_) (fun c4 => ?_)
    · replace hf := (if_pos c4).symm.trans hf
      refine lv_iconst (v := (0 : Int32)) hx hb dX7_game_33 (by decide) ?_
      exact hr2 34 ls H locs (0 : Int32) (mn_set_builders S u3.2) hf dX7_game_34 hh
    · replace hf := (if_neg c4).symm.trans hf
      refine lv_iconst (v := (1 : Int32)) hx hb dX7_game_29 (by decide) ?_
      refine lv_goto (tgt := 34) hx hb dX7_game_30 (by decide) ?_
      exact hr2 34 ls H locs (1 : Int32) (mn_set_builders S u3.2) hf dX7_game_34 hh
  · replace hf := (if_neg c2).symm.trans hf
    refine lv_aload_n hx hb dX7_game_12 rfl (lv_at hl 1 rfl) ?_
    refine lv_iload_n hx hb dX7_game_13 rfl (lv_at hl 0 rfl) ?_
    obtain ⟨u5, hu5, hf⟩ := ob_bind hf
    refine zcallV (ci := 6) (q0 := 0) (As := [.int (fX7_outside p1 (2 : Int32) (12 : Int32))]) (rest := []) (wr := []) (ws' := cMn K a0 a1 a2 a3 a4 a5 a6 a7 a8 a9 a10 a11 a12 a13 a14 a15 a16 a17 a18 a19 a20 a21 a22 a23 a24 a25 a26 a27 a28 a29 a30 a31 a32 a33 a34 a35 a36 u5.2) (ov := some (.int u5.1)) X hh hl (kX7_refuse l K a0 a1 a2 a3 a4 a5 a6 a7 a8 a9 a10 a11 a12 a13 a14 a15 a16 a17 a18 a19 a20 a21 a22 a23 a24 a25 a26 a27 a28 a29 a30 a31 a32 a33 a34 a35 a36 S (fX7_outside p1 (2 : Int32) (12 : Int32)) u5 hu5) (fun ht => cwV 1 ht gX7_game_X7_refuse rfl rfl rfl ⟨rfl, hdX7_refuse⟩ ⟨Nat.le_of_ble_eq_true rfl, Nat.le_of_ble_eq_true rfl⟩) [0, 1, 2, 3, 4, 5, 6, 7, 8, 9, 10, 11, 12, 13, 14, 15, 16, 17, 18, 19, 20, 21, 22, 23, 24, 25, 26, 27, 28, 29, 30, 31, 32, 33, 34, 35, 36] [] [0, 1, 2, 3, 4, 5, 6, 7, 8, 9, 10, 11, 12, 13, 14, 15, 16, 17, 18, 19, 20, 21, 22, 23, 24, 25, 26, 27, 28, 29, 30, 31, 32, 33, 34, 35, 36] rfl rfl rfl rfl (by decide) rfl rfl rfl rfl rfl rfl (Nat.le_of_ble_eq_true rfl) dX7_game_14 ⟨Nat.zero_le _, Nat.zero_le _⟩ (fun H locs hh => ?_)
    exact hr2 17 ls H locs u5.1 u5.2 hf dX7_game_17 hh
theorem inX7_row_X7 : ∀ w ∈ wsX70, w ∈ wsX7_row := by decide +kernel
theorem mmX7_row_0 : Cond.fieldLink RX7 32 "SumOfTwoThatStand" "told" "LSumOfTwoThatStand$Row;" ∈ wsX7_row := by decide +kernel
theorem hdX7_row : yX7_row.cls ≠ "java/lang/invoke/MethodHandle" ∧ yX7_row.cls ≠ "java/lang/invoke/VarHandle" ∧ (parseMethodDescriptor yX7_row.desc).map (fun d => d.parameters.length) = some 1 := by decide +kernel
set_option maxHeartbeats 4000000 in
set_option maxRecDepth 100000 in
theorem kX7_row (l : Launch) (K : zK) (a0 a1 a2 a3 a4 a5 a6 a7 a8 a9 a10 a11 a12 a13 a14 a15 a16 a17 a18 a19 a20 a21 a22 a23 a24 a25 a26 a27 a28 a29 a30 a31 a32 a33 a34 a35 a36 : Nat) (S : zMn) (p1 : Int32) (R : Int32 × zMn) (hf : fX7_row S p1 = some R) : zC l yX7_row wsX7_row ({ frames := 2, cells := 0, slots := 0, locals := 41 } : Room) K [.ref a0, .int p1] (cMn K a0 a1 a2 a3 a4 a5 a6 a7 a8 a9 a10 a11 a12 a13 a14 a15 a16 a17 a18 a19 a20 a21 a22 a23 a24 a25 a26 a27 a28 a29 a30 a31 a32 a33 a34 a35 a36 S) (some (.int R.1)) (cMn K a0 a1 a2 a3 a4 a5 a6 a7 a8 a9 a10 a11 a12 a13 a14 a15 a16 a17 a18 a19 a20 a21 a22 a23 a24 a25 a26 a27 a28 a29 a30 a31 a32 a33 a34 a35 a36 R.2) := by
  refine zC_i R.1 (cc := cX7_row) (maxL := 3) (by decide +kernel) rfl (Nat.le_of_ble_eq_true rfl) rfl rfl ?_
  intro p e s m below meth c Q A X hret ls hl hh
  have X : zX p m c cX7_row 3 s ([.ref a0, .int p1] : List Value).toArray wsX7_row RX7 K A := X
  have hx := X.1.1
  have hb := X.1.2.1
  have hr2 : ∀ (pc : Nat) (ls : Array Slot) (H : Heap) (locs : List Loc) (v : Int32) (S : zMn), some (v, S) = some R → decode cX7_row pc = .ok (.ireturn, 1) → zW K A s H locs (cMn K a0 a1 a2 a3 a4 a5 a6 a7 a8 a9 a10 a11 a12 a13 a14 a15 a16 a17 a18 a19 a20 a21 a22 a23 a24 a25 a26 a27 a28 a29 a30 a31 a32 a33 a34 a35 a36 S) → W p l e ({ frames := 2, cells := 0, slots := 0, locals := 41 } : Room) s m ([.ref a0, .int p1] : List Value).toArray below meth c H locs 0 0 Q (F0 m pc ls [.int v]) := by
    intro pc ls H locs v S h hd hh
    cases h; exact hret pc ls H locs _ rfl hd hh
  have hl : lv_has ls 3 [(0, .ref a0), (1, .int p1)] := hl
  have hJ26 : ∀ (v1 : Int32) (v2 : Int32) (S : zMn), ∀ (H : Heap) (locs : List Loc) (ls : Array Slot), fX7_row_j26 v1 v2 S = some R → lv_has ls 3 [(0, .ref a0), (1, .int v1), (2, .int v2)] → zW K A s H locs (cMn K a0 a1 a2 a3 a4 a5 a6 a7 a8 a9 a10 a11 a12 a13 a14 a15 a16 a17 a18 a19 a20 a21 a22 a23 a24 a25 a26 a27 a28 a29 a30 a31 a32 a33 a34 a35 a36 S) → W p l e ({ frames := 2, cells := 0, slots := 0, locals := 41 } : Room) s m ([.ref a0, .int p1] : List Value).toArray below meth c H locs 0 0 Q (F0 m 26 ls []) := by
    intro v1 v2 S H locs ls hf hl hh
    unfold fX7_row_j26 at hf
    refine lv_iload_n hx hb dX7_row_26 rfl (lv_at hl 2 rfl) ?_
    refine lv_if_eq (tgt := 38) hx hb dX7_row_27 (by decide) (fun c1 => ?_) (fun c1 => ?_)
    · replace hf := (if_pos c1).symm.trans hf
      refine lv_aload_n hx hb dX7_row_38 rfl (lv_at hl 0 rfl) ?_
      refine zget (v := .ref a28) (ref := "SumOfTwoThatStand") (C := RX7) (T := TX7) (N := 10) (index := 32) X hh inX7_row_X7 0 rfl rfl 4 (by decide) mmX7_row_0 rfl rfl dX7_row_39 ?_
      refine lv_iload_n hx hb dX7_row_42 rfl (lv_at hl 1 rfl) ?_
      obtain ⟨u2, hu2, hf⟩ := ob_bind hf
      refine zcallU (owner := "SumOfTwoThatStand$Told") (x := ⟨"SumOfTwoThatStand$Row", "take", "(I)I"⟩) (ci := 4) (q0 := 28) (As := [.int v1]) (rest := []) (wr := zsel (cMn K a0 a1 a2 a3 a4 a5 a6 a7 a8 a9 a10 a11 a12 a13 a14 a15 a16 a17 a18 a19 a20 a21 a22 a23 a24 a25 a26 a27 a28 a29 a30 a31 a32 a33 a34 a35 a36 S) [0, 1, 2, 3, 4, 5, 6, 7, 8, 9, 10, 11, 12, 13, 14, 15, 16, 17, 18, 19, 20, 21, 22, 23, 24, 25, 26, 27, 30, 31, 32, 33, 34, 35, 36]) (ws' := cMn K a0 a1 a2 a3 a4 a5 a6 a7 a8 a9 a10 a11 a12 a13 a14 a15 a16 a17 a18 a19 a20 a21 a22 a23 a24 a25 a26 a27 a28 a29 a30 a31 a32 a33 a34 a35 a36 (mn_set_told S u2.2)) (ov := some (.int u2.1)) X hh hl (kX6_take_R l K a28 a29 (mn_told S) v1 u2 hu2) (fun ht => va_cwU 1 ht gX7_row_X6_take_u199X4 rfl rfl rfl rfl hdX6_take ⟨Nat.le_of_ble_eq_true rfl, Nat.le_of_ble_eq_true rfl⟩) [28, 29] [0, 1, 2, 3, 4, 5, 6, 7, 8, 9, 10, 11, 12, 13, 14, 15, 16, 17, 18, 19, 20, 21, 22, 23, 24, 25, 26, 27, 30, 31, 32, 33, 34, 35, 36] [0, 1, 2, 3, 4, 5, 6, 7, 8, 9, 10, 11, 12, 13, 14, 15, 16, 17, 18, 19, 20, 21, 22, 23, 24, 25, 26, 27, 35, 36, 28, 29, 30, 31, 32, 33, 34] rfl rfl rfl rfl (by decide) rfl rfl rfl rfl rfl rfl (Nat.le_of_ble_eq_true rfl) dX7_row_43 ⟨Nat.zero_le _, Nat.zero_le _⟩ (fun H locs hh => ?_)
      exact hr2 46 ls H locs u2.1 (mn_set_told S u2.2) hf dX7_row_46 hh
    · replace hf := (if_neg c1).symm.trans hf
      refine lv_aload_n hx hb dX7_row_30 rfl (lv_at hl 0 rfl) ?_
      refine lv_iload_n hx hb dX7_row_31 rfl (lv_at hl 2 rfl) ?_
      obtain ⟨u3, hu3, hf⟩ := ob_bind hf
      refine zcallV (ci := 6) (q0 := 0) (As := [.int v2]) (rest := []) (wr := []) (ws' := cMn K a0 a1 a2 a3 a4 a5 a6 a7 a8 a9 a10 a11 a12 a13 a14 a15 a16 a17 a18 a19 a20 a21 a22 a23 a24 a25 a26 a27 a28 a29 a30 a31 a32 a33 a34 a35 a36 u3.2) (ov := some (.int u3.1)) X hh hl (kX7_refuse l K a0 a1 a2 a3 a4 a5 a6 a7 a8 a9 a10 a11 a12 a13 a14 a15 a16 a17 a18 a19 a20 a21 a22 a23 a24 a25 a26 a27 a28 a29 a30 a31 a32 a33 a34 a35 a36 S v2 u3 hu3) (fun ht => cwV 1 ht gX7_row_X7_refuse rfl rfl rfl ⟨rfl, hdX7_refuse⟩ ⟨Nat.le_of_ble_eq_true rfl, Nat.le_of_ble_eq_true rfl⟩) [0, 1, 2, 3, 4, 5, 6, 7, 8, 9, 10, 11, 12, 13, 14, 15, 16, 17, 18, 19, 20, 21, 22, 23, 24, 25, 26, 27, 28, 29, 30, 31, 32, 33, 34, 35, 36] [] [0, 1, 2, 3, 4, 5, 6, 7, 8, 9, 10, 11, 12, 13, 14, 15, 16, 17, 18, 19, 20, 21, 22, 23, 24, 25, 26, 27, 28, 29, 30, 31, 32, 33, 34, 35, 36] rfl rfl rfl rfl (by decide) rfl rfl rfl rfl rfl rfl (Nat.le_of_ble_eq_true rfl) dX7_row_32 ⟨Nat.zero_le _, Nat.zero_le _⟩ (fun H locs hh => ?_)
      refine lv_goto (tgt := 46) hx hb dX7_row_35 (by decide) ?_
      exact hr2 46 ls H locs u3.1 u3.2 hf dX7_row_46 hh
  unfold fX7_row at hf
  refine (fun (hmain : ∀ (H : Heap) (locs : List Loc), zW K A s H locs (cMn K a0 a1 a2 a3 a4 a5 a6 a7 a8 a9 a10 a11 a12 a13 a14 a15 a16 a17 a18 a19 a20 a21 a22 a23 a24 a25 a26 a27 a28 a29 a30 a31 a32 a33 a34 a35 a36 S) → W p l e ({ frames := 2, cells := 0, slots := 0, locals := 41 } : Room) s m ([.ref a0, .int p1] : List Value).toArray below meth c H locs 0 0 Q (F0 m 0 ls [])) => hmain s.heap [] hh) (fun H locs hh => ?_)
  refine lv_iload_n hx hb dX7_row_0 rfl (lv_at hl 1 rfl) ?_
  refine lv_iconst (v := (1 : Int32)) hx hb dX7_row_1 (by decide) ?_
  refine lv_sipush (v := (9999 : Int32)) hx hb dX7_row_2 (by decide) ?_
  refine zcallS (As := [.int p1, .int (1 : Int32), .int (9999 : Int32)]) (rest := []) (wr := cMn K a0 a1 a2 a3 a4 a5 a6 a7 a8 a9 a10 a11 a12 a13 a14 a15 a16 a17 a18 a19 a20 a21 a22 a23 a24 a25 a26 a27 a28 a29 a30 a31 a32 a33 a34 a35 a36 S) (ws' := cMn K a0 a1 a2 a3 a4 a5 a6 a7 a8 a9 a10 a11 a12 a13 a14 a15 a16 a17 a18 a19 a20 a21 a22 a23 a24 a25 a26 a27 a28 a29 a30 a31 a32 a33 a34 a35 a36 S) (ov := some (.int (fX7_outside p1 (1 : Int32) (9999 : Int32)))) X hh hl (kX7_outside l K p1 (1 : Int32) (9999 : Int32) (fX7_outside p1 (1 : Int32) (9999 : Int32)) rfl) (fun ht => va_cwS 3 ht gX7_row_X7_outside rfl rfl rfl hdX7_outside ⟨Nat.le_of_ble_eq_true rfl, Nat.le_of_ble_eq_true rfl⟩) [] [0, 1, 2, 3, 4, 5, 6, 7, 8, 9, 10, 11, 12, 13, 14, 15, 16, 17, 18, 19, 20, 21, 22, 23, 24, 25, 26, 27, 28, 29, 30, 31, 32, 33, 34, 35, 36] [0, 1, 2, 3, 4, 5, 6, 7, 8, 9, 10, 11, 12, 13, 14, 15, 16, 17, 18, 19, 20, 21, 22, 23, 24, 25, 26, 27, 28, 29, 30, 31, 32, 33, 34, 35, 36] rfl rfl rfl rfl (by decide) rfl rfl rfl rfl (Nat.le_of_ble_eq_true rfl) dX7_row_5 ⟨Nat.zero_le _, Nat.zero_le _⟩ (fun H locs hh => ?_)
  refine lv_istore_n (lv' := [(2, .int (fX7_outside p1 (1 : Int32) (9999 : Int32))), (0, .ref a0), (1, .int p1)]) hx hb dX7_row_8 rfl hl (by decide) rfl (fun ls hl => ?_)
  refine lv_iload_n hx hb dX7_row_9 rfl (lv_at hl 0 rfl) ?_
  refine lv_if_ne (tgt := 26) hx hb dX7_row_10 (by decide) (fun c5 => ?_) (fun c5 => ?_)
  · replace hf := (if_neg c5).symm.trans hf
    exact hJ26 p1 (fX7_outside p1 (1 : Int32) (9999 : Int32)) S H locs ls hf (lv_sub hl [1, 2, 0] rfl) hh
  · replace hf := (if_pos c5).symm.trans hf
    refine lv_aload_n hx hb dX7_row_13 rfl (lv_at hl 1 rfl) ?_
    refine zget (v := .ref a28) (ref := "SumOfTwoThatStand") (C := RX7) (T := TX7) (N := 10) (index := 32) X hh inX7_row_X7 0 rfl rfl 4 (by decide) mmX7_row_0 rfl rfl dX7_row_14 ?_
    refine zcallU (owner := "SumOfTwoThatStand$Told") (x := ⟨"SumOfTwoThatStand$Row", "hasRoom", "()Z"⟩) (ci := 4) (q0 := 28) (As := []) (rest := []) (wr := zsel (cMn K a0 a1 a2 a3 a4 a5 a6 a7 a8 a9 a10 a11 a12 a13 a14 a15 a16 a17 a18 a19 a20 a21 a22 a23 a24 a25 a26 a27 a28 a29 a30 a31 a32 a33 a34 a35 a36 S) [0, 1, 2, 3, 4, 5, 6, 7, 8, 9, 10, 11, 12, 13, 14, 15, 16, 17, 18, 19, 20, 21, 22, 23, 24, 25, 26, 27, 30, 31, 32, 33, 34, 35, 36]) (ws' := cMn K a0 a1 a2 a3 a4 a5 a6 a7 a8 a9 a10 a11 a12 a13 a14 a15 a16 a17 a18 a19 a20 a21 a22 a23 a24 a25 a26 a27 a28 a29 a30 a31 a32 a33 a34 a35 a36 S) (ov := some (.int (fX6_hasRoom_R (mn_told S)))) X hh hl (kX6_hasRoom_R l K a28 a29 (mn_told S) (fX6_hasRoom_R (mn_told S)) rfl) (fun ht => va_cwU 0 ht gX7_row_X6_hasRoom_u198X4 rfl rfl rfl rfl hdX6_hasRoom ⟨Nat.le_of_ble_eq_true rfl, Nat.le_of_ble_eq_true rfl⟩) [28, 29] [0, 1, 2, 3, 4, 5, 6, 7, 8, 9, 10, 11, 12, 13, 14, 15, 16, 17, 18, 19, 20, 21, 22, 23, 24, 25, 26, 27, 30, 31, 32, 33, 34, 35, 36] [0, 1, 2, 3, 4, 5, 6, 7, 8, 9, 10, 11, 12, 13, 14, 15, 16, 17, 18, 19, 20, 21, 22, 23, 24, 25, 26, 27, 35, 36, 28, 29, 30, 31, 32, 33, 34] rfl rfl rfl rfl (by decide) rfl rfl rfl rfl rfl rfl (Nat.le_of_ble_eq_true rfl) dX7_row_17 ⟨Nat.zero_le _, Nat.zero_le _⟩ (fun H locs hh => ?_)
    refine lv_if_ne (tgt := 26) hx hb dX7_row_20 (by decide) (fun c7 => ?_) (fun c7 => ?_)
    · replace hf := (if_neg c7).symm.trans hf
      exact hJ26 p1 (fX7_outside p1 (1 : Int32) (9999 : Int32)) S H locs ls hf (lv_sub hl [1, 2, 0] rfl) hh
    · replace hf := (if_pos c7).symm.trans hf
      refine lv_bipush (v := (-6 : Int32)) hx hb dX7_row_23 (by decide) ?_
      refine lv_istore_n (lv' := [(2, .int (-6 : Int32)), (0, .ref a0), (1, .int p1)]) hx hb dX7_row_25 rfl hl (by decide) rfl (fun ls hl => ?_)
      exact hJ26 p1 (-6 : Int32) S H locs ls hf (lv_sub hl [1, 2, 0] rfl) hh
theorem inX7_judge_X7 : ∀ w ∈ wsX70, w ∈ wsX7_judge := by decide +kernel
theorem mmX7_judge_0 : Cond.fieldLink RX7 32 "SumOfTwoThatStand" "told" "LSumOfTwoThatStand$Row;" ∈ wsX7_judge := by decide +kernel
theorem hdX7_judge : yX7_judge.cls ≠ "java/lang/invoke/MethodHandle" ∧ yX7_judge.cls ≠ "java/lang/invoke/VarHandle" ∧ (parseMethodDescriptor yX7_judge.desc).map (fun d => d.parameters.length) = some 0 := by decide +kernel
set_option maxHeartbeats 4000000 in
set_option maxRecDepth 100000 in
theorem kX7_judge (l : Launch) (K : zK) (a0 a1 a2 a3 a4 a5 a6 a7 a8 a9 a10 a11 a12 a13 a14 a15 a16 a17 a18 a19 a20 a21 a22 a23 a24 a25 a26 a27 a28 a29 a30 a31 a32 a33 a34 a35 a36 : Nat) (S : zMn) (R : Int32 × zMn) (hf : fX7_judge S = some R) : zC l yX7_judge wsX7_judge ({ frames := 3, cells := 0, slots := 0, locals := 66 } : Room) K [.ref a0] (cMn K a0 a1 a2 a3 a4 a5 a6 a7 a8 a9 a10 a11 a12 a13 a14 a15 a16 a17 a18 a19 a20 a21 a22 a23 a24 a25 a26 a27 a28 a29 a30 a31 a32 a33 a34 a35 a36 S) (some (.int R.1)) (cMn K a0 a1 a2 a3 a4 a5 a6 a7 a8 a9 a10 a11 a12 a13 a14 a15 a16 a17 a18 a19 a20 a21 a22 a23 a24 a25 a26 a27 a28 a29 a30 a31 a32 a33 a34 a35 a36 R.2) := by
  refine zC_i R.1 (cc := cX7_judge) (maxL := 2) (by decide +kernel) rfl (Nat.le_of_ble_eq_true rfl) rfl rfl ?_
  intro p e s m below meth c Q A X hret ls hl hh
  have X : zX p m c cX7_judge 2 s ([.ref a0] : List Value).toArray wsX7_judge RX7 K A := X
  have hx := X.1.1
  have hb := X.1.2.1
  have hr2 : ∀ (pc : Nat) (ls : Array Slot) (H : Heap) (locs : List Loc) (v : Int32) (S : zMn), some (v, S) = some R → decode cX7_judge pc = .ok (.ireturn, 1) → zW K A s H locs (cMn K a0 a1 a2 a3 a4 a5 a6 a7 a8 a9 a10 a11 a12 a13 a14 a15 a16 a17 a18 a19 a20 a21 a22 a23 a24 a25 a26 a27 a28 a29 a30 a31 a32 a33 a34 a35 a36 S) → W p l e ({ frames := 3, cells := 0, slots := 0, locals := 66 } : Room) s m ([.ref a0] : List Value).toArray below meth c H locs 0 0 Q (F0 m pc ls [.int v]) := by
    intro pc ls H locs v S h hd hh
    cases h; exact hret pc ls H locs _ rfl hd hh
  have hl : lv_has ls 2 [(0, .ref a0)] := hl
  unfold fX7_judge at hf
  refine (fun (hmain : ∀ (H : Heap) (locs : List Loc), zW K A s H locs (cMn K a0 a1 a2 a3 a4 a5 a6 a7 a8 a9 a10 a11 a12 a13 a14 a15 a16 a17 a18 a19 a20 a21 a22 a23 a24 a25 a26 a27 a28 a29 a30 a31 a32 a33 a34 a35 a36 S) → W p l e ({ frames := 3, cells := 0, slots := 0, locals := 66 } : Room) s m ([.ref a0] : List Value).toArray below meth c H locs 0 0 Q (F0 m 0 ls [])) => hmain s.heap [] hh) (fun H locs hh => ?_)
  refine lv_aload_n hx hb dX7_judge_0 rfl (lv_at hl 0 rfl) ?_
  refine zget (v := .ref a28) (ref := "SumOfTwoThatStand") (C := RX7) (T := TX7) (N := 10) (index := 32) X hh inX7_judge_X7 0 rfl rfl 4 (by decide) mmX7_judge_0 rfl rfl dX7_judge_1 ?_
  obtain ⟨u1, hu1, hf⟩ := ob_bind hf
  refine zcallV (ci := 4) (q0 := 28) (As := []) (rest := []) (wr := zsel (cMn K a0 a1 a2 a3 a4 a5 a6 a7 a8 a9 a10 a11 a12 a13 a14 a15 a16 a17 a18 a19 a20 a21 a22 a23 a24 a25 a26 a27 a28 a29 a30 a31 a32 a33 a34 a35 a36 S) [0, 1, 2, 3, 4, 5, 6, 7, 8, 9, 10, 11, 12, 13, 14, 15, 16, 17, 18, 19, 20, 21, 22, 23, 24, 25, 26, 27, 30, 31, 32, 33, 34, 35, 36]) (ws' := cMn K a0 a1 a2 a3 a4 a5 a6 a7 a8 a9 a10 a11 a12 a13 a14 a15 a16 a17 a18 a19 a20 a21 a22 a23 a24 a25 a26 a27 a28 a29 a30 a31 a32 a33 a34 a35 a36 S) (ov := some (.int u1)) X hh hl (kX4_firstWrong l K a28 a29 (mn_told S) u1 hu1) (fun ht => cwV 0 ht gX7_judge_X4_firstWrong rfl rfl rfl ⟨rfl, hdX4_firstWrong⟩ ⟨Nat.le_of_ble_eq_true rfl, Nat.le_of_ble_eq_true rfl⟩) [28, 29] [0, 1, 2, 3, 4, 5, 6, 7, 8, 9, 10, 11, 12, 13, 14, 15, 16, 17, 18, 19, 20, 21, 22, 23, 24, 25, 26, 27, 30, 31, 32, 33, 34, 35, 36] [0, 1, 2, 3, 4, 5, 6, 7, 8, 9, 10, 11, 12, 13, 14, 15, 16, 17, 18, 19, 20, 21, 22, 23, 24, 25, 26, 27, 35, 36, 28, 29, 30, 31, 32, 33, 34] rfl rfl rfl rfl (by decide) rfl rfl rfl rfl rfl rfl (Nat.le_of_ble_eq_true rfl) dX7_judge_4 ⟨Nat.zero_le _, Nat.zero_le _⟩ (fun H locs hh => ?_)
  refine lv_istore_n (lv' := [(1, .int u1), (0, .ref a0)]) hx hb dX7_judge_7 rfl hl (by decide) rfl (fun ls hl => ?_)
  refine lv_aload_n hx hb dX7_judge_8 rfl (lv_at hl 1 rfl) ?_
  refine zget (v := .ref a28) (ref := "SumOfTwoThatStand") (C := RX7) (T := TX7) (N := 10) (index := 32) X hh inX7_judge_X7 0 rfl rfl 4 (by decide) mmX7_judge_0 rfl rfl dX7_judge_9 ?_
  refine zcallU (owner := "SumOfTwoThatStand$Told") (x := ⟨"SumOfTwoThatStand$Row", "forget", "()V"⟩) (ci := 4) (q0 := 28) (As := []) (rest := []) (wr := zsel (cMn K a0 a1 a2 a3 a4 a5 a6 a7 a8 a9 a10 a11 a12 a13 a14 a15 a16 a17 a18 a19 a20 a21 a22 a23 a24 a25 a26 a27 a28 a29 a30 a31 a32 a33 a34 a35 a36 S) [0, 1, 2, 3, 4, 5, 6, 7, 8, 9, 10, 11, 12, 13, 14, 15, 16, 17, 18, 19, 20, 21, 22, 23, 24, 25, 26, 27, 30, 31, 32, 33, 34, 35, 36]) (ws' := cMn K a0 a1 a2 a3 a4 a5 a6 a7 a8 a9 a10 a11 a12 a13 a14 a15 a16 a17 a18 a19 a20 a21 a22 a23 a24 a25 a26 a27 a28 a29 a30 a31 a32 a33 a34 a35 a36 (mn_set_told S (fX6_forget_R (mn_told S)))) (ov := none) X hh hl (kX6_forget_R l K a28 a29 (mn_told S) (fX6_forget_R (mn_told S)) rfl) (fun ht => va_cwU 0 ht gX7_judge_X6_forget_u203X4 rfl rfl rfl rfl hdX6_forget ⟨Nat.le_of_ble_eq_true rfl, Nat.le_of_ble_eq_true rfl⟩) [28, 29] [0, 1, 2, 3, 4, 5, 6, 7, 8, 9, 10, 11, 12, 13, 14, 15, 16, 17, 18, 19, 20, 21, 22, 23, 24, 25, 26, 27, 30, 31, 32, 33, 34, 35, 36] [0, 1, 2, 3, 4, 5, 6, 7, 8, 9, 10, 11, 12, 13, 14, 15, 16, 17, 18, 19, 20, 21, 22, 23, 24, 25, 26, 27, 35, 36, 28, 29, 30, 31, 32, 33, 34] rfl rfl rfl rfl (by decide) rfl rfl rfl rfl rfl rfl (Nat.le_of_ble_eq_true rfl) dX7_judge_12 ⟨Nat.zero_le _, Nat.zero_le _⟩ (fun H locs hh => ?_)
  refine lv_iload_n hx hb dX7_judge_15 rfl (lv_at hl 0 rfl) ?_
  exact hr2 16 ls H locs u1 (mn_set_told S (fX6_forget_R (mn_told S))) hf dX7_judge_16 hh
theorem inX7_seeds_X7 : ∀ w ∈ wsX70, w ∈ wsX7_seeds := by decide +kernel
theorem mmX7_seeds_0 : Cond.fieldLink RX7 19 "SumOfTwoThatStand" "mind" "LSumOfTwoThatStand$Street;" ∈ wsX7_seeds := by decide +kernel
theorem mmX7_seeds_1 : Cond.fieldLink RX7 10 "SumOfTwoThatStand" "live" "LSumOfTwoThatStand$Street;" ∈ wsX7_seeds := by decide +kernel
theorem hdX7_seeds : yX7_seeds.cls ≠ "java/lang/invoke/MethodHandle" ∧ yX7_seeds.cls ≠ "java/lang/invoke/VarHandle" ∧ (parseMethodDescriptor yX7_seeds.desc).map (fun d => d.parameters.length) = some 3 := by decide +kernel
set_option maxHeartbeats 4000000 in
set_option maxRecDepth 100000 in
theorem kX7_seeds (l : Launch) (K : zK) (a0 a1 a2 a3 a4 a5 a6 a7 a8 a9 a10 a11 a12 a13 a14 a15 a16 a17 a18 a19 a20 a21 a22 a23 a24 a25 a26 a27 a28 a29 a30 a31 a32 a33 a34 a35 a36 : Nat) (S : zMn) (p1 : Int32) (p2 : Int32) (p3 : Int32) (R : Int32 × zMn) (hf : fX7_seeds S p1 p2 p3 = some R) : zC l yX7_seeds wsX7_seeds ({ frames := 5, cells := 0, slots := 0, locals := 117 } : Room) K [.ref a0, .int p1, .int p2, .int p3] (cMn K a0 a1 a2 a3 a4 a5 a6 a7 a8 a9 a10 a11 a12 a13 a14 a15 a16 a17 a18 a19 a20 a21 a22 a23 a24 a25 a26 a27 a28 a29 a30 a31 a32 a33 a34 a35 a36 S) (some (.int R.1)) (cMn K a0 a1 a2 a3 a4 a5 a6 a7 a8 a9 a10 a11 a12 a13 a14 a15 a16 a17 a18 a19 a20 a21 a22 a23 a24 a25 a26 a27 a28 a29 a30 a31 a32 a33 a34 a35 a36 R.2) := by
  refine zC_i R.1 (cc := cX7_seeds) (maxL := 5) (by decide +kernel) rfl (Nat.le_of_ble_eq_true rfl) rfl rfl ?_
  intro p e s m below meth c Q A X hret ls hl hh
  have X : zX p m c cX7_seeds 5 s ([.ref a0, .int p1, .int p2, .int p3] : List Value).toArray wsX7_seeds RX7 K A := X
  have hx := X.1.1
  have hb := X.1.2.1
  have hr2 : ∀ (pc : Nat) (ls : Array Slot) (H : Heap) (locs : List Loc) (v : Int32) (S : zMn), some (v, S) = some R → decode cX7_seeds pc = .ok (.ireturn, 1) → zW K A s H locs (cMn K a0 a1 a2 a3 a4 a5 a6 a7 a8 a9 a10 a11 a12 a13 a14 a15 a16 a17 a18 a19 a20 a21 a22 a23 a24 a25 a26 a27 a28 a29 a30 a31 a32 a33 a34 a35 a36 S) → W p l e ({ frames := 5, cells := 0, slots := 0, locals := 117 } : Room) s m ([.ref a0, .int p1, .int p2, .int p3] : List Value).toArray below meth c H locs 0 0 Q (F0 m pc ls [.int v]) := by
    intro pc ls H locs v S h hd hh
    cases h; exact hret pc ls H locs _ rfl hd hh
  have hl : lv_has ls 5 [(0, .ref a0), (1, .int p1), (2, .int p2), (3, .int p3)] := hl
  have hJ19 : ∀ (v1 : Int32) (v2 : Int32) (v3 : Int32) (t0 : Int32) (S : zMn), ∀ (H : Heap) (locs : List Loc) (ls : Array Slot), fX7_seeds_j19 v1 v2 v3 t0 S = some R → lv_has ls 5 [(0, .ref a0), (1, .int v1), (2, .int v2), (3, .int v3)] → zW K A s H locs (cMn K a0 a1 a2 a3 a4 a5 a6 a7 a8 a9 a10 a11 a12 a13 a14 a15 a16 a17 a18 a19 a20 a21 a22 a23 a24 a25 a26 a27 a28 a29 a30 a31 a32 a33 a34 a35 a36 S) → W p l e ({ frames := 5, cells := 0, slots := 0, locals := 117 } : Room) s m ([.ref a0, .int p1, .int p2, .int p3] : List Value).toArray below meth c H locs 0 0 Q (F0 m 19 ls [.int t0]) := by
    intro v1 v2 v3 t0 S H locs ls hf hl hh
    unfold fX7_seeds_j19 at hf
    refine lv_istore (lv' := [(4, .int t0), (0, .ref a0), (1, .int v1), (2, .int v2), (3, .int v3)]) hx hb dX7_seeds_19 hl (by decide) rfl (fun ls hl => ?_)
    refine lv_iload hx hb dX7_seeds_21 (lv_at hl 0 rfl) ?_
    refine lv_if_eq (tgt := 33) hx hb dX7_seeds_23 (by decide) (fun c1 => ?_) (fun c1 => ?_)
    · replace hf := (if_pos c1).symm.trans hf
      refine lv_aload_n hx hb dX7_seeds_33 rfl (lv_at hl 1 rfl) ?_
      refine zget (v := .ref a17) (ref := "SumOfTwoThatStand") (C := RX7) (T := TX7) (N := 10) (index := 19) X hh inX7_seeds_X7 0 rfl rfl 2 (by decide) mmX7_seeds_0 rfl rfl dX7_seeds_34 ?_
      refine lv_aload_n hx hb dX7_seeds_37 rfl (lv_at hl 1 rfl) ?_
      refine zget (v := .ref a1) (ref := "SumOfTwoThatStand") (C := RX7) (T := TX7) (N := 10) (index := 10) X hh inX7_seeds_X7 0 rfl rfl 0 (by decide) mmX7_seeds_1 rfl rfl dX7_seeds_38 ?_
      refine zcallV (ci := 5) (q0 := 17) (As := [.ref a1]) (rest := []) (wr := zsel (cMn K a0 a1 a2 a3 a4 a5 a6 a7 a8 a9 a10 a11 a12 a13 a14 a15 a16 a17 a18 a19 a20 a21 a22 a23 a24 a25 a26 a27 a28 a29 a30 a31 a32 a33 a34 a35 a36 S) [0, 9, 10, 11, 12, 13, 14, 15, 16, 25, 26, 27, 28, 29, 30, 31, 32, 33, 34, 35, 36]) (ws' := cMn K a0 a1 a2 a3 a4 a5 a6 a7 a8 a9 a10 a11 a12 a13 a14 a15 a16 a17 a18 a19 a20 a21 a22 a23 a24 a25 a26 a27 a28 a29 a30 a31 a32 a33 a34 a35 a36 (mn_set_mind S (fX5_become (mn_mind S) (mn_live S)))) (ov := none) X hh hl (kX5_become l K a17 a18 a19 a20 a21 a22 a23 a24 a1 a2 a3 a4 a5 a6 a7 a8 (mn_mind S) (mn_live S) (fX5_become (mn_mind S) (mn_live S)) rfl) (fun ht => cwV 1 ht gX7_seeds_X5_become rfl rfl rfl ⟨rfl, hdX5_become⟩ ⟨Nat.le_of_ble_eq_true rfl, Nat.le_of_ble_eq_true rfl⟩) [17, 18, 19, 20, 21, 22, 23, 24, 1, 2, 3, 4, 5, 6, 7, 8] [0, 9, 10, 11, 12, 13, 14, 15, 16, 25, 26, 27, 28, 29, 30, 31, 32, 33, 34, 35, 36] [0, 29, 30, 31, 32, 33, 34, 35, 36, 1, 2, 3, 4, 5, 6, 7, 8, 21, 22, 23, 24, 25, 26, 27, 28, 9, 10, 11, 12, 13, 14, 15, 16, 17, 18, 19, 20] rfl rfl rfl rfl (by decide) rfl rfl rfl rfl rfl rfl (Nat.le_of_ble_eq_true rfl) dX7_seeds_41 ⟨Nat.zero_le _, Nat.zero_le _⟩ (fun H locs hh => ?_)
      refine lv_aload_n hx hb dX7_seeds_44 rfl (lv_at hl 1 rfl) ?_
      refine zget (v := .ref a17) (ref := "SumOfTwoThatStand") (C := RX7) (T := TX7) (N := 10) (index := 19) X hh inX7_seeds_X7 0 rfl rfl 2 (by decide) mmX7_seeds_0 rfl rfl dX7_seeds_45 ?_
      refine lv_iload_n hx hb dX7_seeds_48 rfl (lv_at hl 2 rfl) ?_
      refine lv_iload_n hx hb dX7_seeds_49 rfl (lv_at hl 3 rfl) ?_
      obtain ⟨u3, hu3, hf⟩ := ob_bind hf
      refine zcallS (As := [.ref a17, .int v1, .int v2]) (rest := []) (wr := zsel (cMn K a0 a1 a2 a3 a4 a5 a6 a7 a8 a9 a10 a11 a12 a13 a14 a15 a16 a17 a18 a19 a20 a21 a22 a23 a24 a25 a26 a27 a28 a29 a30 a31 a32 a33 a34 a35 a36 (mn_set_mind S (fX5_become (mn_mind S) (mn_live S)))) [0, 1, 2, 3, 4, 5, 6, 7, 8, 9, 10, 11, 12, 13, 14, 15, 16, 25, 26, 27, 28, 29, 30, 31, 32, 33, 34, 35, 36]) (ws' := cMn K a0 a1 a2 a3 a4 a5 a6 a7 a8 a9 a10 a11 a12 a13 a14 a15 a16 a17 a18 a19 a20 a21 a22 a23 a24 a25 a26 a27 a28 a29 a30 a31 a32 a33 a34 a35 a36 (mn_set_mind S u3)) (ov := none) X hh hl (kX7_sow l K a17 a18 a19 a20 a21 a22 a23 a24 (fX5_become (mn_mind S) (mn_live S)) v1 v2 u3 hu3) (fun ht => va_cwS 3 ht gX7_seeds_X7_sow rfl rfl rfl hdX7_sow ⟨Nat.le_of_ble_eq_true rfl, Nat.le_of_ble_eq_true rfl⟩) [17, 18, 19, 20, 21, 22, 23, 24] [0, 1, 2, 3, 4, 5, 6, 7, 8, 9, 10, 11, 12, 13, 14, 15, 16, 25, 26, 27, 28, 29, 30, 31, 32, 33, 34, 35, 36] [0, 1, 2, 3, 4, 5, 6, 7, 8, 9, 10, 11, 12, 13, 14, 15, 16, 29, 30, 31, 32, 33, 34, 35, 36, 17, 18, 19, 20, 21, 22, 23, 24, 25, 26, 27, 28] rfl rfl rfl rfl (by decide) rfl rfl rfl rfl (Nat.le_of_ble_eq_true rfl) dX7_seeds_50 ⟨Nat.zero_le _, Nat.zero_le _⟩ (fun H locs hh => ?_)
      refine lv_iload_n hx hb dX7_seeds_53 rfl (lv_at hl 4 rfl) ?_
      refine lv_if_ne (tgt := 67) hx hb dX7_seeds_54 (by decide) (fun c4 => ?_) (fun c4 => ?_)
      · replace hf := (if_neg c4).symm.trans hf
        refine lv_aload_n hx hb dX7_seeds_67 rfl (lv_at hl 1 rfl) ?_
        refine zget (v := .ref a17) (ref := "SumOfTwoThatStand") (C := RX7) (T := TX7) (N := 10) (index := 19) X hh inX7_seeds_X7 0 rfl rfl 2 (by decide) mmX7_seeds_0 rfl rfl dX7_seeds_68 ?_
        obtain ⟨u5, hu5, hf⟩ := ob_bind hf
        refine zcallV (ci := 5) (q0 := 17) (As := []) (rest := []) (wr := zsel (cMn K a0 a1 a2 a3 a4 a5 a6 a7 a8 a9 a10 a11 a12 a13 a14 a15 a16 a17 a18 a19 a20 a21 a22 a23 a24 a25 a26 a27 a28 a29 a30 a31 a32 a33 a34 a35 a36 (mn_set_mind S u3)) [0, 1, 2, 3, 4, 5, 6, 7, 8, 9, 10, 11, 12, 13, 14, 15, 16, 25, 26, 27, 28, 29, 30, 31, 32, 33, 34, 35, 36]) (ws' := cMn K a0 a1 a2 a3 a4 a5 a6 a7 a8 a9 a10 a11 a12 a13 a14 a15 a16 a17 a18 a19 a20 a21 a22 a23 a24 a25 a26 a27 a28 a29 a30 a31 a32 a33 a34 a35 a36 (mn_set_mind S u3)) (ov := some (.int u5)) X hh hl (kX5_greatest l K a17 a18 a19 a20 a21 a22 a23 a24 u3 u5 hu5) (fun ht => cwV 0 ht gX7_seeds_X5_greatest rfl rfl rfl ⟨rfl, hdX5_greatest⟩ ⟨Nat.le_of_ble_eq_true rfl, Nat.le_of_ble_eq_true rfl⟩) [17, 18, 19, 20, 21, 22, 23, 24] [0, 1, 2, 3, 4, 5, 6, 7, 8, 9, 10, 11, 12, 13, 14, 15, 16, 25, 26, 27, 28, 29, 30, 31, 32, 33, 34, 35, 36] [0, 1, 2, 3, 4, 5, 6, 7, 8, 9, 10, 11, 12, 13, 14, 15, 16, 29, 30, 31, 32, 33, 34, 35, 36, 17, 18, 19, 20, 21, 22, 23, 24, 25, 26, 27, 28] rfl rfl rfl rfl (by decide) rfl rfl rfl rfl rfl rfl (Nat.le_of_ble_eq_true rfl) dX7_seeds_71 ⟨Nat.zero_le _, Nat.zero_le _⟩ (fun H locs hh => ?_)
        exact hr2 74 ls H locs u5 (mn_set_mind S u3) hf dX7_seeds_74 hh
      · replace hf := (if_pos c4).symm.trans hf
        refine lv_aload_n hx hb dX7_seeds_57 rfl (lv_at hl 1 rfl) ?_
        refine zget (v := .ref a17) (ref := "SumOfTwoThatStand") (C := RX7) (T := TX7) (N := 10) (index := 19) X hh inX7_seeds_X7 0 rfl rfl 2 (by decide) mmX7_seeds_0 rfl rfl dX7_seeds_58 ?_
        refine zcallV (ci := 5) (q0 := 17) (As := []) (rest := []) (wr := zsel (cMn K a0 a1 a2 a3 a4 a5 a6 a7 a8 a9 a10 a11 a12 a13 a14 a15 a16 a17 a18 a19 a20 a21 a22 a23 a24 a25 a26 a27 a28 a29 a30 a31 a32 a33 a34 a35 a36 (mn_set_mind S u3)) [0, 1, 2, 3, 4, 5, 6, 7, 8, 9, 10, 11, 12, 13, 14, 15, 16, 25, 26, 27, 28, 29, 30, 31, 32, 33, 34, 35, 36]) (ws' := cMn K a0 a1 a2 a3 a4 a5 a6 a7 a8 a9 a10 a11 a12 a13 a14 a15 a16 a17 a18 a19 a20 a21 a22 a23 a24 a25 a26 a27 a28 a29 a30 a31 a32 a33 a34 a35 a36 (mn_set_mind S u3)) (ov := some (.int (fX5_standingCount u3))) X hh hl (kX5_standingCount l K a17 a18 a19 a20 a21 a22 a23 a24 u3 (fX5_standingCount u3) rfl) (fun ht => cwV 0 ht gX7_seeds_X5_standingCount rfl rfl rfl ⟨rfl, hdX5_standingCount⟩ ⟨Nat.le_of_ble_eq_true rfl, Nat.le_of_ble_eq_true rfl⟩) [17, 18, 19, 20, 21, 22, 23, 24] [0, 1, 2, 3, 4, 5, 6, 7, 8, 9, 10, 11, 12, 13, 14, 15, 16, 25, 26, 27, 28, 29, 30, 31, 32, 33, 34, 35, 36] [0, 1, 2, 3, 4, 5, 6, 7, 8, 9, 10, 11, 12, 13, 14, 15, 16, 29, 30, 31, 32, 33, 34, 35, 36, 17, 18, 19, 20, 21, 22, 23, 24, 25, 26, 27, 28] rfl rfl rfl rfl (by decide) rfl rfl rfl rfl rfl rfl (Nat.le_of_ble_eq_true rfl) dX7_seeds_61 ⟨Nat.zero_le _, Nat.zero_le _⟩ (fun H locs hh => ?_)
        refine lv_goto (tgt := 74) hx hb dX7_seeds_64 (by decide) ?_
        exact hr2 74 ls H locs (fX5_standingCount u3) (mn_set_mind S u3) hf dX7_seeds_74 hh
    · replace hf := (if_neg c1).symm.trans hf
      refine lv_aload_n hx hb dX7_seeds_26 rfl (lv_at hl 1 rfl) ?_
      refine lv_iload hx hb dX7_seeds_27 (lv_at hl 0 rfl) ?_
      obtain ⟨u7, hu7, hf⟩ := ob_bind hf
      refine zcallV (ci := 6) (q0 := 0) (As := [.int t0]) (rest := []) (wr := []) (ws' := cMn K a0 a1 a2 a3 a4 a5 a6 a7 a8 a9 a10 a11 a12 a13 a14 a15 a16 a17 a18 a19 a20 a21 a22 a23 a24 a25 a26 a27 a28 a29 a30 a31 a32 a33 a34 a35 a36 u7.2) (ov := some (.int u7.1)) X hh hl (kX7_refuse l K a0 a1 a2 a3 a4 a5 a6 a7 a8 a9 a10 a11 a12 a13 a14 a15 a16 a17 a18 a19 a20 a21 a22 a23 a24 a25 a26 a27 a28 a29 a30 a31 a32 a33 a34 a35 a36 S t0 u7 hu7) (fun ht => cwV 1 ht gX7_seeds_X7_refuse rfl rfl rfl ⟨rfl, hdX7_refuse⟩ ⟨Nat.le_of_ble_eq_true rfl, Nat.le_of_ble_eq_true rfl⟩) [0, 1, 2, 3, 4, 5, 6, 7, 8, 9, 10, 11, 12, 13, 14, 15, 16, 17, 18, 19, 20, 21, 22, 23, 24, 25, 26, 27, 28, 29, 30, 31, 32, 33, 34, 35, 36] [] [0, 1, 2, 3, 4, 5, 6, 7, 8, 9, 10, 11, 12, 13, 14, 15, 16, 17, 18, 19, 20, 21, 22, 23, 24, 25, 26, 27, 28, 29, 30, 31, 32, 33, 34, 35, 36] rfl rfl rfl rfl (by decide) rfl rfl rfl rfl rfl rfl (Nat.le_of_ble_eq_true rfl) dX7_seeds_29 ⟨Nat.zero_le _, Nat.zero_le _⟩ (fun H locs hh => ?_)
      exact hr2 32 ls H locs u7.1 u7.2 hf dX7_seeds_32 hh
  unfold fX7_seeds at hf
  refine (fun (hmain : ∀ (H : Heap) (locs : List Loc), zW K A s H locs (cMn K a0 a1 a2 a3 a4 a5 a6 a7 a8 a9 a10 a11 a12 a13 a14 a15 a16 a17 a18 a19 a20 a21 a22 a23 a24 a25 a26 a27 a28 a29 a30 a31 a32 a33 a34 a35 a36 S) → W p l e ({ frames := 5, cells := 0, slots := 0, locals := 117 } : Room) s m ([.ref a0, .int p1, .int p2, .int p3] : List Value).toArray below meth c H locs 0 0 Q (F0 m 0 ls [])) => hmain s.heap [] hh) (fun H locs hh => ?_)
  refine lv_iload_n hx hb dX7_seeds_0 rfl (lv_at hl 3 rfl) ?_
  refine zcallS (As := [.int p3]) (rest := []) (wr := cMn K a0 a1 a2 a3 a4 a5 a6 a7 a8 a9 a10 a11 a12 a13 a14 a15 a16 a17 a18 a19 a20 a21 a22 a23 a24 a25 a26 a27 a28 a29 a30 a31 a32 a33 a34 a35 a36 S) (ws' := cMn K a0 a1 a2 a3 a4 a5 a6 a7 a8 a9 a10 a11 a12 a13 a14 a15 a16 a17 a18 a19 a20 a21 a22 a23 a24 a25 a26 a27 a28 a29 a30 a31 a32 a33 a34 a35 a36 S) (ov := some (.int (fX7_isOneOfTwo p3))) X hh hl (kX7_isOneOfTwo l K p3 (fX7_isOneOfTwo p3) rfl) (fun ht => va_cwS 1 ht gX7_seeds_X7_isOneOfTwo rfl rfl rfl hdX7_isOneOfTwo ⟨Nat.le_of_ble_eq_true rfl, Nat.le_of_ble_eq_true rfl⟩) [] [0, 1, 2, 3, 4, 5, 6, 7, 8, 9, 10, 11, 12, 13, 14, 15, 16, 17, 18, 19, 20, 21, 22, 23, 24, 25, 26, 27, 28, 29, 30, 31, 32, 33, 34, 35, 36] [0, 1, 2, 3, 4, 5, 6, 7, 8, 9, 10, 11, 12, 13, 14, 15, 16, 17, 18, 19, 20, 21, 22, 23, 24, 25, 26, 27, 28, 29, 30, 31, 32, 33, 34, 35, 36] rfl rfl rfl rfl (by decide) rfl rfl rfl rfl (Nat.le_of_ble_eq_true rfl) dX7_seeds_1 ⟨Nat.zero_le _, Nat.zero_le _⟩ (fun H locs hh => ?_)
  refine lv_if_eq (tgt := 17) hx hb dX7_seeds_4 (by decide) (fun c9 => ?_) (fun c9 => ?_)
  · replace hf := (if_pos c9).symm.trans hf
    refine lv_bipush (v := (-2 : Int32)) hx hb dX7_seeds_17 (by decide) ?_
    exact hJ19 p1 p2 p3 (-2 : Int32) S H locs ls hf (lv_sub hl [0, 1, 2, 3] rfl) hh
  · replace hf := (if_neg c9).symm.trans hf
    refine lv_iload_n hx hb dX7_seeds_7 rfl (lv_at hl 1 rfl) ?_
    refine lv_iconst (v := (1 : Int32)) hx hb dX7_seeds_8 (by decide) ?_
    refine lv_bipush (v := (40 : Int32)) hx hb dX7_seeds_9 (by decide) ?_
    refine zcallS (As := [.int p1, .int (1 : Int32), .int (40 : Int32)]) (rest := []) (wr := cMn K a0 a1 a2 a3 a4 a5 a6 a7 a8 a9 a10 a11 a12 a13 a14 a15 a16 a17 a18 a19 a20 a21 a22 a23 a24 a25 a26 a27 a28 a29 a30 a31 a32 a33 a34 a35 a36 S) (ws' := cMn K a0 a1 a2 a3 a4 a5 a6 a7 a8 a9 a10 a11 a12 a13 a14 a15 a16 a17 a18 a19 a20 a21 a22 a23 a24 a25 a26 a27 a28 a29 a30 a31 a32 a33 a34 a35 a36 S) (ov := some (.int (fX7_outside p1 (1 : Int32) (40 : Int32)))) X hh hl (kX7_outside l K p1 (1 : Int32) (40 : Int32) (fX7_outside p1 (1 : Int32) (40 : Int32)) rfl) (fun ht => va_cwS 3 ht gX7_seeds_X7_outside rfl rfl rfl hdX7_outside ⟨Nat.le_of_ble_eq_true rfl, Nat.le_of_ble_eq_true rfl⟩) [] [0, 1, 2, 3, 4, 5, 6, 7, 8, 9, 10, 11, 12, 13, 14, 15, 16, 17, 18, 19, 20, 21, 22, 23, 24, 25, 26, 27, 28, 29, 30, 31, 32, 33, 34, 35, 36] [0, 1, 2, 3, 4, 5, 6, 7, 8, 9, 10, 11, 12, 13, 14, 15, 16, 17, 18, 19, 20, 21, 22, 23, 24, 25, 26, 27, 28, 29, 30, 31, 32, 33, 34, 35, 36] rfl rfl rfl rfl (by decide) rfl rfl rfl rfl (Nat.le_of_ble_eq_true rfl) dX7_seeds_11 ⟨Nat.zero_le _, Nat.zero_le _⟩ (fun H locs hh => ?_)
    refine lv_goto (tgt := 19) hx hb dX7_seeds_14 (by decide) ?_
    exact hJ19 p1 p2 p3 (fX7_outside p1 (1 : Int32) (40 : Int32)) S H locs ls hf (lv_sub hl [0, 1, 2, 3] rfl) hh
theorem inX7_image_X7 : ∀ w ∈ wsX70, w ∈ wsX7_image := by decide +kernel
theorem mmX7_image_0 : Cond.fieldLink RX7 16 "SumOfTwoThatStand" "kept" "LSumOfTwoThatStand$Street;" ∈ wsX7_image := by decide +kernel
theorem mmX7_image_1 : Cond.fieldLink RX7 10 "SumOfTwoThatStand" "live" "LSumOfTwoThatStand$Street;" ∈ wsX7_image := by decide +kernel
theorem mmX7_image_2 : Cond.fieldLink RX7 61 "SumOfTwoThatStand" "isKept" "Z" ∈ wsX7_image := by decide +kernel
theorem hdX7_image : yX7_image.cls ≠ "java/lang/invoke/MethodHandle" ∧ yX7_image.cls ≠ "java/lang/invoke/VarHandle" ∧ (parseMethodDescriptor yX7_image.desc).map (fun d => d.parameters.length) = some 0 := by decide +kernel
set_option maxHeartbeats 4000000 in
set_option maxRecDepth 100000 in
theorem kX7_image (l : Launch) (K : zK) (a0 a1 a2 a3 a4 a5 a6 a7 a8 a9 a10 a11 a12 a13 a14 a15 a16 a17 a18 a19 a20 a21 a22 a23 a24 a25 a26 a27 a28 a29 a30 a31 a32 a33 a34 a35 a36 : Nat) (S : zMn) (R : Int32 × zMn) (hf : fX7_image S = some R) : zC l yX7_image wsX7_image ({ frames := 2, cells := 0, slots := 0, locals := 81 } : Room) K [.ref a0] (cMn K a0 a1 a2 a3 a4 a5 a6 a7 a8 a9 a10 a11 a12 a13 a14 a15 a16 a17 a18 a19 a20 a21 a22 a23 a24 a25 a26 a27 a28 a29 a30 a31 a32 a33 a34 a35 a36 S) (some (.int R.1)) (cMn K a0 a1 a2 a3 a4 a5 a6 a7 a8 a9 a10 a11 a12 a13 a14 a15 a16 a17 a18 a19 a20 a21 a22 a23 a24 a25 a26 a27 a28 a29 a30 a31 a32 a33 a34 a35 a36 R.2) := by
  refine zC_i R.1 (cc := cX7_image) (maxL := 1) (by decide +kernel) rfl (Nat.le_of_ble_eq_true rfl) rfl rfl ?_
  intro p e s m below meth c Q A X hret ls hl hh
  have X : zX p m c cX7_image 1 s ([.ref a0] : List Value).toArray wsX7_image RX7 K A := X
  have hx := X.1.1
  have hb := X.1.2.1
  have hr2 : ∀ (pc : Nat) (ls : Array Slot) (H : Heap) (locs : List Loc) (v : Int32) (S : zMn), some (v, S) = some R → decode cX7_image pc = .ok (.ireturn, 1) → zW K A s H locs (cMn K a0 a1 a2 a3 a4 a5 a6 a7 a8 a9 a10 a11 a12 a13 a14 a15 a16 a17 a18 a19 a20 a21 a22 a23 a24 a25 a26 a27 a28 a29 a30 a31 a32 a33 a34 a35 a36 S) → W p l e ({ frames := 2, cells := 0, slots := 0, locals := 81 } : Room) s m ([.ref a0] : List Value).toArray below meth c H locs 0 0 Q (F0 m pc ls [.int v]) := by
    intro pc ls H locs v S h hd hh
    cases h; exact hret pc ls H locs _ rfl hd hh
  have hl : lv_has ls 1 [(0, .ref a0)] := hl
  unfold fX7_image at hf
  refine (fun (hmain : ∀ (H : Heap) (locs : List Loc), zW K A s H locs (cMn K a0 a1 a2 a3 a4 a5 a6 a7 a8 a9 a10 a11 a12 a13 a14 a15 a16 a17 a18 a19 a20 a21 a22 a23 a24 a25 a26 a27 a28 a29 a30 a31 a32 a33 a34 a35 a36 S) → W p l e ({ frames := 2, cells := 0, slots := 0, locals := 81 } : Room) s m ([.ref a0] : List Value).toArray below meth c H locs 0 0 Q (F0 m 0 ls [])) => hmain s.heap [] hh) (fun H locs hh => ?_)
  refine lv_aload_n hx hb dX7_image_0 rfl (lv_at hl 0 rfl) ?_
  refine zget (v := .ref a9) (ref := "SumOfTwoThatStand") (C := RX7) (T := TX7) (N := 10) (index := 16) X hh inX7_image_X7 0 rfl rfl 1 (by decide) mmX7_image_0 rfl rfl dX7_image_1 ?_
  refine lv_aload_n hx hb dX7_image_4 rfl (lv_at hl 0 rfl) ?_
  refine zget (v := .ref a1) (ref := "SumOfTwoThatStand") (C := RX7) (T := TX7) (N := 10) (index := 10) X hh inX7_image_X7 0 rfl rfl 0 (by decide) mmX7_image_1 rfl rfl dX7_image_5 ?_
  refine zcallV (ci := 5) (q0 := 9) (As := [.ref a1]) (rest := []) (wr := zsel (cMn K a0 a1 a2 a3 a4 a5 a6 a7 a8 a9 a10 a11 a12 a13 a14 a15 a16 a17 a18 a19 a20 a21 a22 a23 a24 a25 a26 a27 a28 a29 a30 a31 a32 a33 a34 a35 a36 S) [0, 17, 18, 19, 20, 21, 22, 23, 24, 25, 26, 27, 28, 29, 30, 31, 32, 33, 34, 35, 36]) (ws' := cMn K a0 a1 a2 a3 a4 a5 a6 a7 a8 a9 a10 a11 a12 a13 a14 a15 a16 a17 a18 a19 a20 a21 a22 a23 a24 a25 a26 a27 a28 a29 a30 a31 a32 a33 a34 a35 a36 (mn_set_kept S (fX5_become (mn_kept S) (mn_live S)))) (ov := none) X hh hl (kX5_become l K a9 a10 a11 a12 a13 a14 a15 a16 a1 a2 a3 a4 a5 a6 a7 a8 (mn_kept S) (mn_live S) (fX5_become (mn_kept S) (mn_live S)) rfl) (fun ht => cwV 1 ht gX7_image_X5_become rfl rfl rfl ⟨rfl, hdX5_become⟩ ⟨Nat.le_of_ble_eq_true rfl, Nat.le_of_ble_eq_true rfl⟩) [9, 10, 11, 12, 13, 14, 15, 16, 1, 2, 3, 4, 5, 6, 7, 8] [0, 17, 18, 19, 20, 21, 22, 23, 24, 25, 26, 27, 28, 29, 30, 31, 32, 33, 34, 35, 36] [0, 29, 30, 31, 32, 33, 34, 35, 36, 21, 22, 23, 24, 25, 26, 27, 28, 1, 2, 3, 4, 5, 6, 7, 8, 9, 10, 11, 12, 13, 14, 15, 16, 17, 18, 19, 20] rfl rfl rfl rfl (by decide) rfl rfl rfl rfl rfl rfl (Nat.le_of_ble_eq_true rfl) dX7_image_8 ⟨Nat.zero_le _, Nat.zero_le _⟩ (fun H locs hh => ?_)
  refine lv_aload_n hx hb dX7_image_11 rfl (lv_at hl 0 rfl) ?_
  refine lv_iconst (v := (1 : Int32)) hx hb dX7_image_12 (by decide) ?_
  refine zput (v := .int (1 : Int32)) (ty := .boolean) (ref := "SumOfTwoThatStand") (C := RX7) (T := TX7) (N := 10) (index := 61) X hh inX7_image_X7 tyX7 tyX7_ok nmX7 0 rfl rfl 9 (by decide) mmX7_image_2 rfl rfl (by decide +kernel) rfl rfl (Nat.le_of_ble_eq_true rfl) dX7_image_13 (fun H locs hh => ?_)
  have hh : zW K A s H locs (cMn K a0 a1 a2 a3 a4 a5 a6 a7 a8 a9 a10 a11 a12 a13 a14 a15 a16 a17 a18 a19 a20 a21 a22 a23 a24 a25 a26 a27 a28 a29 a30 a31 a32 a33 a34 a35 a36 (mn_set_isKept (mn_set_kept S (fX5_become (mn_kept S) (mn_live S))) (1 : Int32))) := hh
  refine lv_aload_n hx hb dX7_image_16 rfl (lv_at hl 0 rfl) ?_
  refine zget (v := .ref a1) (ref := "SumOfTwoThatStand") (C := RX7) (T := TX7) (N := 10) (index := 10) X hh inX7_image_X7 0 rfl rfl 0 (by decide) mmX7_image_1 rfl rfl dX7_image_17 ?_
  refine zcallV (ci := 5) (q0 := 1) (As := []) (rest := []) (wr := zsel (cMn K a0 a1 a2 a3 a4 a5 a6 a7 a8 a9 a10 a11 a12 a13 a14 a15 a16 a17 a18 a19 a20 a21 a22 a23 a24 a25 a26 a27 a28 a29 a30 a31 a32 a33 a34 a35 a36 (mn_set_isKept (mn_set_kept S (fX5_become (mn_kept S) (mn_live S))) (1 : Int32))) [0, 9, 10, 11, 12, 13, 14, 15, 16, 17, 18, 19, 20, 21, 22, 23, 24, 25, 26, 27, 28, 29, 30, 31, 32, 33, 34, 35, 36]) (ws' := cMn K a0 a1 a2 a3 a4 a5 a6 a7 a8 a9 a10 a11 a12 a13 a14 a15 a16 a17 a18 a19 a20 a21 a22 a23 a24 a25 a26 a27 a28 a29 a30 a31 a32 a33 a34 a35 a36 (mn_set_isKept (mn_set_kept S (fX5_become (mn_kept S) (mn_live S))) (1 : Int32))) (ov := some (.int (fX5_cameCount (mn_live S)))) X hh hl (kX5_cameCount l K a1 a2 a3 a4 a5 a6 a7 a8 (mn_live S) (fX5_cameCount (mn_live S)) rfl) (fun ht => cwV 0 ht gX7_image_X5_cameCount rfl rfl rfl ⟨rfl, hdX5_cameCount⟩ ⟨Nat.le_of_ble_eq_true rfl, Nat.le_of_ble_eq_true rfl⟩) [1, 2, 3, 4, 5, 6, 7, 8] [0, 9, 10, 11, 12, 13, 14, 15, 16, 17, 18, 19, 20, 21, 22, 23, 24, 25, 26, 27, 28, 29, 30, 31, 32, 33, 34, 35, 36] [0, 29, 30, 31, 32, 33, 34, 35, 36, 1, 2, 3, 4, 5, 6, 7, 8, 9, 10, 11, 12, 13, 14, 15, 16, 17, 18, 19, 20, 21, 22, 23, 24, 25, 26, 27, 28] rfl rfl rfl rfl (by decide) rfl rfl rfl rfl rfl rfl (Nat.le_of_ble_eq_true rfl) dX7_image_20 ⟨Nat.zero_le _, Nat.zero_le _⟩ (fun H locs hh => ?_)
  exact hr2 23 ls H locs (fX5_cameCount (mn_live S)) (mn_set_isKept (mn_set_kept S (fX5_become (mn_kept S) (mn_live S))) (1 : Int32)) hf dX7_image_23 hh
theorem inX7_restore_X7 : ∀ w ∈ wsX70, w ∈ wsX7_restore := by decide +kernel
theorem mmX7_restore_0 : Cond.fieldLink RX7 61 "SumOfTwoThatStand" "isKept" "Z" ∈ wsX7_restore := by decide +kernel
theorem mmX7_restore_1 : Cond.fieldLink RX7 10 "SumOfTwoThatStand" "live" "LSumOfTwoThatStand$Street;" ∈ wsX7_restore := by decide +kernel
theorem mmX7_restore_2 : Cond.fieldLink RX7 16 "SumOfTwoThatStand" "kept" "LSumOfTwoThatStand$Street;" ∈ wsX7_restore := by decide +kernel
theorem hdX7_restore : yX7_restore.cls ≠ "java/lang/invoke/MethodHandle" ∧ yX7_restore.cls ≠ "java/lang/invoke/VarHandle" ∧ (parseMethodDescriptor yX7_restore.desc).map (fun d => d.parameters.length) = some 0 := by decide +kernel
set_option maxHeartbeats 4000000 in
set_option maxRecDepth 100000 in
theorem kX7_restore (l : Launch) (K : zK) (a0 a1 a2 a3 a4 a5 a6 a7 a8 a9 a10 a11 a12 a13 a14 a15 a16 a17 a18 a19 a20 a21 a22 a23 a24 a25 a26 a27 a28 a29 a30 a31 a32 a33 a34 a35 a36 : Nat) (S : zMn) (R : Int32 × zMn) (hf : fX7_restore S = some R) : zC l yX7_restore wsX7_restore ({ frames := 2, cells := 0, slots := 0, locals := 81 } : Room) K [.ref a0] (cMn K a0 a1 a2 a3 a4 a5 a6 a7 a8 a9 a10 a11 a12 a13 a14 a15 a16 a17 a18 a19 a20 a21 a22 a23 a24 a25 a26 a27 a28 a29 a30 a31 a32 a33 a34 a35 a36 S) (some (.int R.1)) (cMn K a0 a1 a2 a3 a4 a5 a6 a7 a8 a9 a10 a11 a12 a13 a14 a15 a16 a17 a18 a19 a20 a21 a22 a23 a24 a25 a26 a27 a28 a29 a30 a31 a32 a33 a34 a35 a36 R.2) := by
  refine zC_i R.1 (cc := cX7_restore) (maxL := 1) (by decide +kernel) rfl (Nat.le_of_ble_eq_true rfl) rfl rfl ?_
  intro p e s m below meth c Q A X hret ls hl hh
  have X : zX p m c cX7_restore 1 s ([.ref a0] : List Value).toArray wsX7_restore RX7 K A := X
  have hx := X.1.1
  have hb := X.1.2.1
  have hr2 : ∀ (pc : Nat) (ls : Array Slot) (H : Heap) (locs : List Loc) (v : Int32) (S : zMn), some (v, S) = some R → decode cX7_restore pc = .ok (.ireturn, 1) → zW K A s H locs (cMn K a0 a1 a2 a3 a4 a5 a6 a7 a8 a9 a10 a11 a12 a13 a14 a15 a16 a17 a18 a19 a20 a21 a22 a23 a24 a25 a26 a27 a28 a29 a30 a31 a32 a33 a34 a35 a36 S) → W p l e ({ frames := 2, cells := 0, slots := 0, locals := 81 } : Room) s m ([.ref a0] : List Value).toArray below meth c H locs 0 0 Q (F0 m pc ls [.int v]) := by
    intro pc ls H locs v S h hd hh
    cases h; exact hret pc ls H locs _ rfl hd hh
  have hl : lv_has ls 1 [(0, .ref a0)] := hl
  unfold fX7_restore at hf
  refine (fun (hmain : ∀ (H : Heap) (locs : List Loc), zW K A s H locs (cMn K a0 a1 a2 a3 a4 a5 a6 a7 a8 a9 a10 a11 a12 a13 a14 a15 a16 a17 a18 a19 a20 a21 a22 a23 a24 a25 a26 a27 a28 a29 a30 a31 a32 a33 a34 a35 a36 S) → W p l e ({ frames := 2, cells := 0, slots := 0, locals := 81 } : Room) s m ([.ref a0] : List Value).toArray below meth c H locs 0 0 Q (F0 m 0 ls [])) => hmain s.heap [] hh) (fun H locs hh => ?_)
  refine lv_aload_n hx hb dX7_restore_0 rfl (lv_at hl 0 rfl) ?_
  refine zget (v := .int (mn_isKept S)) (ref := "SumOfTwoThatStand") (C := RX7) (T := TX7) (N := 10) (index := 61) X hh inX7_restore_X7 0 rfl rfl 9 (by decide) mmX7_restore_0 rfl rfl dX7_restore_1 ?_
  refine lv_if_ne (tgt := 14) hx hb dX7_restore_4 (by decide) (fun c1 => ?_) (fun c1 => ?_)
  · replace hf := (if_neg c1).symm.trans hf
    refine lv_aload_n hx hb dX7_restore_14 rfl (lv_at hl 0 rfl) ?_
    refine zget (v := .ref a1) (ref := "SumOfTwoThatStand") (C := RX7) (T := TX7) (N := 10) (index := 10) X hh inX7_restore_X7 0 rfl rfl 0 (by decide) mmX7_restore_1 rfl rfl dX7_restore_15 ?_
    refine lv_aload_n hx hb dX7_restore_18 rfl (lv_at hl 0 rfl) ?_
    refine zget (v := .ref a9) (ref := "SumOfTwoThatStand") (C := RX7) (T := TX7) (N := 10) (index := 16) X hh inX7_restore_X7 0 rfl rfl 1 (by decide) mmX7_restore_2 rfl rfl dX7_restore_19 ?_
    refine zcallV (ci := 5) (q0 := 1) (As := [.ref a9]) (rest := []) (wr := zsel (cMn K a0 a1 a2 a3 a4 a5 a6 a7 a8 a9 a10 a11 a12 a13 a14 a15 a16 a17 a18 a19 a20 a21 a22 a23 a24 a25 a26 a27 a28 a29 a30 a31 a32 a33 a34 a35 a36 S) [0, 17, 18, 19, 20, 21, 22, 23, 24, 25, 26, 27, 28, 29, 30, 31, 32, 33, 34, 35, 36]) (ws' := cMn K a0 a1 a2 a3 a4 a5 a6 a7 a8 a9 a10 a11 a12 a13 a14 a15 a16 a17 a18 a19 a20 a21 a22 a23 a24 a25 a26 a27 a28 a29 a30 a31 a32 a33 a34 a35 a36 (mn_set_live S (fX5_become (mn_live S) (mn_kept S)))) (ov := none) X hh hl (kX5_become l K a1 a2 a3 a4 a5 a6 a7 a8 a9 a10 a11 a12 a13 a14 a15 a16 (mn_live S) (mn_kept S) (fX5_become (mn_live S) (mn_kept S)) rfl) (fun ht => cwV 1 ht gX7_restore_X5_become rfl rfl rfl ⟨rfl, hdX5_become⟩ ⟨Nat.le_of_ble_eq_true rfl, Nat.le_of_ble_eq_true rfl⟩) [1, 2, 3, 4, 5, 6, 7, 8, 9, 10, 11, 12, 13, 14, 15, 16] [0, 17, 18, 19, 20, 21, 22, 23, 24, 25, 26, 27, 28, 29, 30, 31, 32, 33, 34, 35, 36] [0, 21, 22, 23, 24, 25, 26, 27, 28, 29, 30, 31, 32, 33, 34, 35, 36, 1, 2, 3, 4, 5, 6, 7, 8, 9, 10, 11, 12, 13, 14, 15, 16, 17, 18, 19, 20] rfl rfl rfl rfl (by decide) rfl rfl rfl rfl rfl rfl (Nat.le_of_ble_eq_true rfl) dX7_restore_22 ⟨Nat.zero_le _, Nat.zero_le _⟩ (fun H locs hh => ?_)
    refine lv_aload_n hx hb dX7_restore_25 rfl (lv_at hl 0 rfl) ?_
    refine zget (v := .ref a1) (ref := "SumOfTwoThatStand") (C := RX7) (T := TX7) (N := 10) (index := 10) X hh inX7_restore_X7 0 rfl rfl 0 (by decide) mmX7_restore_1 rfl rfl dX7_restore_26 ?_
    refine zcallV (ci := 5) (q0 := 1) (As := []) (rest := []) (wr := zsel (cMn K a0 a1 a2 a3 a4 a5 a6 a7 a8 a9 a10 a11 a12 a13 a14 a15 a16 a17 a18 a19 a20 a21 a22 a23 a24 a25 a26 a27 a28 a29 a30 a31 a32 a33 a34 a35 a36 (mn_set_live S (fX5_become (mn_live S) (mn_kept S)))) [0, 9, 10, 11, 12, 13, 14, 15, 16, 17, 18, 19, 20, 21, 22, 23, 24, 25, 26, 27, 28, 29, 30, 31, 32, 33, 34, 35, 36]) (ws' := cMn K a0 a1 a2 a3 a4 a5 a6 a7 a8 a9 a10 a11 a12 a13 a14 a15 a16 a17 a18 a19 a20 a21 a22 a23 a24 a25 a26 a27 a28 a29 a30 a31 a32 a33 a34 a35 a36 (mn_set_live S (fX5_become (mn_live S) (mn_kept S)))) (ov := some (.int (fX5_cameCount (fX5_become (mn_live S) (mn_kept S))))) X hh hl (kX5_cameCount l K a1 a2 a3 a4 a5 a6 a7 a8 (fX5_become (mn_live S) (mn_kept S)) (fX5_cameCount (fX5_become (mn_live S) (mn_kept S))) rfl) (fun ht => cwV 0 ht gX7_restore_X5_cameCount rfl rfl rfl ⟨rfl, hdX5_cameCount⟩ ⟨Nat.le_of_ble_eq_true rfl, Nat.le_of_ble_eq_true rfl⟩) [1, 2, 3, 4, 5, 6, 7, 8] [0, 9, 10, 11, 12, 13, 14, 15, 16, 17, 18, 19, 20, 21, 22, 23, 24, 25, 26, 27, 28, 29, 30, 31, 32, 33, 34, 35, 36] [0, 29, 30, 31, 32, 33, 34, 35, 36, 1, 2, 3, 4, 5, 6, 7, 8, 9, 10, 11, 12, 13, 14, 15, 16, 17, 18, 19, 20, 21, 22, 23, 24, 25, 26, 27, 28] rfl rfl rfl rfl (by decide) rfl rfl rfl rfl rfl rfl (Nat.le_of_ble_eq_true rfl) dX7_restore_29 ⟨Nat.zero_le _, Nat.zero_le _⟩ (fun H locs hh => ?_)
    exact hr2 32 ls H locs (fX5_cameCount (fX5_become (mn_live S) (mn_kept S))) (mn_set_live S (fX5_become (mn_live S) (mn_kept S))) hf dX7_restore_32 hh
  · replace hf := (if_pos c1).symm.trans hf
    refine lv_aload_n hx hb dX7_restore_7 rfl (lv_at hl 0 rfl) ?_
    refine lv_bipush (v := (-3 : Int32)) hx hb dX7_restore_8 (by decide) ?_
    obtain ⟨u4, hu4, hf⟩ := ob_bind hf
    refine zcallV (ci := 6) (q0 := 0) (As := [.int (-3 : Int32)]) (rest := []) (wr := []) (ws' := cMn K a0 a1 a2 a3 a4 a5 a6 a7 a8 a9 a10 a11 a12 a13 a14 a15 a16 a17 a18 a19 a20 a21 a22 a23 a24 a25 a26 a27 a28 a29 a30 a31 a32 a33 a34 a35 a36 u4.2) (ov := some (.int u4.1)) X hh hl (kX7_refuse l K a0 a1 a2 a3 a4 a5 a6 a7 a8 a9 a10 a11 a12 a13 a14 a15 a16 a17 a18 a19 a20 a21 a22 a23 a24 a25 a26 a27 a28 a29 a30 a31 a32 a33 a34 a35 a36 S (-3 : Int32) u4 hu4) (fun ht => cwV 1 ht gX7_restore_X7_refuse rfl rfl rfl ⟨rfl, hdX7_refuse⟩ ⟨Nat.le_of_ble_eq_true rfl, Nat.le_of_ble_eq_true rfl⟩) [0, 1, 2, 3, 4, 5, 6, 7, 8, 9, 10, 11, 12, 13, 14, 15, 16, 17, 18, 19, 20, 21, 22, 23, 24, 25, 26, 27, 28, 29, 30, 31, 32, 33, 34, 35, 36] [] [0, 1, 2, 3, 4, 5, 6, 7, 8, 9, 10, 11, 12, 13, 14, 15, 16, 17, 18, 19, 20, 21, 22, 23, 24, 25, 26, 27, 28, 29, 30, 31, 32, 33, 34, 35, 36] rfl rfl rfl rfl (by decide) rfl rfl rfl rfl rfl rfl (Nat.le_of_ble_eq_true rfl) dX7_restore_10 ⟨Nat.zero_le _, Nat.zero_le _⟩ (fun H locs hh => ?_)
    exact hr2 13 ls H locs u4.1 u4.2 hf dX7_restore_13 hh
theorem inX7_count_X7 : ∀ w ∈ wsX70, w ∈ wsX7_count := by decide +kernel
theorem mmX7_count_0 : Cond.fieldLink RX7 10 "SumOfTwoThatStand" "live" "LSumOfTwoThatStand$Street;" ∈ wsX7_count := by decide +kernel
theorem mmX7_count_1 : Cond.fieldLink RX7 25 "SumOfTwoThatStand" "letters" "LSumOfTwoThatStand$Letters;" ∈ wsX7_count := by decide +kernel
theorem mmX7_count_2 : Cond.fieldLink RX7 32 "SumOfTwoThatStand" "told" "LSumOfTwoThatStand$Row;" ∈ wsX7_count := by decide +kernel
theorem mmX7_count_3 : Cond.fieldLink RX7 57 "SumOfTwoThatStand" "refusals" "[I" ∈ wsX7_count := by decide +kernel
theorem hdX7_count : yX7_count.cls ≠ "java/lang/invoke/MethodHandle" ∧ yX7_count.cls ≠ "java/lang/invoke/VarHandle" ∧ (parseMethodDescriptor yX7_count.desc).map (fun d => d.parameters.length) = some 1 := by decide +kernel
set_option maxHeartbeats 4000000 in
set_option maxRecDepth 100000 in
theorem kX7_count (l : Launch) (K : zK) (a0 a1 a2 a3 a4 a5 a6 a7 a8 a9 a10 a11 a12 a13 a14 a15 a16 a17 a18 a19 a20 a21 a22 a23 a24 a25 a26 a27 a28 a29 a30 a31 a32 a33 a34 a35 a36 : Nat) (S : zMn) (p1 : Int32) (R : Int32) (hf : fX7_count S p1 = some R) : zC l yX7_count wsX7_count ({ frames := 2, cells := 0, slots := 0, locals := 62 } : Room) K [.ref a0, .int p1] (cMn K a0 a1 a2 a3 a4 a5 a6 a7 a8 a9 a10 a11 a12 a13 a14 a15 a16 a17 a18 a19 a20 a21 a22 a23 a24 a25 a26 a27 a28 a29 a30 a31 a32 a33 a34 a35 a36 S) (some (.int R)) (cMn K a0 a1 a2 a3 a4 a5 a6 a7 a8 a9 a10 a11 a12 a13 a14 a15 a16 a17 a18 a19 a20 a21 a22 a23 a24 a25 a26 a27 a28 a29 a30 a31 a32 a33 a34 a35 a36 S) := by
  refine zC_i R (cc := cX7_count) (maxL := 2) (by decide +kernel) rfl (Nat.le_of_ble_eq_true rfl) rfl rfl ?_
  intro p e s m below meth c Q A X hret ls hl hh
  have X : zX p m c cX7_count 2 s ([.ref a0, .int p1] : List Value).toArray wsX7_count RX7 K A := X
  have hx := X.1.1
  have hb := X.1.2.1
  have hr2 : ∀ (pc : Nat) (ls : Array Slot) (H : Heap) (locs : List Loc) (v : Int32), some v = some R → decode cX7_count pc = .ok (.ireturn, 1) → zW K A s H locs (cMn K a0 a1 a2 a3 a4 a5 a6 a7 a8 a9 a10 a11 a12 a13 a14 a15 a16 a17 a18 a19 a20 a21 a22 a23 a24 a25 a26 a27 a28 a29 a30 a31 a32 a33 a34 a35 a36 S) → W p l e ({ frames := 2, cells := 0, slots := 0, locals := 62 } : Room) s m ([.ref a0, .int p1] : List Value).toArray below meth c H locs 0 0 Q (F0 m pc ls [.int v]) := by
    intro pc ls H locs v h hd hh
    cases h; exact hret pc ls H locs _ rfl hd hh
  have hl : lv_has ls 2 [(0, .ref a0), (1, .int p1)] := hl
  have hJ22 : ∀ (v1 : Int32), ∀ (H : Heap) (locs : List Loc) (ls : Array Slot), fX7_count_j22 S v1 = some R → lv_has ls 2 [(0, .ref a0), (1, .int v1)] → zW K A s H locs (cMn K a0 a1 a2 a3 a4 a5 a6 a7 a8 a9 a10 a11 a12 a13 a14 a15 a16 a17 a18 a19 a20 a21 a22 a23 a24 a25 a26 a27 a28 a29 a30 a31 a32 a33 a34 a35 a36 S) → W p l e ({ frames := 2, cells := 0, slots := 0, locals := 62 } : Room) s m ([.ref a0, .int p1] : List Value).toArray below meth c H locs 0 0 Q (F0 m 22 ls []) := by
    intro v1 H locs ls hf hl hh
    unfold fX7_count_j22 at hf
    refine lv_iload_n hx hb dX7_count_22 rfl (lv_at hl 1 rfl) ?_
    by_cases c1_0 : v1 = (0 : Int32)
    · replace hf := (if_pos c1_0).symm.trans hf
      refine lv_tableIn (off := 45) (tgt := 68) hx hb dX7_count_23 (by rw [c1_0]; decide) (by rw [c1_0]; decide) (by rw [c1_0]; decide) (by decide) ?_
      refine lv_aload_n hx hb dX7_count_68 rfl (lv_at hl 0 rfl) ?_
      refine zget (v := .ref a1) (ref := "SumOfTwoThatStand") (C := RX7) (T := TX7) (N := 10) (index := 10) X hh inX7_count_X7 0 rfl rfl 0 (by decide) mmX7_count_0 rfl rfl dX7_count_69 ?_
      refine zcallV (ci := 5) (q0 := 1) (As := []) (rest := []) (wr := zsel (cMn K a0 a1 a2 a3 a4 a5 a6 a7 a8 a9 a10 a11 a12 a13 a14 a15 a16 a17 a18 a19 a20 a21 a22 a23 a24 a25 a26 a27 a28 a29 a30 a31 a32 a33 a34 a35 a36 S) [0, 9, 10, 11, 12, 13, 14, 15, 16, 17, 18, 19, 20, 21, 22, 23, 24, 25, 26, 27, 28, 29, 30, 31, 32, 33, 34, 35, 36]) (ws' := cMn K a0 a1 a2 a3 a4 a5 a6 a7 a8 a9 a10 a11 a12 a13 a14 a15 a16 a17 a18 a19 a20 a21 a22 a23 a24 a25 a26 a27 a28 a29 a30 a31 a32 a33 a34 a35 a36 S) (ov := some (.int (fX5_cameCount (mn_live S)))) X hh hl (kX5_cameCount l K a1 a2 a3 a4 a5 a6 a7 a8 (mn_live S) (fX5_cameCount (mn_live S)) rfl) (fun ht => cwV 0 ht gX7_count_X5_cameCount rfl rfl rfl ⟨rfl, hdX5_cameCount⟩ ⟨Nat.le_of_ble_eq_true rfl, Nat.le_of_ble_eq_true rfl⟩) [1, 2, 3, 4, 5, 6, 7, 8] [0, 9, 10, 11, 12, 13, 14, 15, 16, 17, 18, 19, 20, 21, 22, 23, 24, 25, 26, 27, 28, 29, 30, 31, 32, 33, 34, 35, 36] [0, 29, 30, 31, 32, 33, 34, 35, 36, 1, 2, 3, 4, 5, 6, 7, 8, 9, 10, 11, 12, 13, 14, 15, 16, 17, 18, 19, 20, 21, 22, 23, 24, 25, 26, 27, 28] rfl rfl rfl rfl (by decide) rfl rfl rfl rfl rfl rfl (Nat.le_of_ble_eq_true rfl) dX7_count_72 ⟨Nat.zero_le _, Nat.zero_le _⟩ (fun H locs hh => ?_)
      exact hr2 75 ls H locs (fX5_cameCount (mn_live S)) hf dX7_count_75 hh
    replace hf := (if_neg c1_0).symm.trans hf
    by_cases c1_1 : v1 = (1 : Int32)
    · replace hf := (if_pos c1_1).symm.trans hf
      refine lv_tableIn (off := 53) (tgt := 76) hx hb dX7_count_23 (by rw [c1_1]; decide) (by rw [c1_1]; decide) (by rw [c1_1]; decide) (by decide) ?_
      refine lv_aload_n hx hb dX7_count_76 rfl (lv_at hl 0 rfl) ?_
      refine zget (v := .ref a1) (ref := "SumOfTwoThatStand") (C := RX7) (T := TX7) (N := 10) (index := 10) X hh inX7_count_X7 0 rfl rfl 0 (by decide) mmX7_count_0 rfl rfl dX7_count_77 ?_
      refine zcallV (ci := 5) (q0 := 1) (As := []) (rest := []) (wr := zsel (cMn K a0 a1 a2 a3 a4 a5 a6 a7 a8 a9 a10 a11 a12 a13 a14 a15 a16 a17 a18 a19 a20 a21 a22 a23 a24 a25 a26 a27 a28 a29 a30 a31 a32 a33 a34 a35 a36 S) [0, 9, 10, 11, 12, 13, 14, 15, 16, 17, 18, 19, 20, 21, 22, 23, 24, 25, 26, 27, 28, 29, 30, 31, 32, 33, 34, 35, 36]) (ws' := cMn K a0 a1 a2 a3 a4 a5 a6 a7 a8 a9 a10 a11 a12 a13 a14 a15 a16 a17 a18 a19 a20 a21 a22 a23 a24 a25 a26 a27 a28 a29 a30 a31 a32 a33 a34 a35 a36 S) (ov := some (.int (fX5_standingCount (mn_live S)))) X hh hl (kX5_standingCount l K a1 a2 a3 a4 a5 a6 a7 a8 (mn_live S) (fX5_standingCount (mn_live S)) rfl) (fun ht => cwV 0 ht gX7_count_X5_standingCount rfl rfl rfl ⟨rfl, hdX5_standingCount⟩ ⟨Nat.le_of_ble_eq_true rfl, Nat.le_of_ble_eq_true rfl⟩) [1, 2, 3, 4, 5, 6, 7, 8] [0, 9, 10, 11, 12, 13, 14, 15, 16, 17, 18, 19, 20, 21, 22, 23, 24, 25, 26, 27, 28, 29, 30, 31, 32, 33, 34, 35, 36] [0, 29, 30, 31, 32, 33, 34, 35, 36, 1, 2, 3, 4, 5, 6, 7, 8, 9, 10, 11, 12, 13, 14, 15, 16, 17, 18, 19, 20, 21, 22, 23, 24, 25, 26, 27, 28] rfl rfl rfl rfl (by decide) rfl rfl rfl rfl rfl rfl (Nat.le_of_ble_eq_true rfl) dX7_count_80 ⟨Nat.zero_le _, Nat.zero_le _⟩ (fun H locs hh => ?_)
      exact hr2 83 ls H locs (fX5_standingCount (mn_live S)) hf dX7_count_83 hh
    replace hf := (if_neg c1_1).symm.trans hf
    by_cases c1_2 : v1 = (2 : Int32)
    · replace hf := (if_pos c1_2).symm.trans hf
      refine lv_tableIn (off := 61) (tgt := 84) hx hb dX7_count_23 (by rw [c1_2]; decide) (by rw [c1_2]; decide) (by rw [c1_2]; decide) (by decide) ?_
      refine lv_aload_n hx hb dX7_count_84 rfl (lv_at hl 0 rfl) ?_
      refine zget (v := .ref a1) (ref := "SumOfTwoThatStand") (C := RX7) (T := TX7) (N := 10) (index := 10) X hh inX7_count_X7 0 rfl rfl 0 (by decide) mmX7_count_0 rfl rfl dX7_count_85 ?_
      obtain ⟨u4, hu4, hf⟩ := ob_bind hf
      refine zcallV (ci := 5) (q0 := 1) (As := []) (rest := []) (wr := zsel (cMn K a0 a1 a2 a3 a4 a5 a6 a7 a8 a9 a10 a11 a12 a13 a14 a15 a16 a17 a18 a19 a20 a21 a22 a23 a24 a25 a26 a27 a28 a29 a30 a31 a32 a33 a34 a35 a36 S) [0, 9, 10, 11, 12, 13, 14, 15, 16, 17, 18, 19, 20, 21, 22, 23, 24, 25, 26, 27, 28, 29, 30, 31, 32, 33, 34, 35, 36]) (ws' := cMn K a0 a1 a2 a3 a4 a5 a6 a7 a8 a9 a10 a11 a12 a13 a14 a15 a16 a17 a18 a19 a20 a21 a22 a23 a24 a25 a26 a27 a28 a29 a30 a31 a32 a33 a34 a35 a36 S) (ov := some (.int u4)) X hh hl (kX5_greatest l K a1 a2 a3 a4 a5 a6 a7 a8 (mn_live S) u4 hu4) (fun ht => cwV 0 ht gX7_count_X5_greatest rfl rfl rfl ⟨rfl, hdX5_greatest⟩ ⟨Nat.le_of_ble_eq_true rfl, Nat.le_of_ble_eq_true rfl⟩) [1, 2, 3, 4, 5, 6, 7, 8] [0, 9, 10, 11, 12, 13, 14, 15, 16, 17, 18, 19, 20, 21, 22, 23, 24, 25, 26, 27, 28, 29, 30, 31, 32, 33, 34, 35, 36] [0, 29, 30, 31, 32, 33, 34, 35, 36, 1, 2, 3, 4, 5, 6, 7, 8, 9, 10, 11, 12, 13, 14, 15, 16, 17, 18, 19, 20, 21, 22, 23, 24, 25, 26, 27, 28] rfl rfl rfl rfl (by decide) rfl rfl rfl rfl rfl rfl (Nat.le_of_ble_eq_true rfl) dX7_count_88 ⟨Nat.zero_le _, Nat.zero_le _⟩ (fun H locs hh => ?_)
      exact hr2 91 ls H locs u4 hf dX7_count_91 hh
    replace hf := (if_neg c1_2).symm.trans hf
    by_cases c1_3 : v1 = (3 : Int32)
    · replace hf := (if_pos c1_3).symm.trans hf
      refine lv_tableIn (off := 69) (tgt := 92) hx hb dX7_count_23 (by rw [c1_3]; decide) (by rw [c1_3]; decide) (by rw [c1_3]; decide) (by decide) ?_
      refine lv_aload_n hx hb dX7_count_92 rfl (lv_at hl 0 rfl) ?_
      refine zget (v := .ref a1) (ref := "SumOfTwoThatStand") (C := RX7) (T := TX7) (N := 10) (index := 10) X hh inX7_count_X7 0 rfl rfl 0 (by decide) mmX7_count_0 rfl rfl dX7_count_93 ?_
      refine zcallV (ci := 5) (q0 := 1) (As := []) (rest := []) (wr := zsel (cMn K a0 a1 a2 a3 a4 a5 a6 a7 a8 a9 a10 a11 a12 a13 a14 a15 a16 a17 a18 a19 a20 a21 a22 a23 a24 a25 a26 a27 a28 a29 a30 a31 a32 a33 a34 a35 a36 S) [0, 9, 10, 11, 12, 13, 14, 15, 16, 17, 18, 19, 20, 21, 22, 23, 24, 25, 26, 27, 28, 29, 30, 31, 32, 33, 34, 35, 36]) (ws' := cMn K a0 a1 a2 a3 a4 a5 a6 a7 a8 a9 a10 a11 a12 a13 a14 a15 a16 a17 a18 a19 a20 a21 a22 a23 a24 a25 a26 a27 a28 a29 a30 a31 a32 a33 a34 a35 a36 S) (ov := some (.int (fX5_sumsLaw (mn_live S)))) X hh hl (kX5_sumsLaw l K a1 a2 a3 a4 a5 a6 a7 a8 (mn_live S) (fX5_sumsLaw (mn_live S)) rfl) (fun ht => cwV 0 ht gX7_count_X5_sumsLaw rfl rfl rfl ⟨rfl, hdX5_sumsLaw⟩ ⟨Nat.le_of_ble_eq_true rfl, Nat.le_of_ble_eq_true rfl⟩) [1, 2, 3, 4, 5, 6, 7, 8] [0, 9, 10, 11, 12, 13, 14, 15, 16, 17, 18, 19, 20, 21, 22, 23, 24, 25, 26, 27, 28, 29, 30, 31, 32, 33, 34, 35, 36] [0, 29, 30, 31, 32, 33, 34, 35, 36, 1, 2, 3, 4, 5, 6, 7, 8, 9, 10, 11, 12, 13, 14, 15, 16, 17, 18, 19, 20, 21, 22, 23, 24, 25, 26, 27, 28] rfl rfl rfl rfl (by decide) rfl rfl rfl rfl rfl rfl (Nat.le_of_ble_eq_true rfl) dX7_count_96 ⟨Nat.zero_le _, Nat.zero_le _⟩ (fun H locs hh => ?_)
      exact hr2 99 ls H locs (fX5_sumsLaw (mn_live S)) hf dX7_count_99 hh
    replace hf := (if_neg c1_3).symm.trans hf
    by_cases c1_4 : v1 = (4 : Int32)
    · replace hf := (if_pos c1_4).symm.trans hf
      refine lv_tableIn (off := 77) (tgt := 100) hx hb dX7_count_23 (by rw [c1_4]; decide) (by rw [c1_4]; decide) (by rw [c1_4]; decide) (by decide) ?_
      refine lv_aload_n hx hb dX7_count_100 rfl (lv_at hl 0 rfl) ?_
      refine zget (v := .ref a1) (ref := "SumOfTwoThatStand") (C := RX7) (T := TX7) (N := 10) (index := 10) X hh inX7_count_X7 0 rfl rfl 0 (by decide) mmX7_count_0 rfl rfl dX7_count_101 ?_
      refine zcallV (ci := 5) (q0 := 1) (As := []) (rest := []) (wr := zsel (cMn K a0 a1 a2 a3 a4 a5 a6 a7 a8 a9 a10 a11 a12 a13 a14 a15 a16 a17 a18 a19 a20 a21 a22 a23 a24 a25 a26 a27 a28 a29 a30 a31 a32 a33 a34 a35 a36 S) [0, 9, 10, 11, 12, 13, 14, 15, 16, 17, 18, 19, 20, 21, 22, 23, 24, 25, 26, 27, 28, 29, 30, 31, 32, 33, 34, 35, 36]) (ws' := cMn K a0 a1 a2 a3 a4 a5 a6 a7 a8 a9 a10 a11 a12 a13 a14 a15 a16 a17 a18 a19 a20 a21 a22 a23 a24 a25 a26 a27 a28 a29 a30 a31 a32 a33 a34 a35 a36 S) (ov := some (.int (fX5_fallsLaw (mn_live S)))) X hh hl (kX5_fallsLaw l K a1 a2 a3 a4 a5 a6 a7 a8 (mn_live S) (fX5_fallsLaw (mn_live S)) rfl) (fun ht => cwV 0 ht gX7_count_X5_fallsLaw rfl rfl rfl ⟨rfl, hdX5_fallsLaw⟩ ⟨Nat.le_of_ble_eq_true rfl, Nat.le_of_ble_eq_true rfl⟩) [1, 2, 3, 4, 5, 6, 7, 8] [0, 9, 10, 11, 12, 13, 14, 15, 16, 17, 18, 19, 20, 21, 22, 23, 24, 25, 26, 27, 28, 29, 30, 31, 32, 33, 34, 35, 36] [0, 29, 30, 31, 32, 33, 34, 35, 36, 1, 2, 3, 4, 5, 6, 7, 8, 9, 10, 11, 12, 13, 14, 15, 16, 17, 18, 19, 20, 21, 22, 23, 24, 25, 26, 27, 28] rfl rfl rfl rfl (by decide) rfl rfl rfl rfl rfl rfl (Nat.le_of_ble_eq_true rfl) dX7_count_104 ⟨Nat.zero_le _, Nat.zero_le _⟩ (fun H locs hh => ?_)
      exact hr2 107 ls H locs (fX5_fallsLaw (mn_live S)) hf dX7_count_107 hh
    replace hf := (if_neg c1_4).symm.trans hf
    by_cases c1_5 : v1 = (5 : Int32)
    · replace hf := (if_pos c1_5).symm.trans hf
      refine lv_tableIn (off := 85) (tgt := 108) hx hb dX7_count_23 (by rw [c1_5]; decide) (by rw [c1_5]; decide) (by rw [c1_5]; decide) (by decide) ?_
      refine lv_aload_n hx hb dX7_count_108 rfl (lv_at hl 0 rfl) ?_
      refine zget (v := .ref a1) (ref := "SumOfTwoThatStand") (C := RX7) (T := TX7) (N := 10) (index := 10) X hh inX7_count_X7 0 rfl rfl 0 (by decide) mmX7_count_0 rfl rfl dX7_count_109 ?_
      obtain ⟨u7, hu7, hf⟩ := ob_bind hf
      refine zcallV (ci := 5) (q0 := 1) (As := []) (rest := []) (wr := zsel (cMn K a0 a1 a2 a3 a4 a5 a6 a7 a8 a9 a10 a11 a12 a13 a14 a15 a16 a17 a18 a19 a20 a21 a22 a23 a24 a25 a26 a27 a28 a29 a30 a31 a32 a33 a34 a35 a36 S) [0, 9, 10, 11, 12, 13, 14, 15, 16, 17, 18, 19, 20, 21, 22, 23, 24, 25, 26, 27, 28, 29, 30, 31, 32, 33, 34, 35, 36]) (ws' := cMn K a0 a1 a2 a3 a4 a5 a6 a7 a8 a9 a10 a11 a12 a13 a14 a15 a16 a17 a18 a19 a20 a21 a22 a23 a24 a25 a26 a27 a28 a29 a30 a31 a32 a33 a34 a35 a36 S) (ov := some (.int u7)) X hh hl (kX5_allEarned l K a1 a2 a3 a4 a5 a6 a7 a8 (mn_live S) u7 hu7) (fun ht => cwV 0 ht gX7_count_X5_allEarned rfl rfl rfl ⟨rfl, hdX5_allEarned⟩ ⟨Nat.le_of_ble_eq_true rfl, Nat.le_of_ble_eq_true rfl⟩) [1, 2, 3, 4, 5, 6, 7, 8] [0, 9, 10, 11, 12, 13, 14, 15, 16, 17, 18, 19, 20, 21, 22, 23, 24, 25, 26, 27, 28, 29, 30, 31, 32, 33, 34, 35, 36] [0, 29, 30, 31, 32, 33, 34, 35, 36, 1, 2, 3, 4, 5, 6, 7, 8, 9, 10, 11, 12, 13, 14, 15, 16, 17, 18, 19, 20, 21, 22, 23, 24, 25, 26, 27, 28] rfl rfl rfl rfl (by decide) rfl rfl rfl rfl rfl rfl (Nat.le_of_ble_eq_true rfl) dX7_count_112 ⟨Nat.zero_le _, Nat.zero_le _⟩ (fun H locs hh => ?_)
      exact hr2 115 ls H locs u7 hf dX7_count_115 hh
    replace hf := (if_neg c1_5).symm.trans hf
    by_cases c1_6 : v1 = (6 : Int32)
    · replace hf := (if_pos c1_6).symm.trans hf
      refine lv_tableIn (off := 93) (tgt := 116) hx hb dX7_count_23 (by rw [c1_6]; decide) (by rw [c1_6]; decide) (by rw [c1_6]; decide) (by decide) ?_
      refine lv_aload_n hx hb dX7_count_116 rfl (lv_at hl 0 rfl) ?_
      refine zget (v := .ref a25) (ref := "SumOfTwoThatStand") (C := RX7) (T := TX7) (N := 10) (index := 25) X hh inX7_count_X7 0 rfl rfl 3 (by decide) mmX7_count_1 rfl rfl dX7_count_117 ?_
      refine zcallU (owner := "SumOfTwoThatStand$Told") (x := ⟨"SumOfTwoThatStand$Letters", "howMany", "()I"⟩) (ci := 2) (q0 := 25) (As := []) (rest := []) (wr := zsel (cMn K a0 a1 a2 a3 a4 a5 a6 a7 a8 a9 a10 a11 a12 a13 a14 a15 a16 a17 a18 a19 a20 a21 a22 a23 a24 a25 a26 a27 a28 a29 a30 a31 a32 a33 a34 a35 a36 S) [0, 1, 2, 3, 4, 5, 6, 7, 8, 9, 10, 11, 12, 13, 14, 15, 16, 17, 18, 19, 20, 21, 22, 23, 24, 28, 29, 30, 31, 32, 33, 34, 35, 36]) (ws' := cMn K a0 a1 a2 a3 a4 a5 a6 a7 a8 a9 a10 a11 a12 a13 a14 a15 a16 a17 a18 a19 a20 a21 a22 a23 a24 a25 a26 a27 a28 a29 a30 a31 a32 a33 a34 a35 a36 S) (ov := some (.int (fX6_howMany_L (mn_letters S)))) X hh hl (kX6_howMany_L l K a25 a26 a27 (mn_letters S) (fX6_howMany_L (mn_letters S)) rfl) (fun ht => va_cwU 0 ht gX7_count_X6_howMany_u217X2 rfl rfl rfl rfl hdX6_howMany ⟨Nat.le_of_ble_eq_true rfl, Nat.le_of_ble_eq_true rfl⟩) [25, 26, 27] [0, 1, 2, 3, 4, 5, 6, 7, 8, 9, 10, 11, 12, 13, 14, 15, 16, 17, 18, 19, 20, 21, 22, 23, 24, 28, 29, 30, 31, 32, 33, 34, 35, 36] [0, 1, 2, 3, 4, 5, 6, 7, 8, 9, 10, 11, 12, 13, 14, 15, 16, 17, 18, 19, 20, 21, 22, 23, 24, 34, 35, 36, 25, 26, 27, 28, 29, 30, 31, 32, 33] rfl rfl rfl rfl (by decide) rfl rfl rfl rfl rfl rfl (Nat.le_of_ble_eq_true rfl) dX7_count_120 ⟨Nat.zero_le _, Nat.zero_le _⟩ (fun H locs hh => ?_)
      exact hr2 123 ls H locs (fX6_howMany_L (mn_letters S)) hf dX7_count_123 hh
    replace hf := (if_neg c1_6).symm.trans hf
    by_cases c1_7 : v1 = (7 : Int32)
    · replace hf := (if_pos c1_7).symm.trans hf
      refine lv_tableIn (off := 101) (tgt := 124) hx hb dX7_count_23 (by rw [c1_7]; decide) (by rw [c1_7]; decide) (by rw [c1_7]; decide) (by decide) ?_
      refine lv_aload_n hx hb dX7_count_124 rfl (lv_at hl 0 rfl) ?_
      refine zget (v := .ref a28) (ref := "SumOfTwoThatStand") (C := RX7) (T := TX7) (N := 10) (index := 32) X hh inX7_count_X7 0 rfl rfl 4 (by decide) mmX7_count_2 rfl rfl dX7_count_125 ?_
      refine zcallU (owner := "SumOfTwoThatStand$Told") (x := ⟨"SumOfTwoThatStand$Row", "howMany", "()I"⟩) (ci := 4) (q0 := 28) (As := []) (rest := []) (wr := zsel (cMn K a0 a1 a2 a3 a4 a5 a6 a7 a8 a9 a10 a11 a12 a13 a14 a15 a16 a17 a18 a19 a20 a21 a22 a23 a24 a25 a26 a27 a28 a29 a30 a31 a32 a33 a34 a35 a36 S) [0, 1, 2, 3, 4, 5, 6, 7, 8, 9, 10, 11, 12, 13, 14, 15, 16, 17, 18, 19, 20, 21, 22, 23, 24, 25, 26, 27, 30, 31, 32, 33, 34, 35, 36]) (ws' := cMn K a0 a1 a2 a3 a4 a5 a6 a7 a8 a9 a10 a11 a12 a13 a14 a15 a16 a17 a18 a19 a20 a21 a22 a23 a24 a25 a26 a27 a28 a29 a30 a31 a32 a33 a34 a35 a36 S) (ov := some (.int (fX6_howMany_R (mn_told S)))) X hh hl (kX6_howMany_R l K a28 a29 (mn_told S) (fX6_howMany_R (mn_told S)) rfl) (fun ht => va_cwU 0 ht gX7_count_X6_howMany_u220X4 rfl rfl rfl rfl hdX6_howMany ⟨Nat.le_of_ble_eq_true rfl, Nat.le_of_ble_eq_true rfl⟩) [28, 29] [0, 1, 2, 3, 4, 5, 6, 7, 8, 9, 10, 11, 12, 13, 14, 15, 16, 17, 18, 19, 20, 21, 22, 23, 24, 25, 26, 27, 30, 31, 32, 33, 34, 35, 36] [0, 1, 2, 3, 4, 5, 6, 7, 8, 9, 10, 11, 12, 13, 14, 15, 16, 17, 18, 19, 20, 21, 22, 23, 24, 25, 26, 27, 35, 36, 28, 29, 30, 31, 32, 33, 34] rfl rfl rfl rfl (by decide) rfl rfl rfl rfl rfl rfl (Nat.le_of_ble_eq_true rfl) dX7_count_128 ⟨Nat.zero_le _, Nat.zero_le _⟩ (fun H locs hh => ?_)
      exact hr2 131 ls H locs (fX6_howMany_R (mn_told S)) hf dX7_count_131 hh
    replace hf := (if_neg c1_7).symm.trans hf
    refine lv_tableOut (tgt := 132) hx hb dX7_count_23 (by have e0 := lv_neT c1_0 (a := 0) (by decide); have e1 := lv_neT c1_1 (a := 1) (by decide); have e2 := lv_neT c1_2 (a := 2) (by decide); have e3 := lv_neT c1_3 (a := 3) (by decide); have e4 := lv_neT c1_4 (a := 4) (by decide); have e5 := lv_neT c1_5 (a := 5) (by decide); have e6 := lv_neT c1_6 (a := 6) (by decide); have e7 := lv_neT c1_7 (a := 7) (by decide); omega) (by decide) ?_
    refine lv_bipush (v := (-9 : Int32)) hx hb dX7_count_132 (by decide) ?_
    exact hr2 134 ls H locs (-9 : Int32) hf dX7_count_134 hh
  unfold fX7_count at hf
  refine (fun (hmain : ∀ (H : Heap) (locs : List Loc), zW K A s H locs (cMn K a0 a1 a2 a3 a4 a5 a6 a7 a8 a9 a10 a11 a12 a13 a14 a15 a16 a17 a18 a19 a20 a21 a22 a23 a24 a25 a26 a27 a28 a29 a30 a31 a32 a33 a34 a35 a36 S) → W p l e ({ frames := 2, cells := 0, slots := 0, locals := 62 } : Room) s m ([.ref a0, .int p1] : List Value).toArray below meth c H locs 0 0 Q (F0 m 0 ls [])) => hmain s.heap [] hh) (fun H locs hh => ?_)
  refine lv_iload_n hx hb dX7_count_0 rfl (lv_at hl 1 rfl) ?_
  refine lv_bipush (v := (10 : Int32)) hx hb dX7_count_1 (by decide) ?_
  refine lv_icmp_le (tgt := 22) hx hb dX7_count_3 (by decide) (fun c10 => ?_) (fun c10 => ?_)
  · replace hf := (if_pos c10).symm.trans hf
    exact hJ22 p1 H locs ls hf (lv_sub hl [0, 1] rfl) hh
  · replace hf := (if_neg c10).symm.trans hf
    refine lv_iload_n hx hb dX7_count_6 rfl (lv_at hl 1 rfl) ?_
    refine lv_bipush (v := (17 : Int32)) hx hb dX7_count_7 (by decide) ?_
    refine lv_icmp_ge (tgt := 22) hx hb dX7_count_9 (by decide) (fun c11 => ?_) (fun c11 => ?_)
    · replace hf := (if_pos c11).symm.trans hf
      exact hJ22 p1 H locs ls hf (lv_sub hl [0, 1] rfl) hh
    · replace hf := (if_neg c11).symm.trans hf
      refine lv_aload_n hx hb dX7_count_12 rfl (lv_at hl 0 rfl) ?_
      refine zget (v := .ref a36) (ref := "SumOfTwoThatStand") (C := RX7) (T := TX7) (N := 10) (index := 57) X hh inX7_count_X7 0 rfl rfl 8 (by decide) mmX7_count_3 rfl rfl dX7_count_13 ?_
      refine lv_iload_n hx hb dX7_count_16 rfl (lv_at hl 1 rfl) ?_
      refine lv_bipush (v := (10 : Int32)) hx hb dX7_count_17 (by decide) ?_
      refine lv_isub hx hb dX7_count_19 ?_
      obtain ⟨g12, hf⟩ := ob_ix hf
      refine ziald (f := (mn_refusals S)) X hh 36 rfl g12 dX7_count_20 ?_
      exact hr2 21 ls H locs ((mn_refusals S) (p1 - (10 : Int32)).toNatClampNeg) hf dX7_count_21 hh
