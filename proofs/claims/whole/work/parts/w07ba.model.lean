theorem hdX8_isIn : yX8_isIn.cls ≠ "java/lang/invoke/MethodHandle" ∧ yX8_isIn.cls ≠ "java/lang/invoke/VarHandle" ∧ (parseMethodDescriptor yX8_isIn.desc).map (fun d => d.parameters.length) = some 3 := by decide +kernel
set_option maxHeartbeats 4000000 in
set_option maxRecDepth 100000 in
theorem kX8_isIn (l : Launch) (K : zK) (p0 : Int32) (p1 : Int32) (p2 : Int32) (R : Int32) (hf : fX8_isIn p0 p1 p2 = R) : zC l yX8_isIn wsX8_isIn ({ frames := 0, cells := 0, slots := 0, locals := 0 } : Room) K [.int p0, .int p1, .int p2] ([]) (some (.int R)) ([]) := by
  refine zC_z .boolean R (cc := cX8_isIn) (maxL := 3) (by decide +kernel) rfl (Nat.le_of_ble_eq_true rfl) rfl rfl ?_
  intro p e s m below meth c Q A X hret ls hl hh
  have X : zX p m c cX8_isIn 3 s ([.int p0, .int p1, .int p2] : List Value).toArray wsX8_isIn RX8 K A := X
  have hx := X.1.1
  have hb := X.1.2.1
  have hr2 : ∀ (pc : Nat) (ls : Array Slot) (H : Heap) (locs : List Loc) (v : Int32), v = R → narrow .boolean (.int v) = .int v → decode cX8_isIn pc = .ok (.ireturn, 1) → zW K A s H locs ([]) → W p l e ({ frames := 0, cells := 0, slots := 0, locals := 0 } : Room) s m ([.int p0, .int p1, .int p2] : List Value).toArray below meth c H locs 0 0 Q (F0 m pc ls [.int v]) := by
    intro pc ls H locs v h hn hd hh
    cases h; exact hret pc ls H locs _ rfl hn hd hh
  have hl : lv_has ls 3 [(0, .int p0), (1, .int p1), (2, .int p2)] := hl
  unfold fX8_isIn at hf
  refine (fun (hmain : ∀ (H : Heap) (locs : List Loc), zW K A s H locs ([]) → W p l e ({ frames := 0, cells := 0, slots := 0, locals := 0 } : Room) s m ([.int p0, .int p1, .int p2] : List Value).toArray below meth c H locs 0 0 Q (F0 m 0 ls [])) => hmain s.heap [] hh) (fun H locs hh => ?_)
  refine lv_iload_n hx hb dX8_isIn_0 rfl (lv_at hl 0 rfl) ?_
  refine lv_iload_n hx hb dX8_isIn_1 rfl (lv_at hl 1 rfl) ?_
  refine lv_icmp_lt (tgt := 14) hx hb dX8_isIn_2 (by decide) (fun c1 => ?_) (fun c1 => ?_)
  · replace hf := (if_pos c1).symm.trans hf
    refine lv_iconst (v := (0 : Int32)) hx hb dX8_isIn_14 (by decide) ?_
    exact hr2 15 ls H locs (0 : Int32) hf rfl dX8_isIn_15 hh
  · replace hf := (if_neg c1).symm.trans hf
    refine lv_iload_n hx hb dX8_isIn_5 rfl (lv_at hl 0 rfl) ?_
    refine lv_iload_n hx hb dX8_isIn_6 rfl (lv_at hl 2 rfl) ?_
    refine lv_icmp_gt (tgt := 14) hx hb dX8_isIn_7 (by decide) (fun c2 => ?_) (fun c2 => ?_)
    · replace hf := (if_pos c2).symm.trans hf
      refine lv_iconst (v := (0 : Int32)) hx hb dX8_isIn_14 (by decide) ?_
      exact hr2 15 ls H locs (0 : Int32) hf rfl dX8_isIn_15 hh
    · replace hf := (if_neg c2).symm.trans hf
      refine lv_iconst (v := (1 : Int32)) hx hb dX8_isIn_10 (by decide) ?_
      refine lv_goto (tgt := 15) hx hb dX8_isIn_11 (by decide) ?_
      exact hr2 15 ls H locs (1 : Int32) hf rfl dX8_isIn_15 hh
theorem hdX8_bound : yX8_bound.cls ≠ "java/lang/invoke/MethodHandle" ∧ yX8_bound.cls ≠ "java/lang/invoke/VarHandle" ∧ (parseMethodDescriptor yX8_bound.desc).map (fun d => d.parameters.length) = some 3 := by decide +kernel
set_option maxHeartbeats 4000000 in
set_option maxRecDepth 100000 in
theorem kX8_bound (l : Launch) (K : zK) (p0 : Int32) (p1 : Int32) (p2 : Int32) (R : Int32) (hf : fX8_bound p0 p1 p2 = R) : zC l yX8_bound wsX8_bound ({ frames := 0, cells := 0, slots := 0, locals := 0 } : Room) K [.int p0, .int p1, .int p2] ([]) (some (.int R)) ([]) := by
  refine zC_i R (cc := cX8_bound) (maxL := 3) (by decide +kernel) rfl (Nat.le_of_ble_eq_true rfl) rfl rfl ?_
  intro p e s m below meth c Q A X hret ls hl hh
  have X : zX p m c cX8_bound 3 s ([.int p0, .int p1, .int p2] : List Value).toArray wsX8_bound RX8 K A := X
  have hx := X.1.1
  have hb := X.1.2.1
  have hr2 : ∀ (pc : Nat) (ls : Array Slot) (H : Heap) (locs : List Loc) (v : Int32), v = R → decode cX8_bound pc = .ok (.ireturn, 1) → zW K A s H locs ([]) → W p l e ({ frames := 0, cells := 0, slots := 0, locals := 0 } : Room) s m ([.int p0, .int p1, .int p2] : List Value).toArray below meth c H locs 0 0 Q (F0 m pc ls [.int v]) := by
    intro pc ls H locs v h hd hh
    cases h; exact hret pc ls H locs _ rfl hd hh
  have hl : lv_has ls 3 [(0, .int p0), (1, .int p1), (2, .int p2)] := hl
  unfold fX8_bound at hf
  refine (fun (hmain : ∀ (H : Heap) (locs : List Loc), zW K A s H locs ([]) → W p l e ({ frames := 0, cells := 0, slots := 0, locals := 0 } : Room) s m ([.int p0, .int p1, .int p2] : List Value).toArray below meth c H locs 0 0 Q (F0 m 0 ls [])) => hmain s.heap [] hh) (fun H locs hh => ?_)
  refine lv_iload_n hx hb dX8_bound_0 rfl (lv_at hl 0 rfl) ?_
  refine lv_iload_n hx hb dX8_bound_1 rfl (lv_at hl 1 rfl) ?_
  refine lv_icmp_ge (tgt := 10) hx hb dX8_bound_2 (by decide) (fun c1 => ?_) (fun c1 => ?_)
  · replace hf := (if_pos c1).symm.trans hf
    refine lv_iload_n hx hb dX8_bound_10 rfl (lv_at hl 0 rfl) ?_
    refine lv_iload_n hx hb dX8_bound_11 rfl (lv_at hl 2 rfl) ?_
    refine lv_icmp_le (tgt := 20) hx hb dX8_bound_12 (by decide) (fun c2 => ?_) (fun c2 => ?_)
    · replace hf := (if_pos c2).symm.trans hf
      refine lv_iconst (v := (0 : Int32)) hx hb dX8_bound_20 (by decide) ?_
      exact hr2 21 ls H locs (0 : Int32) hf dX8_bound_21 hh
    · replace hf := (if_neg c2).symm.trans hf
      refine lv_bipush (v := (-6 : Int32)) hx hb dX8_bound_15 (by decide) ?_
      refine lv_goto (tgt := 21) hx hb dX8_bound_17 (by decide) ?_
      exact hr2 21 ls H locs (-6 : Int32) hf dX8_bound_21 hh
  · replace hf := (if_neg c1).symm.trans hf
    refine lv_bipush (v := (-4 : Int32)) hx hb dX8_bound_5 (by decide) ?_
    refine lv_goto (tgt := 21) hx hb dX8_bound_7 (by decide) ?_
    exact hr2 21 ls H locs (-4 : Int32) hf dX8_bound_21 hh
theorem hdX8_has : yX8_has.cls ≠ "java/lang/invoke/MethodHandle" ∧ yX8_has.cls ≠ "java/lang/invoke/VarHandle" ∧ (parseMethodDescriptor yX8_has.desc).map (fun d => d.parameters.length) = some 2 := by decide +kernel
set_option maxHeartbeats 4000000 in
set_option maxRecDepth 100000 in
theorem kX8_has (l : Launch) (K : zK) (p0 : Int32) (p1 : Int32) (R : Int32) (hf : fX8_has p0 p1 = R) : zC l yX8_has wsX8_has ({ frames := 0, cells := 0, slots := 0, locals := 0 } : Room) K [.int p0, .int p1] ([]) (some (.int R)) ([]) := by
  refine zC_z .boolean R (cc := cX8_has) (maxL := 2) (by decide +kernel) rfl (Nat.le_of_ble_eq_true rfl) rfl rfl ?_
  intro p e s m below meth c Q A X hret ls hl hh
  have X : zX p m c cX8_has 2 s ([.int p0, .int p1] : List Value).toArray wsX8_has RX8 K A := X
  have hx := X.1.1
  have hb := X.1.2.1
  have hr2 : ∀ (pc : Nat) (ls : Array Slot) (H : Heap) (locs : List Loc) (v : Int32), v = R → narrow .boolean (.int v) = .int v → decode cX8_has pc = .ok (.ireturn, 1) → zW K A s H locs ([]) → W p l e ({ frames := 0, cells := 0, slots := 0, locals := 0 } : Room) s m ([.int p0, .int p1] : List Value).toArray below meth c H locs 0 0 Q (F0 m pc ls [.int v]) := by
    intro pc ls H locs v h hn hd hh
    cases h; exact hret pc ls H locs _ rfl hn hd hh
  have hl : lv_has ls 2 [(0, .int p0), (1, .int p1)] := hl
  unfold fX8_has at hf
  refine (fun (hmain : ∀ (H : Heap) (locs : List Loc), zW K A s H locs ([]) → W p l e ({ frames := 0, cells := 0, slots := 0, locals := 0 } : Room) s m ([.int p0, .int p1] : List Value).toArray below meth c H locs 0 0 Q (F0 m 0 ls [])) => hmain s.heap [] hh) (fun H locs hh => ?_)
  refine lv_iload_n hx hb dX8_has_0 rfl (lv_at hl 0 rfl) ?_
  refine lv_iload_n hx hb dX8_has_1 rfl (lv_at hl 1 rfl) ?_
  refine lv_ishr hx hb dX8_has_2 ?_
  refine lv_iconst (v := (1 : Int32)) hx hb dX8_has_3 (by decide) ?_
  refine lv_iand hx hb dX8_has_4 ?_
  refine lv_iconst (v := (1 : Int32)) hx hb dX8_has_5 (by decide) ?_
  refine lv_icmp_ne (tgt := 13) hx hb dX8_has_6 (by decide) (fun c1 => ?_) (fun c1 => ?_)
  · replace hf := (if_neg c1).symm.trans hf
    refine lv_iconst (v := (0 : Int32)) hx hb dX8_has_13 (by decide) ?_
    exact hr2 14 ls H locs (0 : Int32) hf rfl dX8_has_14 hh
  · replace hf := (if_pos c1).symm.trans hf
    refine lv_iconst (v := (1 : Int32)) hx hb dX8_has_9 (by decide) ?_
    refine lv_goto (tgt := 14) hx hb dX8_has_10 (by decide) ?_
    exact hr2 14 ls H locs (1 : Int32) hf rfl dX8_has_14 hh
theorem hdX8_bits : yX8_bits.cls ≠ "java/lang/invoke/MethodHandle" ∧ yX8_bits.cls ≠ "java/lang/invoke/VarHandle" ∧ (parseMethodDescriptor yX8_bits.desc).map (fun d => d.parameters.length) = some 1 := by decide +kernel
set_option maxHeartbeats 4000000 in
set_option maxRecDepth 100000 in
theorem kX8_bits (l : Launch) (K : zK) (p0 : Int32) (R : Int32) (hf : fX8_bits p0 = some R) : zC l yX8_bits wsX8_bits ({ frames := 0, cells := 0, slots := 0, locals := 0 } : Room) K [.int p0] ([]) (some (.int R)) ([]) := by
  refine zC_i R (cc := cX8_bits) (maxL := 3) (by decide +kernel) rfl (Nat.le_of_ble_eq_true rfl) rfl rfl ?_
  intro p e s m below meth c Q A X hret ls hl hh
  have X : zX p m c cX8_bits 3 s ([.int p0] : List Value).toArray wsX8_bits RX8 K A := X
  have hx := X.1.1
  have hb := X.1.2.1
  have hr2 : ∀ (pc : Nat) (ls : Array Slot) (H : Heap) (locs : List Loc) (v : Int32), some v = some R → decode cX8_bits pc = .ok (.ireturn, 1) → zW K A s H locs ([]) → W p l e ({ frames := 0, cells := 0, slots := 0, locals := 0 } : Room) s m ([.int p0] : List Value).toArray below meth c H locs 0 0 Q (F0 m pc ls [.int v]) := by
    intro pc ls H locs v h hd hh
    cases h; exact hret pc ls H locs _ rfl hd hh
  have hl : lv_has ls 3 [(0, .int p0)] := hl
  have hL4 : ∀ (v0 : Int32), ∀ (n : Nat) (v1 : Int32) (v2 : Int32), ∀ (H : Heap) (locs : List Loc) (ls : Array Slot), fX8_bits_l4 v0 n v1 v2 = some R → lv_has ls 3 [(0, .int v0), (1, .int v1), (2, .int v2)] → zW K A s H locs ([]) → W p l e ({ frames := 0, cells := 0, slots := 0, locals := 0 } : Room) s m ([.int p0] : List Value).toArray below meth c H locs 0 0 Q (F0 m 4 ls []) := by
    intro v0 n
    induction n with
    | zero =>
      intro v1 v2 H locs ls hf hl hh
      rw [fX8_bits_l4] at hf; cases hf
    | succ n ih =>
      intro v1 v2 H locs ls hf hl hh
      rw [fX8_bits_l4] at hf
      refine lv_iload_n hx hb dX8_bits_4 rfl (lv_at hl 2 rfl) ?_
      refine lv_bipush (v := (31 : Int32)) hx hb dX8_bits_5 (by decide) ?_
      refine lv_icmp_ge (tgt := 24) hx hb dX8_bits_7 (by decide) (fun c1 => ?_) (fun c1 => ?_)
      · replace hf := (if_pos c1).symm.trans hf
        refine lv_iload_n hx hb dX8_bits_24 rfl (lv_at hl 1 rfl) ?_
        exact hr2 25 ls H locs v1 hf dX8_bits_25 hh
      · replace hf := (if_neg c1).symm.trans hf
        refine lv_iload_n hx hb dX8_bits_10 rfl (lv_at hl 1 rfl) ?_
        refine lv_iload_n hx hb dX8_bits_11 rfl (lv_at hl 0 rfl) ?_
        refine lv_iload_n hx hb dX8_bits_12 rfl (lv_at hl 2 rfl) ?_
        refine lv_ishr hx hb dX8_bits_13 ?_
        refine lv_iconst (v := (1 : Int32)) hx hb dX8_bits_14 (by decide) ?_
        refine lv_iand hx hb dX8_bits_15 ?_
        refine lv_iadd hx hb dX8_bits_16 ?_
        refine lv_istore_n (lv' := [(1, .int (v1 + ((v0 >>> (v2 &&& 31)) &&& (1 : Int32)))), (0, .int v0), (2, .int v2)]) hx hb dX8_bits_17 rfl hl (by decide) rfl (fun ls hl => ?_)
        refine lv_iinc (v := (v2 + (1 : Int32))) (lv' := [(2, .int (v2 + (1 : Int32))), (1, .int (v1 + ((v0 >>> (v2 &&& 31)) &&& (1 : Int32)))), (0, .int v0)]) hx hb dX8_bits_18 hl (k := 2) rfl rfl (by decide) rfl (fun ls hl => ?_)
        refine lv_goto (tgt := 4) hx hb dX8_bits_21 (by decide) ?_
        exact ih (v1 + ((v0 >>> (v2 &&& 31)) &&& (1 : Int32))) (v2 + (1 : Int32)) H locs ls hf (lv_sub hl [2, 1, 0] rfl) hh
  unfold fX8_bits at hf
  refine (fun (hmain : ∀ (H : Heap) (locs : List Loc), zW K A s H locs ([]) → W p l e ({ frames := 0, cells := 0, slots := 0, locals := 0 } : Room) s m ([.int p0] : List Value).toArray below meth c H locs 0 0 Q (F0 m 0 ls [])) => hmain s.heap [] hh) (fun H locs hh => ?_)
  refine lv_iconst (v := (0 : Int32)) hx hb dX8_bits_0 (by decide) ?_
  refine lv_istore_n (lv' := [(1, .int (0 : Int32)), (0, .int p0)]) hx hb dX8_bits_1 rfl hl (by decide) rfl (fun ls hl => ?_)
  refine lv_iconst (v := (0 : Int32)) hx hb dX8_bits_2 (by decide) ?_
  refine lv_istore_n (lv' := [(2, .int (0 : Int32)), (1, .int (0 : Int32)), (0, .int p0)]) hx hb dX8_bits_3 rfl hl (by decide) rfl (fun ls hl => ?_)
  exact hL4 p0 FU (0 : Int32) (0 : Int32) H locs ls hf (lv_sub hl [2, 1, 0] rfl) hh
theorem hdX8_halves : yX8_halves.cls ≠ "java/lang/invoke/MethodHandle" ∧ yX8_halves.cls ≠ "java/lang/invoke/VarHandle" ∧ (parseMethodDescriptor yX8_halves.desc).map (fun d => d.parameters.length) = some 1 := by decide +kernel
set_option maxHeartbeats 4000000 in
set_option maxRecDepth 100000 in
theorem kX8_halves (l : Launch) (K : zK) (p0 : Int32) (R : Int32) (hf : fX8_halves p0 = some R) : zC l yX8_halves wsX8_halves ({ frames := 0, cells := 0, slots := 0, locals := 0 } : Room) K [.int p0] ([]) (some (.int R)) ([]) := by
  refine zC_i R (cc := cX8_halves) (maxL := 3) (by decide +kernel) rfl (Nat.le_of_ble_eq_true rfl) rfl rfl ?_
  intro p e s m below meth c Q A X hret ls hl hh
  have X : zX p m c cX8_halves 3 s ([.int p0] : List Value).toArray wsX8_halves RX8 K A := X
  have hx := X.1.1
  have hb := X.1.2.1
  have hr2 : ∀ (pc : Nat) (ls : Array Slot) (H : Heap) (locs : List Loc) (v : Int32), some v = some R → decode cX8_halves pc = .ok (.ireturn, 1) → zW K A s H locs ([]) → W p l e ({ frames := 0, cells := 0, slots := 0, locals := 0 } : Room) s m ([.int p0] : List Value).toArray below meth c H locs 0 0 Q (F0 m pc ls [.int v]) := by
    intro pc ls H locs v h hd hh
    cases h; exact hret pc ls H locs _ rfl hd hh
  have hl : lv_has ls 3 [(0, .int p0)] := hl
  have hL4 : ∀ (n : Nat) (v1 : Int32) (v2 : Int32), ∀ (H : Heap) (locs : List Loc) (ls : Array Slot), fX8_halves_l4 n v1 v2 = some R → lv_has ls 3 [(1, .int v1), (2, .int v2)] → zW K A s H locs ([]) → W p l e ({ frames := 0, cells := 0, slots := 0, locals := 0 } : Room) s m ([.int p0] : List Value).toArray below meth c H locs 0 0 Q (F0 m 4 ls []) := by
    intro n
    induction n with
    | zero =>
      intro v1 v2 H locs ls hf hl hh
      rw [fX8_halves_l4] at hf; cases hf
    | succ n ih =>
      intro v1 v2 H locs ls hf hl hh
      rw [fX8_halves_l4] at hf
      refine lv_iload_n hx hb dX8_halves_4 rfl (lv_at hl 1 rfl) ?_
      refine lv_iconst (v := (1 : Int32)) hx hb dX8_halves_5 (by decide) ?_
      refine lv_icmp_le (tgt := 24) hx hb dX8_halves_6 (by decide) (fun c1 => ?_) (fun c1 => ?_)
      · replace hf := (if_pos c1).symm.trans hf
        refine lv_iload_n hx hb dX8_halves_24 rfl (lv_at hl 0 rfl) ?_
        refine lv_iconst (v := (1 : Int32)) hx hb dX8_halves_25 (by decide) ?_
        refine lv_iadd hx hb dX8_halves_26 ?_
        exact hr2 27 ls H locs (v1 + (1 : Int32)) hf dX8_halves_27 hh
      · replace hf := (if_neg c1).symm.trans hf
        refine lv_iload_n hx hb dX8_halves_9 rfl (lv_at hl 0 rfl) ?_
        refine lv_iconst (v := (1 : Int32)) hx hb dX8_halves_10 (by decide) ?_
        refine lv_iload_n hx hb dX8_halves_11 rfl (lv_at hl 1 rfl) ?_
        refine lv_iconst (v := (2 : Int32)) hx hb dX8_halves_12 (by decide) ?_
        refine lv_irem hx hb dX8_halves_13 (by decide) ?_
        refine lv_iadd hx hb dX8_halves_14 ?_
        refine lv_iadd hx hb dX8_halves_15 ?_
        refine lv_istore_n (lv' := [(1, .int (v1 + ((1 : Int32) + (v2 - v2 / (2 : Int32) * (2 : Int32))))), (2, .int v2)]) hx hb dX8_halves_16 rfl hl (by decide) rfl (fun ls hl => ?_)
        refine lv_iload_n hx hb dX8_halves_17 rfl (lv_at hl 1 rfl) ?_
        refine lv_iconst (v := (2 : Int32)) hx hb dX8_halves_18 (by decide) ?_
        refine lv_idiv hx hb dX8_halves_19 (by decide) ?_
        refine lv_istore_n (lv' := [(2, .int (v2 / (2 : Int32))), (1, .int (v1 + ((1 : Int32) + (v2 - v2 / (2 : Int32) * (2 : Int32)))))]) hx hb dX8_halves_20 rfl hl (by decide) rfl (fun ls hl => ?_)
        refine lv_goto (tgt := 4) hx hb dX8_halves_21 (by decide) ?_
        exact ih (v1 + ((1 : Int32) + (v2 - v2 / (2 : Int32) * (2 : Int32)))) (v2 / (2 : Int32)) H locs ls hf (lv_sub hl [1, 0] rfl) hh
  unfold fX8_halves at hf
  refine (fun (hmain : ∀ (H : Heap) (locs : List Loc), zW K A s H locs ([]) → W p l e ({ frames := 0, cells := 0, slots := 0, locals := 0 } : Room) s m ([.int p0] : List Value).toArray below meth c H locs 0 0 Q (F0 m 0 ls [])) => hmain s.heap [] hh) (fun H locs hh => ?_)
  refine lv_iconst (v := (0 : Int32)) hx hb dX8_halves_0 (by decide) ?_
  refine lv_istore_n (lv' := [(1, .int (0 : Int32)), (0, .int p0)]) hx hb dX8_halves_1 rfl hl (by decide) rfl (fun ls hl => ?_)
  refine lv_iload_n hx hb dX8_halves_2 rfl (lv_at hl 1 rfl) ?_
  refine lv_istore_n (lv' := [(2, .int p0), (1, .int (0 : Int32)), (0, .int p0)]) hx hb dX8_halves_3 rfl hl (by decide) rfl (fun ls hl => ?_)
  exact hL4 FU (0 : Int32) p0 H locs ls hf (lv_sub hl [1, 0] rfl) hh
theorem hdX8_leastFactor : yX8_leastFactor.cls ≠ "java/lang/invoke/MethodHandle" ∧ yX8_leastFactor.cls ≠ "java/lang/invoke/VarHandle" ∧ (parseMethodDescriptor yX8_leastFactor.desc).map (fun d => d.parameters.length) = some 1 := by decide +kernel
set_option maxHeartbeats 4000000 in
set_option maxRecDepth 100000 in
theorem kX8_leastFactor (l : Launch) (K : zK) (p0 : Int32) (R : Int32) (hf : fX8_leastFactor p0 = some R) : zC l yX8_leastFactor wsX8_leastFactor ({ frames := 0, cells := 0, slots := 0, locals := 0 } : Room) K [.int p0] ([]) (some (.int R)) ([]) := by
  refine zC_i R (cc := cX8_leastFactor) (maxL := 2) (by decide +kernel) rfl (Nat.le_of_ble_eq_true rfl) rfl rfl ?_
  intro p e s m below meth c Q A X hret ls hl hh
  have X : zX p m c cX8_leastFactor 2 s ([.int p0] : List Value).toArray wsX8_leastFactor RX8 K A := X
  have hx := X.1.1
  have hb := X.1.2.1
  have hr2 : ∀ (pc : Nat) (ls : Array Slot) (H : Heap) (locs : List Loc) (v : Int32), some v = some R → decode cX8_leastFactor pc = .ok (.ireturn, 1) → zW K A s H locs ([]) → W p l e ({ frames := 0, cells := 0, slots := 0, locals := 0 } : Room) s m ([.int p0] : List Value).toArray below meth c H locs 0 0 Q (F0 m pc ls [.int v]) := by
    intro pc ls H locs v h hd hh
    cases h; exact hret pc ls H locs _ rfl hd hh
  have hl : lv_has ls 2 [(0, .int p0)] := hl
  have hL2 : ∀ (v0 : Int32), ∀ (n : Nat) (v1 : Int32), ∀ (H : Heap) (locs : List Loc) (ls : Array Slot), fX8_leastFactor_l2 v0 n v1 = some R → lv_has ls 2 [(0, .int v0), (1, .int v1)] → zW K A s H locs ([]) → W p l e ({ frames := 0, cells := 0, slots := 0, locals := 0 } : Room) s m ([.int p0] : List Value).toArray below meth c H locs 0 0 Q (F0 m 2 ls []) := by
    intro v0 n
    induction n with
    | zero =>
      intro v1 H locs ls hf hl hh
      rw [fX8_leastFactor_l2] at hf; cases hf
    | succ n ih =>
      intro v1 H locs ls hf hl hh
      rw [fX8_leastFactor_l2] at hf
      refine lv_iload_n hx hb dX8_leastFactor_2 rfl (lv_at hl 0 rfl) ?_
      refine lv_iload_n hx hb dX8_leastFactor_3 rfl (lv_at hl 1 rfl) ?_
      obtain ⟨g1, hf⟩ := ob_gd hf
      refine lv_irem hx hb dX8_leastFactor_4 g1 ?_
      refine lv_if_eq (tgt := 14) hx hb dX8_leastFactor_5 (by decide) (fun c2 => ?_) (fun c2 => ?_)
      · replace hf := (if_pos c2).symm.trans hf
        refine lv_iload_n hx hb dX8_leastFactor_14 rfl (lv_at hl 1 rfl) ?_
        exact hr2 15 ls H locs v1 hf dX8_leastFactor_15 hh
      · replace hf := (if_neg c2).symm.trans hf
        refine lv_iinc (v := (v1 + (1 : Int32))) (lv' := [(1, .int (v1 + (1 : Int32))), (0, .int v0)]) hx hb dX8_leastFactor_8 hl (k := 1) rfl rfl (by decide) rfl (fun ls hl => ?_)
        refine lv_goto (tgt := 2) hx hb dX8_leastFactor_11 (by decide) ?_
        exact ih (v1 + (1 : Int32)) H locs ls hf (lv_sub hl [1, 0] rfl) hh
  unfold fX8_leastFactor at hf
  refine (fun (hmain : ∀ (H : Heap) (locs : List Loc), zW K A s H locs ([]) → W p l e ({ frames := 0, cells := 0, slots := 0, locals := 0 } : Room) s m ([.int p0] : List Value).toArray below meth c H locs 0 0 Q (F0 m 0 ls [])) => hmain s.heap [] hh) (fun H locs hh => ?_)
  refine lv_iconst (v := (2 : Int32)) hx hb dX8_leastFactor_0 (by decide) ?_
  refine lv_istore_n (lv' := [(1, .int (2 : Int32)), (0, .int p0)]) hx hb dX8_leastFactor_1 rfl hl (by decide) rfl (fun ls hl => ?_)
  exact hL2 p0 FU (2 : Int32) H locs ls hf (lv_sub hl [1, 0] rfl) hh
theorem inX8_no_X8 : ∀ w ∈ wsX80, w ∈ wsX8_no := by decide +kernel
theorem mmX8_no_0 : Cond.fieldLink RX8 7 "SumOfTwoThatStandModel" "refused" "[I" ∈ wsX8_no := by decide +kernel
theorem hdX8_no : yX8_no.cls ≠ "java/lang/invoke/MethodHandle" ∧ yX8_no.cls ≠ "java/lang/invoke/VarHandle" ∧ (parseMethodDescriptor yX8_no.desc).map (fun d => d.parameters.length) = some 1 := by decide +kernel
set_option maxHeartbeats 4000000 in
set_option maxRecDepth 100000 in
theorem kX8_no (l : Launch) (K : zK) (a0 a1 a2 a3 a4 a5 a6 a7 a8 a9 a10 a11 a12 a13 a14 a15 a16 a17 a18 a19 : Nat) (S : zMd) (p1 : Int32) (R : Int32 × zMd) (hf : fX8_no S p1 = some R) : zC l yX8_no wsX8_no ({ frames := 0, cells := 0, slots := 0, locals := 0 } : Room) K [.ref a0, .int p1] (cMd K a0 a1 a2 a3 a4 a5 a6 a7 a8 a9 a10 a11 a12 a13 a14 a15 a16 a17 a18 a19 S) (some (.int R.1)) (cMd K a0 a1 a2 a3 a4 a5 a6 a7 a8 a9 a10 a11 a12 a13 a14 a15 a16 a17 a18 a19 R.2) := by
  refine zC_i R.1 (cc := cX8_no) (maxL := 2) (by decide +kernel) rfl (Nat.le_of_ble_eq_true rfl) rfl rfl ?_
  intro p e s m below meth c Q A X hret ls hl hh
  have X : zX p m c cX8_no 2 s ([.ref a0, .int p1] : List Value).toArray wsX8_no RX8 K A := X
  have hx := X.1.1
  have hb := X.1.2.1
  have hr2 : ∀ (pc : Nat) (ls : Array Slot) (H : Heap) (locs : List Loc) (v : Int32) (S : zMd), some (v, S) = some R → decode cX8_no pc = .ok (.ireturn, 1) → zW K A s H locs (cMd K a0 a1 a2 a3 a4 a5 a6 a7 a8 a9 a10 a11 a12 a13 a14 a15 a16 a17 a18 a19 S) → W p l e ({ frames := 0, cells := 0, slots := 0, locals := 0 } : Room) s m ([.ref a0, .int p1] : List Value).toArray below meth c H locs 0 0 Q (F0 m pc ls [.int v]) := by
    intro pc ls H locs v S h hd hh
    cases h; exact hret pc ls H locs _ rfl hd hh
  have hl : lv_has ls 2 [(0, .ref a0), (1, .int p1)] := hl
  unfold fX8_no at hf
  refine (fun (hmain : ∀ (H : Heap) (locs : List Loc), zW K A s H locs (cMd K a0 a1 a2 a3 a4 a5 a6 a7 a8 a9 a10 a11 a12 a13 a14 a15 a16 a17 a18 a19 S) → W p l e ({ frames := 0, cells := 0, slots := 0, locals := 0 } : Room) s m ([.ref a0, .int p1] : List Value).toArray below meth c H locs 0 0 Q (F0 m 0 ls [])) => hmain s.heap [] hh) (fun H locs hh => ?_)
  refine lv_aload_n hx hb dX8_no_0 rfl (lv_at hl 0 rfl) ?_
  refine zget (v := .ref a1) (ref := "SumOfTwoThatStandModel") (C := RX8) (T := TX8) (N := 33) (index := 7) X hh inX8_no_X8 0 rfl rfl 0 (by decide) mmX8_no_0 rfl rfl dX8_no_1 ?_
  refine lv_iload_n hx hb dX8_no_4 rfl (lv_at hl 1 rfl) ?_
  refine lv_ineg hx hb dX8_no_5 ?_
  refine lv_dup2_11 hx hb dX8_no_6 rfl rfl ?_
  obtain ⟨g1, hf⟩ := ob_ix hf
  refine ziald (f := (md_refused S)) X hh 1 rfl g1 dX8_no_7 ?_
  refine lv_iconst (v := (1 : Int32)) hx hb dX8_no_8 (by decide) ?_
  refine lv_iadd hx hb dX8_no_9 ?_
  refine ziast (f := (md_refused S)) X hh 1 rfl g1 dX8_no_10 (fun H locs hh => ?_)
  have hh := hh.to (sMd_refused K a0 a1 a2 a3 a4 a5 a6 a7 a8 a9 a10 a11 a12 a13 a14 a15 a16 a17 a18 a19 S (upd (md_refused S) (-p1).toNatClampNeg (((md_refused S) (-p1).toNatClampNeg) + (1 : Int32))))
  refine lv_iload_n hx hb dX8_no_11 rfl (lv_at hl 1 rfl) ?_
  exact hr2 12 ls H locs p1 (md_set_refused S (upd (md_refused S) (-p1).toNatClampNeg (((md_refused S) (-p1).toNatClampNeg) + (1 : Int32)))) hf dX8_no_12 hh
theorem inX8_isMore_X8 : ∀ w ∈ wsX80, w ∈ wsX8_isMore := by decide +kernel
theorem mmX8_isMore_0 : Cond.fieldLink RX8 13 "SumOfTwoThatStandModel" "number" "[I" ∈ wsX8_isMore := by decide +kernel
theorem mmX8_isMore_1 : Cond.fieldLink RX8 70 "SumOfTwoThatStandModel" "houses" "I" ∈ wsX8_isMore := by decide +kernel
theorem mmX8_isMore_2 : Cond.fieldLink RX8 16 "SumOfTwoThatStandModel" "kind" "[I" ∈ wsX8_isMore := by decide +kernel
theorem mmX8_isMore_3 : Cond.fieldLink RX8 19 "SumOfTwoThatStandModel" "figure" "[I" ∈ wsX8_isMore := by decide +kernel
theorem mmX8_isMore_4 : Cond.fieldLink RX8 22 "SumOfTwoThatStandModel" "one" "[I" ∈ wsX8_isMore := by decide +kernel
theorem mmX8_isMore_5 : Cond.fieldLink RX8 25 "SumOfTwoThatStandModel" "other" "[I" ∈ wsX8_isMore := by decide +kernel
theorem mmX8_isMore_6 : Cond.fieldLink RX8 28 "SumOfTwoThatStandModel" "stands" "[I" ∈ wsX8_isMore := by decide +kernel
theorem mmX8_isMore_7 : Cond.fieldLink RX8 31 "SumOfTwoThatStandModel" "uses" "[I" ∈ wsX8_isMore := by decide +kernel
theorem mmX8_isMore_8 : Cond.fieldLink RX8 34 "SumOfTwoThatStandModel" "earned" "[I" ∈ wsX8_isMore := by decide +kernel
theorem hdX8_isMore : yX8_isMore.cls ≠ "java/lang/invoke/MethodHandle" ∧ yX8_isMore.cls ≠ "java/lang/invoke/VarHandle" ∧ (parseMethodDescriptor yX8_isMore.desc).map (fun d => d.parameters.length) = some 5 := by decide +kernel
set_option maxHeartbeats 4000000 in
set_option maxRecDepth 100000 in
theorem kX8_isMore (l : Launch) (K : zK) (a0 a1 a2 a3 a4 a5 a6 a7 a8 a9 a10 a11 a12 a13 a14 a15 a16 a17 a18 a19 : Nat) (S : zMd) (p1 : Int32) (p2 : Int32) (p3 : Int32) (p4 : Int32) (p5 : Int32) (R : zMd) (hf : fX8_isMore S p1 p2 p3 p4 p5 = some R) : zC l yX8_isMore wsX8_isMore ({ frames := 0, cells := 0, slots := 0, locals := 0 } : Room) K [.ref a0, .int p1, .int p2, .int p3, .int p4, .int p5] (cMd K a0 a1 a2 a3 a4 a5 a6 a7 a8 a9 a10 a11 a12 a13 a14 a15 a16 a17 a18 a19 S) none (cMd K a0 a1 a2 a3 a4 a5 a6 a7 a8 a9 a10 a11 a12 a13 a14 a15 a16 a17 a18 a19 R) := by
  refine zC_v (cc := cX8_isMore) (maxL := 6) (by decide +kernel) rfl (Nat.le_of_ble_eq_true rfl) rfl rfl ?_
  intro p e s m below meth c Q A X hret ls hl hh
  have X : zX p m c cX8_isMore 6 s ([.ref a0, .int p1, .int p2, .int p3, .int p4, .int p5] : List Value).toArray wsX8_isMore RX8 K A := X
  have hx := X.1.1
  have hb := X.1.2.1
  have hr2 : ∀ (pc : Nat) (ls : Array Slot) (H : Heap) (locs : List Loc) (S : zMd), some S = some R → decode cX8_isMore pc = .ok (.return_, 1) → zW K A s H locs (cMd K a0 a1 a2 a3 a4 a5 a6 a7 a8 a9 a10 a11 a12 a13 a14 a15 a16 a17 a18 a19 S) → W p l e ({ frames := 0, cells := 0, slots := 0, locals := 0 } : Room) s m ([.ref a0, .int p1, .int p2, .int p3, .int p4, .int p5] : List Value).toArray below meth c H locs 0 0 Q (F0 m pc ls []) := by
    intro pc ls H locs S h hd hh
    cases h; exact hret pc ls H locs hd hh
  have hl : lv_has ls 6 [(0, .ref a0), (1, .int p1), (2, .int p2), (3, .int p3), (4, .int p4), (5, .int p5)] := hl
  unfold fX8_isMore at hf
  refine (fun (hmain : ∀ (H : Heap) (locs : List Loc), zW K A s H locs (cMd K a0 a1 a2 a3 a4 a5 a6 a7 a8 a9 a10 a11 a12 a13 a14 a15 a16 a17 a18 a19 S) → W p l e ({ frames := 0, cells := 0, slots := 0, locals := 0 } : Room) s m ([.ref a0, .int p1, .int p2, .int p3, .int p4, .int p5] : List Value).toArray below meth c H locs 0 0 Q (F0 m 0 ls [])) => hmain s.heap [] hh) (fun H locs hh => ?_)
  refine lv_aload_n hx hb dX8_isMore_0 rfl (lv_at hl 0 rfl) ?_
  refine zget (v := .ref a2) (ref := "SumOfTwoThatStandModel") (C := RX8) (T := TX8) (N := 33) (index := 13) X hh inX8_isMore_X8 0 rfl rfl 1 (by decide) mmX8_isMore_0 rfl rfl dX8_isMore_1 ?_
  refine lv_aload_n hx hb dX8_isMore_4 rfl (lv_at hl 0 rfl) ?_
  refine zget (v := .int (md_houses S)) (ref := "SumOfTwoThatStandModel") (C := RX8) (T := TX8) (N := 33) (index := 70) X hh inX8_isMore_X8 0 rfl rfl 9 (by decide) mmX8_isMore_1 rfl rfl dX8_isMore_5 ?_
  refine lv_iload_n hx hb dX8_isMore_8 rfl (lv_at hl 1 rfl) ?_
  obtain ⟨g1, hf⟩ := ob_ix hf
  refine ziast (f := (md_number S)) X hh 2 rfl g1 dX8_isMore_9 (fun H locs hh => ?_)
  have hh := hh.to (sMd_number K a0 a1 a2 a3 a4 a5 a6 a7 a8 a9 a10 a11 a12 a13 a14 a15 a16 a17 a18 a19 S (upd (md_number S) (md_houses S).toNatClampNeg p1))
  refine lv_aload_n hx hb dX8_isMore_10 rfl (lv_at hl 0 rfl) ?_
  refine zget (v := .ref a3) (ref := "SumOfTwoThatStandModel") (C := RX8) (T := TX8) (N := 33) (index := 16) X hh inX8_isMore_X8 0 rfl rfl 2 (by decide) mmX8_isMore_2 rfl rfl dX8_isMore_11 ?_
  refine lv_aload_n hx hb dX8_isMore_14 rfl (lv_at hl 0 rfl) ?_
  refine zget (v := .int (md_houses S)) (ref := "SumOfTwoThatStandModel") (C := RX8) (T := TX8) (N := 33) (index := 70) X hh inX8_isMore_X8 0 rfl rfl 9 (by decide) mmX8_isMore_1 rfl rfl dX8_isMore_15 ?_
  refine lv_iload_n hx hb dX8_isMore_18 rfl (lv_at hl 2 rfl) ?_
  refine ziast (f := (md_kind S)) X hh 3 rfl g1 dX8_isMore_19 (fun H locs hh => ?_)
  have hh := hh.to (sMd_kind K a0 a1 a2 a3 a4 a5 a6 a7 a8 a9 a10 a11 a12 a13 a14 a15 a16 a17 a18 a19 (md_set_number S (upd (md_number S) (md_houses S).toNatClampNeg p1)) (upd (md_kind S) (md_houses S).toNatClampNeg p2))
  refine lv_aload_n hx hb dX8_isMore_20 rfl (lv_at hl 0 rfl) ?_
  refine zget (v := .ref a4) (ref := "SumOfTwoThatStandModel") (C := RX8) (T := TX8) (N := 33) (index := 19) X hh inX8_isMore_X8 0 rfl rfl 3 (by decide) mmX8_isMore_3 rfl rfl dX8_isMore_21 ?_
  refine lv_aload_n hx hb dX8_isMore_24 rfl (lv_at hl 0 rfl) ?_
  refine zget (v := .int (md_houses S)) (ref := "SumOfTwoThatStandModel") (C := RX8) (T := TX8) (N := 33) (index := 70) X hh inX8_isMore_X8 0 rfl rfl 9 (by decide) mmX8_isMore_1 rfl rfl dX8_isMore_25 ?_
  refine lv_iload_n hx hb dX8_isMore_28 rfl (lv_at hl 3 rfl) ?_
  refine ziast (f := (md_figure S)) X hh 4 rfl g1 dX8_isMore_29 (fun H locs hh => ?_)
  have hh := hh.to (sMd_figure K a0 a1 a2 a3 a4 a5 a6 a7 a8 a9 a10 a11 a12 a13 a14 a15 a16 a17 a18 a19 (md_set_kind (md_set_number S (upd (md_number S) (md_houses S).toNatClampNeg p1)) (upd (md_kind S) (md_houses S).toNatClampNeg p2)) (upd (md_figure S) (md_houses S).toNatClampNeg p3))
  refine lv_aload_n hx hb dX8_isMore_30 rfl (lv_at hl 0 rfl) ?_
  refine zget (v := .ref a5) (ref := "SumOfTwoThatStandModel") (C := RX8) (T := TX8) (N := 33) (index := 22) X hh inX8_isMore_X8 0 rfl rfl 4 (by decide) mmX8_isMore_4 rfl rfl dX8_isMore_31 ?_
  refine lv_aload_n hx hb dX8_isMore_34 rfl (lv_at hl 0 rfl) ?_
  refine zget (v := .int (md_houses S)) (ref := "SumOfTwoThatStandModel") (C := RX8) (T := TX8) (N := 33) (index := 70) X hh inX8_isMore_X8 0 rfl rfl 9 (by decide) mmX8_isMore_1 rfl rfl dX8_isMore_35 ?_
  refine lv_iload hx hb dX8_isMore_38 (lv_at hl 4 rfl) ?_
  refine ziast (f := (md_one S)) X hh 5 rfl g1 dX8_isMore_40 (fun H locs hh => ?_)
  have hh := hh.to (sMd_one K a0 a1 a2 a3 a4 a5 a6 a7 a8 a9 a10 a11 a12 a13 a14 a15 a16 a17 a18 a19 (md_set_figure (md_set_kind (md_set_number S (upd (md_number S) (md_houses S).toNatClampNeg p1)) (upd (md_kind S) (md_houses S).toNatClampNeg p2)) (upd (md_figure S) (md_houses S).toNatClampNeg p3)) (upd (md_one S) (md_houses S).toNatClampNeg p4))
  refine lv_aload_n hx hb dX8_isMore_41 rfl (lv_at hl 0 rfl) ?_
  refine zget (v := .ref a6) (ref := "SumOfTwoThatStandModel") (C := RX8) (T := TX8) (N := 33) (index := 25) X hh inX8_isMore_X8 0 rfl rfl 5 (by decide) mmX8_isMore_5 rfl rfl dX8_isMore_42 ?_
  refine lv_aload_n hx hb dX8_isMore_45 rfl (lv_at hl 0 rfl) ?_
  refine zget (v := .int (md_houses S)) (ref := "SumOfTwoThatStandModel") (C := RX8) (T := TX8) (N := 33) (index := 70) X hh inX8_isMore_X8 0 rfl rfl 9 (by decide) mmX8_isMore_1 rfl rfl dX8_isMore_46 ?_
  refine lv_iload hx hb dX8_isMore_49 (lv_at hl 5 rfl) ?_
  refine ziast (f := (md_other S)) X hh 6 rfl g1 dX8_isMore_51 (fun H locs hh => ?_)
  have hh := hh.to (sMd_other K a0 a1 a2 a3 a4 a5 a6 a7 a8 a9 a10 a11 a12 a13 a14 a15 a16 a17 a18 a19 (md_set_one (md_set_figure (md_set_kind (md_set_number S (upd (md_number S) (md_houses S).toNatClampNeg p1)) (upd (md_kind S) (md_houses S).toNatClampNeg p2)) (upd (md_figure S) (md_houses S).toNatClampNeg p3)) (upd (md_one S) (md_houses S).toNatClampNeg p4)) (upd (md_other S) (md_houses S).toNatClampNeg p5))
  refine lv_aload_n hx hb dX8_isMore_52 rfl (lv_at hl 0 rfl) ?_
  refine zget (v := .ref a7) (ref := "SumOfTwoThatStandModel") (C := RX8) (T := TX8) (N := 33) (index := 28) X hh inX8_isMore_X8 0 rfl rfl 6 (by decide) mmX8_isMore_6 rfl rfl dX8_isMore_53 ?_
  refine lv_aload_n hx hb dX8_isMore_56 rfl (lv_at hl 0 rfl) ?_
  refine zget (v := .int (md_houses S)) (ref := "SumOfTwoThatStandModel") (C := RX8) (T := TX8) (N := 33) (index := 70) X hh inX8_isMore_X8 0 rfl rfl 9 (by decide) mmX8_isMore_1 rfl rfl dX8_isMore_57 ?_
  refine lv_iconst (v := (1 : Int32)) hx hb dX8_isMore_60 (by decide) ?_
  refine ziast (f := (md_stands S)) X hh 7 rfl g1 dX8_isMore_61 (fun H locs hh => ?_)
  have hh := hh.to (sMd_stands K a0 a1 a2 a3 a4 a5 a6 a7 a8 a9 a10 a11 a12 a13 a14 a15 a16 a17 a18 a19 (md_set_other (md_set_one (md_set_figure (md_set_kind (md_set_number S (upd (md_number S) (md_houses S).toNatClampNeg p1)) (upd (md_kind S) (md_houses S).toNatClampNeg p2)) (upd (md_figure S) (md_houses S).toNatClampNeg p3)) (upd (md_one S) (md_houses S).toNatClampNeg p4)) (upd (md_other S) (md_houses S).toNatClampNeg p5)) (upd (md_stands S) (md_houses S).toNatClampNeg (1 : Int32)))
  refine lv_aload_n hx hb dX8_isMore_62 rfl (lv_at hl 0 rfl) ?_
  refine zget (v := .ref a8) (ref := "SumOfTwoThatStandModel") (C := RX8) (T := TX8) (N := 33) (index := 31) X hh inX8_isMore_X8 0 rfl rfl 7 (by decide) mmX8_isMore_7 rfl rfl dX8_isMore_63 ?_
  refine lv_aload_n hx hb dX8_isMore_66 rfl (lv_at hl 0 rfl) ?_
  refine zget (v := .int (md_houses S)) (ref := "SumOfTwoThatStandModel") (C := RX8) (T := TX8) (N := 33) (index := 70) X hh inX8_isMore_X8 0 rfl rfl 9 (by decide) mmX8_isMore_1 rfl rfl dX8_isMore_67 ?_
  refine lv_iconst (v := (0 : Int32)) hx hb dX8_isMore_70 (by decide) ?_
  refine ziast (f := (md_uses S)) X hh 8 rfl g1 dX8_isMore_71 (fun H locs hh => ?_)
  have hh := hh.to (sMd_uses K a0 a1 a2 a3 a4 a5 a6 a7 a8 a9 a10 a11 a12 a13 a14 a15 a16 a17 a18 a19 (md_set_stands (md_set_other (md_set_one (md_set_figure (md_set_kind (md_set_number S (upd (md_number S) (md_houses S).toNatClampNeg p1)) (upd (md_kind S) (md_houses S).toNatClampNeg p2)) (upd (md_figure S) (md_houses S).toNatClampNeg p3)) (upd (md_one S) (md_houses S).toNatClampNeg p4)) (upd (md_other S) (md_houses S).toNatClampNeg p5)) (upd (md_stands S) (md_houses S).toNatClampNeg (1 : Int32))) (upd (md_uses S) (md_houses S).toNatClampNeg (0 : Int32)))
  refine lv_aload_n hx hb dX8_isMore_72 rfl (lv_at hl 0 rfl) ?_
  refine zget (v := .ref a9) (ref := "SumOfTwoThatStandModel") (C := RX8) (T := TX8) (N := 33) (index := 34) X hh inX8_isMore_X8 0 rfl rfl 8 (by decide) mmX8_isMore_8 rfl rfl dX8_isMore_73 ?_
  refine lv_aload_n hx hb dX8_isMore_76 rfl (lv_at hl 0 rfl) ?_
  refine zget (v := .int (md_houses S)) (ref := "SumOfTwoThatStandModel") (C := RX8) (T := TX8) (N := 33) (index := 70) X hh inX8_isMore_X8 0 rfl rfl 9 (by decide) mmX8_isMore_1 rfl rfl dX8_isMore_77 ?_
  refine lv_iconst (v := (0 : Int32)) hx hb dX8_isMore_80 (by decide) ?_
  refine ziast (f := (md_earned S)) X hh 9 rfl g1 dX8_isMore_81 (fun H locs hh => ?_)
  have hh := hh.to (sMd_earned K a0 a1 a2 a3 a4 a5 a6 a7 a8 a9 a10 a11 a12 a13 a14 a15 a16 a17 a18 a19 (md_set_uses (md_set_stands (md_set_other (md_set_one (md_set_figure (md_set_kind (md_set_number S (upd (md_number S) (md_houses S).toNatClampNeg p1)) (upd (md_kind S) (md_houses S).toNatClampNeg p2)) (upd (md_figure S) (md_houses S).toNatClampNeg p3)) (upd (md_one S) (md_houses S).toNatClampNeg p4)) (upd (md_other S) (md_houses S).toNatClampNeg p5)) (upd (md_stands S) (md_houses S).toNatClampNeg (1 : Int32))) (upd (md_uses S) (md_houses S).toNatClampNeg (0 : Int32))) (upd (md_earned S) (md_houses S).toNatClampNeg (0 : Int32)))
  refine lv_aload_n hx hb dX8_isMore_82 rfl (lv_at hl 0 rfl) ?_
  refine lv_dup hx hb dX8_isMore_83 rfl ?_
  refine zget (v := .int (md_houses S)) (ref := "SumOfTwoThatStandModel") (C := RX8) (T := TX8) (N := 33) (index := 70) X hh inX8_isMore_X8 0 rfl rfl 9 (by decide) mmX8_isMore_1 rfl rfl dX8_isMore_84 ?_
  refine lv_iconst (v := (1 : Int32)) hx hb dX8_isMore_87 (by decide) ?_
  refine lv_iadd hx hb dX8_isMore_88 ?_
  refine zput (v := .int ((md_houses S) + (1 : Int32))) (ty := .int) (ref := "SumOfTwoThatStandModel") (C := RX8) (T := TX8) (N := 33) (index := 70) X hh inX8_isMore_X8 tyX8 tyX8_ok nmX8 0 rfl rfl 9 (by decide) mmX8_isMore_1 rfl rfl (by decide +kernel) rfl rfl (Nat.le_of_ble_eq_true rfl) dX8_isMore_89 (fun H locs hh => ?_)
  have hh := hh.to (sMd_houses K a0 a1 a2 a3 a4 a5 a6 a7 a8 a9 a10 a11 a12 a13 a14 a15 a16 a17 a18 a19 (md_set_earned (md_set_uses (md_set_stands (md_set_other (md_set_one (md_set_figure (md_set_kind (md_set_number S (upd (md_number S) (md_houses S).toNatClampNeg p1)) (upd (md_kind S) (md_houses S).toNatClampNeg p2)) (upd (md_figure S) (md_houses S).toNatClampNeg p3)) (upd (md_one S) (md_houses S).toNatClampNeg p4)) (upd (md_other S) (md_houses S).toNatClampNeg p5)) (upd (md_stands S) (md_houses S).toNatClampNeg (1 : Int32))) (upd (md_uses S) (md_houses S).toNatClampNeg (0 : Int32))) (upd (md_earned S) (md_houses S).toNatClampNeg (0 : Int32))) ((md_houses S) + (1 : Int32)))
  exact hr2 92 ls H locs (md_set_houses (md_set_earned (md_set_uses (md_set_stands (md_set_other (md_set_one (md_set_figure (md_set_kind (md_set_number S (upd (md_number S) (md_houses S).toNatClampNeg p1)) (upd (md_kind S) (md_houses S).toNatClampNeg p2)) (upd (md_figure S) (md_houses S).toNatClampNeg p3)) (upd (md_one S) (md_houses S).toNatClampNeg p4)) (upd (md_other S) (md_houses S).toNatClampNeg p5)) (upd (md_stands S) (md_houses S).toNatClampNeg (1 : Int32))) (upd (md_uses S) (md_houses S).toNatClampNeg (0 : Int32))) (upd (md_earned S) (md_houses S).toNatClampNeg (0 : Int32))) ((md_houses S) + (1 : Int32))) hf dX8_isMore_92 hh
theorem inX8_beginsAnew_X8 : ∀ w ∈ wsX80, w ∈ wsX8_beginsAnew := by decide +kernel
theorem mmX8_beginsAnew_0 : Cond.fieldLink RX8 70 "SumOfTwoThatStandModel" "houses" "I" ∈ wsX8_beginsAnew := by decide +kernel
theorem hdX8_beginsAnew : yX8_beginsAnew.cls ≠ "java/lang/invoke/MethodHandle" ∧ yX8_beginsAnew.cls ≠ "java/lang/invoke/VarHandle" ∧ (parseMethodDescriptor yX8_beginsAnew.desc).map (fun d => d.parameters.length) = some 0 := by decide +kernel
set_option maxHeartbeats 4000000 in
set_option maxRecDepth 100000 in
theorem kX8_beginsAnew (l : Launch) (K : zK) (a0 a1 a2 a3 a4 a5 a6 a7 a8 a9 a10 a11 a12 a13 a14 a15 a16 a17 a18 a19 : Nat) (S : zMd) (R : zMd) (hf : fX8_beginsAnew S = some R) : zC l yX8_beginsAnew wsX8_beginsAnew ({ frames := 1, cells := 0, slots := 0, locals := 25 } : Room) K [.ref a0] (cMd K a0 a1 a2 a3 a4 a5 a6 a7 a8 a9 a10 a11 a12 a13 a14 a15 a16 a17 a18 a19 S) none (cMd K a0 a1 a2 a3 a4 a5 a6 a7 a8 a9 a10 a11 a12 a13 a14 a15 a16 a17 a18 a19 R) := by
  refine zC_v (cc := cX8_beginsAnew) (maxL := 1) (by decide +kernel) rfl (Nat.le_of_ble_eq_true rfl) rfl rfl ?_
  intro p e s m below meth c Q A X hret ls hl hh
  have X : zX p m c cX8_beginsAnew 1 s ([.ref a0] : List Value).toArray wsX8_beginsAnew RX8 K A := X
  have hx := X.1.1
  have hb := X.1.2.1
  have hr2 : ∀ (pc : Nat) (ls : Array Slot) (H : Heap) (locs : List Loc) (S : zMd), some S = some R → decode cX8_beginsAnew pc = .ok (.return_, 1) → zW K A s H locs (cMd K a0 a1 a2 a3 a4 a5 a6 a7 a8 a9 a10 a11 a12 a13 a14 a15 a16 a17 a18 a19 S) → W p l e ({ frames := 1, cells := 0, slots := 0, locals := 25 } : Room) s m ([.ref a0] : List Value).toArray below meth c H locs 0 0 Q (F0 m pc ls []) := by
    intro pc ls H locs S h hd hh
    cases h; exact hret pc ls H locs hd hh
  have hl : lv_has ls 1 [(0, .ref a0)] := hl
  unfold fX8_beginsAnew at hf
  refine (fun (hmain : ∀ (H : Heap) (locs : List Loc), zW K A s H locs (cMd K a0 a1 a2 a3 a4 a5 a6 a7 a8 a9 a10 a11 a12 a13 a14 a15 a16 a17 a18 a19 S) → W p l e ({ frames := 1, cells := 0, slots := 0, locals := 25 } : Room) s m ([.ref a0] : List Value).toArray below meth c H locs 0 0 Q (F0 m 0 ls [])) => hmain s.heap [] hh) (fun H locs hh => ?_)
  refine lv_aload_n hx hb dX8_beginsAnew_0 rfl (lv_at hl 0 rfl) ?_
  refine lv_iconst (v := (0 : Int32)) hx hb dX8_beginsAnew_1 (by decide) ?_
  refine zput (v := .int (0 : Int32)) (ty := .int) (ref := "SumOfTwoThatStandModel") (C := RX8) (T := TX8) (N := 33) (index := 70) X hh inX8_beginsAnew_X8 tyX8 tyX8_ok nmX8 0 rfl rfl 9 (by decide) mmX8_beginsAnew_0 rfl rfl (by decide +kernel) rfl rfl (Nat.le_of_ble_eq_true rfl) dX8_beginsAnew_2 (fun H locs hh => ?_)
  have hh := hh.to (sMd_houses K a0 a1 a2 a3 a4 a5 a6 a7 a8 a9 a10 a11 a12 a13 a14 a15 a16 a17 a18 a19 S (0 : Int32))
  refine lv_aload_n hx hb dX8_beginsAnew_5 rfl (lv_at hl 0 rfl) ?_
  refine lv_iconst (v := (1 : Int32)) hx hb dX8_beginsAnew_6 (by decide) ?_
  refine lv_iconst (v := (0 : Int32)) hx hb dX8_beginsAnew_7 (by decide) ?_
  refine lv_iconst (v := (0 : Int32)) hx hb dX8_beginsAnew_8 (by decide) ?_
  refine lv_bipush (v := (-4 : Int32)) hx hb dX8_beginsAnew_9 (by decide) ?_
  refine lv_bipush (v := (-4 : Int32)) hx hb dX8_beginsAnew_11 (by decide) ?_
  obtain ⟨u1, hu1, hf⟩ := ob_bind hf
  refine zcallV (ci := 7) (q0 := 0) (As := [.int (1 : Int32), .int (0 : Int32), .int (0 : Int32), .int (-4 : Int32), .int (-4 : Int32)]) (rest := []) (wr := []) (ws' := cMd K a0 a1 a2 a3 a4 a5 a6 a7 a8 a9 a10 a11 a12 a13 a14 a15 a16 a17 a18 a19 u1) (ov := none) X hh hl (kX8_isMore l K a0 a1 a2 a3 a4 a5 a6 a7 a8 a9 a10 a11 a12 a13 a14 a15 a16 a17 a18 a19 (md_set_houses S (0 : Int32)) (1 : Int32) (0 : Int32) (0 : Int32) (-4 : Int32) (-4 : Int32) u1 hu1) (fun ht => cwV 5 ht gX8_beginsAnew_X8_isMore rfl rfl rfl ⟨rfl, hdX8_isMore⟩ ⟨Nat.le_of_ble_eq_true rfl, Nat.le_of_ble_eq_true rfl⟩) [0, 1, 2, 3, 4, 5, 6, 7, 8, 9, 10, 11, 12, 13, 14, 15, 16, 17, 18, 19] [] [0, 1, 2, 3, 4, 5, 6, 7, 8, 9, 10, 11, 12, 13, 14, 15, 16, 17, 18, 19] rfl rfl rfl rfl (by decide) rfl rfl rfl rfl rfl rfl (Nat.le_of_ble_eq_true rfl) dX8_beginsAnew_13 ⟨Nat.zero_le _, Nat.zero_le _⟩ (fun H locs hh => ?_)
  exact hr2 16 ls H locs u1 hf dX8_beginsAnew_16 hh
theorem inX8_isHouse_X8 : ∀ w ∈ wsX80, w ∈ wsX8_isHouse := by decide +kernel
theorem mmX8_isHouse_0 : Cond.fieldLink RX8 70 "SumOfTwoThatStandModel" "houses" "I" ∈ wsX8_isHouse := by decide +kernel
theorem hdX8_isHouse : yX8_isHouse.cls ≠ "java/lang/invoke/MethodHandle" ∧ yX8_isHouse.cls ≠ "java/lang/invoke/VarHandle" ∧ (parseMethodDescriptor yX8_isHouse.desc).map (fun d => d.parameters.length) = some 1 := by decide +kernel
set_option maxHeartbeats 4000000 in
set_option maxRecDepth 100000 in
theorem kX8_isHouse (l : Launch) (K : zK) (a0 a1 a2 a3 a4 a5 a6 a7 a8 a9 a10 a11 a12 a13 a14 a15 a16 a17 a18 a19 : Nat) (S : zMd) (p1 : Int32) (R : Int32) (hf : fX8_isHouse S p1 = some R) : zC l yX8_isHouse wsX8_isHouse ({ frames := 1, cells := 0, slots := 0, locals := 22 } : Room) K [.ref a0, .int p1] (cMd K a0 a1 a2 a3 a4 a5 a6 a7 a8 a9 a10 a11 a12 a13 a14 a15 a16 a17 a18 a19 S) (some (.int R)) (cMd K a0 a1 a2 a3 a4 a5 a6 a7 a8 a9 a10 a11 a12 a13 a14 a15 a16 a17 a18 a19 S) := by
  refine zC_z .boolean R (cc := cX8_isHouse) (maxL := 2) (by decide +kernel) rfl (Nat.le_of_ble_eq_true rfl) rfl rfl ?_
  intro p e s m below meth c Q A X hret ls hl hh
  have X : zX p m c cX8_isHouse 2 s ([.ref a0, .int p1] : List Value).toArray wsX8_isHouse RX8 K A := X
  have hx := X.1.1
  have hb := X.1.2.1
  have hr2 : ∀ (pc : Nat) (ls : Array Slot) (H : Heap) (locs : List Loc) (v : Int32), some v = some R → narrow .boolean (.int v) = .int v → decode cX8_isHouse pc = .ok (.ireturn, 1) → zW K A s H locs (cMd K a0 a1 a2 a3 a4 a5 a6 a7 a8 a9 a10 a11 a12 a13 a14 a15 a16 a17 a18 a19 S) → W p l e ({ frames := 1, cells := 0, slots := 0, locals := 22 } : Room) s m ([.ref a0, .int p1] : List Value).toArray below meth c H locs 0 0 Q (F0 m pc ls [.int v]) := by
    intro pc ls H locs v h hn hd hh
    cases h; exact hret pc ls H locs _ rfl hn hd hh
  have hl : lv_has ls 2 [(0, .ref a0), (1, .int p1)] := hl
  unfold fX8_isHouse at hf
  refine (fun (hmain : ∀ (H : Heap) (locs : List Loc), zW K A s H locs (cMd K a0 a1 a2 a3 a4 a5 a6 a7 a8 a9 a10 a11 a12 a13 a14 a15 a16 a17 a18 a19 S) → W p l e ({ frames := 1, cells := 0, slots := 0, locals := 22 } : Room) s m ([.ref a0, .int p1] : List Value).toArray below meth c H locs 0 0 Q (F0 m 0 ls [])) => hmain s.heap [] hh) (fun H locs hh => ?_)
  refine lv_iload_n hx hb dX8_isHouse_0 rfl (lv_at hl 1 rfl) ?_
  refine lv_iconst (v := (0 : Int32)) hx hb dX8_isHouse_1 (by decide) ?_
  refine lv_aload_n hx hb dX8_isHouse_2 rfl (lv_at hl 0 rfl) ?_
  refine zget (v := .int (md_houses S)) (ref := "SumOfTwoThatStandModel") (C := RX8) (T := TX8) (N := 33) (index := 70) X hh inX8_isHouse_X8 0 rfl rfl 9 (by decide) mmX8_isHouse_0 rfl rfl dX8_isHouse_3 ?_
  refine lv_iconst (v := (1 : Int32)) hx hb dX8_isHouse_6 (by decide) ?_
  refine lv_isub hx hb dX8_isHouse_7 ?_
  refine zcallS (As := [.int p1, .int (0 : Int32), .int ((md_houses S) - (1 : Int32))]) (rest := []) (wr := cMd K a0 a1 a2 a3 a4 a5 a6 a7 a8 a9 a10 a11 a12 a13 a14 a15 a16 a17 a18 a19 S) (ws' := cMd K a0 a1 a2 a3 a4 a5 a6 a7 a8 a9 a10 a11 a12 a13 a14 a15 a16 a17 a18 a19 S) (ov := some (.int (fX8_isIn p1 (0 : Int32) ((md_houses S) - (1 : Int32))))) X hh hl (kX8_isIn l K p1 (0 : Int32) ((md_houses S) - (1 : Int32)) (fX8_isIn p1 (0 : Int32) ((md_houses S) - (1 : Int32))) rfl) (fun ht => va_cwS 3 ht gX8_isHouse_X8_isIn rfl rfl rfl hdX8_isIn ⟨Nat.le_of_ble_eq_true rfl, Nat.le_of_ble_eq_true rfl⟩) [] [0, 1, 2, 3, 4, 5, 6, 7, 8, 9, 10, 11, 12, 13, 14, 15, 16, 17, 18, 19] [0, 1, 2, 3, 4, 5, 6, 7, 8, 9, 10, 11, 12, 13, 14, 15, 16, 17, 18, 19] rfl rfl rfl rfl (by decide) rfl rfl rfl rfl (Nat.le_of_ble_eq_true rfl) dX8_isHouse_8 ⟨Nat.zero_le _, Nat.zero_le _⟩ (fun H locs hh => ?_)
  obtain ⟨g2, hf⟩ := ob_ck hf
  exact hr2 11 ls H locs (fX8_isIn p1 (0 : Int32) ((md_houses S) - (1 : Int32))) hf (nar_ok g2) dX8_isHouse_11 hh
theorem inX8_doesStand_X8 : ∀ w ∈ wsX80, w ∈ wsX8_doesStand := by decide +kernel
theorem mmX8_doesStand_0 : Cond.fieldLink RX8 28 "SumOfTwoThatStandModel" "stands" "[I" ∈ wsX8_doesStand := by decide +kernel
theorem hdX8_doesStand : yX8_doesStand.cls ≠ "java/lang/invoke/MethodHandle" ∧ yX8_doesStand.cls ≠ "java/lang/invoke/VarHandle" ∧ (parseMethodDescriptor yX8_doesStand.desc).map (fun d => d.parameters.length) = some 1 := by decide +kernel
set_option maxHeartbeats 4000000 in
set_option maxRecDepth 100000 in
theorem kX8_doesStand (l : Launch) (K : zK) (a0 a1 a2 a3 a4 a5 a6 a7 a8 a9 a10 a11 a12 a13 a14 a15 a16 a17 a18 a19 : Nat) (S : zMd) (p1 : Int32) (R : Int32) (hf : fX8_doesStand S p1 = some R) : zC l yX8_doesStand wsX8_doesStand ({ frames := 2, cells := 0, slots := 0, locals := 43 } : Room) K [.ref a0, .int p1] (cMd K a0 a1 a2 a3 a4 a5 a6 a7 a8 a9 a10 a11 a12 a13 a14 a15 a16 a17 a18 a19 S) (some (.int R)) (cMd K a0 a1 a2 a3 a4 a5 a6 a7 a8 a9 a10 a11 a12 a13 a14 a15 a16 a17 a18 a19 S) := by
  refine zC_z .boolean R (cc := cX8_doesStand) (maxL := 2) (by decide +kernel) rfl (Nat.le_of_ble_eq_true rfl) rfl rfl ?_
  intro p e s m below meth c Q A X hret ls hl hh
  have X : zX p m c cX8_doesStand 2 s ([.ref a0, .int p1] : List Value).toArray wsX8_doesStand RX8 K A := X
  have hx := X.1.1
  have hb := X.1.2.1
  have hr2 : ∀ (pc : Nat) (ls : Array Slot) (H : Heap) (locs : List Loc) (v : Int32), some v = some R → narrow .boolean (.int v) = .int v → decode cX8_doesStand pc = .ok (.ireturn, 1) → zW K A s H locs (cMd K a0 a1 a2 a3 a4 a5 a6 a7 a8 a9 a10 a11 a12 a13 a14 a15 a16 a17 a18 a19 S) → W p l e ({ frames := 2, cells := 0, slots := 0, locals := 43 } : Room) s m ([.ref a0, .int p1] : List Value).toArray below meth c H locs 0 0 Q (F0 m pc ls [.int v]) := by
    intro pc ls H locs v h hn hd hh
    cases h; exact hret pc ls H locs _ rfl hn hd hh
  have hl : lv_has ls 2 [(0, .ref a0), (1, .int p1)] := hl
  unfold fX8_doesStand at hf
  refine (fun (hmain : ∀ (H : Heap) (locs : List Loc), zW K A s H locs (cMd K a0 a1 a2 a3 a4 a5 a6 a7 a8 a9 a10 a11 a12 a13 a14 a15 a16 a17 a18 a19 S) → W p l e ({ frames := 2, cells := 0, slots := 0, locals := 43 } : Room) s m ([.ref a0, .int p1] : List Value).toArray below meth c H locs 0 0 Q (F0 m 0 ls [])) => hmain s.heap [] hh) (fun H locs hh => ?_)
  refine lv_aload_n hx hb dX8_doesStand_0 rfl (lv_at hl 0 rfl) ?_
  refine lv_iload_n hx hb dX8_doesStand_1 rfl (lv_at hl 1 rfl) ?_
  obtain ⟨u1, hu1, hf⟩ := ob_bind hf
  refine zcallV (ci := 7) (q0 := 0) (As := [.int p1]) (rest := []) (wr := []) (ws' := cMd K a0 a1 a2 a3 a4 a5 a6 a7 a8 a9 a10 a11 a12 a13 a14 a15 a16 a17 a18 a19 S) (ov := some (.int u1)) X hh hl (kX8_isHouse l K a0 a1 a2 a3 a4 a5 a6 a7 a8 a9 a10 a11 a12 a13 a14 a15 a16 a17 a18 a19 S p1 u1 hu1) (fun ht => cwV 1 ht gX8_doesStand_X8_isHouse rfl rfl rfl ⟨rfl, hdX8_isHouse⟩ ⟨Nat.le_of_ble_eq_true rfl, Nat.le_of_ble_eq_true rfl⟩) [0, 1, 2, 3, 4, 5, 6, 7, 8, 9, 10, 11, 12, 13, 14, 15, 16, 17, 18, 19] [] [0, 1, 2, 3, 4, 5, 6, 7, 8, 9, 10, 11, 12, 13, 14, 15, 16, 17, 18, 19] rfl rfl rfl rfl (by decide) rfl rfl rfl rfl rfl rfl (Nat.le_of_ble_eq_true rfl) dX8_doesStand_2 ⟨Nat.zero_le _, Nat.zero_le _⟩ (fun H locs hh => ?_)
  refine lv_if_eq (tgt := 22) hx hb dX8_doesStand_5 (by decide) (fun c2 => ?_) (fun c2 => ?_)
  · replace hf := (if_pos c2).symm.trans hf
    refine lv_iconst (v := (0 : Int32)) hx hb dX8_doesStand_22 (by decide) ?_
    exact hr2 23 ls H locs (0 : Int32) hf rfl dX8_doesStand_23 hh
  · replace hf := (if_neg c2).symm.trans hf
    refine lv_aload_n hx hb dX8_doesStand_8 rfl (lv_at hl 0 rfl) ?_
    refine zget (v := .ref a7) (ref := "SumOfTwoThatStandModel") (C := RX8) (T := TX8) (N := 33) (index := 28) X hh inX8_doesStand_X8 0 rfl rfl 6 (by decide) mmX8_doesStand_0 rfl rfl dX8_doesStand_9 ?_
    refine lv_iload_n hx hb dX8_doesStand_12 rfl (lv_at hl 1 rfl) ?_
    obtain ⟨g3, hf⟩ := ob_ix hf
    refine ziald (f := (md_stands S)) X hh 7 rfl g3 dX8_doesStand_13 ?_
    refine lv_iconst (v := (1 : Int32)) hx hb dX8_doesStand_14 (by decide) ?_
    refine lv_icmp_ne (tgt := 22) hx hb dX8_doesStand_15 (by decide) (fun c4 => ?_) (fun c4 => ?_)
    · replace hf := (if_neg c4).symm.trans hf
      refine lv_iconst (v := (0 : Int32)) hx hb dX8_doesStand_22 (by decide) ?_
      exact hr2 23 ls H locs (0 : Int32) hf rfl dX8_doesStand_23 hh
    · replace hf := (if_pos c4).symm.trans hf
      refine lv_iconst (v := (1 : Int32)) hx hb dX8_doesStand_18 (by decide) ?_
      refine lv_goto (tgt := 23) hx hb dX8_doesStand_19 (by decide) ?_
      exact hr2 23 ls H locs (1 : Int32) hf rfl dX8_doesStand_23 hh
theorem inX8_standing_X8 : ∀ w ∈ wsX80, w ∈ wsX8_standing := by decide +kernel
theorem mmX8_standing_0 : Cond.fieldLink RX8 70 "SumOfTwoThatStandModel" "houses" "I" ∈ wsX8_standing := by decide +kernel
theorem mmX8_standing_1 : Cond.fieldLink RX8 28 "SumOfTwoThatStandModel" "stands" "[I" ∈ wsX8_standing := by decide +kernel
theorem hdX8_standing : yX8_standing.cls ≠ "java/lang/invoke/MethodHandle" ∧ yX8_standing.cls ≠ "java/lang/invoke/VarHandle" ∧ (parseMethodDescriptor yX8_standing.desc).map (fun d => d.parameters.length) = some 0 := by decide +kernel
set_option maxHeartbeats 4000000 in
set_option maxRecDepth 100000 in
theorem kX8_standing (l : Launch) (K : zK) (a0 a1 a2 a3 a4 a5 a6 a7 a8 a9 a10 a11 a12 a13 a14 a15 a16 a17 a18 a19 : Nat) (S : zMd) (R : Int32) (hf : fX8_standing S = some R) : zC l yX8_standing wsX8_standing ({ frames := 0, cells := 0, slots := 0, locals := 0 } : Room) K [.ref a0] (cMd K a0 a1 a2 a3 a4 a5 a6 a7 a8 a9 a10 a11 a12 a13 a14 a15 a16 a17 a18 a19 S) (some (.int R)) (cMd K a0 a1 a2 a3 a4 a5 a6 a7 a8 a9 a10 a11 a12 a13 a14 a15 a16 a17 a18 a19 S) := by
  refine zC_i R (cc := cX8_standing) (maxL := 3) (by decide +kernel) rfl (Nat.le_of_ble_eq_true rfl) rfl rfl ?_
  intro p e s m below meth c Q A X hret ls hl hh
  have X : zX p m c cX8_standing 3 s ([.ref a0] : List Value).toArray wsX8_standing RX8 K A := X
  have hx := X.1.1
  have hb := X.1.2.1
  have hr2 : ∀ (pc : Nat) (ls : Array Slot) (H : Heap) (locs : List Loc) (v : Int32), some v = some R → decode cX8_standing pc = .ok (.ireturn, 1) → zW K A s H locs (cMd K a0 a1 a2 a3 a4 a5 a6 a7 a8 a9 a10 a11 a12 a13 a14 a15 a16 a17 a18 a19 S) → W p l e ({ frames := 0, cells := 0, slots := 0, locals := 0 } : Room) s m ([.ref a0] : List Value).toArray below meth c H locs 0 0 Q (F0 m pc ls [.int v]) := by
    intro pc ls H locs v h hd hh
    cases h; exact hret pc ls H locs _ rfl hd hh
  have hl : lv_has ls 3 [(0, .ref a0)] := hl
  have hL4 : ∀ (n : Nat) (v1 : Int32) (v2 : Int32), ∀ (H : Heap) (locs : List Loc) (ls : Array Slot), fX8_standing_l4 S n v1 v2 = some R → lv_has ls 3 [(0, .ref a0), (1, .int v1), (2, .int v2)] → zW K A s H locs (cMd K a0 a1 a2 a3 a4 a5 a6 a7 a8 a9 a10 a11 a12 a13 a14 a15 a16 a17 a18 a19 S) → W p l e ({ frames := 0, cells := 0, slots := 0, locals := 0 } : Room) s m ([.ref a0] : List Value).toArray below meth c H locs 0 0 Q (F0 m 4 ls []) := by
    intro n
    induction n with
    | zero =>
      intro v1 v2 H locs ls hf hl hh
      rw [fX8_standing_l4] at hf; cases hf
    | succ n ih =>
      intro v1 v2 H locs ls hf hl hh
      rw [fX8_standing_l4] at hf
      refine lv_iload_n hx hb dX8_standing_4 rfl (lv_at hl 2 rfl) ?_
      refine lv_aload_n hx hb dX8_standing_5 rfl (lv_at hl 0 rfl) ?_
      refine zget (v := .int (md_houses S)) (ref := "SumOfTwoThatStandModel") (C := RX8) (T := TX8) (N := 33) (index := 70) X hh inX8_standing_X8 0 rfl rfl 9 (by decide) mmX8_standing_0 rfl rfl dX8_standing_6 ?_
      refine lv_icmp_ge (tgt := 29) hx hb dX8_standing_9 (by decide) (fun c1 => ?_) (fun c1 => ?_)
      · replace hf := (if_pos c1).symm.trans hf
        refine lv_iload_n hx hb dX8_standing_29 rfl (lv_at hl 1 rfl) ?_
        exact hr2 30 ls H locs v1 hf dX8_standing_30 hh
      · replace hf := (if_neg c1).symm.trans hf
        refine lv_iload_n hx hb dX8_standing_12 rfl (lv_at hl 1 rfl) ?_
        refine lv_aload_n hx hb dX8_standing_13 rfl (lv_at hl 0 rfl) ?_
        refine zget (v := .ref a7) (ref := "SumOfTwoThatStandModel") (C := RX8) (T := TX8) (N := 33) (index := 28) X hh inX8_standing_X8 0 rfl rfl 6 (by decide) mmX8_standing_1 rfl rfl dX8_standing_14 ?_
        refine lv_iload_n hx hb dX8_standing_17 rfl (lv_at hl 2 rfl) ?_
        obtain ⟨g2, hf⟩ := ob_ix hf
        refine ziald (f := (md_stands S)) X hh 7 rfl g2 dX8_standing_18 ?_
        refine lv_iload_n hx hb dX8_standing_19 rfl (lv_at hl 2 rfl) ?_
        refine lv_ishl hx hb dX8_standing_20 ?_
        refine lv_ior hx hb dX8_standing_21 ?_
        refine lv_istore_n (lv' := [(1, .int (v1 ||| (((md_stands S) v2.toNatClampNeg) <<< (v2 &&& 31)))), (0, .ref a0), (2, .int v2)]) hx hb dX8_standing_22 rfl hl (by decide) rfl (fun ls hl => ?_)
        refine lv_iinc (v := (v2 + (1 : Int32))) (lv' := [(2, .int (v2 + (1 : Int32))), (1, .int (v1 ||| (((md_stands S) v2.toNatClampNeg) <<< (v2 &&& 31)))), (0, .ref a0)]) hx hb dX8_standing_23 hl (k := 2) rfl rfl (by decide) rfl (fun ls hl => ?_)
        refine lv_goto (tgt := 4) hx hb dX8_standing_26 (by decide) ?_
        exact ih (v1 ||| (((md_stands S) v2.toNatClampNeg) <<< (v2 &&& 31))) (v2 + (1 : Int32)) H locs ls hf (lv_sub hl [2, 1, 0] rfl) hh
  unfold fX8_standing at hf
  refine (fun (hmain : ∀ (H : Heap) (locs : List Loc), zW K A s H locs (cMd K a0 a1 a2 a3 a4 a5 a6 a7 a8 a9 a10 a11 a12 a13 a14 a15 a16 a17 a18 a19 S) → W p l e ({ frames := 0, cells := 0, slots := 0, locals := 0 } : Room) s m ([.ref a0] : List Value).toArray below meth c H locs 0 0 Q (F0 m 0 ls [])) => hmain s.heap [] hh) (fun H locs hh => ?_)
  refine lv_iconst (v := (0 : Int32)) hx hb dX8_standing_0 (by decide) ?_
  refine lv_istore_n (lv' := [(1, .int (0 : Int32)), (0, .ref a0)]) hx hb dX8_standing_1 rfl hl (by decide) rfl (fun ls hl => ?_)
  refine lv_iconst (v := (0 : Int32)) hx hb dX8_standing_2 (by decide) ?_
  refine lv_istore_n (lv' := [(2, .int (0 : Int32)), (1, .int (0 : Int32)), (0, .ref a0)]) hx hb dX8_standing_3 rfl hl (by decide) rfl (fun ls hl => ?_)
  exact hL4 FU (0 : Int32) (0 : Int32) H locs ls hf (lv_sub hl [2, 1, 0] rfl) hh
theorem inX8_lends_X8 : ∀ w ∈ wsX80, w ∈ wsX8_lends := by decide +kernel
theorem mmX8_lends_0 : Cond.fieldLink RX8 16 "SumOfTwoThatStandModel" "kind" "[I" ∈ wsX8_lends := by decide +kernel
theorem mmX8_lends_1 : Cond.fieldLink RX8 31 "SumOfTwoThatStandModel" "uses" "[I" ∈ wsX8_lends := by decide +kernel
theorem hdX8_lends : yX8_lends.cls ≠ "java/lang/invoke/MethodHandle" ∧ yX8_lends.cls ≠ "java/lang/invoke/VarHandle" ∧ (parseMethodDescriptor yX8_lends.desc).map (fun d => d.parameters.length) = some 2 := by decide +kernel
set_option maxHeartbeats 4000000 in
set_option maxRecDepth 100000 in
theorem kX8_lends (l : Launch) (K : zK) (a0 a1 a2 a3 a4 a5 a6 a7 a8 a9 a10 a11 a12 a13 a14 a15 a16 a17 a18 a19 : Nat) (S : zMd) (p1 : Int32) (p2 : Int32) (R : Int32) (hf : fX8_lends S p1 p2 = some R) : zC l yX8_lends wsX8_lends ({ frames := 0, cells := 0, slots := 0, locals := 0 } : Room) K [.ref a0, .int p1, .int p2] (cMd K a0 a1 a2 a3 a4 a5 a6 a7 a8 a9 a10 a11 a12 a13 a14 a15 a16 a17 a18 a19 S) (some (.int R)) (cMd K a0 a1 a2 a3 a4 a5 a6 a7 a8 a9 a10 a11 a12 a13 a14 a15 a16 a17 a18 a19 S) := by
  refine zC_z .boolean R (cc := cX8_lends) (maxL := 3) (by decide +kernel) rfl (Nat.le_of_ble_eq_true rfl) rfl rfl ?_
  intro p e s m below meth c Q A X hret ls hl hh
  have X : zX p m c cX8_lends 3 s ([.ref a0, .int p1, .int p2] : List Value).toArray wsX8_lends RX8 K A := X
  have hx := X.1.1
  have hb := X.1.2.1
  have hr2 : ∀ (pc : Nat) (ls : Array Slot) (H : Heap) (locs : List Loc) (v : Int32), some v = some R → narrow .boolean (.int v) = .int v → decode cX8_lends pc = .ok (.ireturn, 1) → zW K A s H locs (cMd K a0 a1 a2 a3 a4 a5 a6 a7 a8 a9 a10 a11 a12 a13 a14 a15 a16 a17 a18 a19 S) → W p l e ({ frames := 0, cells := 0, slots := 0, locals := 0 } : Room) s m ([.ref a0, .int p1, .int p2] : List Value).toArray below meth c H locs 0 0 Q (F0 m pc ls [.int v]) := by
    intro pc ls H locs v h hn hd hh
    cases h; exact hret pc ls H locs _ rfl hn hd hh
  have hl : lv_has ls 3 [(0, .ref a0), (1, .int p1), (2, .int p2)] := hl
  unfold fX8_lends at hf
  refine (fun (hmain : ∀ (H : Heap) (locs : List Loc), zW K A s H locs (cMd K a0 a1 a2 a3 a4 a5 a6 a7 a8 a9 a10 a11 a12 a13 a14 a15 a16 a17 a18 a19 S) → W p l e ({ frames := 0, cells := 0, slots := 0, locals := 0 } : Room) s m ([.ref a0, .int p1, .int p2] : List Value).toArray below meth c H locs 0 0 Q (F0 m 0 ls [])) => hmain s.heap [] hh) (fun H locs hh => ?_)
  refine lv_aload_n hx hb dX8_lends_0 rfl (lv_at hl 0 rfl) ?_
  refine zget (v := .ref a3) (ref := "SumOfTwoThatStandModel") (C := RX8) (T := TX8) (N := 33) (index := 16) X hh inX8_lends_X8 0 rfl rfl 2 (by decide) mmX8_lends_0 rfl rfl dX8_lends_1 ?_
  refine lv_iload_n hx hb dX8_lends_4 rfl (lv_at hl 1 rfl) ?_
  obtain ⟨g1, hf⟩ := ob_ix hf
  refine ziald (f := (md_kind S)) X hh 3 rfl g1 dX8_lends_5 ?_
  by_cases c2_0 : ((md_kind S) p1.toNatClampNeg) = (1 : Int32)
  · replace hf := (if_pos c2_0).symm.trans hf
    refine lv_tableIn (off := 30) (tgt := 36) hx hb dX8_lends_6 (by rw [c2_0]; decide) (by rw [c2_0]; decide) (by rw [c2_0]; decide) (by decide) ?_
    refine lv_aload_n hx hb dX8_lends_36 rfl (lv_at hl 0 rfl) ?_
    refine zget (v := .ref a8) (ref := "SumOfTwoThatStandModel") (C := RX8) (T := TX8) (N := 33) (index := 31) X hh inX8_lends_X8 0 rfl rfl 7 (by decide) mmX8_lends_1 rfl rfl dX8_lends_37 ?_
    refine lv_iload_n hx hb dX8_lends_40 rfl (lv_at hl 1 rfl) ?_
    refine ziald (f := (md_uses S)) X hh 8 rfl g1 dX8_lends_41 ?_
    refine lv_if_ne (tgt := 49) hx hb dX8_lends_42 (by decide) (fun c3 => ?_) (fun c3 => ?_)
    · replace hf := (if_neg c3).symm.trans hf
      refine lv_iconst (v := (0 : Int32)) hx hb dX8_lends_49 (by decide) ?_
      exact hr2 50 ls H locs (0 : Int32) hf rfl dX8_lends_50 hh
    · replace hf := (if_pos c3).symm.trans hf
      refine lv_iconst (v := (1 : Int32)) hx hb dX8_lends_45 (by decide) ?_
      refine lv_goto (tgt := 50) hx hb dX8_lends_46 (by decide) ?_
      exact hr2 50 ls H locs (1 : Int32) hf rfl dX8_lends_50 hh
  replace hf := (if_neg c2_0).symm.trans hf
  by_cases c2_1 : ((md_kind S) p1.toNatClampNeg) = (2 : Int32)
  · replace hf := (if_pos c2_1).symm.trans hf
    refine lv_tableIn (off := 59) (tgt := 65) hx hb dX8_lends_6 (by rw [c2_1]; decide) (by rw [c2_1]; decide) (by rw [c2_1]; decide) (by decide) ?_
    refine lv_iconst (v := (1 : Int32)) hx hb dX8_lends_65 (by decide) ?_
    exact hr2 66 ls H locs (1 : Int32) hf rfl dX8_lends_66 hh
  replace hf := (if_neg c2_1).symm.trans hf
  by_cases c2_2 : ((md_kind S) p1.toNatClampNeg) = (3 : Int32)
  · replace hf := (if_pos c2_2).symm.trans hf
    refine lv_tableIn (off := 45) (tgt := 51) hx hb dX8_lends_6 (by rw [c2_2]; decide) (by rw [c2_2]; decide) (by rw [c2_2]; decide) (by decide) ?_
    refine lv_iload_n hx hb dX8_lends_51 rfl (lv_at hl 2 rfl) ?_
    refine lv_iconst (v := (2 : Int32)) hx hb dX8_lends_52 (by decide) ?_
    refine lv_irem hx hb dX8_lends_53 (by decide) ?_
    refine lv_if_ne (tgt := 61) hx hb dX8_lends_54 (by decide) (fun c5 => ?_) (fun c5 => ?_)
    · replace hf := (if_neg c5).symm.trans hf
      refine lv_iconst (v := (0 : Int32)) hx hb dX8_lends_61 (by decide) ?_
      exact hr2 62 ls H locs (0 : Int32) hf rfl dX8_lends_62 hh
    · replace hf := (if_pos c5).symm.trans hf
      refine lv_iconst (v := (1 : Int32)) hx hb dX8_lends_57 (by decide) ?_
      refine lv_goto (tgt := 62) hx hb dX8_lends_58 (by decide) ?_
      exact hr2 62 ls H locs (1 : Int32) hf rfl dX8_lends_62 hh
  replace hf := (if_neg c2_2).symm.trans hf
  by_cases c2_3 : ((md_kind S) p1.toNatClampNeg) = (4 : Int32)
  · replace hf := (if_pos c2_3).symm.trans hf
    refine lv_tableIn (off := 57) (tgt := 63) hx hb dX8_lends_6 (by rw [c2_3]; decide) (by rw [c2_3]; decide) (by rw [c2_3]; decide) (by decide) ?_
    refine lv_iconst (v := (0 : Int32)) hx hb dX8_lends_63 (by decide) ?_
    exact hr2 64 ls H locs (0 : Int32) hf rfl dX8_lends_64 hh
  replace hf := (if_neg c2_3).symm.trans hf
  refine lv_tableOut (tgt := 65) hx hb dX8_lends_6 (by have e0 := lv_neT c2_0 (a := 1) (by decide); have e1 := lv_neT c2_1 (a := 2) (by decide); have e2 := lv_neT c2_2 (a := 3) (by decide); have e3 := lv_neT c2_3 (a := 4) (by decide); omega) (by decide) ?_
  refine lv_iconst (v := (1 : Int32)) hx hb dX8_lends_65 (by decide) ?_
  exact hr2 66 ls H locs (1 : Int32) hf rfl dX8_lends_66 hh
theorem inX8_fee_X8 : ∀ w ∈ wsX80, w ∈ wsX8_fee := by decide +kernel
theorem mmX8_fee_0 : Cond.fieldLink RX8 16 "SumOfTwoThatStandModel" "kind" "[I" ∈ wsX8_fee := by decide +kernel
theorem mmX8_fee_1 : Cond.fieldLink RX8 19 "SumOfTwoThatStandModel" "figure" "[I" ∈ wsX8_fee := by decide +kernel
theorem hdX8_fee : yX8_fee.cls ≠ "java/lang/invoke/MethodHandle" ∧ yX8_fee.cls ≠ "java/lang/invoke/VarHandle" ∧ (parseMethodDescriptor yX8_fee.desc).map (fun d => d.parameters.length) = some 1 := by decide +kernel
set_option maxHeartbeats 4000000 in
set_option maxRecDepth 100000 in
theorem kX8_fee (l : Launch) (K : zK) (a0 a1 a2 a3 a4 a5 a6 a7 a8 a9 a10 a11 a12 a13 a14 a15 a16 a17 a18 a19 : Nat) (S : zMd) (p1 : Int32) (R : Int32) (hf : fX8_fee S p1 = some R) : zC l yX8_fee wsX8_fee ({ frames := 0, cells := 0, slots := 0, locals := 0 } : Room) K [.ref a0, .int p1] (cMd K a0 a1 a2 a3 a4 a5 a6 a7 a8 a9 a10 a11 a12 a13 a14 a15 a16 a17 a18 a19 S) (some (.int R)) (cMd K a0 a1 a2 a3 a4 a5 a6 a7 a8 a9 a10 a11 a12 a13 a14 a15 a16 a17 a18 a19 S) := by
  refine zC_i R (cc := cX8_fee) (maxL := 2) (by decide +kernel) rfl (Nat.le_of_ble_eq_true rfl) rfl rfl ?_
  intro p e s m below meth c Q A X hret ls hl hh
  have X : zX p m c cX8_fee 2 s ([.ref a0, .int p1] : List Value).toArray wsX8_fee RX8 K A := X
  have hx := X.1.1
  have hb := X.1.2.1
  have hr2 : ∀ (pc : Nat) (ls : Array Slot) (H : Heap) (locs : List Loc) (v : Int32), some v = some R → decode cX8_fee pc = .ok (.ireturn, 1) → zW K A s H locs (cMd K a0 a1 a2 a3 a4 a5 a6 a7 a8 a9 a10 a11 a12 a13 a14 a15 a16 a17 a18 a19 S) → W p l e ({ frames := 0, cells := 0, slots := 0, locals := 0 } : Room) s m ([.ref a0, .int p1] : List Value).toArray below meth c H locs 0 0 Q (F0 m pc ls [.int v]) := by
    intro pc ls H locs v h hd hh
    cases h; exact hret pc ls H locs _ rfl hd hh
  have hl : lv_has ls 2 [(0, .ref a0), (1, .int p1)] := hl
  unfold fX8_fee at hf
  refine (fun (hmain : ∀ (H : Heap) (locs : List Loc), zW K A s H locs (cMd K a0 a1 a2 a3 a4 a5 a6 a7 a8 a9 a10 a11 a12 a13 a14 a15 a16 a17 a18 a19 S) → W p l e ({ frames := 0, cells := 0, slots := 0, locals := 0 } : Room) s m ([.ref a0, .int p1] : List Value).toArray below meth c H locs 0 0 Q (F0 m 0 ls [])) => hmain s.heap [] hh) (fun H locs hh => ?_)
  refine lv_aload_n hx hb dX8_fee_0 rfl (lv_at hl 0 rfl) ?_
  refine zget (v := .ref a3) (ref := "SumOfTwoThatStandModel") (C := RX8) (T := TX8) (N := 33) (index := 16) X hh inX8_fee_X8 0 rfl rfl 2 (by decide) mmX8_fee_0 rfl rfl dX8_fee_1 ?_
  refine lv_iload_n hx hb dX8_fee_4 rfl (lv_at hl 1 rfl) ?_
  obtain ⟨g1, hf⟩ := ob_ix hf
  refine ziald (f := (md_kind S)) X hh 3 rfl g1 dX8_fee_5 ?_
  refine lv_iconst (v := (2 : Int32)) hx hb dX8_fee_6 (by decide) ?_
  refine lv_icmp_ne (tgt := 19) hx hb dX8_fee_7 (by decide) (fun c2 => ?_) (fun c2 => ?_)
  · replace hf := (if_neg c2).symm.trans hf
    refine lv_aload_n hx hb dX8_fee_19 rfl (lv_at hl 0 rfl) ?_
    refine zget (v := .ref a3) (ref := "SumOfTwoThatStandModel") (C := RX8) (T := TX8) (N := 33) (index := 16) X hh inX8_fee_X8 0 rfl rfl 2 (by decide) mmX8_fee_0 rfl rfl dX8_fee_20 ?_
    refine lv_iload_n hx hb dX8_fee_23 rfl (lv_at hl 1 rfl) ?_
    refine ziald (f := (md_kind S)) X hh 3 rfl g1 dX8_fee_24 ?_
    refine lv_iconst (v := (3 : Int32)) hx hb dX8_fee_25 (by decide) ?_
    refine lv_icmp_ne (tgt := 42) hx hb dX8_fee_26 (by decide) (fun c3 => ?_) (fun c3 => ?_)
    · replace hf := (if_neg c3).symm.trans hf
      refine lv_iconst (v := (0 : Int32)) hx hb dX8_fee_42 (by decide) ?_
      exact hr2 43 ls H locs (0 : Int32) hf dX8_fee_43 hh
    · replace hf := (if_pos c3).symm.trans hf
      refine lv_iconst (v := (2 : Int32)) hx hb dX8_fee_29 (by decide) ?_
      refine lv_aload_n hx hb dX8_fee_30 rfl (lv_at hl 0 rfl) ?_
      refine zget (v := .ref a4) (ref := "SumOfTwoThatStandModel") (C := RX8) (T := TX8) (N := 33) (index := 19) X hh inX8_fee_X8 0 rfl rfl 3 (by decide) mmX8_fee_1 rfl rfl dX8_fee_31 ?_
      refine lv_iload_n hx hb dX8_fee_34 rfl (lv_at hl 1 rfl) ?_
      refine ziald (f := (md_figure S)) X hh 4 rfl g1 dX8_fee_35 ?_
      refine lv_imul hx hb dX8_fee_36 ?_
      refine lv_iconst (v := (1 : Int32)) hx hb dX8_fee_37 (by decide) ?_
      refine lv_iadd hx hb dX8_fee_38 ?_
      refine lv_goto (tgt := 43) hx hb dX8_fee_39 (by decide) ?_
      exact hr2 43 ls H locs (((2 : Int32) * ((md_figure S) p1.toNatClampNeg)) + (1 : Int32)) hf dX8_fee_43 hh
  · replace hf := (if_pos c2).symm.trans hf
    refine lv_aload_n hx hb dX8_fee_10 rfl (lv_at hl 0 rfl) ?_
    refine zget (v := .ref a4) (ref := "SumOfTwoThatStandModel") (C := RX8) (T := TX8) (N := 33) (index := 19) X hh inX8_fee_X8 0 rfl rfl 3 (by decide) mmX8_fee_1 rfl rfl dX8_fee_11 ?_
    refine lv_iload_n hx hb dX8_fee_14 rfl (lv_at hl 1 rfl) ?_
    refine ziald (f := (md_figure S)) X hh 4 rfl g1 dX8_fee_15 ?_
    refine lv_goto (tgt := 43) hx hb dX8_fee_16 (by decide) ?_
    exact hr2 43 ls H locs ((md_figure S) p1.toNatClampNeg) hf dX8_fee_43 hh
theorem inX8_isThere_X8 : ∀ w ∈ wsX80, w ∈ wsX8_isThere := by decide +kernel
theorem mmX8_isThere_0 : Cond.fieldLink RX8 70 "SumOfTwoThatStandModel" "houses" "I" ∈ wsX8_isThere := by decide +kernel
theorem mmX8_isThere_1 : Cond.fieldLink RX8 28 "SumOfTwoThatStandModel" "stands" "[I" ∈ wsX8_isThere := by decide +kernel
theorem mmX8_isThere_2 : Cond.fieldLink RX8 13 "SumOfTwoThatStandModel" "number" "[I" ∈ wsX8_isThere := by decide +kernel
theorem hdX8_isThere : yX8_isThere.cls ≠ "java/lang/invoke/MethodHandle" ∧ yX8_isThere.cls ≠ "java/lang/invoke/VarHandle" ∧ (parseMethodDescriptor yX8_isThere.desc).map (fun d => d.parameters.length) = some 1 := by decide +kernel
set_option maxHeartbeats 4000000 in
set_option maxRecDepth 100000 in
theorem kX8_isThere (l : Launch) (K : zK) (a0 a1 a2 a3 a4 a5 a6 a7 a8 a9 a10 a11 a12 a13 a14 a15 a16 a17 a18 a19 : Nat) (S : zMd) (p1 : Int32) (R : Int32) (hf : fX8_isThere S p1 = some R) : zC l yX8_isThere wsX8_isThere ({ frames := 0, cells := 0, slots := 0, locals := 0 } : Room) K [.ref a0, .int p1] (cMd K a0 a1 a2 a3 a4 a5 a6 a7 a8 a9 a10 a11 a12 a13 a14 a15 a16 a17 a18 a19 S) (some (.int R)) (cMd K a0 a1 a2 a3 a4 a5 a6 a7 a8 a9 a10 a11 a12 a13 a14 a15 a16 a17 a18 a19 S) := by
  refine zC_z .boolean R (cc := cX8_isThere) (maxL := 3) (by decide +kernel) rfl (Nat.le_of_ble_eq_true rfl) rfl rfl ?_
  intro p e s m below meth c Q A X hret ls hl hh
  have X : zX p m c cX8_isThere 3 s ([.ref a0, .int p1] : List Value).toArray wsX8_isThere RX8 K A := X
  have hx := X.1.1
  have hb := X.1.2.1
  have hr2 : ∀ (pc : Nat) (ls : Array Slot) (H : Heap) (locs : List Loc) (v : Int32), some v = some R → narrow .boolean (.int v) = .int v → decode cX8_isThere pc = .ok (.ireturn, 1) → zW K A s H locs (cMd K a0 a1 a2 a3 a4 a5 a6 a7 a8 a9 a10 a11 a12 a13 a14 a15 a16 a17 a18 a19 S) → W p l e ({ frames := 0, cells := 0, slots := 0, locals := 0 } : Room) s m ([.ref a0, .int p1] : List Value).toArray below meth c H locs 0 0 Q (F0 m pc ls [.int v]) := by
    intro pc ls H locs v h hn hd hh
    cases h; exact hret pc ls H locs _ rfl hn hd hh
  have hl : lv_has ls 3 [(0, .ref a0), (1, .int p1)] := hl
  have hL2 : ∀ (v1 : Int32), ∀ (n : Nat) (v2 : Int32), ∀ (H : Heap) (locs : List Loc) (ls : Array Slot), fX8_isThere_l2 S v1 n v2 = some R → lv_has ls 3 [(0, .ref a0), (1, .int v1), (2, .int v2)] → zW K A s H locs (cMd K a0 a1 a2 a3 a4 a5 a6 a7 a8 a9 a10 a11 a12 a13 a14 a15 a16 a17 a18 a19 S) → W p l e ({ frames := 0, cells := 0, slots := 0, locals := 0 } : Room) s m ([.ref a0, .int p1] : List Value).toArray below meth c H locs 0 0 Q (F0 m 2 ls []) := by
    intro v1 n
    induction n with
    | zero =>
      intro v2 H locs ls hf hl hh
      rw [fX8_isThere_l2] at hf; cases hf
    | succ n ih =>
      intro v2 H locs ls hf hl hh
      rw [fX8_isThere_l2] at hf
      refine lv_iload_n hx hb dX8_isThere_2 rfl (lv_at hl 2 rfl) ?_
      refine lv_aload_n hx hb dX8_isThere_3 rfl (lv_at hl 0 rfl) ?_
      refine zget (v := .int (md_houses S)) (ref := "SumOfTwoThatStandModel") (C := RX8) (T := TX8) (N := 33) (index := 70) X hh inX8_isThere_X8 0 rfl rfl 9 (by decide) mmX8_isThere_0 rfl rfl dX8_isThere_4 ?_
      refine lv_icmp_ge (tgt := 38) hx hb dX8_isThere_7 (by decide) (fun c1 => ?_) (fun c1 => ?_)
      · replace hf := (if_pos c1).symm.trans hf
        refine lv_iconst (v := (0 : Int32)) hx hb dX8_isThere_38 (by decide) ?_
        exact hr2 39 ls H locs (0 : Int32) hf rfl dX8_isThere_39 hh
      · replace hf := (if_neg c1).symm.trans hf
        refine lv_aload_n hx hb dX8_isThere_10 rfl (lv_at hl 0 rfl) ?_
        refine zget (v := .ref a7) (ref := "SumOfTwoThatStandModel") (C := RX8) (T := TX8) (N := 33) (index := 28) X hh inX8_isThere_X8 0 rfl rfl 6 (by decide) mmX8_isThere_1 rfl rfl dX8_isThere_11 ?_
        refine lv_iload_n hx hb dX8_isThere_14 rfl (lv_at hl 2 rfl) ?_
        obtain ⟨g2, hf⟩ := ob_ix hf
        refine ziald (f := (md_stands S)) X hh 7 rfl g2 dX8_isThere_15 ?_
        refine lv_iconst (v := (1 : Int32)) hx hb dX8_isThere_16 (by decide) ?_
        refine lv_icmp_ne (tgt := 32) hx hb dX8_isThere_17 (by decide) (fun c3 => ?_) (fun c3 => ?_)
        · replace hf := (if_neg c3).symm.trans hf
          refine lv_iinc (v := (v2 + (1 : Int32))) (lv' := [(2, .int (v2 + (1 : Int32))), (0, .ref a0), (1, .int v1)]) hx hb dX8_isThere_32 hl (k := 2) rfl rfl (by decide) rfl (fun ls hl => ?_)
          refine lv_goto (tgt := 2) hx hb dX8_isThere_35 (by decide) ?_
          exact ih (v2 + (1 : Int32)) H locs ls hf (lv_sub hl [1, 2, 0] rfl) hh
        · replace hf := (if_pos c3).symm.trans hf
          refine lv_aload_n hx hb dX8_isThere_20 rfl (lv_at hl 0 rfl) ?_
          refine zget (v := .ref a2) (ref := "SumOfTwoThatStandModel") (C := RX8) (T := TX8) (N := 33) (index := 13) X hh inX8_isThere_X8 0 rfl rfl 1 (by decide) mmX8_isThere_2 rfl rfl dX8_isThere_21 ?_
          refine lv_iload_n hx hb dX8_isThere_24 rfl (lv_at hl 2 rfl) ?_
          refine ziald (f := (md_number S)) X hh 2 rfl g2 dX8_isThere_25 ?_
          refine lv_iload_n hx hb dX8_isThere_26 rfl (lv_at hl 1 rfl) ?_
          refine lv_icmp_ne (tgt := 32) hx hb dX8_isThere_27 (by decide) (fun c4 => ?_) (fun c4 => ?_)
          · replace hf := (if_neg c4).symm.trans hf
            refine lv_iinc (v := (v2 + (1 : Int32))) (lv' := [(2, .int (v2 + (1 : Int32))), (0, .ref a0), (1, .int v1)]) hx hb dX8_isThere_32 hl (k := 2) rfl rfl (by decide) rfl (fun ls hl => ?_)
            refine lv_goto (tgt := 2) hx hb dX8_isThere_35 (by decide) ?_
            exact ih (v2 + (1 : Int32)) H locs ls hf (lv_sub hl [1, 2, 0] rfl) hh
          · replace hf := (if_pos c4).symm.trans hf
            refine lv_iconst (v := (1 : Int32)) hx hb dX8_isThere_30 (by decide) ?_
            exact hr2 31 ls H locs (1 : Int32) hf rfl dX8_isThere_31 hh
  unfold fX8_isThere at hf
  refine (fun (hmain : ∀ (H : Heap) (locs : List Loc), zW K A s H locs (cMd K a0 a1 a2 a3 a4 a5 a6 a7 a8 a9 a10 a11 a12 a13 a14 a15 a16 a17 a18 a19 S) → W p l e ({ frames := 0, cells := 0, slots := 0, locals := 0 } : Room) s m ([.ref a0, .int p1] : List Value).toArray below meth c H locs 0 0 Q (F0 m 0 ls [])) => hmain s.heap [] hh) (fun H locs hh => ?_)
  refine lv_iconst (v := (0 : Int32)) hx hb dX8_isThere_0 (by decide) ?_
  refine lv_istore_n (lv' := [(2, .int (0 : Int32)), (0, .ref a0), (1, .int p1)]) hx hb dX8_isThere_1 rfl hl (by decide) rfl (fun ls hl => ?_)
  exact hL2 p1 FU (0 : Int32) H locs ls hf (lv_sub hl [1, 2, 0] rfl) hh
theorem inX8_latest_X8 : ∀ w ∈ wsX80, w ∈ wsX8_latest := by decide +kernel
theorem mmX8_latest_0 : Cond.fieldLink RX8 70 "SumOfTwoThatStandModel" "houses" "I" ∈ wsX8_latest := by decide +kernel
theorem mmX8_latest_1 : Cond.fieldLink RX8 28 "SumOfTwoThatStandModel" "stands" "[I" ∈ wsX8_latest := by decide +kernel
theorem hdX8_latest : yX8_latest.cls ≠ "java/lang/invoke/MethodHandle" ∧ yX8_latest.cls ≠ "java/lang/invoke/VarHandle" ∧ (parseMethodDescriptor yX8_latest.desc).map (fun d => d.parameters.length) = some 0 := by decide +kernel
set_option maxHeartbeats 4000000 in
set_option maxRecDepth 100000 in
theorem kX8_latest (l : Launch) (K : zK) (a0 a1 a2 a3 a4 a5 a6 a7 a8 a9 a10 a11 a12 a13 a14 a15 a16 a17 a18 a19 : Nat) (S : zMd) (R : Int32) (hf : fX8_latest S = some R) : zC l yX8_latest wsX8_latest ({ frames := 0, cells := 0, slots := 0, locals := 0 } : Room) K [.ref a0] (cMd K a0 a1 a2 a3 a4 a5 a6 a7 a8 a9 a10 a11 a12 a13 a14 a15 a16 a17 a18 a19 S) (some (.int R)) (cMd K a0 a1 a2 a3 a4 a5 a6 a7 a8 a9 a10 a11 a12 a13 a14 a15 a16 a17 a18 a19 S) := by
  refine zC_i R (cc := cX8_latest) (maxL := 3) (by decide +kernel) rfl (Nat.le_of_ble_eq_true rfl) rfl rfl ?_
  intro p e s m below meth c Q A X hret ls hl hh
  have X : zX p m c cX8_latest 3 s ([.ref a0] : List Value).toArray wsX8_latest RX8 K A := X
  have hx := X.1.1
  have hb := X.1.2.1
  have hr2 : ∀ (pc : Nat) (ls : Array Slot) (H : Heap) (locs : List Loc) (v : Int32), some v = some R → decode cX8_latest pc = .ok (.ireturn, 1) → zW K A s H locs (cMd K a0 a1 a2 a3 a4 a5 a6 a7 a8 a9 a10 a11 a12 a13 a14 a15 a16 a17 a18 a19 S) → W p l e ({ frames := 0, cells := 0, slots := 0, locals := 0 } : Room) s m ([.ref a0] : List Value).toArray below meth c H locs 0 0 Q (F0 m pc ls [.int v]) := by
    intro pc ls H locs v h hd hh
    cases h; exact hret pc ls H locs _ rfl hd hh
  have hl : lv_has ls 3 [(0, .ref a0)] := hl
  have hL5 : ∀ (n : Nat) (v1 : Int32) (v2 : Int32), ∀ (H : Heap) (locs : List Loc) (ls : Array Slot), fX8_latest_l5 S n v1 v2 = some R → lv_has ls 3 [(0, .ref a0), (1, .int v1), (2, .int v2)] → zW K A s H locs (cMd K a0 a1 a2 a3 a4 a5 a6 a7 a8 a9 a10 a11 a12 a13 a14 a15 a16 a17 a18 a19 S) → W p l e ({ frames := 0, cells := 0, slots := 0, locals := 0 } : Room) s m ([.ref a0] : List Value).toArray below meth c H locs 0 0 Q (F0 m 5 ls []) := by
    intro n
    induction n with
    | zero =>
      intro v1 v2 H locs ls hf hl hh
      rw [fX8_latest_l5] at hf; cases hf
    | succ n ih =>
      intro v1 v2 H locs ls hf hl hh
      rw [fX8_latest_l5] at hf
      refine lv_iload_n hx hb dX8_latest_5 rfl (lv_at hl 2 rfl) ?_
      refine lv_aload_n hx hb dX8_latest_6 rfl (lv_at hl 0 rfl) ?_
      refine zget (v := .int (md_houses S)) (ref := "SumOfTwoThatStandModel") (C := RX8) (T := TX8) (N := 33) (index := 70) X hh inX8_latest_X8 0 rfl rfl 9 (by decide) mmX8_latest_0 rfl rfl dX8_latest_7 ?_
      refine lv_icmp_ge (tgt := 35) hx hb dX8_latest_10 (by decide) (fun c1 => ?_) (fun c1 => ?_)
      · replace hf := (if_pos c1).symm.trans hf
        refine lv_iload_n hx hb dX8_latest_35 rfl (lv_at hl 1 rfl) ?_
        exact hr2 36 ls H locs v1 hf dX8_latest_36 hh
      · replace hf := (if_neg c1).symm.trans hf
        refine lv_aload_n hx hb dX8_latest_13 rfl (lv_at hl 0 rfl) ?_
        refine zget (v := .ref a7) (ref := "SumOfTwoThatStandModel") (C := RX8) (T := TX8) (N := 33) (index := 28) X hh inX8_latest_X8 0 rfl rfl 6 (by decide) mmX8_latest_1 rfl rfl dX8_latest_14 ?_
        refine lv_iload_n hx hb dX8_latest_17 rfl (lv_at hl 2 rfl) ?_
        obtain ⟨g2, hf⟩ := ob_ix hf
        refine ziald (f := (md_stands S)) X hh 7 rfl g2 dX8_latest_18 ?_
        refine lv_iconst (v := (1 : Int32)) hx hb dX8_latest_19 (by decide) ?_
        refine lv_icmp_ne (tgt := 27) hx hb dX8_latest_20 (by decide) (fun c3 => ?_) (fun c3 => ?_)
        · replace hf := (if_neg c3).symm.trans hf
          refine lv_iload_n hx hb dX8_latest_27 rfl (lv_at hl 1 rfl) ?_
          refine lv_istore_n (lv' := [(1, .int v1), (0, .ref a0), (2, .int v2)]) hx hb dX8_latest_28 rfl hl (by decide) rfl (fun ls hl => ?_)
          refine lv_iinc (v := (v2 + (1 : Int32))) (lv' := [(2, .int (v2 + (1 : Int32))), (1, .int v1), (0, .ref a0)]) hx hb dX8_latest_29 hl (k := 2) rfl rfl (by decide) rfl (fun ls hl => ?_)
          refine lv_goto (tgt := 5) hx hb dX8_latest_32 (by decide) ?_
          exact ih v1 (v2 + (1 : Int32)) H locs ls hf (lv_sub hl [2, 1, 0] rfl) hh
        · replace hf := (if_pos c3).symm.trans hf
          refine lv_iload_n hx hb dX8_latest_23 rfl (lv_at hl 2 rfl) ?_
          refine lv_goto (tgt := 28) hx hb dX8_latest_24 (by decide) ?_
          refine lv_istore_n (lv' := [(1, .int v2), (0, .ref a0), (2, .int v2)]) hx hb dX8_latest_28 rfl hl (by decide) rfl (fun ls hl => ?_)
          refine lv_iinc (v := (v2 + (1 : Int32))) (lv' := [(2, .int (v2 + (1 : Int32))), (1, .int v2), (0, .ref a0)]) hx hb dX8_latest_29 hl (k := 2) rfl rfl (by decide) rfl (fun ls hl => ?_)
          refine lv_goto (tgt := 5) hx hb dX8_latest_32 (by decide) ?_
          exact ih v2 (v2 + (1 : Int32)) H locs ls hf (lv_sub hl [2, 1, 0] rfl) hh
  unfold fX8_latest at hf
  refine (fun (hmain : ∀ (H : Heap) (locs : List Loc), zW K A s H locs (cMd K a0 a1 a2 a3 a4 a5 a6 a7 a8 a9 a10 a11 a12 a13 a14 a15 a16 a17 a18 a19 S) → W p l e ({ frames := 0, cells := 0, slots := 0, locals := 0 } : Room) s m ([.ref a0] : List Value).toArray below meth c H locs 0 0 Q (F0 m 0 ls [])) => hmain s.heap [] hh) (fun H locs hh => ?_)
  refine lv_bipush (v := (-9 : Int32)) hx hb dX8_latest_0 (by decide) ?_
  refine lv_istore_n (lv' := [(1, .int (-9 : Int32)), (0, .ref a0)]) hx hb dX8_latest_2 rfl hl (by decide) rfl (fun ls hl => ?_)
  refine lv_iconst (v := (0 : Int32)) hx hb dX8_latest_3 (by decide) ?_
  refine lv_istore_n (lv' := [(2, .int (0 : Int32)), (1, .int (-9 : Int32)), (0, .ref a0)]) hx hb dX8_latest_4 rfl hl (by decide) rfl (fun ls hl => ?_)
  exact hL5 FU (-9 : Int32) (0 : Int32) H locs ls hf (lv_sub hl [2, 1, 0] rfl) hh
theorem inX8_isLawful_X8 : ∀ w ∈ wsX80, w ∈ wsX8_isLawful := by decide +kernel
theorem mmX8_isLawful_0 : Cond.fieldLink RX8 86 "SumOfTwoThatStandModel" "sums" "I" ∈ wsX8_isLawful := by decide +kernel
theorem hdX8_isLawful : yX8_isLawful.cls ≠ "java/lang/invoke/MethodHandle" ∧ yX8_isLawful.cls ≠ "java/lang/invoke/VarHandle" ∧ (parseMethodDescriptor yX8_isLawful.desc).map (fun d => d.parameters.length) = some 2 := by decide +kernel
set_option maxHeartbeats 4000000 in
set_option maxRecDepth 100000 in
theorem kX8_isLawful (l : Launch) (K : zK) (a0 a1 a2 a3 a4 a5 a6 a7 a8 a9 a10 a11 a12 a13 a14 a15 a16 a17 a18 a19 : Nat) (S : zMd) (p1 : Int32) (p2 : Int32) (R : Int32) (hf : fX8_isLawful S p1 p2 = some R) : zC l yX8_isLawful wsX8_isLawful ({ frames := 1, cells := 0, slots := 0, locals := 22 } : Room) K [.ref a0, .int p1, .int p2] (cMd K a0 a1 a2 a3 a4 a5 a6 a7 a8 a9 a10 a11 a12 a13 a14 a15 a16 a17 a18 a19 S) (some (.int R)) (cMd K a0 a1 a2 a3 a4 a5 a6 a7 a8 a9 a10 a11 a12 a13 a14 a15 a16 a17 a18 a19 S) := by
  refine zC_z .boolean R (cc := cX8_isLawful) (maxL := 3) (by decide +kernel) rfl (Nat.le_of_ble_eq_true rfl) rfl rfl ?_
  intro p e s m below meth c Q A X hret ls hl hh
  have X : zX p m c cX8_isLawful 3 s ([.ref a0, .int p1, .int p2] : List Value).toArray wsX8_isLawful RX8 K A := X
  have hx := X.1.1
  have hb := X.1.2.1
  have hr2 : ∀ (pc : Nat) (ls : Array Slot) (H : Heap) (locs : List Loc) (v : Int32), some v = some R → narrow .boolean (.int v) = .int v → decode cX8_isLawful pc = .ok (.ireturn, 1) → zW K A s H locs (cMd K a0 a1 a2 a3 a4 a5 a6 a7 a8 a9 a10 a11 a12 a13 a14 a15 a16 a17 a18 a19 S) → W p l e ({ frames := 1, cells := 0, slots := 0, locals := 22 } : Room) s m ([.ref a0, .int p1, .int p2] : List Value).toArray below meth c H locs 0 0 Q (F0 m pc ls [.int v]) := by
    intro pc ls H locs v h hn hd hh
    cases h; exact hret pc ls H locs _ rfl hn hd hh
  have hl : lv_has ls 3 [(0, .ref a0), (1, .int p1), (2, .int p2)] := hl
  unfold fX8_isLawful at hf
  refine (fun (hmain : ∀ (H : Heap) (locs : List Loc), zW K A s H locs (cMd K a0 a1 a2 a3 a4 a5 a6 a7 a8 a9 a10 a11 a12 a13 a14 a15 a16 a17 a18 a19 S) → W p l e ({ frames := 1, cells := 0, slots := 0, locals := 22 } : Room) s m ([.ref a0, .int p1, .int p2] : List Value).toArray below meth c H locs 0 0 Q (F0 m 0 ls [])) => hmain s.heap [] hh) (fun H locs hh => ?_)
  refine lv_aload_n hx hb dX8_isLawful_0 rfl (lv_at hl 0 rfl) ?_
  refine zget (v := .int (md_sums S)) (ref := "SumOfTwoThatStandModel") (C := RX8) (T := TX8) (N := 33) (index := 86) X hh inX8_isLawful_X8 0 rfl rfl 10 (by decide) mmX8_isLawful_0 rfl rfl dX8_isLawful_1 ?_
  refine lv_iconst (v := (2 : Int32)) hx hb dX8_isLawful_4 (by decide) ?_
  refine lv_icmp_ne (tgt := 19) hx hb dX8_isLawful_5 (by decide) (fun c1 => ?_) (fun c1 => ?_)
  · replace hf := (if_neg c1).symm.trans hf
    refine lv_aload_n hx hb dX8_isLawful_19 rfl (lv_at hl 0 rfl) ?_
    refine zget (v := .int (md_sums S)) (ref := "SumOfTwoThatStandModel") (C := RX8) (T := TX8) (N := 33) (index := 86) X hh inX8_isLawful_X8 0 rfl rfl 10 (by decide) mmX8_isLawful_0 rfl rfl dX8_isLawful_20 ?_
    refine lv_iconst (v := (1 : Int32)) hx hb dX8_isLawful_23 (by decide) ?_
    refine lv_icmp_ne (tgt := 43) hx hb dX8_isLawful_24 (by decide) (fun c2 => ?_) (fun c2 => ?_)
    · replace hf := (if_neg c2).symm.trans hf
      refine lv_iconst (v := (1 : Int32)) hx hb dX8_isLawful_43 (by decide) ?_
      refine lv_goto (tgt := 48) hx hb dX8_isLawful_44 (by decide) ?_
      exact hr2 48 ls H locs (1 : Int32) hf rfl dX8_isLawful_48 hh
    · replace hf := (if_pos c2).symm.trans hf
      refine lv_iload_n hx hb dX8_isLawful_27 rfl (lv_at hl 1 rfl) ?_
      refine lv_aload_n hx hb dX8_isLawful_28 rfl (lv_at hl 0 rfl) ?_
      obtain ⟨u3, hu3, hf⟩ := ob_bind hf
      refine zcallV (ci := 7) (q0 := 0) (As := []) (rest := [.int p1]) (wr := []) (ws' := cMd K a0 a1 a2 a3 a4 a5 a6 a7 a8 a9 a10 a11 a12 a13 a14 a15 a16 a17 a18 a19 S) (ov := some (.int u3)) X hh hl (kX8_latest l K a0 a1 a2 a3 a4 a5 a6 a7 a8 a9 a10 a11 a12 a13 a14 a15 a16 a17 a18 a19 S u3 hu3) (fun ht => cwV 0 ht gX8_isLawful_X8_latest rfl rfl rfl ⟨rfl, hdX8_latest⟩ ⟨Nat.le_of_ble_eq_true rfl, Nat.le_of_ble_eq_true rfl⟩) [0, 1, 2, 3, 4, 5, 6, 7, 8, 9, 10, 11, 12, 13, 14, 15, 16, 17, 18, 19] [] [0, 1, 2, 3, 4, 5, 6, 7, 8, 9, 10, 11, 12, 13, 14, 15, 16, 17, 18, 19] rfl rfl rfl rfl (by decide) rfl rfl rfl rfl rfl rfl (Nat.le_of_ble_eq_true rfl) dX8_isLawful_29 ⟨Nat.zero_le _, Nat.zero_le _⟩ (fun H locs hh => ?_)
      refine lv_icmp_eq (tgt := 43) hx hb dX8_isLawful_32 (by decide) (fun c4 => ?_) (fun c4 => ?_)
      · replace hf := (if_pos c4).symm.trans hf
        refine lv_iconst (v := (1 : Int32)) hx hb dX8_isLawful_43 (by decide) ?_
        refine lv_goto (tgt := 48) hx hb dX8_isLawful_44 (by decide) ?_
        exact hr2 48 ls H locs (1 : Int32) hf rfl dX8_isLawful_48 hh
      · replace hf := (if_neg c4).symm.trans hf
        refine lv_iload_n hx hb dX8_isLawful_35 rfl (lv_at hl 2 rfl) ?_
        refine lv_aload_n hx hb dX8_isLawful_36 rfl (lv_at hl 0 rfl) ?_
        obtain ⟨u5, hu5, hf⟩ := ob_bind hf
        refine zcallV (ci := 7) (q0 := 0) (As := []) (rest := [.int p2]) (wr := []) (ws' := cMd K a0 a1 a2 a3 a4 a5 a6 a7 a8 a9 a10 a11 a12 a13 a14 a15 a16 a17 a18 a19 S) (ov := some (.int u5)) X hh hl (kX8_latest l K a0 a1 a2 a3 a4 a5 a6 a7 a8 a9 a10 a11 a12 a13 a14 a15 a16 a17 a18 a19 S u5 hu5) (fun ht => cwV 0 ht gX8_isLawful_X8_latest rfl rfl rfl ⟨rfl, hdX8_latest⟩ ⟨Nat.le_of_ble_eq_true rfl, Nat.le_of_ble_eq_true rfl⟩) [0, 1, 2, 3, 4, 5, 6, 7, 8, 9, 10, 11, 12, 13, 14, 15, 16, 17, 18, 19] [] [0, 1, 2, 3, 4, 5, 6, 7, 8, 9, 10, 11, 12, 13, 14, 15, 16, 17, 18, 19] rfl rfl rfl rfl (by decide) rfl rfl rfl rfl rfl rfl (Nat.le_of_ble_eq_true rfl) dX8_isLawful_37 ⟨Nat.zero_le _, Nat.zero_le _⟩ (fun H locs hh => ?_)
        refine lv_icmp_ne (tgt := 47) hx hb dX8_isLawful_40 (by decide) (fun c6 => ?_) (fun c6 => ?_)
        · replace hf := (if_neg c6).symm.trans hf
          refine lv_iconst (v := (0 : Int32)) hx hb dX8_isLawful_47 (by decide) ?_
          exact hr2 48 ls H locs (0 : Int32) hf rfl dX8_isLawful_48 hh
        · replace hf := (if_pos c6).symm.trans hf
          refine lv_iconst (v := (1 : Int32)) hx hb dX8_isLawful_43 (by decide) ?_
          refine lv_goto (tgt := 48) hx hb dX8_isLawful_44 (by decide) ?_
          exact hr2 48 ls H locs (1 : Int32) hf rfl dX8_isLawful_48 hh
  · replace hf := (if_pos c1).symm.trans hf
    refine lv_iload_n hx hb dX8_isLawful_8 rfl (lv_at hl 1 rfl) ?_
    refine lv_iload_n hx hb dX8_isLawful_9 rfl (lv_at hl 2 rfl) ?_
    refine lv_icmp_ne (tgt := 17) hx hb dX8_isLawful_10 (by decide) (fun c7 => ?_) (fun c7 => ?_)
    · replace hf := (if_neg c7).symm.trans hf
      refine lv_iconst (v := (0 : Int32)) hx hb dX8_isLawful_17 (by decide) ?_
      exact hr2 18 ls H locs (0 : Int32) hf rfl dX8_isLawful_18 hh
    · replace hf := (if_pos c7).symm.trans hf
      refine lv_iconst (v := (1 : Int32)) hx hb dX8_isLawful_13 (by decide) ?_
      refine lv_goto (tgt := 18) hx hb dX8_isLawful_14 (by decide) ?_
      exact hr2 18 ls H locs (1 : Int32) hf rfl dX8_isLawful_18 hh
theorem inX8_mayBe_X8 : ∀ w ∈ wsX80, w ∈ wsX8_mayBe := by decide +kernel
theorem mmX8_mayBe_0 : Cond.fieldLink RX8 13 "SumOfTwoThatStandModel" "number" "[I" ∈ wsX8_mayBe := by decide +kernel
theorem hdX8_mayBe : yX8_mayBe.cls ≠ "java/lang/invoke/MethodHandle" ∧ yX8_mayBe.cls ≠ "java/lang/invoke/VarHandle" ∧ (parseMethodDescriptor yX8_mayBe.desc).map (fun d => d.parameters.length) = some 2 := by decide +kernel
set_option maxHeartbeats 4000000 in
set_option maxRecDepth 100000 in
theorem kX8_mayBe (l : Launch) (K : zK) (a0 a1 a2 a3 a4 a5 a6 a7 a8 a9 a10 a11 a12 a13 a14 a15 a16 a17 a18 a19 : Nat) (S : zMd) (p1 : Int32) (p2 : Int32) (R : Int32) (hf : fX8_mayBe S p1 p2 = some R) : zC l yX8_mayBe wsX8_mayBe ({ frames := 2, cells := 0, slots := 0, locals := 44 } : Room) K [.ref a0, .int p1, .int p2] (cMd K a0 a1 a2 a3 a4 a5 a6 a7 a8 a9 a10 a11 a12 a13 a14 a15 a16 a17 a18 a19 S) (some (.int R)) (cMd K a0 a1 a2 a3 a4 a5 a6 a7 a8 a9 a10 a11 a12 a13 a14 a15 a16 a17 a18 a19 S) := by
  refine zC_z .boolean R (cc := cX8_mayBe) (maxL := 4) (by decide +kernel) rfl (Nat.le_of_ble_eq_true rfl) rfl rfl ?_
  intro p e s m below meth c Q A X hret ls hl hh
  have X : zX p m c cX8_mayBe 4 s ([.ref a0, .int p1, .int p2] : List Value).toArray wsX8_mayBe RX8 K A := X
  have hx := X.1.1
  have hb := X.1.2.1
  have hr2 : ∀ (pc : Nat) (ls : Array Slot) (H : Heap) (locs : List Loc) (v : Int32), some v = some R → narrow .boolean (.int v) = .int v → decode cX8_mayBe pc = .ok (.ireturn, 1) → zW K A s H locs (cMd K a0 a1 a2 a3 a4 a5 a6 a7 a8 a9 a10 a11 a12 a13 a14 a15 a16 a17 a18 a19 S) → W p l e ({ frames := 2, cells := 0, slots := 0, locals := 44 } : Room) s m ([.ref a0, .int p1, .int p2] : List Value).toArray below meth c H locs 0 0 Q (F0 m pc ls [.int v]) := by
    intro pc ls H locs v h hn hd hh
    cases h; exact hret pc ls H locs _ rfl hn hd hh
  have hl : lv_has ls 4 [(0, .ref a0), (1, .int p1), (2, .int p2)] := hl
  unfold fX8_mayBe at hf
  refine (fun (hmain : ∀ (H : Heap) (locs : List Loc), zW K A s H locs (cMd K a0 a1 a2 a3 a4 a5 a6 a7 a8 a9 a10 a11 a12 a13 a14 a15 a16 a17 a18 a19 S) → W p l e ({ frames := 2, cells := 0, slots := 0, locals := 44 } : Room) s m ([.ref a0, .int p1, .int p2] : List Value).toArray below meth c H locs 0 0 Q (F0 m 0 ls [])) => hmain s.heap [] hh) (fun H locs hh => ?_)
  refine lv_aload_n hx hb dX8_mayBe_0 rfl (lv_at hl 0 rfl) ?_
  refine zget (v := .ref a2) (ref := "SumOfTwoThatStandModel") (C := RX8) (T := TX8) (N := 33) (index := 13) X hh inX8_mayBe_X8 0 rfl rfl 1 (by decide) mmX8_mayBe_0 rfl rfl dX8_mayBe_1 ?_
  refine lv_iload_n hx hb dX8_mayBe_4 rfl (lv_at hl 1 rfl) ?_
  obtain ⟨g1, hf⟩ := ob_ix hf
  refine ziald (f := (md_number S)) X hh 2 rfl g1 dX8_mayBe_5 ?_
  refine lv_aload_n hx hb dX8_mayBe_6 rfl (lv_at hl 0 rfl) ?_
  refine zget (v := .ref a2) (ref := "SumOfTwoThatStandModel") (C := RX8) (T := TX8) (N := 33) (index := 13) X hh inX8_mayBe_X8 0 rfl rfl 1 (by decide) mmX8_mayBe_0 rfl rfl dX8_mayBe_7 ?_
  refine lv_iload_n hx hb dX8_mayBe_10 rfl (lv_at hl 2 rfl) ?_
  obtain ⟨g2, hf⟩ := ob_ix hf
  refine ziald (f := (md_number S)) X hh 2 rfl g2 dX8_mayBe_11 ?_
  refine lv_iadd hx hb dX8_mayBe_12 ?_
  refine lv_istore_n (lv' := [(3, .int (((md_number S) p1.toNatClampNeg) + ((md_number S) p2.toNatClampNeg))), (0, .ref a0), (1, .int p1), (2, .int p2)]) hx hb dX8_mayBe_13 rfl hl (by decide) rfl (fun ls hl => ?_)
  refine lv_aload_n hx hb dX8_mayBe_14 rfl (lv_at hl 1 rfl) ?_
  refine lv_iload_n hx hb dX8_mayBe_15 rfl (lv_at hl 2 rfl) ?_
  refine lv_iload_n hx hb dX8_mayBe_16 rfl (lv_at hl 0 rfl) ?_
  obtain ⟨u3, hu3, hf⟩ := ob_bind hf
  refine zcallV (ci := 7) (q0 := 0) (As := [.int p1, .int (((md_number S) p1.toNatClampNeg) + ((md_number S) p2.toNatClampNeg))]) (rest := []) (wr := []) (ws' := cMd K a0 a1 a2 a3 a4 a5 a6 a7 a8 a9 a10 a11 a12 a13 a14 a15 a16 a17 a18 a19 S) (ov := some (.int u3)) X hh hl (kX8_lends l K a0 a1 a2 a3 a4 a5 a6 a7 a8 a9 a10 a11 a12 a13 a14 a15 a16 a17 a18 a19 S p1 (((md_number S) p1.toNatClampNeg) + ((md_number S) p2.toNatClampNeg)) u3 hu3) (fun ht => cwV 2 ht gX8_mayBe_X8_lends rfl rfl rfl ⟨rfl, hdX8_lends⟩ ⟨Nat.le_of_ble_eq_true rfl, Nat.le_of_ble_eq_true rfl⟩) [0, 1, 2, 3, 4, 5, 6, 7, 8, 9, 10, 11, 12, 13, 14, 15, 16, 17, 18, 19] [] [0, 1, 2, 3, 4, 5, 6, 7, 8, 9, 10, 11, 12, 13, 14, 15, 16, 17, 18, 19] rfl rfl rfl rfl (by decide) rfl rfl rfl rfl rfl rfl (Nat.le_of_ble_eq_true rfl) dX8_mayBe_17 ⟨Nat.zero_le _, Nat.zero_le _⟩ (fun H locs hh => ?_)
  refine lv_if_eq (tgt := 60) hx hb dX8_mayBe_20 (by decide) (fun c4 => ?_) (fun c4 => ?_)
  · replace hf := (if_pos c4).symm.trans hf
    refine lv_iconst (v := (0 : Int32)) hx hb dX8_mayBe_60 (by decide) ?_
    exact hr2 61 ls H locs (0 : Int32) hf rfl dX8_mayBe_61 hh
  · replace hf := (if_neg c4).symm.trans hf
    refine lv_aload_n hx hb dX8_mayBe_23 rfl (lv_at hl 1 rfl) ?_
    refine lv_iload_n hx hb dX8_mayBe_24 rfl (lv_at hl 3 rfl) ?_
    refine lv_iload_n hx hb dX8_mayBe_25 rfl (lv_at hl 0 rfl) ?_
    obtain ⟨u5, hu5, hf⟩ := ob_bind hf
    refine zcallV (ci := 7) (q0 := 0) (As := [.int p2, .int (((md_number S) p1.toNatClampNeg) + ((md_number S) p2.toNatClampNeg))]) (rest := []) (wr := []) (ws' := cMd K a0 a1 a2 a3 a4 a5 a6 a7 a8 a9 a10 a11 a12 a13 a14 a15 a16 a17 a18 a19 S) (ov := some (.int u5)) X hh hl (kX8_lends l K a0 a1 a2 a3 a4 a5 a6 a7 a8 a9 a10 a11 a12 a13 a14 a15 a16 a17 a18 a19 S p2 (((md_number S) p1.toNatClampNeg) + ((md_number S) p2.toNatClampNeg)) u5 hu5) (fun ht => cwV 2 ht gX8_mayBe_X8_lends rfl rfl rfl ⟨rfl, hdX8_lends⟩ ⟨Nat.le_of_ble_eq_true rfl, Nat.le_of_ble_eq_true rfl⟩) [0, 1, 2, 3, 4, 5, 6, 7, 8, 9, 10, 11, 12, 13, 14, 15, 16, 17, 18, 19] [] [0, 1, 2, 3, 4, 5, 6, 7, 8, 9, 10, 11, 12, 13, 14, 15, 16, 17, 18, 19] rfl rfl rfl rfl (by decide) rfl rfl rfl rfl rfl rfl (Nat.le_of_ble_eq_true rfl) dX8_mayBe_26 ⟨Nat.zero_le _, Nat.zero_le _⟩ (fun H locs hh => ?_)
    refine lv_if_eq (tgt := 60) hx hb dX8_mayBe_29 (by decide) (fun c6 => ?_) (fun c6 => ?_)
    · replace hf := (if_pos c6).symm.trans hf
      refine lv_iconst (v := (0 : Int32)) hx hb dX8_mayBe_60 (by decide) ?_
      exact hr2 61 ls H locs (0 : Int32) hf rfl dX8_mayBe_61 hh
    · replace hf := (if_neg c6).symm.trans hf
      refine lv_iload_n hx hb dX8_mayBe_32 rfl (lv_at hl 0 rfl) ?_
      refine lv_sipush (v := (9999 : Int32)) hx hb dX8_mayBe_33 (by decide) ?_
      refine lv_icmp_gt (tgt := 60) hx hb dX8_mayBe_36 (by decide) (fun c7 => ?_) (fun c7 => ?_)
      · replace hf := (if_pos c7).symm.trans hf
        refine lv_iconst (v := (0 : Int32)) hx hb dX8_mayBe_60 (by decide) ?_
        exact hr2 61 ls H locs (0 : Int32) hf rfl dX8_mayBe_61 hh
      · replace hf := (if_neg c7).symm.trans hf
        refine lv_aload_n hx hb dX8_mayBe_39 rfl (lv_at hl 1 rfl) ?_
        refine lv_iload_n hx hb dX8_mayBe_40 rfl (lv_at hl 0 rfl) ?_
        obtain ⟨u8, hu8, hf⟩ := ob_bind hf
        refine zcallV (ci := 7) (q0 := 0) (As := [.int (((md_number S) p1.toNatClampNeg) + ((md_number S) p2.toNatClampNeg))]) (rest := []) (wr := []) (ws' := cMd K a0 a1 a2 a3 a4 a5 a6 a7 a8 a9 a10 a11 a12 a13 a14 a15 a16 a17 a18 a19 S) (ov := some (.int u8)) X hh hl (kX8_isThere l K a0 a1 a2 a3 a4 a5 a6 a7 a8 a9 a10 a11 a12 a13 a14 a15 a16 a17 a18 a19 S (((md_number S) p1.toNatClampNeg) + ((md_number S) p2.toNatClampNeg)) u8 hu8) (fun ht => cwV 1 ht gX8_mayBe_X8_isThere rfl rfl rfl ⟨rfl, hdX8_isThere⟩ ⟨Nat.le_of_ble_eq_true rfl, Nat.le_of_ble_eq_true rfl⟩) [0, 1, 2, 3, 4, 5, 6, 7, 8, 9, 10, 11, 12, 13, 14, 15, 16, 17, 18, 19] [] [0, 1, 2, 3, 4, 5, 6, 7, 8, 9, 10, 11, 12, 13, 14, 15, 16, 17, 18, 19] rfl rfl rfl rfl (by decide) rfl rfl rfl rfl rfl rfl (Nat.le_of_ble_eq_true rfl) dX8_mayBe_41 ⟨Nat.zero_le _, Nat.zero_le _⟩ (fun H locs hh => ?_)
        refine lv_if_ne (tgt := 60) hx hb dX8_mayBe_44 (by decide) (fun c9 => ?_) (fun c9 => ?_)
        · replace hf := (if_neg c9).symm.trans hf
          refine lv_iconst (v := (0 : Int32)) hx hb dX8_mayBe_60 (by decide) ?_
          exact hr2 61 ls H locs (0 : Int32) hf rfl dX8_mayBe_61 hh
        · replace hf := (if_pos c9).symm.trans hf
          refine lv_aload_n hx hb dX8_mayBe_47 rfl (lv_at hl 1 rfl) ?_
          refine lv_iload_n hx hb dX8_mayBe_48 rfl (lv_at hl 2 rfl) ?_
          refine lv_iload_n hx hb dX8_mayBe_49 rfl (lv_at hl 3 rfl) ?_
          obtain ⟨u10, hu10, hf⟩ := ob_bind hf
          refine zcallV (ci := 7) (q0 := 0) (As := [.int p1, .int p2]) (rest := []) (wr := []) (ws' := cMd K a0 a1 a2 a3 a4 a5 a6 a7 a8 a9 a10 a11 a12 a13 a14 a15 a16 a17 a18 a19 S) (ov := some (.int u10)) X hh hl (kX8_isLawful l K a0 a1 a2 a3 a4 a5 a6 a7 a8 a9 a10 a11 a12 a13 a14 a15 a16 a17 a18 a19 S p1 p2 u10 hu10) (fun ht => cwV 2 ht gX8_mayBe_X8_isLawful rfl rfl rfl ⟨rfl, hdX8_isLawful⟩ ⟨Nat.le_of_ble_eq_true rfl, Nat.le_of_ble_eq_true rfl⟩) [0, 1, 2, 3, 4, 5, 6, 7, 8, 9, 10, 11, 12, 13, 14, 15, 16, 17, 18, 19] [] [0, 1, 2, 3, 4, 5, 6, 7, 8, 9, 10, 11, 12, 13, 14, 15, 16, 17, 18, 19] rfl rfl rfl rfl (by decide) rfl rfl rfl rfl rfl rfl (Nat.le_of_ble_eq_true rfl) dX8_mayBe_50 ⟨Nat.zero_le _, Nat.zero_le _⟩ (fun H locs hh => ?_)
          refine lv_if_eq (tgt := 60) hx hb dX8_mayBe_53 (by decide) (fun c11 => ?_) (fun c11 => ?_)
          · replace hf := (if_pos c11).symm.trans hf
            refine lv_iconst (v := (0 : Int32)) hx hb dX8_mayBe_60 (by decide) ?_
            exact hr2 61 ls H locs (0 : Int32) hf rfl dX8_mayBe_61 hh
          · replace hf := (if_neg c11).symm.trans hf
            refine lv_iconst (v := (1 : Int32)) hx hb dX8_mayBe_56 (by decide) ?_
            refine lv_goto (tgt := 61) hx hb dX8_mayBe_57 (by decide) ?_
            exact hr2 61 ls H locs (1 : Int32) hf rfl dX8_mayBe_61 hh
theorem inX8_isUsed_X8 : ∀ w ∈ wsX80, w ∈ wsX8_isUsed := by decide +kernel
theorem mmX8_isUsed_0 : Cond.fieldLink RX8 31 "SumOfTwoThatStandModel" "uses" "[I" ∈ wsX8_isUsed := by decide +kernel
theorem mmX8_isUsed_1 : Cond.fieldLink RX8 34 "SumOfTwoThatStandModel" "earned" "[I" ∈ wsX8_isUsed := by decide +kernel
theorem mmX8_isUsed_2 : Cond.fieldLink RX8 16 "SumOfTwoThatStandModel" "kind" "[I" ∈ wsX8_isUsed := by decide +kernel
theorem mmX8_isUsed_3 : Cond.fieldLink RX8 28 "SumOfTwoThatStandModel" "stands" "[I" ∈ wsX8_isUsed := by decide +kernel
theorem hdX8_isUsed : yX8_isUsed.cls ≠ "java/lang/invoke/MethodHandle" ∧ yX8_isUsed.cls ≠ "java/lang/invoke/VarHandle" ∧ (parseMethodDescriptor yX8_isUsed.desc).map (fun d => d.parameters.length) = some 1 := by decide +kernel
set_option maxHeartbeats 4000000 in
set_option maxRecDepth 100000 in
theorem kX8_isUsed (l : Launch) (K : zK) (a0 a1 a2 a3 a4 a5 a6 a7 a8 a9 a10 a11 a12 a13 a14 a15 a16 a17 a18 a19 : Nat) (S : zMd) (p1 : Int32) (R : zMd) (hf : fX8_isUsed S p1 = some R) : zC l yX8_isUsed wsX8_isUsed ({ frames := 1, cells := 0, slots := 0, locals := 21 } : Room) K [.ref a0, .int p1] (cMd K a0 a1 a2 a3 a4 a5 a6 a7 a8 a9 a10 a11 a12 a13 a14 a15 a16 a17 a18 a19 S) none (cMd K a0 a1 a2 a3 a4 a5 a6 a7 a8 a9 a10 a11 a12 a13 a14 a15 a16 a17 a18 a19 R) := by
  refine zC_v (cc := cX8_isUsed) (maxL := 2) (by decide +kernel) rfl (Nat.le_of_ble_eq_true rfl) rfl rfl ?_
  intro p e s m below meth c Q A X hret ls hl hh
  have X : zX p m c cX8_isUsed 2 s ([.ref a0, .int p1] : List Value).toArray wsX8_isUsed RX8 K A := X
  have hx := X.1.1
  have hb := X.1.2.1
  have hr2 : ∀ (pc : Nat) (ls : Array Slot) (H : Heap) (locs : List Loc) (S : zMd), some S = some R → decode cX8_isUsed pc = .ok (.return_, 1) → zW K A s H locs (cMd K a0 a1 a2 a3 a4 a5 a6 a7 a8 a9 a10 a11 a12 a13 a14 a15 a16 a17 a18 a19 S) → W p l e ({ frames := 1, cells := 0, slots := 0, locals := 21 } : Room) s m ([.ref a0, .int p1] : List Value).toArray below meth c H locs 0 0 Q (F0 m pc ls []) := by
    intro pc ls H locs S h hd hh
    cases h; exact hret pc ls H locs hd hh
  have hl : lv_has ls 2 [(0, .ref a0), (1, .int p1)] := hl
  unfold fX8_isUsed at hf
  refine (fun (hmain : ∀ (H : Heap) (locs : List Loc), zW K A s H locs (cMd K a0 a1 a2 a3 a4 a5 a6 a7 a8 a9 a10 a11 a12 a13 a14 a15 a16 a17 a18 a19 S) → W p l e ({ frames := 1, cells := 0, slots := 0, locals := 21 } : Room) s m ([.ref a0, .int p1] : List Value).toArray below meth c H locs 0 0 Q (F0 m 0 ls [])) => hmain s.heap [] hh) (fun H locs hh => ?_)
  refine lv_aload_n hx hb dX8_isUsed_0 rfl (lv_at hl 0 rfl) ?_
  refine zget (v := .ref a8) (ref := "SumOfTwoThatStandModel") (C := RX8) (T := TX8) (N := 33) (index := 31) X hh inX8_isUsed_X8 0 rfl rfl 7 (by decide) mmX8_isUsed_0 rfl rfl dX8_isUsed_1 ?_
  refine lv_iload_n hx hb dX8_isUsed_4 rfl (lv_at hl 1 rfl) ?_
  refine lv_dup2_11 hx hb dX8_isUsed_5 rfl rfl ?_
  obtain ⟨g1, hf⟩ := ob_ix hf
  refine ziald (f := (md_uses S)) X hh 8 rfl g1 dX8_isUsed_6 ?_
  refine lv_iconst (v := (1 : Int32)) hx hb dX8_isUsed_7 (by decide) ?_
  refine lv_iadd hx hb dX8_isUsed_8 ?_
  refine ziast (f := (md_uses S)) X hh 8 rfl g1 dX8_isUsed_9 (fun H locs hh => ?_)
  have hh := hh.to (sMd_uses K a0 a1 a2 a3 a4 a5 a6 a7 a8 a9 a10 a11 a12 a13 a14 a15 a16 a17 a18 a19 S (upd (md_uses S) p1.toNatClampNeg (((md_uses S) p1.toNatClampNeg) + (1 : Int32))))
  refine lv_aload_n hx hb dX8_isUsed_10 rfl (lv_at hl 0 rfl) ?_
  refine zget (v := .ref a9) (ref := "SumOfTwoThatStandModel") (C := RX8) (T := TX8) (N := 33) (index := 34) X hh inX8_isUsed_X8 0 rfl rfl 8 (by decide) mmX8_isUsed_1 rfl rfl dX8_isUsed_11 ?_
  refine lv_iload_n hx hb dX8_isUsed_14 rfl (lv_at hl 1 rfl) ?_
  refine lv_dup2_11 hx hb dX8_isUsed_15 rfl rfl ?_
  refine ziald (f := (md_earned S)) X hh 9 rfl g1 dX8_isUsed_16 ?_
  refine lv_aload_n hx hb dX8_isUsed_17 rfl (lv_at hl 0 rfl) ?_
  refine lv_iload_n hx hb dX8_isUsed_18 rfl (lv_at hl 1 rfl) ?_
  obtain ⟨u2, hu2, hf⟩ := ob_bind hf
  refine zcallV (ci := 7) (q0 := 0) (As := [.int p1]) (rest := [.int ((md_earned S) p1.toNatClampNeg), .int p1, .ref a9]) (wr := []) (ws' := cMd K a0 a1 a2 a3 a4 a5 a6 a7 a8 a9 a10 a11 a12 a13 a14 a15 a16 a17 a18 a19 (md_set_uses S (upd (md_uses S) p1.toNatClampNeg (((md_uses S) p1.toNatClampNeg) + (1 : Int32))))) (ov := some (.int u2)) X hh hl (kX8_fee l K a0 a1 a2 a3 a4 a5 a6 a7 a8 a9 a10 a11 a12 a13 a14 a15 a16 a17 a18 a19 (md_set_uses S (upd (md_uses S) p1.toNatClampNeg (((md_uses S) p1.toNatClampNeg) + (1 : Int32)))) p1 u2 hu2) (fun ht => cwV 1 ht gX8_isUsed_X8_fee rfl rfl rfl ⟨rfl, hdX8_fee⟩ ⟨Nat.le_of_ble_eq_true rfl, Nat.le_of_ble_eq_true rfl⟩) [0, 1, 2, 3, 4, 5, 6, 7, 8, 9, 10, 11, 12, 13, 14, 15, 16, 17, 18, 19] [] [0, 1, 2, 3, 4, 5, 6, 7, 8, 9, 10, 11, 12, 13, 14, 15, 16, 17, 18, 19] rfl rfl rfl rfl (by decide) rfl rfl rfl rfl rfl rfl (Nat.le_of_ble_eq_true rfl) dX8_isUsed_19 ⟨Nat.zero_le _, Nat.zero_le _⟩ (fun H locs hh => ?_)
  refine lv_iadd hx hb dX8_isUsed_22 ?_
  refine ziast (f := (md_earned S)) X hh 9 rfl g1 dX8_isUsed_23 (fun H locs hh => ?_)
  have hh := hh.to (sMd_earned K a0 a1 a2 a3 a4 a5 a6 a7 a8 a9 a10 a11 a12 a13 a14 a15 a16 a17 a18 a19 (md_set_uses S (upd (md_uses S) p1.toNatClampNeg (((md_uses S) p1.toNatClampNeg) + (1 : Int32)))) (upd (md_earned S) p1.toNatClampNeg (((md_earned S) p1.toNatClampNeg) + u2)))
  refine lv_aload_n hx hb dX8_isUsed_24 rfl (lv_at hl 0 rfl) ?_
  refine zget (v := .ref a3) (ref := "SumOfTwoThatStandModel") (C := RX8) (T := TX8) (N := 33) (index := 16) X hh inX8_isUsed_X8 0 rfl rfl 2 (by decide) mmX8_isUsed_2 rfl rfl dX8_isUsed_25 ?_
  refine lv_iload_n hx hb dX8_isUsed_28 rfl (lv_at hl 1 rfl) ?_
  refine ziald (f := (md_kind S)) X hh 3 rfl g1 dX8_isUsed_29 ?_
  refine lv_iconst (v := (1 : Int32)) hx hb dX8_isUsed_30 (by decide) ?_
  refine lv_icmp_ne (tgt := 41) hx hb dX8_isUsed_31 (by decide) (fun c3 => ?_) (fun c3 => ?_)
  · replace hf := (if_neg c3).symm.trans hf
    exact hr2 41 ls H locs (md_set_earned (md_set_uses S (upd (md_uses S) p1.toNatClampNeg (((md_uses S) p1.toNatClampNeg) + (1 : Int32)))) (upd (md_earned S) p1.toNatClampNeg (((md_earned S) p1.toNatClampNeg) + u2))) hf dX8_isUsed_41 hh
  · replace hf := (if_pos c3).symm.trans hf
    refine lv_aload_n hx hb dX8_isUsed_34 rfl (lv_at hl 0 rfl) ?_
    refine zget (v := .ref a7) (ref := "SumOfTwoThatStandModel") (C := RX8) (T := TX8) (N := 33) (index := 28) X hh inX8_isUsed_X8 0 rfl rfl 6 (by decide) mmX8_isUsed_3 rfl rfl dX8_isUsed_35 ?_
    refine lv_iload_n hx hb dX8_isUsed_38 rfl (lv_at hl 1 rfl) ?_
    refine lv_iconst (v := (0 : Int32)) hx hb dX8_isUsed_39 (by decide) ?_
    refine ziast (f := (md_stands S)) X hh 7 rfl g1 dX8_isUsed_40 (fun H locs hh => ?_)
    have hh := hh.to (sMd_stands K a0 a1 a2 a3 a4 a5 a6 a7 a8 a9 a10 a11 a12 a13 a14 a15 a16 a17 a18 a19 (md_set_earned (md_set_uses S (upd (md_uses S) p1.toNatClampNeg (((md_uses S) p1.toNatClampNeg) + (1 : Int32)))) (upd (md_earned S) p1.toNatClampNeg (((md_earned S) p1.toNatClampNeg) + u2))) (upd (md_stands S) p1.toNatClampNeg (0 : Int32)))
    exact hr2 41 ls H locs (md_set_stands (md_set_earned (md_set_uses S (upd (md_uses S) p1.toNatClampNeg (((md_uses S) p1.toNatClampNeg) + (1 : Int32)))) (upd (md_earned S) p1.toNatClampNeg (((md_earned S) p1.toNatClampNeg) + u2))) (upd (md_stands S) p1.toNatClampNeg (0 : Int32))) hf dX8_isUsed_41 hh
theorem inX8_builds_X8 : ∀ w ∈ wsX80, w ∈ wsX8_builds := by decide +kernel
theorem mmX8_builds_0 : Cond.fieldLink RX8 13 "SumOfTwoThatStandModel" "number" "[I" ∈ wsX8_builds := by decide +kernel
theorem hdX8_builds : yX8_builds.cls ≠ "java/lang/invoke/MethodHandle" ∧ yX8_builds.cls ≠ "java/lang/invoke/VarHandle" ∧ (parseMethodDescriptor yX8_builds.desc).map (fun d => d.parameters.length) = some 4 := by decide +kernel
set_option maxHeartbeats 4000000 in
set_option maxRecDepth 100000 in
theorem kX8_builds (l : Launch) (K : zK) (a0 a1 a2 a3 a4 a5 a6 a7 a8 a9 a10 a11 a12 a13 a14 a15 a16 a17 a18 a19 : Nat) (S : zMd) (p1 : Int32) (p2 : Int32) (p3 : Int32) (p4 : Int32) (R : zMd) (hf : fX8_builds S p1 p2 p3 p4 = some R) : zC l yX8_builds wsX8_builds ({ frames := 2, cells := 0, slots := 0, locals := 42 } : Room) K [.ref a0, .int p1, .int p2, .int p3, .int p4] (cMd K a0 a1 a2 a3 a4 a5 a6 a7 a8 a9 a10 a11 a12 a13 a14 a15 a16 a17 a18 a19 S) none (cMd K a0 a1 a2 a3 a4 a5 a6 a7 a8 a9 a10 a11 a12 a13 a14 a15 a16 a17 a18 a19 R) := by
  refine zC_v (cc := cX8_builds) (maxL := 6) (by decide +kernel) rfl (Nat.le_of_ble_eq_true rfl) rfl rfl ?_
  intro p e s m below meth c Q A X hret ls hl hh
  have X : zX p m c cX8_builds 6 s ([.ref a0, .int p1, .int p2, .int p3, .int p4] : List Value).toArray wsX8_builds RX8 K A := X
  have hx := X.1.1
  have hb := X.1.2.1
  have hr2 : ∀ (pc : Nat) (ls : Array Slot) (H : Heap) (locs : List Loc) (S : zMd), some S = some R → decode cX8_builds pc = .ok (.return_, 1) → zW K A s H locs (cMd K a0 a1 a2 a3 a4 a5 a6 a7 a8 a9 a10 a11 a12 a13 a14 a15 a16 a17 a18 a19 S) → W p l e ({ frames := 2, cells := 0, slots := 0, locals := 42 } : Room) s m ([.ref a0, .int p1, .int p2, .int p3, .int p4] : List Value).toArray below meth c H locs 0 0 Q (F0 m pc ls []) := by
    intro pc ls H locs S h hd hh
    cases h; exact hret pc ls H locs hd hh
  have hl : lv_has ls 6 [(0, .ref a0), (1, .int p1), (2, .int p2), (3, .int p3), (4, .int p4)] := hl
  unfold fX8_builds at hf
  refine (fun (hmain : ∀ (H : Heap) (locs : List Loc), zW K A s H locs (cMd K a0 a1 a2 a3 a4 a5 a6 a7 a8 a9 a10 a11 a12 a13 a14 a15 a16 a17 a18 a19 S) → W p l e ({ frames := 2, cells := 0, slots := 0, locals := 42 } : Room) s m ([.ref a0, .int p1, .int p2, .int p3, .int p4] : List Value).toArray below meth c H locs 0 0 Q (F0 m 0 ls [])) => hmain s.heap [] hh) (fun H locs hh => ?_)
  refine lv_aload_n hx hb dX8_builds_0 rfl (lv_at hl 0 rfl) ?_
  refine zget (v := .ref a2) (ref := "SumOfTwoThatStandModel") (C := RX8) (T := TX8) (N := 33) (index := 13) X hh inX8_builds_X8 0 rfl rfl 1 (by decide) mmX8_builds_0 rfl rfl dX8_builds_1 ?_
  refine lv_iload_n hx hb dX8_builds_4 rfl (lv_at hl 1 rfl) ?_
  obtain ⟨g1, hf⟩ := ob_ix hf
  refine ziald (f := (md_number S)) X hh 2 rfl g1 dX8_builds_5 ?_
  refine lv_aload_n hx hb dX8_builds_6 rfl (lv_at hl 0 rfl) ?_
  refine zget (v := .ref a2) (ref := "SumOfTwoThatStandModel") (C := RX8) (T := TX8) (N := 33) (index := 13) X hh inX8_builds_X8 0 rfl rfl 1 (by decide) mmX8_builds_0 rfl rfl dX8_builds_7 ?_
  refine lv_iload_n hx hb dX8_builds_10 rfl (lv_at hl 2 rfl) ?_
  obtain ⟨g2, hf⟩ := ob_ix hf
  refine ziald (f := (md_number S)) X hh 2 rfl g2 dX8_builds_11 ?_
  refine lv_iadd hx hb dX8_builds_12 ?_
  refine lv_istore (lv' := [(5, .int (((md_number S) p1.toNatClampNeg) + ((md_number S) p2.toNatClampNeg))), (0, .ref a0), (1, .int p1), (2, .int p2), (3, .int p3), (4, .int p4)]) hx hb dX8_builds_13 hl (by decide) rfl (fun ls hl => ?_)
  refine lv_aload_n hx hb dX8_builds_15 rfl (lv_at hl 1 rfl) ?_
  refine lv_iload_n hx hb dX8_builds_16 rfl (lv_at hl 2 rfl) ?_
  obtain ⟨u3, hu3, hf⟩ := ob_bind hf
  refine zcallV (ci := 7) (q0 := 0) (As := [.int p1]) (rest := []) (wr := []) (ws' := cMd K a0 a1 a2 a3 a4 a5 a6 a7 a8 a9 a10 a11 a12 a13 a14 a15 a16 a17 a18 a19 u3) (ov := none) X hh hl (kX8_isUsed l K a0 a1 a2 a3 a4 a5 a6 a7 a8 a9 a10 a11 a12 a13 a14 a15 a16 a17 a18 a19 S p1 u3 hu3) (fun ht => cwV 1 ht gX8_builds_X8_isUsed rfl rfl rfl ⟨rfl, hdX8_isUsed⟩ ⟨Nat.le_of_ble_eq_true rfl, Nat.le_of_ble_eq_true rfl⟩) [0, 1, 2, 3, 4, 5, 6, 7, 8, 9, 10, 11, 12, 13, 14, 15, 16, 17, 18, 19] [] [0, 1, 2, 3, 4, 5, 6, 7, 8, 9, 10, 11, 12, 13, 14, 15, 16, 17, 18, 19] rfl rfl rfl rfl (by decide) rfl rfl rfl rfl rfl rfl (Nat.le_of_ble_eq_true rfl) dX8_builds_17 ⟨Nat.zero_le _, Nat.zero_le _⟩ (fun H locs hh => ?_)
  refine lv_aload_n hx hb dX8_builds_20 rfl (lv_at hl 1 rfl) ?_
  refine lv_iload_n hx hb dX8_builds_21 rfl (lv_at hl 3 rfl) ?_
  obtain ⟨u4, hu4, hf⟩ := ob_bind hf
  refine zcallV (ci := 7) (q0 := 0) (As := [.int p2]) (rest := []) (wr := []) (ws' := cMd K a0 a1 a2 a3 a4 a5 a6 a7 a8 a9 a10 a11 a12 a13 a14 a15 a16 a17 a18 a19 u4) (ov := none) X hh hl (kX8_isUsed l K a0 a1 a2 a3 a4 a5 a6 a7 a8 a9 a10 a11 a12 a13 a14 a15 a16 a17 a18 a19 u3 p2 u4 hu4) (fun ht => cwV 1 ht gX8_builds_X8_isUsed rfl rfl rfl ⟨rfl, hdX8_isUsed⟩ ⟨Nat.le_of_ble_eq_true rfl, Nat.le_of_ble_eq_true rfl⟩) [0, 1, 2, 3, 4, 5, 6, 7, 8, 9, 10, 11, 12, 13, 14, 15, 16, 17, 18, 19] [] [0, 1, 2, 3, 4, 5, 6, 7, 8, 9, 10, 11, 12, 13, 14, 15, 16, 17, 18, 19] rfl rfl rfl rfl (by decide) rfl rfl rfl rfl rfl rfl (Nat.le_of_ble_eq_true rfl) dX8_builds_22 ⟨Nat.zero_le _, Nat.zero_le _⟩ (fun H locs hh => ?_)
  refine lv_aload_n hx hb dX8_builds_25 rfl (lv_at hl 1 rfl) ?_
  refine lv_iload hx hb dX8_builds_26 (lv_at hl 0 rfl) ?_
  refine lv_iload_n hx hb dX8_builds_28 rfl (lv_at hl 4 rfl) ?_
  refine lv_iload hx hb dX8_builds_29 (lv_at hl 5 rfl) ?_
  refine lv_iload_n hx hb dX8_builds_31 rfl (lv_at hl 2 rfl) ?_
  refine lv_iload_n hx hb dX8_builds_32 rfl (lv_at hl 3 rfl) ?_
  obtain ⟨u5, hu5, hf⟩ := ob_bind hf
  refine zcallV (ci := 7) (q0 := 0) (As := [.int (((md_number S) p1.toNatClampNeg) + ((md_number S) p2.toNatClampNeg)), .int p3, .int p4, .int p1, .int p2]) (rest := []) (wr := []) (ws' := cMd K a0 a1 a2 a3 a4 a5 a6 a7 a8 a9 a10 a11 a12 a13 a14 a15 a16 a17 a18 a19 u5) (ov := none) X hh hl (kX8_isMore l K a0 a1 a2 a3 a4 a5 a6 a7 a8 a9 a10 a11 a12 a13 a14 a15 a16 a17 a18 a19 u4 (((md_number S) p1.toNatClampNeg) + ((md_number S) p2.toNatClampNeg)) p3 p4 p1 p2 u5 hu5) (fun ht => cwV 5 ht gX8_builds_X8_isMore rfl rfl rfl ⟨rfl, hdX8_isMore⟩ ⟨Nat.le_of_ble_eq_true rfl, Nat.le_of_ble_eq_true rfl⟩) [0, 1, 2, 3, 4, 5, 6, 7, 8, 9, 10, 11, 12, 13, 14, 15, 16, 17, 18, 19] [] [0, 1, 2, 3, 4, 5, 6, 7, 8, 9, 10, 11, 12, 13, 14, 15, 16, 17, 18, 19] rfl rfl rfl rfl (by decide) rfl rfl rfl rfl rfl rfl (Nat.le_of_ble_eq_true rfl) dX8_builds_33 ⟨Nat.zero_le _, Nat.zero_le _⟩ (fun H locs hh => ?_)
  exact hr2 36 ls H locs u5 hf dX8_builds_36 hh
theorem inX8_hasFallen_X8 : ∀ w ∈ wsX80, w ∈ wsX8_hasFallen := by decide +kernel
theorem mmX8_hasFallen_0 : Cond.fieldLink RX8 28 "SumOfTwoThatStandModel" "stands" "[I" ∈ wsX8_hasFallen := by decide +kernel
theorem hdX8_hasFallen : yX8_hasFallen.cls ≠ "java/lang/invoke/MethodHandle" ∧ yX8_hasFallen.cls ≠ "java/lang/invoke/VarHandle" ∧ (parseMethodDescriptor yX8_hasFallen.desc).map (fun d => d.parameters.length) = some 1 := by decide +kernel
set_option maxHeartbeats 4000000 in
set_option maxRecDepth 100000 in
theorem kX8_hasFallen (l : Launch) (K : zK) (a0 a1 a2 a3 a4 a5 a6 a7 a8 a9 a10 a11 a12 a13 a14 a15 a16 a17 a18 a19 : Nat) (S : zMd) (p1 : Int32) (R : Int32) (hf : fX8_hasFallen S p1 = some R) : zC l yX8_hasFallen wsX8_hasFallen ({ frames := 0, cells := 0, slots := 0, locals := 0 } : Room) K [.ref a0, .int p1] (cMd K a0 a1 a2 a3 a4 a5 a6 a7 a8 a9 a10 a11 a12 a13 a14 a15 a16 a17 a18 a19 S) (some (.int R)) (cMd K a0 a1 a2 a3 a4 a5 a6 a7 a8 a9 a10 a11 a12 a13 a14 a15 a16 a17 a18 a19 S) := by
  refine zC_z .boolean R (cc := cX8_hasFallen) (maxL := 2) (by decide +kernel) rfl (Nat.le_of_ble_eq_true rfl) rfl rfl ?_
  intro p e s m below meth c Q A X hret ls hl hh
  have X : zX p m c cX8_hasFallen 2 s ([.ref a0, .int p1] : List Value).toArray wsX8_hasFallen RX8 K A := X
  have hx := X.1.1
  have hb := X.1.2.1
  have hr2 : ∀ (pc : Nat) (ls : Array Slot) (H : Heap) (locs : List Loc) (v : Int32), some v = some R → narrow .boolean (.int v) = .int v → decode cX8_hasFallen pc = .ok (.ireturn, 1) → zW K A s H locs (cMd K a0 a1 a2 a3 a4 a5 a6 a7 a8 a9 a10 a11 a12 a13 a14 a15 a16 a17 a18 a19 S) → W p l e ({ frames := 0, cells := 0, slots := 0, locals := 0 } : Room) s m ([.ref a0, .int p1] : List Value).toArray below meth c H locs 0 0 Q (F0 m pc ls [.int v]) := by
    intro pc ls H locs v h hn hd hh
    cases h; exact hret pc ls H locs _ rfl hn hd hh
  have hl : lv_has ls 2 [(0, .ref a0), (1, .int p1)] := hl
  unfold fX8_hasFallen at hf
  refine (fun (hmain : ∀ (H : Heap) (locs : List Loc), zW K A s H locs (cMd K a0 a1 a2 a3 a4 a5 a6 a7 a8 a9 a10 a11 a12 a13 a14 a15 a16 a17 a18 a19 S) → W p l e ({ frames := 0, cells := 0, slots := 0, locals := 0 } : Room) s m ([.ref a0, .int p1] : List Value).toArray below meth c H locs 0 0 Q (F0 m 0 ls [])) => hmain s.heap [] hh) (fun H locs hh => ?_)
  refine lv_iload_n hx hb dX8_hasFallen_0 rfl (lv_at hl 1 rfl) ?_
  refine lv_if_lt (tgt := 17) hx hb dX8_hasFallen_1 (by decide) (fun c1 => ?_) (fun c1 => ?_)
  · replace hf := (if_pos c1).symm.trans hf
    refine lv_iconst (v := (0 : Int32)) hx hb dX8_hasFallen_17 (by decide) ?_
    exact hr2 18 ls H locs (0 : Int32) hf rfl dX8_hasFallen_18 hh
  · replace hf := (if_neg c1).symm.trans hf
    refine lv_aload_n hx hb dX8_hasFallen_4 rfl (lv_at hl 0 rfl) ?_
    refine zget (v := .ref a7) (ref := "SumOfTwoThatStandModel") (C := RX8) (T := TX8) (N := 33) (index := 28) X hh inX8_hasFallen_X8 0 rfl rfl 6 (by decide) mmX8_hasFallen_0 rfl rfl dX8_hasFallen_5 ?_
    refine lv_iload_n hx hb dX8_hasFallen_8 rfl (lv_at hl 1 rfl) ?_
    obtain ⟨g2, hf⟩ := ob_ix hf
    refine ziald (f := (md_stands S)) X hh 7 rfl g2 dX8_hasFallen_9 ?_
    refine lv_if_ne (tgt := 17) hx hb dX8_hasFallen_10 (by decide) (fun c3 => ?_) (fun c3 => ?_)
    · replace hf := (if_neg c3).symm.trans hf
      refine lv_iconst (v := (0 : Int32)) hx hb dX8_hasFallen_17 (by decide) ?_
      exact hr2 18 ls H locs (0 : Int32) hf rfl dX8_hasFallen_18 hh
    · replace hf := (if_pos c3).symm.trans hf
      refine lv_iconst (v := (1 : Int32)) hx hb dX8_hasFallen_13 (by decide) ?_
      refine lv_goto (tgt := 18) hx hb dX8_hasFallen_14 (by decide) ?_
      exact hr2 18 ls H locs (1 : Int32) hf rfl dX8_hasFallen_18 hh
theorem inX8_fallsWith_X8 : ∀ w ∈ wsX80, w ∈ wsX8_fallsWith := by decide +kernel
theorem mmX8_fallsWith_0 : Cond.fieldLink RX8 22 "SumOfTwoThatStandModel" "one" "[I" ∈ wsX8_fallsWith := by decide +kernel
theorem mmX8_fallsWith_1 : Cond.fieldLink RX8 25 "SumOfTwoThatStandModel" "other" "[I" ∈ wsX8_fallsWith := by decide +kernel
theorem mmX8_fallsWith_2 : Cond.fieldLink RX8 28 "SumOfTwoThatStandModel" "stands" "[I" ∈ wsX8_fallsWith := by decide +kernel
theorem mmX8_fallsWith_3 : Cond.fieldLink RX8 111 "SumOfTwoThatStandModel" "falls" "I" ∈ wsX8_fallsWith := by decide +kernel
theorem mmX8_fallsWith_4 : Cond.fieldLink RX8 16 "SumOfTwoThatStandModel" "kind" "[I" ∈ wsX8_fallsWith := by decide +kernel
theorem hdX8_fallsWith : yX8_fallsWith.cls ≠ "java/lang/invoke/MethodHandle" ∧ yX8_fallsWith.cls ≠ "java/lang/invoke/VarHandle" ∧ (parseMethodDescriptor yX8_fallsWith.desc).map (fun d => d.parameters.length) = some 1 := by decide +kernel
set_option maxHeartbeats 4000000 in
set_option maxRecDepth 100000 in
theorem kX8_fallsWith (l : Launch) (K : zK) (a0 a1 a2 a3 a4 a5 a6 a7 a8 a9 a10 a11 a12 a13 a14 a15 a16 a17 a18 a19 : Nat) (S : zMd) (p1 : Int32) (R : Int32) (hf : fX8_fallsWith S p1 = some R) : zC l yX8_fallsWith wsX8_fallsWith ({ frames := 1, cells := 0, slots := 0, locals := 21 } : Room) K [.ref a0, .int p1] (cMd K a0 a1 a2 a3 a4 a5 a6 a7 a8 a9 a10 a11 a12 a13 a14 a15 a16 a17 a18 a19 S) (some (.int R)) (cMd K a0 a1 a2 a3 a4 a5 a6 a7 a8 a9 a10 a11 a12 a13 a14 a15 a16 a17 a18 a19 S) := by
  refine zC_z .boolean R (cc := cX8_fallsWith) (maxL := 2) (by decide +kernel) rfl (Nat.le_of_ble_eq_true rfl) rfl rfl ?_
  intro p e s m below meth c Q A X hret ls hl hh
  have X : zX p m c cX8_fallsWith 2 s ([.ref a0, .int p1] : List Value).toArray wsX8_fallsWith RX8 K A := X
  have hx := X.1.1
  have hb := X.1.2.1
  have hr2 : ∀ (pc : Nat) (ls : Array Slot) (H : Heap) (locs : List Loc) (v : Int32), some v = some R → narrow .boolean (.int v) = .int v → decode cX8_fallsWith pc = .ok (.ireturn, 1) → zW K A s H locs (cMd K a0 a1 a2 a3 a4 a5 a6 a7 a8 a9 a10 a11 a12 a13 a14 a15 a16 a17 a18 a19 S) → W p l e ({ frames := 1, cells := 0, slots := 0, locals := 21 } : Room) s m ([.ref a0, .int p1] : List Value).toArray below meth c H locs 0 0 Q (F0 m pc ls [.int v]) := by
    intro pc ls H locs v h hn hd hh
    cases h; exact hret pc ls H locs _ rfl hn hd hh
  have hl : lv_has ls 2 [(0, .ref a0), (1, .int p1)] := hl
  have hJ28 : ∀ (v1 : Int32), ∀ (H : Heap) (locs : List Loc) (ls : Array Slot), fX8_fallsWith_j28 S v1 = some R → lv_has ls 2 [(0, .ref a0), (1, .int v1)] → zW K A s H locs (cMd K a0 a1 a2 a3 a4 a5 a6 a7 a8 a9 a10 a11 a12 a13 a14 a15 a16 a17 a18 a19 S) → W p l e ({ frames := 1, cells := 0, slots := 0, locals := 21 } : Room) s m ([.ref a0, .int p1] : List Value).toArray below meth c H locs 0 0 Q (F0 m 28 ls []) := by
    intro v1 H locs ls hf hl hh
    unfold fX8_fallsWith_j28 at hf
    refine lv_aload_n hx hb dX8_fallsWith_28 rfl (lv_at hl 0 rfl) ?_
    refine lv_aload_n hx hb dX8_fallsWith_29 rfl (lv_at hl 0 rfl) ?_
    refine zget (v := .ref a5) (ref := "SumOfTwoThatStandModel") (C := RX8) (T := TX8) (N := 33) (index := 22) X hh inX8_fallsWith_X8 0 rfl rfl 4 (by decide) mmX8_fallsWith_0 rfl rfl dX8_fallsWith_30 ?_
    refine lv_iload_n hx hb dX8_fallsWith_33 rfl (lv_at hl 1 rfl) ?_
    obtain ⟨g1, hf⟩ := ob_ix hf
    refine ziald (f := (md_one S)) X hh 5 rfl g1 dX8_fallsWith_34 ?_
    obtain ⟨u2, hu2, hf⟩ := ob_bind hf
    refine zcallV (ci := 7) (q0 := 0) (As := [.int ((md_one S) v1.toNatClampNeg)]) (rest := []) (wr := []) (ws' := cMd K a0 a1 a2 a3 a4 a5 a6 a7 a8 a9 a10 a11 a12 a13 a14 a15 a16 a17 a18 a19 S) (ov := some (.int u2)) X hh hl (kX8_hasFallen l K a0 a1 a2 a3 a4 a5 a6 a7 a8 a9 a10 a11 a12 a13 a14 a15 a16 a17 a18 a19 S ((md_one S) v1.toNatClampNeg) u2 hu2) (fun ht => cwV 1 ht gX8_fallsWith_X8_hasFallen rfl rfl rfl ⟨rfl, hdX8_hasFallen⟩ ⟨Nat.le_of_ble_eq_true rfl, Nat.le_of_ble_eq_true rfl⟩) [0, 1, 2, 3, 4, 5, 6, 7, 8, 9, 10, 11, 12, 13, 14, 15, 16, 17, 18, 19] [] [0, 1, 2, 3, 4, 5, 6, 7, 8, 9, 10, 11, 12, 13, 14, 15, 16, 17, 18, 19] rfl rfl rfl rfl (by decide) rfl rfl rfl rfl rfl rfl (Nat.le_of_ble_eq_true rfl) dX8_fallsWith_35 ⟨Nat.zero_le _, Nat.zero_le _⟩ (fun H locs hh => ?_)
    refine lv_if_ne (tgt := 54) hx hb dX8_fallsWith_38 (by decide) (fun c3 => ?_) (fun c3 => ?_)
    · replace hf := (if_neg c3).symm.trans hf
      refine lv_iconst (v := (1 : Int32)) hx hb dX8_fallsWith_54 (by decide) ?_
      refine lv_goto (tgt := 59) hx hb dX8_fallsWith_55 (by decide) ?_
      exact hr2 59 ls H locs (1 : Int32) hf rfl dX8_fallsWith_59 hh
    · replace hf := (if_pos c3).symm.trans hf
      refine lv_aload_n hx hb dX8_fallsWith_41 rfl (lv_at hl 0 rfl) ?_
      refine lv_aload_n hx hb dX8_fallsWith_42 rfl (lv_at hl 0 rfl) ?_
      refine zget (v := .ref a6) (ref := "SumOfTwoThatStandModel") (C := RX8) (T := TX8) (N := 33) (index := 25) X hh inX8_fallsWith_X8 0 rfl rfl 5 (by decide) mmX8_fallsWith_1 rfl rfl dX8_fallsWith_43 ?_
      refine lv_iload_n hx hb dX8_fallsWith_46 rfl (lv_at hl 1 rfl) ?_
      refine ziald (f := (md_other S)) X hh 6 rfl g1 dX8_fallsWith_47 ?_
      obtain ⟨u4, hu4, hf⟩ := ob_bind hf
      refine zcallV (ci := 7) (q0 := 0) (As := [.int ((md_other S) v1.toNatClampNeg)]) (rest := []) (wr := []) (ws' := cMd K a0 a1 a2 a3 a4 a5 a6 a7 a8 a9 a10 a11 a12 a13 a14 a15 a16 a17 a18 a19 S) (ov := some (.int u4)) X hh hl (kX8_hasFallen l K a0 a1 a2 a3 a4 a5 a6 a7 a8 a9 a10 a11 a12 a13 a14 a15 a16 a17 a18 a19 S ((md_other S) v1.toNatClampNeg) u4 hu4) (fun ht => cwV 1 ht gX8_fallsWith_X8_hasFallen rfl rfl rfl ⟨rfl, hdX8_hasFallen⟩ ⟨Nat.le_of_ble_eq_true rfl, Nat.le_of_ble_eq_true rfl⟩) [0, 1, 2, 3, 4, 5, 6, 7, 8, 9, 10, 11, 12, 13, 14, 15, 16, 17, 18, 19] [] [0, 1, 2, 3, 4, 5, 6, 7, 8, 9, 10, 11, 12, 13, 14, 15, 16, 17, 18, 19] rfl rfl rfl rfl (by decide) rfl rfl rfl rfl rfl rfl (Nat.le_of_ble_eq_true rfl) dX8_fallsWith_48 ⟨Nat.zero_le _, Nat.zero_le _⟩ (fun H locs hh => ?_)
      refine lv_if_eq (tgt := 58) hx hb dX8_fallsWith_51 (by decide) (fun c5 => ?_) (fun c5 => ?_)
      · replace hf := (if_pos c5).symm.trans hf
        refine lv_iconst (v := (0 : Int32)) hx hb dX8_fallsWith_58 (by decide) ?_
        exact hr2 59 ls H locs (0 : Int32) hf rfl dX8_fallsWith_59 hh
      · replace hf := (if_neg c5).symm.trans hf
        refine lv_iconst (v := (1 : Int32)) hx hb dX8_fallsWith_54 (by decide) ?_
        refine lv_goto (tgt := 59) hx hb dX8_fallsWith_55 (by decide) ?_
        exact hr2 59 ls H locs (1 : Int32) hf rfl dX8_fallsWith_59 hh
  unfold fX8_fallsWith at hf
  refine (fun (hmain : ∀ (H : Heap) (locs : List Loc), zW K A s H locs (cMd K a0 a1 a2 a3 a4 a5 a6 a7 a8 a9 a10 a11 a12 a13 a14 a15 a16 a17 a18 a19 S) → W p l e ({ frames := 1, cells := 0, slots := 0, locals := 21 } : Room) s m ([.ref a0, .int p1] : List Value).toArray below meth c H locs 0 0 Q (F0 m 0 ls [])) => hmain s.heap [] hh) (fun H locs hh => ?_)
  refine lv_aload_n hx hb dX8_fallsWith_0 rfl (lv_at hl 0 rfl) ?_
  refine zget (v := .ref a7) (ref := "SumOfTwoThatStandModel") (C := RX8) (T := TX8) (N := 33) (index := 28) X hh inX8_fallsWith_X8 0 rfl rfl 6 (by decide) mmX8_fallsWith_2 rfl rfl dX8_fallsWith_1 ?_
  refine lv_iload_n hx hb dX8_fallsWith_4 rfl (lv_at hl 1 rfl) ?_
  obtain ⟨g6, hf⟩ := ob_ix hf
  refine ziald (f := (md_stands S)) X hh 7 rfl g6 dX8_fallsWith_5 ?_
  refine lv_iconst (v := (1 : Int32)) hx hb dX8_fallsWith_6 (by decide) ?_
  refine lv_icmp_ne (tgt := 58) hx hb dX8_fallsWith_7 (by decide) (fun c7 => ?_) (fun c7 => ?_)
  · replace hf := (if_neg c7).symm.trans hf
    refine lv_iconst (v := (0 : Int32)) hx hb dX8_fallsWith_58 (by decide) ?_
    exact hr2 59 ls H locs (0 : Int32) hf rfl dX8_fallsWith_59 hh
  · replace hf := (if_pos c7).symm.trans hf
    refine lv_aload_n hx hb dX8_fallsWith_10 rfl (lv_at hl 0 rfl) ?_
    refine zget (v := .int (md_falls S)) (ref := "SumOfTwoThatStandModel") (C := RX8) (T := TX8) (N := 33) (index := 111) X hh inX8_fallsWith_X8 0 rfl rfl 11 (by decide) mmX8_fallsWith_3 rfl rfl dX8_fallsWith_11 ?_
    refine lv_iconst (v := (1 : Int32)) hx hb dX8_fallsWith_14 (by decide) ?_
    refine lv_icmp_eq (tgt := 28) hx hb dX8_fallsWith_15 (by decide) (fun c8 => ?_) (fun c8 => ?_)
    · replace hf := (if_pos c8).symm.trans hf
      exact hJ28 p1 H locs ls hf (lv_sub hl [0, 1] rfl) hh
    · replace hf := (if_neg c8).symm.trans hf
      refine lv_aload_n hx hb dX8_fallsWith_18 rfl (lv_at hl 0 rfl) ?_
      refine zget (v := .ref a3) (ref := "SumOfTwoThatStandModel") (C := RX8) (T := TX8) (N := 33) (index := 16) X hh inX8_fallsWith_X8 0 rfl rfl 2 (by decide) mmX8_fallsWith_4 rfl rfl dX8_fallsWith_19 ?_
      refine lv_iload_n hx hb dX8_fallsWith_22 rfl (lv_at hl 1 rfl) ?_
      refine ziald (f := (md_kind S)) X hh 3 rfl g6 dX8_fallsWith_23 ?_
      refine lv_iconst (v := (5 : Int32)) hx hb dX8_fallsWith_24 (by decide) ?_
      refine lv_icmp_ne (tgt := 58) hx hb dX8_fallsWith_25 (by decide) (fun c9 => ?_) (fun c9 => ?_)
      · replace hf := (if_neg c9).symm.trans hf
        refine lv_iconst (v := (0 : Int32)) hx hb dX8_fallsWith_58 (by decide) ?_
        exact hr2 59 ls H locs (0 : Int32) hf rfl dX8_fallsWith_59 hh
      · replace hf := (if_pos c9).symm.trans hf
        exact hJ28 p1 H locs ls hf (lv_sub hl [0, 1] rfl) hh
theorem inX8_burns_X8 : ∀ w ∈ wsX80, w ∈ wsX8_burns := by decide +kernel
theorem mmX8_burns_0 : Cond.fieldLink RX8 70 "SumOfTwoThatStandModel" "houses" "I" ∈ wsX8_burns := by decide +kernel
theorem mmX8_burns_1 : Cond.fieldLink RX8 28 "SumOfTwoThatStandModel" "stands" "[I" ∈ wsX8_burns := by decide +kernel
theorem hdX8_burns : yX8_burns.cls ≠ "java/lang/invoke/MethodHandle" ∧ yX8_burns.cls ≠ "java/lang/invoke/VarHandle" ∧ (parseMethodDescriptor yX8_burns.desc).map (fun d => d.parameters.length) = some 1 := by decide +kernel
set_option maxHeartbeats 4000000 in
set_option maxRecDepth 100000 in
theorem kX8_burns (l : Launch) (K : zK) (a0 a1 a2 a3 a4 a5 a6 a7 a8 a9 a10 a11 a12 a13 a14 a15 a16 a17 a18 a19 : Nat) (S : zMd) (p1 : Int32) (R : zMd) (hf : fX8_burns S p1 = some R) : zC l yX8_burns wsX8_burns ({ frames := 2, cells := 0, slots := 0, locals := 42 } : Room) K [.ref a0, .int p1] (cMd K a0 a1 a2 a3 a4 a5 a6 a7 a8 a9 a10 a11 a12 a13 a14 a15 a16 a17 a18 a19 S) none (cMd K a0 a1 a2 a3 a4 a5 a6 a7 a8 a9 a10 a11 a12 a13 a14 a15 a16 a17 a18 a19 R) := by
  refine zC_v (cc := cX8_burns) (maxL := 4) (by decide +kernel) rfl (Nat.le_of_ble_eq_true rfl) rfl rfl ?_
  intro p e s m below meth c Q A X hret ls hl hh
  have X : zX p m c cX8_burns 4 s ([.ref a0, .int p1] : List Value).toArray wsX8_burns RX8 K A := X
  have hx := X.1.1
  have hb := X.1.2.1
  have hr2 : ∀ (pc : Nat) (ls : Array Slot) (H : Heap) (locs : List Loc) (S : zMd), some S = some R → decode cX8_burns pc = .ok (.return_, 1) → zW K A s H locs (cMd K a0 a1 a2 a3 a4 a5 a6 a7 a8 a9 a10 a11 a12 a13 a14 a15 a16 a17 a18 a19 S) → W p l e ({ frames := 2, cells := 0, slots := 0, locals := 42 } : Room) s m ([.ref a0, .int p1] : List Value).toArray below meth c H locs 0 0 Q (F0 m pc ls []) := by
    intro pc ls H locs S h hd hh
    cases h; exact hret pc ls H locs hd hh
  have hl : lv_has ls 4 [(0, .ref a0), (1, .int p1)] := hl
  have hL17 : ∀ (k9 : (Int32) → (zMd) → Option (zMd)), (∀ (v2 : Int32) (S : zMd) (H : Heap) (locs : List Loc) (ls : Array Slot), k9 v2 S = some R → lv_has ls 4 [(0, .ref a0), (2, .int v2)] → zW K A s H locs (cMd K a0 a1 a2 a3 a4 a5 a6 a7 a8 a9 a10 a11 a12 a13 a14 a15 a16 a17 a18 a19 S) → W p l e ({ frames := 2, cells := 0, slots := 0, locals := 42 } : Room) s m ([.ref a0, .int p1] : List Value).toArray below meth c H locs 0 0 Q (F0 m 9 ls [])) → ∀ (n : Nat) (v2 : Int32) (v3 : Int32) (S : zMd), ∀ (H : Heap) (locs : List Loc) (ls : Array Slot), fX8_burns_l17 k9 n v2 v3 S = some R → lv_has ls 4 [(0, .ref a0), (2, .int v2), (3, .int v3)] → zW K A s H locs (cMd K a0 a1 a2 a3 a4 a5 a6 a7 a8 a9 a10 a11 a12 a13 a14 a15 a16 a17 a18 a19 S) → W p l e ({ frames := 2, cells := 0, slots := 0, locals := 42 } : Room) s m ([.ref a0, .int p1] : List Value).toArray below meth c H locs 0 0 Q (F0 m 17 ls []) := by
    intro k9 hk9 n
    induction n with
    | zero =>
      intro v2 v3 S H locs ls hf hl hh
      rw [fX8_burns_l17] at hf; cases hf
    | succ n ih =>
      intro v2 v3 S H locs ls hf hl hh
      rw [fX8_burns_l17] at hf
      refine lv_iload_n hx hb dX8_burns_17 rfl (lv_at hl 2 rfl) ?_
      refine lv_aload_n hx hb dX8_burns_18 rfl (lv_at hl 0 rfl) ?_
      refine zget (v := .int (md_houses S)) (ref := "SumOfTwoThatStandModel") (C := RX8) (T := TX8) (N := 33) (index := 70) X hh inX8_burns_X8 0 rfl rfl 9 (by decide) mmX8_burns_0 rfl rfl dX8_burns_19 ?_
      refine lv_icmp_ge (tgt := 51) hx hb dX8_burns_22 (by decide) (fun c1 => ?_) (fun c1 => ?_)
      · replace hf := (if_pos c1).symm.trans hf
        refine lv_goto (tgt := 9) hx hb dX8_burns_51 (by decide) ?_
        exact hk9 v2 S H locs ls hf (lv_sub hl [0, 1] rfl) hh
      · replace hf := (if_neg c1).symm.trans hf
        refine lv_aload_n hx hb dX8_burns_25 rfl (lv_at hl 0 rfl) ?_
        refine lv_iload_n hx hb dX8_burns_26 rfl (lv_at hl 2 rfl) ?_
        obtain ⟨u2, hu2, hf⟩ := ob_bind hf
        refine zcallV (ci := 7) (q0 := 0) (As := [.int v3]) (rest := []) (wr := []) (ws' := cMd K a0 a1 a2 a3 a4 a5 a6 a7 a8 a9 a10 a11 a12 a13 a14 a15 a16 a17 a18 a19 S) (ov := some (.int u2)) X hh hl (kX8_fallsWith l K a0 a1 a2 a3 a4 a5 a6 a7 a8 a9 a10 a11 a12 a13 a14 a15 a16 a17 a18 a19 S v3 u2 hu2) (fun ht => cwV 1 ht gX8_burns_X8_fallsWith rfl rfl rfl ⟨rfl, hdX8_fallsWith⟩ ⟨Nat.le_of_ble_eq_true rfl, Nat.le_of_ble_eq_true rfl⟩) [0, 1, 2, 3, 4, 5, 6, 7, 8, 9, 10, 11, 12, 13, 14, 15, 16, 17, 18, 19] [] [0, 1, 2, 3, 4, 5, 6, 7, 8, 9, 10, 11, 12, 13, 14, 15, 16, 17, 18, 19] rfl rfl rfl rfl (by decide) rfl rfl rfl rfl rfl rfl (Nat.le_of_ble_eq_true rfl) dX8_burns_27 ⟨Nat.zero_le _, Nat.zero_le _⟩ (fun H locs hh => ?_)
        refine lv_if_ne (tgt := 36) hx hb dX8_burns_30 (by decide) (fun c3 => ?_) (fun c3 => ?_)
        · replace hf := (if_neg c3).symm.trans hf
          refine lv_aload_n hx hb dX8_burns_36 rfl (lv_at hl 0 rfl) ?_
          refine zget (v := .ref a7) (ref := "SumOfTwoThatStandModel") (C := RX8) (T := TX8) (N := 33) (index := 28) X hh inX8_burns_X8 0 rfl rfl 6 (by decide) mmX8_burns_1 rfl rfl dX8_burns_37 ?_
          refine lv_iload_n hx hb dX8_burns_40 rfl (lv_at hl 2 rfl) ?_
          refine lv_iconst (v := (0 : Int32)) hx hb dX8_burns_41 (by decide) ?_
          obtain ⟨g4, hf⟩ := ob_ix hf
          refine ziast (f := (md_stands S)) X hh 7 rfl g4 dX8_burns_42 (fun H locs hh => ?_)
          have hh := hh.to (sMd_stands K a0 a1 a2 a3 a4 a5 a6 a7 a8 a9 a10 a11 a12 a13 a14 a15 a16 a17 a18 a19 S (upd (md_stands S) v3.toNatClampNeg (0 : Int32)))
          refine lv_iconst (v := (1 : Int32)) hx hb dX8_burns_43 (by decide) ?_
          refine lv_istore_n (lv' := [(2, .int (1 : Int32)), (0, .ref a0), (3, .int v3)]) hx hb dX8_burns_44 rfl hl (by decide) rfl (fun ls hl => ?_)
          refine lv_iinc (v := (v3 + (1 : Int32))) (lv' := [(3, .int (v3 + (1 : Int32))), (2, .int (1 : Int32)), (0, .ref a0)]) hx hb dX8_burns_45 hl (k := 2) rfl rfl (by decide) rfl (fun ls hl => ?_)
          refine lv_goto (tgt := 17) hx hb dX8_burns_48 (by decide) ?_
          exact ih (1 : Int32) (v3 + (1 : Int32)) (md_set_stands S (upd (md_stands S) v3.toNatClampNeg (0 : Int32))) H locs ls hf (lv_sub hl [2, 1, 0] rfl) hh
        · replace hf := (if_pos c3).symm.trans hf
          refine lv_goto (tgt := 45) hx hb dX8_burns_33 (by decide) ?_
          refine lv_iinc (v := (v3 + (1 : Int32))) (lv' := [(3, .int (v3 + (1 : Int32))), (0, .ref a0), (2, .int v2)]) hx hb dX8_burns_45 hl (k := 2) rfl rfl (by decide) rfl (fun ls hl => ?_)
          refine lv_goto (tgt := 17) hx hb dX8_burns_48 (by decide) ?_
          exact ih v2 (v3 + (1 : Int32)) S H locs ls hf (lv_sub hl [1, 2, 0] rfl) hh
  have hL9 : ∀ (n : Nat) (v2 : Int32) (S : zMd), ∀ (H : Heap) (locs : List Loc) (ls : Array Slot), fX8_burns_l9 n v2 S = some R → lv_has ls 4 [(0, .ref a0), (2, .int v2)] → zW K A s H locs (cMd K a0 a1 a2 a3 a4 a5 a6 a7 a8 a9 a10 a11 a12 a13 a14 a15 a16 a17 a18 a19 S) → W p l e ({ frames := 2, cells := 0, slots := 0, locals := 42 } : Room) s m ([.ref a0, .int p1] : List Value).toArray below meth c H locs 0 0 Q (F0 m 9 ls []) := by
    intro n
    induction n with
    | zero =>
      intro v2 S H locs ls hf hl hh
      rw [fX8_burns_l9] at hf; cases hf
    | succ n ih =>
      intro v2 S H locs ls hf hl hh
      rw [fX8_burns_l9] at hf
      refine lv_iload_n hx hb dX8_burns_9 rfl (lv_at hl 1 rfl) ?_
      refine lv_if_eq (tgt := 54) hx hb dX8_burns_10 (by decide) (fun c5 => ?_) (fun c5 => ?_)
      · replace hf := (if_pos c5).symm.trans hf
        exact hr2 54 ls H locs S hf dX8_burns_54 hh
      · replace hf := (if_neg c5).symm.trans hf
        refine lv_iconst (v := (0 : Int32)) hx hb dX8_burns_13 (by decide) ?_
        refine lv_istore_n (lv' := [(2, .int (0 : Int32)), (0, .ref a0)]) hx hb dX8_burns_14 rfl hl (by decide) rfl (fun ls hl => ?_)
        refine lv_iconst (v := (0 : Int32)) hx hb dX8_burns_15 (by decide) ?_
        refine lv_istore_n (lv' := [(3, .int (0 : Int32)), (2, .int (0 : Int32)), (0, .ref a0)]) hx hb dX8_burns_16 rfl hl (by decide) rfl (fun ls hl => ?_)
        exact hL17 (fX8_burns_l9  n) (ih) FU (0 : Int32) (0 : Int32) S H locs ls hf (lv_sub hl [2, 1, 0] rfl) hh
  unfold fX8_burns at hf
  refine (fun (hmain : ∀ (H : Heap) (locs : List Loc), zW K A s H locs (cMd K a0 a1 a2 a3 a4 a5 a6 a7 a8 a9 a10 a11 a12 a13 a14 a15 a16 a17 a18 a19 S) → W p l e ({ frames := 2, cells := 0, slots := 0, locals := 42 } : Room) s m ([.ref a0, .int p1] : List Value).toArray below meth c H locs 0 0 Q (F0 m 0 ls [])) => hmain s.heap [] hh) (fun H locs hh => ?_)
  refine lv_aload_n hx hb dX8_burns_0 rfl (lv_at hl 0 rfl) ?_
  refine zget (v := .ref a7) (ref := "SumOfTwoThatStandModel") (C := RX8) (T := TX8) (N := 33) (index := 28) X hh inX8_burns_X8 0 rfl rfl 6 (by decide) mmX8_burns_1 rfl rfl dX8_burns_1 ?_
  refine lv_iload_n hx hb dX8_burns_4 rfl (lv_at hl 1 rfl) ?_
  refine lv_iconst (v := (0 : Int32)) hx hb dX8_burns_5 (by decide) ?_
  obtain ⟨g6, hf⟩ := ob_ix hf
  refine ziast (f := (md_stands S)) X hh 7 rfl g6 dX8_burns_6 (fun H locs hh => ?_)
  have hh := hh.to (sMd_stands K a0 a1 a2 a3 a4 a5 a6 a7 a8 a9 a10 a11 a12 a13 a14 a15 a16 a17 a18 a19 S (upd (md_stands S) p1.toNatClampNeg (0 : Int32)))
  refine lv_iconst (v := (1 : Int32)) hx hb dX8_burns_7 (by decide) ?_
  refine lv_istore_n (lv' := [(2, .int (1 : Int32)), (0, .ref a0), (1, .int p1)]) hx hb dX8_burns_8 rfl hl (by decide) rfl (fun ls hl => ?_)
  exact hL9 FU (1 : Int32) (md_set_stands S (upd (md_stands S) p1.toNatClampNeg (0 : Int32))) H locs ls hf (lv_sub hl [1, 0] rfl) hh
