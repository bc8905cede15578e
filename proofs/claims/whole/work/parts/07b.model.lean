def fX8_isIn (p0 : Int32) (p1 : Int32) (p2 : Int32) : Int32 :=
  if p0 < p1 then
  ((0 : Int32))
  else
  (if p2 < p0 then
  ((0 : Int32))
  else
  ((1 : Int32)))
theorem hdX8_isIn : yX8_isIn.cls ≠ "java/lang/invoke/MethodHandle" ∧ yX8_isIn.cls ≠ "java/lang/invoke/VarHandle" ∧ (parseMethodDescriptor yX8_isIn.desc).map (fun d => d.parameters.length) = some 3 := by decide +kernel
set_option maxHeartbeats 4000000 in
set_option maxRecDepth 100000 in
theorem kX8_isIn (l : Launch) (K : zK) (p0 : Int32) (p1 : Int32) (p2 : Int32) (R : Int32) (hf : fX8_isIn p0 p1 p2 = R) : zC l yX8_isIn wsX8_isIn ({ frames := 0, cells := 0, slots := 0, locals := 0 } : Room) K [.int p0, .int p1, .int p2] ([]) (some (.int R)) ([]) := by
  refine zC_z .boolean R (cc := cX8_isIn) (maxL := 3) (by decide +kernel) rfl (Nat.le_of_ble_eq_true rfl) rfl rfl ?_
  intro p e s m below meth c Q A X hret ls hl hh
  have X : zX p m c cX8_isIn 3 s ([.int p0, .int p1, .int p2] : List Value).toArray wsX8_isIn RX8 K A := X
  have hx := X.1.1
  have hb := X.1.2.1
  have hr2 : ∀ (pc : Nat) (ls : Array Slot) (H : Heap) (locs : List Loc) (v : Int32), v = R → narrow .boolean (.int v) = .int v → decode cX8_isIn pc = .ok (.ireturn, 1) → zW K A s H locs ([]) → W p l e ({ frames := 0, cells := 0, slots := 0, locals := 0 } : Room) s m ([.int p0, .int p1, .int p2] : List Value).toArray below meth c H locs 0 0 Q (F0 m pc ls [.int v]) := by
    intro pc ls H locs v h hn hd hh
    cases h; exact hret pc ls H locs _ rfl hn hd hh
  have hl : lv_has ls 3 [(0, .int p0), (1, .int p1), (2, .int p2)] := hl
  unfold fX8_isIn at hf
  refine (fun (hmain : ∀ (H : Heap) (locs : List Loc), zW K A s H locs ([]) → W p l e ({ frames := 0, cells := 0, slots := 0, locals := 0 } : Room) s m ([.int p0, .int p1, .int p2] : List Value).toArray below meth c H locs 0 0 Q (F0 m 0 ls [])) => hmain s.heap [] hh) (fun H locs hh => ?_)
  refine lv_iload_n hx hb dX8_isIn_0 rfl (lv_at hl 0 rfl) ?_
  refine lv_iload_n hx hb dX8_isIn_1 rfl (lv_at hl 1 rfl) ?_
  refine lv_icmp_lt (tgt := 14) hx hb dX8_isIn_2 (by decide) (fun c1 => ?_) (fun c1 => ?_)
  · replace hf := (if_pos c1).symm.trans hf
    refine lv_iconst (v := (0 : Int32)) hx hb dX8_isIn_14 (by decide) ?_
    exact hr2 15 ls H locs (0 : Int32) hf rfl dX8_isIn_15 hh
  · replace hf := (if_neg c1).symm.trans hf
    refine lv_iload_n hx hb dX8_isIn_5 rfl (lv_at hl 0 rfl) ?_
    refine lv_iload_n hx hb dX8_isIn_6 rfl (lv_at hl 2 rfl) ?_
    refine lv_icmp_gt (tgt := 14) hx hb dX8_isIn_7 (by decide) (fun c2 => ?_) (fun c2 => ?_)
    · replace hf := (if_pos c2).symm.trans hf
      refine lv_iconst (v := (0 : Int32)) hx hb dX8_isIn_14 (by decide) ?_
      exact hr2 15 ls H locs (0 : Int32) hf rfl dX8_isIn_15 hh
    · replace hf := (if_neg c2).symm.trans hf
      refine lv_iconst (v := (1 : Int32)) hx hb dX8_isIn_10 (by decide) ?_
      refine lv_goto (tgt := 15) hx hb dX8_isIn_11 (by decide) ?_
      exact hr2 15 ls H locs (1 : Int32) hf rfl dX8_isIn_15 hh
def fX8_bound (p0 : Int32) (p1 : Int32) (p2 : Int32) : Int32 :=
  if p1 ≤ p0 then
  (if p0 ≤ p2 then
  ((0 : Int32))
  else
  ((-6 : Int32)))
  else
  ((-4 : Int32))
theorem hdX8_bound : yX8_bound.cls ≠ "java/lang/invoke/MethodHandle" ∧ yX8_bound.cls ≠ "java/lang/invoke/VarHandle" ∧ (parseMethodDescriptor yX8_bound.desc).map (fun d => d.parameters.length) = some 3 := by decide +kernel
set_option maxHeartbeats 4000000 in
set_option maxRecDepth 100000 in
theorem kX8_bound (l : Launch) (K : zK) (p0 : Int32) (p1 : Int32) (p2 : Int32) (R : Int32) (hf : fX8_bound p0 p1 p2 = R) : zC l yX8_bound wsX8_bound ({ frames := 0, cells := 0, slots := 0, locals := 0 } : Room) K [.int p0, .int p1, .int p2] ([]) (some (.int R)) ([]) := by
  refine zC_i R (cc := cX8_bound) (maxL := 3) (by decide +kernel) rfl (Nat.le_of_ble_eq_true rfl) rfl rfl ?_
  intro p e s m below meth c Q A X hret ls hl hh
  have X : zX p m c cX8_bound 3 s ([.int p0, .int p1, .int p2] : List Value).toArray wsX8_bound RX8 K A := X
  have hx := X.1.1
  have hb := X.1.2.1
  have hr2 : ∀ (pc : Nat) (ls : Array Slot) (H : Heap) (locs : List Loc) (v : Int32), v = R → decode cX8_bound pc = .ok (.ireturn, 1) → zW K A s H locs ([]) → W p l e ({ frames := 0, cells := 0, slots := 0, locals := 0 } : Room) s m ([.int p0, .int p1, .int p2] : List Value).toArray below meth c H locs 0 0 Q (F0 m pc ls [.int v]) := by
    intro pc ls H locs v h hd hh
    cases h; exact hret pc ls H locs _ rfl hd hh
  have hl : lv_has ls 3 [(0, .int p0), (1, .int p1), (2, .int p2)] := hl
  unfold fX8_bound at hf
  refine (fun (hmain : ∀ (H : Heap) (locs : List Loc), zW K A s H locs ([]) → W p l e ({ frames := 0, cells := 0, slots := 0, locals := 0 } : Room) s m ([.int p0, .int p1, .int p2] : List Value).toArray below meth c H locs 0 0 Q (F0 m 0 ls [])) => hmain s.heap [] hh) (fun H locs hh => ?_)
  refine lv_iload_n hx hb dX8_bound_0 rfl (lv_at hl 0 rfl) ?_
  refine lv_iload_n hx hb dX8_bound_1 rfl (lv_at hl 1 rfl) ?_
  refine lv_icmp_ge (tgt := 10) hx hb dX8_bound_2 (by decide) (fun c1 => ?_) (fun c1 => ?_)
  · replace hf := (if_pos c1).symm.trans hf
    refine lv_iload_n hx hb dX8_bound_10 rfl (lv_at hl 0 rfl) ?_
    refine lv_iload_n hx hb dX8_bound_11 rfl (lv_at hl 2 rfl) ?_
    refine lv_icmp_le (tgt := 20) hx hb dX8_bound_12 (by decide) (fun c2 => ?_) (fun c2 => ?_)
    · replace hf := (if_pos c2).symm.trans hf
      refine lv_iconst (v := (0 : Int32)) hx hb dX8_bound_20 (by decide) ?_
      exact hr2 21 ls H locs (0 : Int32) hf dX8_bound_21 hh
    · replace hf := (if_neg c2).symm.trans hf
      refine lv_bipush (v := (-6 : Int32)) hx hb dX8_bound_15 (by decide) ?_
      refine lv_goto (tgt := 21) hx hb dX8_bound_17 (by decide) ?_
      exact hr2 21 ls H locs (-6 : Int32) hf dX8_bound_21 hh
  · replace hf := (if_neg c1).symm.trans hf
    refine lv_bipush (v := (-4 : Int32)) hx hb dX8_bound_5 (by decide) ?_
    refine lv_goto (tgt := 21) hx hb dX8_bound_7 (by decide) ?_
    exact hr2 21 ls H locs (-4 : Int32) hf dX8_bound_21 hh
def fX8_has (p0 : Int32) (p1 : Int32) : Int32 :=
  if ((p0 >>> (p1 &&& 31)) &&& (1 : Int32)) = (1 : Int32) then
  ((1 : Int32))
  else
  ((0 : Int32))
theorem hdX8_has : yX8_has.cls ≠ "java/lang/invoke/MethodHandle" ∧ yX8_has.cls ≠ "java/lang/invoke/VarHandle" ∧ (parseMethodDescriptor yX8_has.desc).map (fun d => d.parameters.length) = some 2 := by decide +kernel
set_option maxHeartbeats 4000000 in
set_option maxRecDepth 100000 in
theorem kX8_has (l : Launch) (K : zK) (p0 : Int32) (p1 : Int32) (R : Int32) (hf : fX8_has p0 p1 = R) : zC l yX8_has wsX8_has ({ frames := 0, cells := 0, slots := 0, locals := 0 } : Room) K [.int p0, .int p1] ([]) (some (.int R)) ([]) := by
  refine zC_z .boolean R (cc := cX8_has) (maxL := 2) (by decide +kernel) rfl (Nat.le_of_ble_eq_true rfl) rfl rfl ?_
  intro p e s m below meth c Q A X hret ls hl hh
  have X : zX p m c cX8_has 2 s ([.int p0, .int p1] : List Value).toArray wsX8_has RX8 K A := X
  have hx := X.1.1
  have hb := X.1.2.1
  have hr2 : ∀ (pc : Nat) (ls : Array Slot) (H : Heap) (locs : List Loc) (v : Int32), v = R → narrow .boolean (.int v) = .int v → decode cX8_has pc = .ok (.ireturn, 1) → zW K A s H locs ([]) → W p l e ({ frames := 0, cells := 0, slots := 0, locals := 0 } : Room) s m ([.int p0, .int p1] : List Value).toArray below meth c H locs 0 0 Q (F0 m pc ls [.int v]) := by
    intro pc ls H locs v h hn hd hh
    cases h; exact hret pc ls H locs _ rfl hn hd hh
  have hl : lv_has ls 2 [(0, .int p0), (1, .int p1)] := hl
  unfold fX8_has at hf
  refine (fun (hmain : ∀ (H : Heap) (locs : List Loc), zW K A s H locs ([]) → W p l e ({ frames := 0, cells := 0, slots := 0, locals := 0 } : Room) s m ([.int p0, .int p1] : List Value).toArray below meth c H locs 0 0 Q (F0 m 0 ls [])) => hmain s.heap [] hh) (fun H locs hh => ?_)
  refine lv_iload_n hx hb dX8_has_0 rfl (lv_at hl 0 rfl) ?_
  refine lv_iload_n hx hb dX8_has_1 rfl (lv_at hl 1 rfl) ?_
  refine lv_ishr hx hb dX8_has_2 ?_
  refine lv_iconst (v := (1 : Int32)) hx hb dX8_has_3 (by decide) ?_
  refine lv_iand hx hb dX8_has_4 ?_
  refine lv_iconst (v := (1 : Int32)) hx hb dX8_has_5 (by decide) ?_
  refine lv_icmp_ne (tgt := 13) hx hb dX8_has_6 (by decide) (fun c1 => ?_) (fun c1 => ?_)
  · replace hf := (if_neg c1).symm.trans hf
    refine lv_iconst (v := (0 : Int32)) hx hb dX8_has_13 (by decide) ?_
    exact hr2 14 ls H locs (0 : Int32) hf rfl dX8_has_14 hh
  · replace hf := (if_pos c1).symm.trans hf
    refine lv_iconst (v := (1 : Int32)) hx hb dX8_has_9 (by decide) ?_
    refine lv_goto (tgt := 14) hx hb dX8_has_10 (by decide) ?_
    exact hr2 14 ls H locs (1 : Int32) hf rfl dX8_has_14 hh
def fX8_bits_l4 (v0 : Int32) : Nat → (Int32) → (Int32) → Option (Int32)
  | 0, _, _ => none
  | n + 1, v1, v2 =>
  if (31 : Int32) ≤ v2 then
  (some v1)
  else
  (fX8_bits_l4 v0 n (v1 + ((v0 >>> (v2 &&& 31)) &&& (1 : Int32))) (v2 + (1 : Int32)))
def fX8_bits (p0 : Int32) : Option (Int32) :=
  fX8_bits_l4 p0 FU (0 : Int32) (0 : Int32)
theorem hdX8_bits : yX8_bits.cls ≠ "java/lang/invoke/MethodHandle" ∧ yX8_bits.cls ≠ "java/lang/invoke/VarHandle" ∧ (parseMethodDescriptor yX8_bits.desc).map (fun d => d.parameters.length) = some 1 := by decide +kernel
set_option maxHeartbeats 4000000 in
set_option maxRecDepth 100000 in
theorem kX8_bits (l : Launch) (K : zK) (p0 : Int32) (R : Int32) (hf : fX8_bits p0 = some R) : zC l yX8_bits wsX8_bits ({ frames := 0, cells := 0, slots := 0, locals := 0 } : Room) K [.int p0] ([]) (some (.int R)) ([]) := by
  refine zC_i R (cc := cX8_bits) (maxL := 3) (by decide +kernel) rfl (Nat.le_of_ble_eq_true rfl) rfl rfl ?_
  intro p e s m below meth c Q A X hret ls hl hh
  have X : zX p m c cX8_bits 3 s ([.int p0] : List Value).toArray wsX8_bits RX8 K A := X
  have hx := X.1.1
  have hb := X.1.2.1
  have hr2 : ∀ (pc : Nat) (ls : Array Slot) (H : Heap) (locs : List Loc) (v : Int32), some v = some R → decode cX8_bits pc = .ok (.ireturn, 1) → zW K A s H locs ([]) → W p l e ({ frames := 0, cells := 0, slots := 0, locals := 0 } : Room) s m ([.int p0] : List Value).toArray below meth c H locs 0 0 Q (F0 m pc ls [.int v]) := by
    intro pc ls H locs v h hd hh
    cases h; exact hret pc ls H locs _ rfl hd hh
  have hl : lv_has ls 3 [(0, .int p0)] := hl
  have hL4 : ∀ (v0 : Int32), ∀ (n : Nat) (v1 : Int32) (v2 : Int32), ∀ (H : Heap) (locs : List Loc) (ls : Array Slot), fX8_bits_l4 v0 n v1 v2 = some R → lv_has ls 3 [(0, .int v0), (1, .int v1), (2, .int v2)] → zW K A s H locs ([]) → W p l e ({ frames := 0, cells := 0, slots := 0, locals := 0 } : Room) s m ([.int p0] : List Value).toArray below meth c H locs 0 0 Q (F0 m 4 ls []) := by
    intro v0 n
    induction n with
    | zero =>
      intro v1 v2 H locs ls hf hl hh
      rw [fX8_bits_l4] at hf; cases hf
    | succ n ih =>
      intro v1 v2 H locs ls hf hl hh
      rw [fX8_bits_l4] at hf
      refine lv_iload_n hx hb dX8_bits_4 rfl (lv_at hl 2 rfl) ?_
      refine lv_bipush (v := (31 : Int32)) hx hb dX8_bits_5 (by decide) ?_
      refine lv_icmp_ge (tgt := 24) hx hb dX8_bits_7 (by decide) (fun c1 => ?_) (fun c1 => ?_)
      · replace hf := (if_pos c1).symm.trans hf
        refine lv_iload_n hx hb dX8_bits_24 rfl (lv_at hl 1 rfl) ?_
        exact hr2 25 ls H locs v1 hf dX8_bits_25 hh
      · replace hf := (if_neg c1).symm.trans hf
        refine lv_iload_n hx hb dX8_bits_10 rfl (lv_at hl 1 rfl) ?_
        refine lv_iload_n hx hb dX8_bits_11 rfl (lv_at hl 0 rfl) ?_
        refine lv_iload_n hx hb dX8_bits_12 rfl (lv_at hl 2 rfl) ?_
        refine lv_ishr hx hb dX8_bits_13 ?_
        refine lv_iconst (v := (1 : Int32)) hx hb dX8_bits_14 (by decide) ?_
        refine lv_iand hx hb dX8_bits_15 ?_
        refine lv_iadd hx hb dX8_bits_16 ?_
        refine lv_istore_n (lv' := [(1, .int (v1 + ((v0 >>> (v2 &&& 31)) &&& (1 : Int32)))), (0, .int v0), (2, .int v2)]) hx hb dX8_bits_17 rfl hl (by decide) rfl (fun ls hl => ?_)
        refine lv_iinc (v := (v2 + (1 : Int32))) (lv' := [(2, .int (v2 + (1 : Int32))), (1, .int (v1 + ((v0 >>> (v2 &&& 31)) &&& (1 : Int32)))), (0, .int v0)]) hx hb dX8_bits_18 hl (k := 2) rfl rfl (by decide) rfl (fun ls hl => ?_)
        refine lv_goto (tgt := 4) hx hb dX8_bits_21 (by decide) ?_
        exact ih (v1 + ((v0 >>> (v2 &&& 31)) &&& (1 : Int32))) (v2 + (1 : Int32)) H locs ls hf (lv_sub hl [2, 1, 0] rfl) hh
  unfold fX8_bits at hf
  refine (fun (hmain : ∀ (H : Heap) (locs : List Loc), zW K A s H locs ([]) → W p l e ({ frames := 0, cells := 0, slots := 0, locals := 0 } : Room) s m ([.int p0] : List Value).toArray below meth c H locs 0 0 Q (F0 m 0 ls [])) => hmain s.heap [] hh) (fun H locs hh => ?_)
  refine lv_iconst (v := (0 : Int32)) hx hb dX8_bits_0 (by decide) ?_
  refine lv_istore_n (lv' := [(1, .int (0 : Int32)), (0, .int p0)]) hx hb dX8_bits_1 rfl hl (by decide) rfl (fun ls hl => ?_)
  refine lv_iconst (v := (0 : Int32)) hx hb dX8_bits_2 (by decide) ?_
  refine lv_istore_n (lv' := [(2, .int (0 : Int32)), (1, .int (0 : Int32)), (0, .int p0)]) hx hb dX8_bits_3 rfl hl (by decide) rfl (fun ls hl => ?_)
  exact hL4 p0 FU (0 : Int32) (0 : Int32) H locs ls hf (lv_sub hl [2, 1, 0] rfl) hh
def fX8_halves_l4  : Nat → (Int32) → (Int32) → Option (Int32)
  | 0, _, _ => none
  | n + 1, v1, v2 =>
  if v2 ≤ (1 : Int32) then
  (some (v1 + (1 : Int32)))
  else
  (fX8_halves_l4  n (v1 + ((1 : Int32) + (v2 - v2 / (2 : Int32) * (2 : Int32)))) (v2 / (2 : Int32)))
def fX8_halves (p0 : Int32) : Option (Int32) :=
  fX8_halves_l4 FU (0 : Int32) p0
theorem hdX8_halves : yX8_halves.cls ≠ "java/lang/invoke/MethodHandle" ∧ yX8_halves.cls ≠ "java/lang/invoke/VarHandle" ∧ (parseMethodDescriptor yX8_halves.desc).map (fun d => d.parameters.length) = some 1 := by decide +kernel
set_option maxHeartbeats 4000000 in
set_option maxRecDepth 100000 in
theorem kX8_halves (l : Launch) (K : zK) (p0 : Int32) (R : Int32) (hf : fX8_halves p0 = some R) : zC l yX8_halves wsX8_halves ({ frames := 0, cells := 0, slots := 0, locals := 0 } : Room) K [.int p0] ([]) (some (.int R)) ([]) := by
  refine zC_i R (cc := cX8_halves) (maxL := 3) (by decide +kernel) rfl (Nat.le_of_ble_eq_true rfl) rfl rfl ?_
  intro p e s m below meth c Q A X hret ls hl hh
  have X : zX p m c cX8_halves 3 s ([.int p0] : List Value).toArray wsX8_halves RX8 K A := X
  have hx := X.1.1
  have hb := X.1.2.1
  have hr2 : ∀ (pc : Nat) (ls : Array Slot) (H : Heap) (locs : List Loc) (v : Int32), some v = some R → decode cX8_halves pc = .ok (.ireturn, 1) → zW K A s H locs ([]) → W p l e ({ frames := 0, cells := 0, slots := 0, locals := 0 } : Room) s m ([.int p0] : List Value).toArray below meth c H locs 0 0 Q (F0 m pc ls [.int v]) := by
    intro pc ls H locs v h hd hh
    cases h; exact hret pc ls H locs _ rfl hd hh
  have hl : lv_has ls 3 [(0, .int p0)] := hl
  have hL4 : ∀ (n : Nat) (v1 : Int32) (v2 : Int32), ∀ (H : Heap) (locs : List Loc) (ls : Array Slot), fX8_halves_l4 n v1 v2 = some R → lv_has ls 3 [(1, .int v1), (2, .int v2)] → zW K A s H locs ([]) → W p l e ({ frames := 0, cells := 0, slots := 0, locals := 0 } : Room) s m ([.int p0] : List Value).toArray below meth c H locs 0 0 Q (F0 m 4 ls []) := by
    intro n
    induction n with
    | zero =>
      intro v1 v2 H locs ls hf hl hh
      rw [fX8_halves_l4] at hf; cases hf
    | succ n ih =>
      intro v1 v2 H locs ls hf hl hh
      rw [fX8_halves_l4] at hf
      refine lv_iload_n hx hb dX8_halves_4 rfl (lv_at hl 1 rfl) ?_
      refine lv_iconst (v := (1 : Int32)) hx hb dX8_halves_5 (by decide) ?_
      refine lv_icmp_le (tgt := 24) hx hb dX8_halves_6 (by decide) (fun c1 => ?_) (fun c1 => ?_)
      · replace hf := (if_pos c1).symm.trans hf
        refine lv_iload_n hx hb dX8_halves_24 rfl (lv_at hl 0 rfl) ?_
        refine lv_iconst (v := (1 : Int32)) hx hb dX8_halves_25 (by decide) ?_
        refine lv_iadd hx hb dX8_halves_26 ?_
        exact hr2 27 ls H locs (v1 + (1 : Int32)) hf dX8_halves_27 hh
      · replace hf := (if_neg c1).symm.trans hf
        refine lv_iload_n hx hb dX8_halves_9 rfl (lv_at hl 0 rfl) ?_
        refine lv_iconst (v := (1 : Int32)) hx hb dX8_halves_10 (by decide) ?_
        refine lv_iload_n hx hb dX8_halves_11 rfl (lv_at hl 1 rfl) ?_
        refine lv_iconst (v := (2 : Int32)) hx hb dX8_halves_12 (by decide) ?_
        refine lv_irem hx hb dX8_halves_13 (by decide) ?_
        refine lv_iadd hx hb dX8_halves_14 ?_
        refine lv_iadd hx hb dX8_halves_15 ?_
        refine lv_istore_n (lv' := [(1, .int (v1 + ((1 : Int32) + (v2 - v2 / (2 : Int32) * (2 : Int32))))), (2, .int v2)]) hx hb dX8_halves_16 rfl hl (by decide) rfl (fun ls hl => ?_)
        refine lv_iload_n hx hb dX8_halves_17 rfl (lv_at hl 1 rfl) ?_
        refine lv_iconst (v := (2 : Int32)) hx hb dX8_halves_18 (by decide) ?_
        refine lv_idiv hx hb dX8_halves_19 (by decide) ?_
        refine lv_istore_n (lv' := [(2, .int (v2 / (2 : Int32))), (1, .int (v1 + ((1 : Int32) + (v2 - v2 / (2 : Int32) * (2 : Int32)))))]) hx hb dX8_halves_20 rfl hl (by decide) rfl (fun ls hl => ?_)
        refine lv_goto (tgt := 4) hx hb dX8_halves_21 (by decide) ?_
        exact ih (v1 + ((1 : Int32) + (v2 - v2 / (2 : Int32) * (2 : Int32)))) (v2 / (2 : Int32)) H locs ls hf (lv_sub hl [1, 0] rfl) hh
  unfold fX8_halves at hf
  refine (fun (hmain : ∀ (H : Heap) (locs : List Loc), zW K A s H locs ([]) → W p l e ({ frames := 0, cells := 0, slots := 0, locals := 0 } : Room) s m ([.int p0] : List Value).toArray below meth c H locs 0 0 Q (F0 m 0 ls [])) => hmain s.heap [] hh) (fun H locs hh => ?_)
  refine lv_iconst (v := (0 : Int32)) hx hb dX8_halves_0 (by decide) ?_
  refine lv_istore_n (lv' := [(1, .int (0 : Int32)), (0, .int p0)]) hx hb dX8_halves_1 rfl hl (by decide) rfl (fun ls hl => ?_)
  refine lv_iload_n hx hb dX8_halves_2 rfl (lv_at hl 1 rfl) ?_
  refine lv_istore_n (lv' := [(2, .int p0), (1, .int (0 : Int32)), (0, .int p0)]) hx hb dX8_halves_3 rfl hl (by decide) rfl (fun ls hl => ?_)
  exact hL4 FU (0 : Int32) p0 H locs ls hf (lv_sub hl [1, 0] rfl) hh
def fX8_leastFactor_l2 (v0 : Int32) : Nat → (Int32) → Option (Int32)
  | 0, _ => none
  | n + 1, v1 =>
  if v1 = 0 then none else if (v0 - v0 / v1 * v1) = (0 : Int32) then
  (some v1)
  else
  (fX8_leastFactor_l2 v0 n (v1 + (1 : Int32)))
def fX8_leastFactor (p0 : Int32) : Option (Int32) :=
  fX8_leastFactor_l2 p0 FU (2 : Int32)
theorem hdX8_leastFactor : yX8_leastFactor.cls ≠ "java/lang/invoke/MethodHandle" ∧ yX8_leastFactor.cls ≠ "java/lang/invoke/VarHandle" ∧ (parseMethodDescriptor yX8_leastFactor.desc).map (fun d => d.parameters.length) = some 1 := by decide +kernel
set_option maxHeartbeats 4000000 in
set_option maxRecDepth 100000 in
theorem kX8_leastFactor (l : Launch) (K : zK) (p0 : Int32) (R : Int32) (hf : fX8_leastFactor p0 = some R) : zC l yX8_leastFactor wsX8_leastFactor ({ frames := 0, cells := 0, slots := 0, locals := 0 } : Room) K [.int p0] ([]) (some (.int R)) ([]) := by
  refine zC_i R (cc := cX8_leastFactor) (maxL := 2) (by decide +kernel) rfl (Nat.le_of_ble_eq_true rfl) rfl rfl ?_
  intro p e s m below meth c Q A X hret ls hl hh
  have X : zX p m c cX8_leastFactor 2 s ([.int p0] : List Value).toArray wsX8_leastFactor RX8 K A := X
  have hx := X.1.1
  have hb := X.1.2.1
  have hr2 : ∀ (pc : Nat) (ls : Array Slot) (H : Heap) (locs : List Loc) (v : Int32), some v = some R → decode cX8_leastFactor pc = .ok (.ireturn, 1) → zW K A s H locs ([]) → W p l e ({ frames := 0, cells := 0, slots := 0, locals := 0 } : Room) s m ([.int p0] : List Value).toArray below meth c H locs 0 0 Q (F0 m pc ls [.int v]) := by
    intro pc ls H locs v h hd hh
    cases h; exact hret pc ls H locs _ rfl hd hh
  have hl : lv_has ls 2 [(0, .int p0)] := hl
  have hL2 : ∀ (v0 : Int32), ∀ (n : Nat) (v1 : Int32), ∀ (H : Heap) (locs : List Loc) (ls : Array Slot), fX8_leastFactor_l2 v0 n v1 = some R → lv_has ls 2 [(0, .int v0), (1, .int v1)] → zW K A s H locs ([]) → W p l e ({ frames := 0, cells := 0, slots := 0, locals := 0 } : Room) s m ([.int p0] : List Value).toArray below meth c H locs 0 0 Q (F0 m 2 ls []) := by
    intro v0 n
    induction n with
    | zero =>
      intro v1 H locs ls hf hl hh
      rw [fX8_leastFactor_l2] at hf; cases hf
    | succ n ih =>
      intro v1 H locs ls hf hl hh
      rw [fX8_leastFactor_l2] at hf
      refine lv_iload_n hx hb dX8_leastFactor_2 rfl (lv_at hl 0 rfl) ?_
      refine lv_iload_n hx hb dX8_leastFactor_3 rfl (lv_at hl 1 rfl) ?_
      obtain ⟨g1, hf⟩ := ob_gd hf
      refine lv_irem hx hb dX8_leastFactor_4 g1 ?_
      refine lv_if_eq (tgt := 14) hx hb dX8_leastFactor_5 (by decide) (fun c2 => ?_) (fun c2 => ?_)
      · replace hf := (if_pos c2).symm.trans hf
        refine lv_iload_n hx hb dX8_leastFactor_14 rfl (lv_at hl 1 rfl) ?_
        exact hr2 15 ls H locs v1 hf dX8_leastFactor_15 hh
      · replace hf := (if_neg c2).symm.trans hf
        refine lv_iinc (v := (v1 + (1 : Int32))) (lv' := [(1, .int (v1 + (1 : Int32))), (0, .int v0)]) hx hb dX8_leastFactor_8 hl (k := 1) rfl rfl (by decide) rfl (fun ls hl => ?_)
        refine lv_goto (tgt := 2) hx hb dX8_leastFactor_11 (by decide) ?_
        exact ih (v1 + (1 : Int32)) H locs ls hf (lv_sub hl [1, 0] rfl) hh
  unfold fX8_leastFactor at hf
  refine (fun (hmain : ∀ (H : Heap) (locs : List Loc), zW K A s H locs ([]) → W p l e ({ frames := 0, cells := 0, slots := 0, locals := 0 } : Room) s m ([.int p0] : List Value).toArray below meth c H locs 0 0 Q (F0 m 0 ls [])) => hmain s.heap [] hh) (fun H locs hh => ?_)
  refine lv_iconst (v := (2 : Int32)) hx hb dX8_leastFactor_0 (by decide) ?_
  refine lv_istore_n (lv' := [(1, .int (2 : Int32)), (0, .int p0)]) hx hb dX8_leastFactor_1 rfl hl (by decide) rfl (fun ls hl => ?_)
  exact hL2 p0 FU (2 : Int32) H locs ls hf (lv_sub hl [1, 0] rfl) hh
def fX8_no (S : zMd) (p1 : Int32) : Option (Int32 × zMd) :=
  ix 7 (-p1) (some (p1, (md_set_refused S (upd (md_refused S) (-p1).toNatClampNeg (((md_refused S) (-p1).toNatClampNeg) + (1 : Int32))))))
theorem inX8_no_X8 : ∀ w ∈ wsX80, w ∈ wsX8_no := by decide +kernel
theorem mmX8_no_0 : Cond.fieldLink RX8 7 "SumOfTwoThatStandModel" "refused" "[I" ∈ wsX8_no := by decide +kernel
theorem hdX8_no : yX8_no.cls ≠ "java/lang/invoke/MethodHandle" ∧ yX8_no.cls ≠ "java/lang/invoke/VarHandle" ∧ (parseMethodDescriptor yX8_no.desc).map (fun d => d.parameters.length) = some 1 := by decide +kernel
set_option maxHeartbeats 4000000 in
set_option maxRecDepth 100000 in
theorem kX8_no (l : Launch) (K : zK) (a0 a1 a2 a3 a4 a5 a6 a7 a8 a9 a10 a11 a12 a13 a14 a15 a16 a17 a18 a19 : Nat) (S : zMd) (p1 : Int32) (R : Int32 × zMd) (hf : fX8_no S p1 = some R) : zC l yX8_no wsX8_no ({ frames := 0, cells := 0, slots := 0, locals := 0 } : Room) K [.ref a0, .int p1] (cMd K a0 a1 a2 a3 a4 a5 a6 a7 a8 a9 a10 a11 a12 a13 a14 a15 a16 a17 a18 a19 S) (some (.int R.1)) (cMd K a0 a1 a2 a3 a4 a5 a6 a7 a8 a9 a10 a11 a12 a13 a14 a15 a16 a17 a18 a19 R.2) := by
  refine zC_i R.1 (cc := cX8_no) (maxL := 2) (by decide +kernel) rfl (Nat.le_of_ble_eq_true rfl) rfl rfl ?_
  intro p e s m below meth c Q A X hret ls hl hh
  have X : zX p m c cX8_no 2 s ([.ref a0, .int p1] : List Value).toArray wsX8_no RX8 K A := X
  have hx := X.1.1
  have hb := X.1.2.1
  have hr2 : ∀ (pc : Nat) (ls : Array Slot) (H : Heap) (locs : List Loc) (v : Int32) (S : zMd), some (v, S) = some R → decode cX8_no pc = .ok (.ireturn, 1) → zW K A s H locs (cMd K a0 a1 a2 a3 a4 a5 a6 a7 a8 a9 a10 a11 a12 a13 a14 a15 a16 a17 a18 a19 S) → W p l e ({ frames := 0, cells := 0, slots := 0, locals := 0 } : Room) s m ([.ref a0, .int p1] : List Value).toArray below meth c H locs 0 0 Q (F0 m pc ls [.int v]) := by
    intro pc ls H locs v S h hd hh
    cases h; exact hret pc ls H locs _ rfl hd hh
  have hl : lv_has ls 2 [(0, .ref a0), (1, .int p1)] := hl
  unfold fX8_no at hf
  refine (fun (hmain : ∀ (H : Heap) (locs : List Loc), zW K A s H locs (cMd K a0 a1 a2 a3 a4 a5 a6 a7 a8 a9 a10 a11 a12 a13 a14 a15 a16 a17 a18 a19 S) → W p l e ({ frames := 0, cells := 0, slots := 0, locals := 0 } : Room) s m ([.ref a0, .int p1] : List Value).toArray below meth c H locs 0 0 Q (F0 m 0 ls [])) => hmain s.heap [] hh) (fun H locs hh => ?_)
  refine lv_aload_n hx hb dX8_no_0 rfl (lv_at hl 0 rfl) ?_
  refine zget (v := .ref a1) (ref := "SumOfTwoThatStandModel") (C := RX8) (T := TX8) (N := 33) (index := 7) X hh inX8_no_X8 0 rfl rfl 0 (by decide) mmX8_no_0 rfl rfl dX8_no_1 ?_
  refine lv_iload_n hx hb dX8_no_4 rfl (lv_at hl 1 rfl) ?_
  refine lv_ineg hx hb dX8_no_5 ?_
  refine lv_dup2_11 hx hb dX8_no_6 rfl rfl ?_
  obtain ⟨g1, hf⟩ := ob_ix hf
  refine ziald (f := (md_refused S)) X hh 1 rfl g1 dX8_no_7 ?_
  refine lv_iconst (v := (1 : Int32)) hx hb dX8_no_8 (by decide) ?_
  refine lv_iadd hx hb dX8_no_9 ?_
  refine ziast (f := (md_refused S)) X hh 1 rfl g1 dX8_no_10 (fun H locs hh => ?_)
  have hh : zW K A s H locs (cMd K a0 a1 a2 a3 a4 a5 a6 a7 a8 a9 a10 a11 a12 a13 a14 a15 a16 a17 a18 a19 (md_set_refused S (upd (md_refused S) (-p1).toNatClampNeg (((md_refused S) (-p1).toNatClampNeg) + (1 : Int32))))) := hh
  refine lv_iload_n hx hb dX8_no_11 rfl (lv_at hl 1 rfl) ?_
  exact hr2 12 ls H locs p1 (md_set_refused S (upd (md_refused S) (-p1).toNatClampNeg (((md_refused S) (-p1).toNatClampNeg) + (1 : Int32)))) hf dX8_no_12 hh
def fX8_isMore (S : zMd) (p1 : Int32) (p2 : Int32) (p3 : Int32) (p4 : Int32) (p5 : Int32) : Option (zMd) :=
  ix 12 (md_houses S) (some (md_set_houses (md_set_earned (md_set_uses (md_set_stands (md_set_other (md_set_one (md_set_figure (md_set_kind (md_set_number S (upd (md_number S) (md_houses S).toNatClampNeg p1)) (upd (md_kind S) (md_houses S).toNatClampNeg p2)) (upd (md_figure S) (md_houses S).toNatClampNeg p3)) (upd (md_one S) (md_houses S).toNatClampNeg p4)) (upd (md_other S) (md_houses S).toNatClampNeg p5)) (upd (md_stands S) (md_houses S).toNatClampNeg (1 : Int32))) (upd (md_uses S) (md_houses S).toNatClampNeg (0 : Int32))) (upd (md_earned S) (md_houses S).toNatClampNeg (0 : Int32))) ((md_houses S) + (1 : Int32))))
theorem inX8_isMore_X8 : ∀ w ∈ wsX80, w ∈ wsX8_isMore := by decide +kernel
theorem mmX8_isMore_0 : Cond.fieldLink RX8 13 "SumOfTwoThatStandModel" "number" "[I" ∈ wsX8_isMore := by decide +kernel
theorem mmX8_isMore_1 : Cond.fieldLink RX8 70 "SumOfTwoThatStandModel" "houses" "I" ∈ wsX8_isMore := by decide +kernel
theorem mmX8_isMore_2 : Cond.fieldLink RX8 16 "SumOfTwoThatStandModel" "kind" "[I" ∈ wsX8_isMore := by decide +kernel
theorem mmX8_isMore_3 : Cond.fieldLink RX8 19 "SumOfTwoThatStandModel" "figure" "[I" ∈ wsX8_isMore := by decide +kernel
theorem mmX8_isMore_4 : Cond.fieldLink RX8 22 "SumOfTwoThatStandModel" "one" "[I" ∈ wsX8_isMore := by decide +kernel
theorem mmX8_isMore_5 : Cond.fieldLink RX8 25 "SumOfTwoThatStandModel" "other" "[I" ∈ wsX8_isMore := by decide +kernel
theorem mmX8_isMore_6 : Cond.fieldLink RX8 28 "SumOfTwoThatStandModel" "stands" "[I" ∈ wsX8_isMore := by decide +kernel
theorem mmX8_isMore_7 : Cond.fieldLink RX8 31 "SumOfTwoThatStandModel" "uses" "[I" ∈ wsX8_isMore := by decide +kernel
theorem mmX8_isMore_8 : Cond.fieldLink RX8 34 "SumOfTwoThatStandModel" "earned" "[I" ∈ wsX8_isMore := by decide +kernel
theorem hdX8_isMore : yX8_isMore.cls ≠ "java/lang/invoke/MethodHandle" ∧ yX8_isMore.cls ≠ "java/lang/invoke/VarHandle" ∧ (parseMethodDescriptor yX8_isMore.desc).map (fun d => d.parameters.length) = some 5 := by decide +kernel
set_option maxHeartbeats 4000000 in
set_option maxRecDepth 100000 in
theorem kX8_isMore (l : Launch) (K : zK) (a0 a1 a2 a3 a4 a5 a6 a7 a8 a9 a10 a11 a12 a13 a14 a15 a16 a17 a18 a19 : Nat) (S : zMd) (p1 : Int32) (p2 : Int32) (p3 : Int32) (p4 : Int32) (p5 : Int32) (R : zMd) (hf : fX8_isMore S p1 p2 p3 p4 p5 = some R) : zC l yX8_isMore wsX8_isMore ({ frames := 0, cells := 0, slots := 0, locals := 0 } : Room) K [.ref a0, .int p1, .int p2, .int p3, .int p4, .int p5] (cMd K a0 a1 a2 a3 a4 a5 a6 a7 a8 a9 a10 a11 a12 a13 a14 a15 a16 a17 a18 a19 S) none (cMd K a0 a1 a2 a3 a4 a5 a6 a7 a8 a9 a10 a11 a12 a13 a14 a15 a16 a17 a18 a19 R) := by
  refine zC_v (cc := cX8_isMore) (maxL := 6) (by decide +kernel) rfl (Nat.le_of_ble_eq_true rfl) rfl rfl ?_
  intro p e s m below meth c Q A X hret ls hl hh
  have X : zX p m c cX8_isMore 6 s ([.ref a0, .int p1, .int p2, .int p3, .int p4, .int p5] : List Value).toArray wsX8_isMore RX8 K A := X
  have hx := X.1.1
  have hb := X.1.2.1
  have hr2 : ∀ (pc : Nat) (ls : Array Slot) (H : Heap) (locs : List Loc) (S : zMd), some S = some R → decode cX8_isMore pc = .ok (.return_, 1) → zW K A s H locs (cMd K a0 a1 a2 a3 a4 a5 a6 a7 a8 a9 a10 a11 a12 a13 a14 a15 a16 a17 a18 a19 S) → W p l e ({ frames := 0, cells := 0, slots := 0, locals := 0 } : Room) s m ([.ref a0, .int p1, .int p2, .int p3, .int p4, .int p5] : List Value).toArray below meth c H locs 0 0 Q (F0 m pc ls []) := by
    intro pc ls H locs S h hd hh
    cases h; exact hret pc ls H locs hd hh
  have hl : lv_has ls 6 [(0, .ref a0), (1, .int p1), (2, .int p2), (3, .int p3), (4, .int p4), (5, .int p5)] := hl
  unfold fX8_isMore at hf
  refine (fun (hmain : ∀ (H : Heap) (locs : List Loc), zW K A s H locs (cMd K a0 a1 a2 a3 a4 a5 a6 a7 a8 a9 a10 a11 a12 a13 a14 a15 a16 a17 a18 a19 S) → W p l e ({ frames := 0, cells := 0, slots := 0, locals := 0 } : Room) s m ([.ref a0, .int p1, .int p2, .int p3, .int p4, .int p5] : List Value).toArray below meth c H locs 0 0 Q (F0 m 0 ls [])) => hmain s.heap [] hh) (fun H locs hh => ?_)
  refine lv_aload_n hx hb dX8_isMore_0 rfl (lv_at hl 0 rfl) ?_
  refine zget (v := .ref a2) (ref := "SumOfTwoThatStandModel") (C := RX8) (T := TX8) (N := 33) (index := 13) X hh inX8_isMore_X8 0 rfl rfl 1 (by decide) mmX8_isMore_0 rfl rfl dX8_isMore_1 ?_
  refine lv_aload_n hx hb dX8_isMore_4 rfl (lv_at hl 0 rfl) ?_
  refine zget (v := .int (md_houses S)) (ref := "SumOfTwoThatStandModel") (C := RX8) (T := TX8) (N := 33) (index := 70) X hh inX8_isMore_X8 0 rfl rfl 9 (by decide) mmX8_isMore_1 rfl rfl dX8_isMore_5 ?_
  refine lv_iload_n hx hb dX8_isMore_8 rfl (lv_at hl 1 rfl) ?_
  obtain ⟨g1, hf⟩ := ob_ix hf
  refine ziast (f := (md_number S)) X hh 2 rfl g1 dX8_isMore_9 (fun H locs hh => ?_)
  have hh : zW K A s H locs (cMd K a0 a1 a2 a3 a4 a5 a6 a7 a8 a9 a10 a11 a12 a13 a14 a15 a16 a17 a18 a19 (md_set_number S (upd (md_number S) (md_houses S).toNatClampNeg p1))) := hh
  refine lv_aload_n hx hb dX8_isMore_10 rfl (lv_at hl 0 rfl) ?_
  refine zget (v := .ref a3) (ref := "SumOfTwoThatStandModel") (C := RX8) (T := TX8) (N := 33) (index := 16) X hh inX8_isMore_X8 0 rfl rfl 2 (by decide) mmX8_isMore_2 rfl rfl dX8_isMore_11 ?_
  refine lv_aload_n hx hb dX8_isMore_14 rfl (lv_at hl 0 rfl) ?_
  refine zget (v := .int (md_houses S)) (ref := "SumOfTwoThatStandModel") (C := RX8) (T := TX8) (N := 33) (index := 70) X hh inX8_isMore_X8 0 rfl rfl 9 (by decide) mmX8_isMore_1 rfl rfl dX8_isMore_15 ?_
  refine lv_iload_n hx hb dX8_isMore_18 rfl (lv_at hl 2 rfl) ?_
  refine ziast (f := (md_kind S)) X hh 3 rfl g1 dX8_isMore_19 (fun H locs hh => ?_)
  have hh : zW K A s H locs (cMd K a0 a1 a2 a3 a4 a5 a6 a7 a8 a9 a10 a11 a12 a13 a14 a15 a16 a17 a18 a19 (md_set_kind (md_set_number S (upd (md_number S) (md_houses S).toNatClampNeg p1)) (upd (md_kind S) (md_houses S).toNatClampNeg p2))) := hh
  refine lv_aload_n hx hb dX8_isMore_20 rfl (lv_at hl 0 rfl) ?_
  refine zget (v := .ref a4) (ref := "SumOfTwoThatStandModel") (C := RX8) (T := TX8) (N := 33) (index := 19) X hh inX8_isMore_X8 0 rfl rfl 3 (by decide) mmX8_isMore_3 rfl rfl dX8_isMore_21 ?_
  refine lv_aload_n hx hb dX8_isMore_24 rfl (lv_at hl 0 rfl) ?_
  refine zget (v := .int (md_houses S)) (ref := "SumOfTwoThatStandModel") (C := RX8) (T := TX8) (N := 33) (index := 70) X hh inX8_isMore_X8 0 rfl rfl 9 (by decide) mmX8_isMore_1 rfl rfl dX8_isMore_25 ?_
  refine lv_iload_n hx hb dX8_isMore_28 rfl (lv_at hl 3 rfl) ?_
  refine ziast (f := (md_figure S)) X hh 4 rfl g1 dX8_isMore_29 (fun H locs hh => ?_)
  have hh : zW K A s H locs (cMd K a0 a1 a2 a3 a4 a5 a6 a7 a8 a9 a10 a11 a12 a13 a14 a15 a16 a17 a18 a19 (md_set_figure (md_set_kind (md_set_number S (upd (md_number S) (md_houses S).toNatClampNeg p1)) (upd (md_kind S) (md_houses S).toNatClampNeg p2)) (upd (md_figure S) (md_houses S).toNatClampNeg p3))) := hh
  refine lv_aload_n hx hb dX8_isMore_30 rfl (lv_at hl 0 rfl) ?_
  refine zget (v := .ref a5) (ref := "SumOfTwoThatStandModel") (C := RX8) (T := TX8) (N := 33) (index := 22) X hh inX8_isMore_X8 0 rfl rfl 4 (by decide) mmX8_isMore_4 rfl rfl dX8_isMore_31 ?_
  refine lv_aload_n hx hb dX8_isMore_34 rfl (lv_at hl 0 rfl) ?_
  refine zget (v := .int (md_houses S)) (ref := "SumOfTwoThatStandModel") (C := RX8) (T := TX8) (N := 33) (index := 70) X hh inX8_isMore_X8 0 rfl rfl 9 (by decide) mmX8_isMore_1 rfl rfl dX8_isMore_35 ?_
  refine lv_iload hx hb dX8_isMore_38 (lv_at hl 4 rfl) ?_
  refine ziast (f := (md_one S)) X hh 5 rfl g1 dX8_isMore_40 (fun H locs hh => ?_)
  have hh : zW K A s H locs (cMd K a0 a1 a2 a3 a4 a5 a6 a7 a8 a9 a10 a11 a12 a13 a14 a15 a16 a17 a18 a19 (md_set_one (md_set_figure (md_set_kind (md_set_number S (upd (md_number S) (md_houses S).toNatClampNeg p1)) (upd (md_kind S) (md_houses S).toNatClampNeg p2)) (upd (md_figure S) (md_houses S).toNatClampNeg p3)) (upd (md_one S) (md_houses S).toNatClampNeg p4))) := hh
  refine lv_aload_n hx hb dX8_isMore_41 rfl (lv_at hl 0 rfl) ?_
  refine zget (v := .ref a6) (ref := "SumOfTwoThatStandModel") (C := RX8) (T := TX8) (N := 33) (index := 25) X hh inX8_isMore_X8 0 rfl rfl 5 (by decide) mmX8_isMore_5 rfl rfl dX8_isMore_42 ?_
  refine lv_aload_n hx hb dX8_isMore_45 rfl (lv_at hl 0 rfl) ?_
  refine zget (v := .int (md_houses S)) (ref := "SumOfTwoThatStandModel") (C := RX8) (T := TX8) (N := 33) (index := 70) X hh inX8_isMore_X8 0 rfl rfl 9 (by decide) mmX8_isMore_1 rfl rfl dX8_isMore_46 ?_
  refine lv_iload hx hb dX8_isMore_49 (lv_at hl 5 rfl) ?_
  refine ziast (f := (md_other S)) X hh 6 rfl g1 dX8_isMore_51 (fun H locs hh => ?_)
  have hh : zW K A s H locs (cMd K a0 a1 a2 a3 a4 a5 a6 a7 a8 a9 a10 a11 a12 a13 a14 a15 a16 a17 a18 a19 (md_set_other (md_set_one (md_set_figure (md_set_kind (md_set_number S (upd (md_number S) (md_houses S).toNatClampNeg p1)) (upd (md_kind S) (md_houses S).toNatClampNeg p2)) (upd (md_figure S) (md_houses S).toNatClampNeg p3)) (upd (md_one S) (md_houses S).toNatClampNeg p4)) (upd (md_other S) (md_houses S).toNatClampNeg p5))) := hh
  refine lv_aload_n hx hb dX8_isMore_52 rfl (lv_at hl 0 rfl) ?_
  refine zget (v := .ref a7) (ref := "SumOfTwoThatStandModel") (C := RX8) (T := TX8) (N := 33) (index := 28) X hh inX8_isMore_X8 0 rfl rfl 6 (by decide) mmX8_isMore_6 rfl rfl dX8_isMore_53 ?_
  refine lv_aload_n hx hb dX8_isMore_56 rfl (lv_at hl 0 rfl) ?_
  refine zget (v := .int (md_houses S)) (ref := "SumOfTwoThatStandModel") (C := RX8) (T := TX8) (N := 33) (index := 70) X hh inX8_isMore_X8 0 rfl rfl 9 (by decide) mmX8_isMore_1 rfl rfl dX8_isMore_57 ?_
  refine lv_iconst (v := (1 : Int32)) hx hb dX8_isMore_60 (by decide) ?_
  refine ziast (f := (md_stands S)) X hh 7 rfl g1 dX8_isMore_61 (fun H locs hh => ?_)
  have hh : zW K A s H locs (cMd K a0 a1 a2 a3 a4 a5 a6 a7 a8 a9 a10 a11 a12 a13 a14 a15 a16 a17 a18 a19 (md_set_stands (md_set_other (md_set_one (md_set_figure (md_set_kind (md_set_number S (upd (md_number S) (md_houses S).toNatClampNeg p1)) (upd (md_kind S) (md_houses S).toNatClampNeg p2)) (upd (md_figure S) (md_houses S).toNatClampNeg p3)) (upd (md_one S) (md_houses S).toNatClampNeg p4)) (upd (md_other S) (md_houses S).toNatClampNeg p5)) (upd (md_stands S) (md_houses S).toNatClampNeg (1 : Int32)))) := hh
  refine lv_aload_n hx hb dX8_isMore_62 rfl (lv_at hl 0 rfl) ?_
  refine zget (v := .ref a8) (ref := "SumOfTwoThatStandModel") (C := RX8) (T := TX8) (N := 33) (index := 31) X hh inX8_isMore_X8 0 rfl rfl 7 (by decide) mmX8_isMore_7 rfl rfl dX8_isMore_63 ?_
  refine lv_aload_n hx hb dX8_isMore_66 rfl (lv_at hl 0 rfl) ?_
  refine zget (v := .int (md_houses S)) (ref := "SumOfTwoThatStandModel") (C := RX8) (T := TX8) (N := 33) (index := 70) X hh inX8_isMore_X8 0 rfl rfl 9 (by decide) mmX8_isMore_1 rfl rfl dX8_isMore_67 ?_
  refine lv_iconst (v := (0 : Int32)) hx hb dX8_isMore_70 (by decide) ?_
  refine ziast (f := (md_uses S)) X hh 8 rfl g1 dX8_isMore_71 (fun H locs hh => ?_)
  have hh : zW K A s H locs (cMd K a0 a1 a2 a3 a4 a5 a6 a7 a8 a9 a10 a11 a12 a13 a14 a15 a16 a17 a18 a19 (md_set_uses (md_set_stands (md_set_other (md_set_one (md_set_figure (md_set_kind (md_set_number S (upd (md_number S) (md_houses S).toNatClampNeg p1)) (upd (md_kind S) (md_houses S).toNatClampNeg p2)) (upd (md_figure S) (md_houses S).toNatClampNeg p3)) (upd (md_one S) (md_houses S).toNatClampNeg p4)) (upd (md_other S) (md_houses S).toNatClampNeg p5)) (upd (md_stands S) (md_houses S).toNatClampNeg (1 : Int32))) (upd (md_uses S) (md_houses S).toNatClampNeg (0 : Int32)))) := hh
  refine lv_aload_n hx hb dX8_isMore_72 rfl (lv_at hl 0 rfl) ?_
  refine zget (v := .ref a9) (ref := "SumOfTwoThatStandModel") (C := RX8) (T := TX8) (N := 33) (index := 34) X hh inX8_isMore_X8 0 rfl rfl 8 (by decide) mmX8_isMore_8 rfl rfl dX8_isMore_73 ?_
  refine lv_aload_n hx hb dX8_isMore_76 rfl (lv_at hl 0 rfl) ?_
  refine zget (v := .int (md_houses S)) (ref := "SumOfTwoThatStandModel") (C := RX8) (T := TX8) (N := 33) (index := 70) X hh inX8_isMore_X8 0 rfl rfl 9 (by decide) mmX8_isMore_1 rfl rfl dX8_isMore_77 ?_
  refine lv_iconst (v := (0 : Int32)) hx hb dX8_isMore_80 (by decide) ?_
  refine ziast (f := (md_earned S)) X hh 9 rfl g1 dX8_isMore_81 (fun H locs hh => ?_)
  have hh : zW K A s H locs (cMd K a0 a1 a2 a3 a4 a5 a6 a7 a8 a9 a10 a11 a12 a13 a14 a15 a16 a17 a18 a19 (md_set_earned (md_set_uses (md_set_stands (md_set_other (md_set_one (md_set_figure (md_set_kind (md_set_number S (upd (md_number S) (md_houses S).toNatClampNeg p1)) (upd (md_kind S) (md_houses S).toNatClampNeg p2)) (upd (md_figure S) (md_houses S).toNatClampNeg p3)) (upd (md_one S) (md_houses S).toNatClampNeg p4)) (upd (md_other S) (md_houses S).toNatClampNeg p5)) (upd (md_stands S) (md_houses S).toNatClampNeg (1 : Int32))) (upd (md_uses S) (md_houses S).toNatClampNeg (0 : Int32))) (upd (md_earned S) (md_houses S).toNatClampNeg (0 : Int32)))) := hh
  refine lv_aload_n hx hb dX8_isMore_82 rfl (lv_at hl 0 rfl) ?_
  refine lv_dup hx hb dX8_isMore_83 rfl ?_
  refine zget (v := .int (md_houses S)) (ref := "SumOfTwoThatStandModel") (C := RX8) (T := TX8) (N := 33) (index := 70) X hh inX8_isMore_X8 0 rfl rfl 9 (by decide) mmX8_isMore_1 rfl rfl dX8_isMore_84 ?_
  refine lv_iconst (v := (1 : Int32)) hx hb dX8_isMore_87 (by decide) ?_
  refine lv_iadd hx hb dX8_isMore_88 ?_
  refine zput (v := .int ((md_houses S) + (1 : Int32))) (ty := .int) (ref := "SumOfTwoThatStandModel") (C := RX8) (T := TX8) (N := 33) (index := 70) X hh inX8_isMore_X8 tyX8 tyX8_ok nmX8 0 rfl rfl 9 (by decide) mmX8_isMore_1 rfl rfl (by decide +kernel) rfl rfl (Nat.le_of_ble_eq_true rfl) dX8_isMore_89 (fun H locs hh => ?_)
  have hh : zW K A s H locs (cMd K a0 a1 a2 a3 a4 a5 a6 a7 a8 a9 a10 a11 a12 a13 a14 a15 a16 a17 a18 a19 (md_set_houses (md_set_earned (md_set_uses (md_set_stands (md_set_other (md_set_one (md_set_figure (md_set_kind (md_set_number S (upd (md_number S) (md_houses S).toNatClampNeg p1)) (upd (md_kind S) (md_houses S).toNatClampNeg p2)) (upd (md_figure S) (md_houses S).toNatClampNeg p3)) (upd (md_one S) (md_houses S).toNatClampNeg p4)) (upd (md_other S) (md_houses S).toNatClampNeg p5)) (upd (md_stands S) (md_houses S).toNatClampNeg (1 : Int32))) (upd (md_uses S) (md_houses S).toNatClampNeg (0 : Int32))) (upd (md_earned S) (md_houses S).toNatClampNeg (0 : Int32))) ((md_houses S) + (1 : Int32)))) := hh
  exact hr2 92 ls H locs (md_set_houses (md_set_earned (md_set_uses (md_set_stands (md_set_other (md_set_one (md_set_figure (md_set_kind (md_set_number S (upd (md_number S) (md_houses S).toNatClampNeg p1)) (upd (md_kind S) (md_houses S).toNatClampNeg p2)) (upd (md_figure S) (md_houses S).toNatClampNeg p3)) (upd (md_one S) (md_houses S).toNatClampNeg p4)) (upd (md_other S) (md_houses S).toNatClampNeg p5)) (upd (md_stands S) (md_houses S).toNatClampNeg (1 : Int32))) (upd (md_uses S) (md_houses S).toNatClampNeg (0 : Int32))) (upd (md_earned S) (md_houses S).toNatClampNeg (0 : Int32))) ((md_houses S) + (1 : Int32))) hf dX8_isMore_92 hh
def fX8_beginsAnew (S : zMd) : Option (zMd) :=
  (fX8_isMore (md_set_houses S (0 : Int32)) (1 : Int32) (0 : Int32) (0 : Int32) (-4 : Int32) (-4 : Int32)).bind fun u1 =>
  some u1
theorem inX8_beginsAnew_X8 : ∀ w ∈ wsX80, w ∈ wsX8_beginsAnew := by decide +kernel
theorem mmX8_beginsAnew_0 : Cond.fieldLink RX8 70 "SumOfTwoThatStandModel" "houses" "I" ∈ wsX8_beginsAnew := by decide +kernel
theorem hdX8_beginsAnew : yX8_beginsAnew.cls ≠ "java/lang/invoke/MethodHandle" ∧ yX8_beginsAnew.cls ≠ "java/lang/invoke/VarHandle" ∧ (parseMethodDescriptor yX8_beginsAnew.desc).map (fun d => d.parameters.length) = some 0 := by decide +kernel
set_option maxHeartbeats 4000000 in
set_option maxRecDepth 100000 in
theorem kX8_beginsAnew (l : Launch) (K : zK) (a0 a1 a2 a3 a4 a5 a6 a7 a8 a9 a10 a11 a12 a13 a14 a15 a16 a17 a18 a19 : Nat) (S : zMd) (R : zMd) (hf : fX8_beginsAnew S = some R) : zC l yX8_beginsAnew wsX8_beginsAnew ({ frames := 1, cells := 0, slots := 0, locals := 25 } : Room) K [.ref a0] (cMd K a0 a1 a2 a3 a4 a5 a6 a7 a8 a9 a10 a11 a12 a13 a14 a15 a16 a17 a18 a19 S) none (cMd K a0 a1 a2 a3 a4 a5 a6 a7 a8 a9 a10 a11 a12 a13 a14 a15 a16 a17 a18 a19 R) := by
  refine zC_v (cc := cX8_beginsAnew) (maxL := 1) (by decide +kernel) rfl (Nat.le_of_ble_eq_true rfl) rfl rfl ?_
  intro p e s m below meth c Q A X hret ls hl hh
  have X : zX p m c cX8_beginsAnew 1 s ([.ref a0] : List Value).toArray wsX8_beginsAnew RX8 K A := X
  have hx := X.1.1
  have hb := X.1.2.1
  have hr2 : ∀ (pc : Nat) (ls : Array Slot) (H : Heap) (locs : List Loc) (S : zMd), some S = some R → decode cX8_beginsAnew pc = .ok (.return_, 1) → zW K A s H locs (cMd K a0 a1 a2 a3 a4 a5 a6 a7 a8 a9 a10 a11 a12 a13 a14 a15 a16 a17 a18 a19 S) → W p l e ({ frames := 1, cells := 0, slots := 0, locals := 25 } : Room) s m ([.ref a0] : List Value).toArray below meth c H locs 0 0 Q (F0 m pc ls []) := by
    intro pc ls H locs S h hd hh
    cases h; exact hret pc ls H locs hd hh
  have hl : lv_has ls 1 [(0, .ref a0)] := hl
  unfold fX8_beginsAnew at hf
  refine (fun (hmain : ∀ (H : Heap) (locs : List Loc), zW K A s H locs (cMd K a0 a1 a2 a3 a4 a5 a6 a7 a8 a9 a10 a11 a12 a13 a14 a15 a16 a17 a18 a19 S) → W p l e ({ frames := 1, cells := 0, slots := 0, locals := 25 } : Room) s m ([.ref a0] : List Value).toArray below meth c H locs 0 0 Q (F0 m 0 ls [])) => hmain s.heap [] hh) (fun H locs hh => ?_)
  refine lv_aload_n hx hb dX8_beginsAnew_0 rfl (lv_at hl 0 rfl) ?_
  refine lv_iconst (v := (0 : Int32)) hx hb dX8_beginsAnew_1 (by decide) ?_
  refine zput (v := .int (0 : Int32)) (ty := .int) (ref := "SumOfTwoThatStandModel") (C := RX8) (T := TX8) (N := 33) (index := 70) X hh inX8_beginsAnew_X8 tyX8 tyX8_ok nmX8 0 rfl rfl 9 (by decide) mmX8_beginsAnew_0 rfl rfl (by decide +kernel) rfl rfl (Nat.le_of_ble_eq_true rfl) dX8_beginsAnew_2 (fun H locs hh => ?_)
  have hh : zW K A s H locs (cMd K a0 a1 a2 a3 a4 a5 a6 a7 a8 a9 a10 a11 a12 a13 a14 a15 a16 a17 a18 a19 (md_set_houses S (0 : Int32))) := hh
  refine lv_aload_n hx hb dX8_beginsAnew_5 rfl (lv_at hl 0 rfl) ?_
  refine lv_iconst (v := (1 : Int32)) hx hb dX8_beginsAnew_6 (by decide) ?_
  refine lv_iconst (v := (0 : Int32)) hx hb dX8_beginsAnew_7 (by decide) ?_
  refine lv_iconst (v := (0 : Int32)) hx hb dX8_beginsAnew_8 (by decide) ?_
  refine lv_bipush (v := (-4 : Int32)) hx hb dX8_beginsAnew_9 (by decide) ?_
  refine lv_bipush (v := (-4 : Int32)) hx hb dX8_beginsAnew_11 (by decide) ?_
  obtain ⟨u1, hu1, hf⟩ := ob_bind hf
  refine zcallV (ci := 7) (q0 := 0) (As := [.int (1 : Int32), .int (0 : Int32), .int (0 : Int32), .int (-4 : Int32), .int (-4 : Int32)]) (rest := []) (wr := []) (ws' := cMd K a0 a1 a2 a3 a4 a5 a6 a7 a8 a9 a10 a11 a12 a13 a14 a15 a16 a17 a18 a19 u1) (ov := none) X hh hl (kX8_isMore l K a0 a1 a2 a3 a4 a5 a6 a7 a8 a9 a10 a11 a12 a13 a14 a15 a16 a17 a18 a19 (md_set_houses S (0 : Int32)) (1 : Int32) (0 : Int32) (0 : Int32) (-4 : Int32) (-4 : Int32) u1 hu1) (fun ht => cwV 5 ht gX8_beginsAnew_X8_isMore rfl rfl rfl ⟨rfl, hdX8_isMore⟩ ⟨Nat.le_of_ble_eq_true rfl, Nat.le_of_ble_eq_true rfl⟩) [0, 1, 2, 3, 4, 5, 6, 7, 8, 9, 10, 11, 12, 13, 14, 15, 16, 17, 18, 19] [] [0, 1, 2, 3, 4, 5, 6, 7, 8, 9, 10, 11, 12, 13, 14, 15, 16, 17, 18, 19] rfl rfl rfl rfl (by decide) rfl rfl rfl rfl rfl rfl (Nat.le_of_ble_eq_true rfl) dX8_beginsAnew_13 ⟨Nat.zero_le _, Nat.zero_le _⟩ (fun H locs hh => ?_)
  exact hr2 16 ls H locs u1 hf dX8_beginsAnew_16 hh
def fX8_isHouse (S : zMd) (p1 : Int32) : Option (Int32) :=
  if (fX8_isIn p1 (0 : Int32) ((md_houses S) - (1 : Int32))) &&& 1 = (fX8_isIn p1 (0 : Int32) ((md_houses S) - (1 : Int32))) then some (fX8_isIn p1 (0 : Int32) ((md_houses S) - (1 : Int32))) else none
theorem inX8_isHouse_X8 : ∀ w ∈ wsX80, w ∈ wsX8_isHouse := by decide +kernel
theorem mmX8_isHouse_0 : Cond.fieldLink RX8 70 "SumOfTwoThatStandModel" "houses" "I" ∈ wsX8_isHouse := by decide +kernel
theorem hdX8_isHouse : yX8_isHouse.cls ≠ "java/lang/invoke/MethodHandle" ∧ yX8_isHouse.cls ≠ "java/lang/invoke/VarHandle" ∧ (parseMethodDescriptor yX8_isHouse.desc).map (fun d => d.parameters.length) = some 1 := by decide +kernel
set_option maxHeartbeats 4000000 in
set_option maxRecDepth 100000 in
theorem kX8_isHouse (l : Launch) (K : zK) (a0 a1 a2 a3 a4 a5 a6 a7 a8 a9 a10 a11 a12 a13 a14 a15 a16 a17 a18 a19 : Nat) (S : zMd) (p1 : Int32) (R : Int32) (hf : fX8_isHouse S p1 = some R) : zC l yX8_isHouse wsX8_isHouse ({ frames := 1, cells := 0, slots := 0, locals := 22 } : Room) K [.ref a0, .int p1] (cMd K a0 a1 a2 a3 a4 a5 a6 a7 a8 a9 a10 a11 a12 a13 a14 a15 a16 a17 a18 a19 S) (some (.int R)) (cMd K a0 a1 a2 a3 a4 a5 a6 a7 a8 a9 a10 a11 a12 a13 a14 a15 a16 a17 a18 a19 S) := by
  refine zC_z .boolean R (cc := cX8_isHouse) (maxL := 2) (by decide +kernel) rfl (Nat.le_of_ble_eq_true rfl) rfl rfl ?_
  intro p e s m below meth c Q A X hret ls hl hh
  have X : zX p m c cX8_isHouse 2 s ([.ref a0, .int p1] : List Value).toArray wsX8_isHouse RX8 K A := X
  have hx := X.1.1
  have hb := X.1.2.1
  have hr2 : ∀ (pc : Nat) (ls : Array Slot) (H : Heap) (locs : List Loc) (v : Int32), some v = some R → narrow .boolean (.int v) = .int v → decode cX8_isHouse pc = .ok (.ireturn, 1) → zW K A s H locs (cMd K a0 a1 a2 a3 a4 a5 a6 a7 a8 a9 a10 a11 a12 a13 a14 a15 a16 a17 a18 a19 S) → W p l e ({ frames := 1, cells := 0, slots := 0, locals := 22 } : Room) s m ([.ref a0, .int p1] : List Value).toArray below meth c H locs 0 0 Q (F0 m pc ls [.int v]) := by
    intro pc ls H locs v h hn hd hh
    cases h; exact hret pc ls H locs _ rfl hn hd hh
  have hl : lv_has ls 2 [(0, .ref a0), (1, .int p1)] := hl
  unfold fX8_isHouse at hf
  refine (fun (hmain : ∀ (H : Heap) (locs : List Loc), zW K A s H locs (cMd K a0 a1 a2 a3 a4 a5 a6 a7 a8 a9 a10 a11 a12 a13 a14 a15 a16 a17 a18 a19 S) → W p l e ({ frames := 1, cells := 0, slots := 0, locals := 22 } : Room) s m ([.ref a0, .int p1] : List Value).toArray below meth c H locs 0 0 Q (F0 m 0 ls [])) => hmain s.heap [] hh) (fun H locs hh => ?_)
  refine lv_iload_n hx hb dX8_isHouse_0 rfl (lv_at hl 1 rfl) ?_
  refine lv_iconst (v := (0 : Int32)) hx hb dX8_isHouse_1 (by decide) ?_
  refine lv_aload_n hx hb dX8_isHouse_2 rfl (lv_at hl 0 rfl) ?_
  refine zget (v := .int (md_houses S)) (ref := "SumOfTwoThatStandModel") (C := RX8) (T := TX8) (N := 33) (index := 70) X hh inX8_isHouse_X8 0 rfl rfl 9 (by decide) mmX8_isHouse_0 rfl rfl dX8_isHouse_3 ?_
  refine lv_iconst (v := (1 : Int32)) hx hb dX8_isHouse_6 (by decide) ?_
  refine lv_isub hx hb dX8_isHouse_7 ?_
  refine zcallS (As := [.int p1, .int (0 : Int32), .int ((md_houses S) - (1 : Int32))]) (rest := []) (wr := cMd K a0 a1 a2 a3 a4 a5 a6 a7 a8 a9 a10 a11 a12 a13 a14 a15 a16 a17 a18 a19 S) (ws' := cMd K a0 a1 a2 a3 a4 a5 a6 a7 a8 a9 a10 a11 a12 a13 a14 a15 a16 a17 a18 a19 S) (ov := some (.int (fX8_isIn p1 (0 : Int32) ((md_houses S) - (1 : Int32))))) X hh hl (kX8_isIn l K p1 (0 : Int32) ((md_houses S) - (1 : Int32)) (fX8_isIn p1 (0 : Int32) ((md_houses S) - (1 : Int32))) rfl) (fun ht => va_cwS 3 ht gX8_isHouse_X8_isIn rfl rfl rfl hdX8_isIn ⟨Nat.le_of_ble_eq_true rfl, Nat.le_of_ble_eq_true rfl⟩) [] [0, 1, 2, 3, 4, 5, 6, 7, 8, 9, 10, 11, 12, 13, 14, 15, 16, 17, 18, 19] [0, 1, 2, 3, 4, 5, 6, 7, 8, 9, 10, 11, 12, 13, 14, 15, 16, 17, 18, 19] rfl rfl rfl rfl (by decide) rfl rfl rfl rfl (Nat.le_of_ble_eq_true rfl) dX8_isHouse_8 ⟨Nat.zero_le _, Nat.zero_le _⟩ (fun H locs hh => ?_)
  obtain ⟨g2, hf⟩ := ob_ck hf
  exact hr2 11 ls H locs (fX8_isIn p1 (0 : Int32) ((md_houses S) - (1 : Int32))) hf (nar_ok g2) dX8_isHouse_11 hh
def fX8_doesStand (S : zMd) (p1 : Int32) : Option (Int32) :=
  (fX8_isHouse S p1).bind fun u1 =>
  if u1 = (0 : Int32) then
  (some (0 : Int32))
  else
  (ix 12 p1 (if ((md_stands S) p1.toNatClampNeg) = (1 : Int32) then
  (some (1 : Int32))
  else
  (some (0 : Int32))))
theorem inX8_doesStand_X8 : ∀ w ∈ wsX80, w ∈ wsX8_doesStand := by decide +kernel
theorem mmX8_doesStand_0 : Cond.fieldLink RX8 28 "SumOfTwoThatStandModel" "stands" "[I" ∈ wsX8_doesStand := by decide +kernel
theorem hdX8_doesStand : yX8_doesStand.cls ≠ "java/lang/invoke/MethodHandle" ∧ yX8_doesStand.cls ≠ "java/lang/invoke/VarHandle" ∧ (parseMethodDescriptor yX8_doesStand.desc).map (fun d => d.parameters.length) = some 1 := by decide +kernel
set_option maxHeartbeats 4000000 in
set_option maxRecDepth 100000 in
theorem kX8_doesStand (l : Launch) (K : zK) (a0 a1 a2 a3 a4 a5 a6 a7 a8 a9 a10 a11 a12 a13 a14 a15 a16 a17 a18 a19 : Nat) (S : zMd) (p1 : Int32) (R : Int32) (hf : fX8_doesStand S p1 = some R) : zC l yX8_doesStand wsX8_doesStand ({ frames := 2, cells := 0, slots := 0, locals := 43 } : Room) K [.ref a0, .int p1] (cMd K a0 a1 a2 a3 a4 a5 a6 a7 a8 a9 a10 a11 a12 a13 a14 a15 a16 a17 a18 a19 S) (some (.int R)) (cMd K a0 a1 a2 a3 a4 a5 a6 a7 a8 a9 a10 a11 a12 a13 a14 a15 a16 a17 a18 a19 S) := by
  refine zC_z .boolean R (cc := cX8_doesStand) (maxL := 2) (by decide +kernel) rfl (Nat.le_of_ble_eq_true rfl) rfl rfl ?_
  intro p e s m below meth c Q A X hret ls hl hh
  have X : zX p m c cX8_doesStand 2 s ([.ref a0, .int p1] : List Value).toArray wsX8_doesStand RX8 K A := X
  have hx := X.1.1
  have hb := X.1.2.1
  have hr2 : ∀ (pc : Nat) (ls : Array Slot) (H : Heap) (locs : List Loc) (v : Int32), some v = some R → narrow .boolean (.int v) = .int v → decode cX8_doesStand pc = .ok (.ireturn, 1) → zW K A s H locs (cMd K a0 a1 a2 a3 a4 a5 a6 a7 a8 a9 a10 a11 a12 a13 a14 a15 a16 a17 a18 a19 S) → W p l e ({ frames := 2, cells := 0, slots := 0, locals := 43 } : Room) s m ([.ref a0, .int p1] : List Value).toArray below meth c H locs 0 0 Q (F0 m pc ls [.int v]) := by
    intro pc ls H locs v h hn hd hh
    cases h; exact hret pc ls H locs _ rfl hn hd hh
  have hl : lv_has ls 2 [(0, .ref a0), (1, .int p1)] := hl
  unfold fX8_doesStand at hf
  refine (fun (hmain : ∀ (H : Heap) (locs : List Loc), zW K A s H locs (cMd K a0 a1 a2 a3 a4 a5 a6 a7 a8 a9 a10 a11 a12 a13 a14 a15 a16 a17 a18 a19 S) → W p l e ({ frames := 2, cells := 0, slots := 0, locals := 43 } : Room) s m ([.ref a0, .int p1] : List Value).toArray below meth c H locs 0 0 Q (F0 m 0 ls [])) => hmain s.heap [] hh) (fun H locs hh => ?_)
  refine lv_aload_n hx hb dX8_doesStand_0 rfl (lv_at hl 0 rfl) ?_
  refine lv_iload_n hx hb dX8_doesStand_1 rfl (lv_at hl 1 rfl) ?_
  obtain ⟨u1, hu1, hf⟩ := ob_bind hf
  refine zcallV (ci := 7) (q0 := 0) (As := [.int p1]) (rest := []) (wr := []) (ws' := cMd K a0 a1 a2 a3 a4 a5 a6 a7 a8 a9 a10 a11 a12 a13 a14 a15 a16 a17 a18 a19 S) (ov := some (.int u1)) X hh hl (kX8_isHouse l K a0 a1 a2 a3 a4 a5 a6 a7 a8 a9 a10 a11 a12 a13 a14 a15 a16 a17 a18 a19 S p1 u1 hu1) (fun ht => cwV 1 ht gX8_doesStand_X8_isHouse rfl rfl rfl ⟨rfl, hdX8_isHouse⟩ ⟨Nat.le_of_ble_eq_true rfl, Nat.le_of_ble_eq_true rfl⟩) [0, 1, 2, 3, 4, 5, 6, 7, 8, 9, 10, 11, 12, 13, 14, 15, 16, 17, 18, 19] [] [0, 1, 2, 3, 4, 5, 6, 7, 8, 9, 10, 11, 12, 13, 14, 15, 16, 17, 18, 19] rfl rfl rfl rfl (by decide) rfl rfl rfl rfl rfl rfl (Nat.le_of_ble_eq_true rfl) dX8_doesStand_2 ⟨Nat.zero_le _, Nat.zero_le _⟩ (fun H locs hh => ?_)
  refine lv_if_eq (tgt := 22) hx hb dX8_doesStand_5 (by decide) (fun c2 => ?_) (fun c2 => ?_)
  · replace hf := (if_pos c2).symm.trans hf
    refine lv_iconst (v := (0 : Int32)) hx hb dX8_doesStand_22 (by decide) ?_
    exact hr2 23 ls H locs (0 : Int32) hf rfl dX8_doesStand_23 hh
  · replace hf := (if_neg c2).symm.trans hf
    refine lv_aload_n hx hb dX8_doesStand_8 rfl (lv_at hl 0 rfl) ?_
    refine zget (v := .ref a7) (ref := "SumOfTwoThatStandModel") (C := RX8) (T := TX8) (N := 33) (index := 28) X hh inX8_doesStand_X8 0 rfl rfl 6 (by decide) mmX8_doesStand_0 rfl rfl dX8_doesStand_9 ?_
    refine lv_iload_n hx hb dX8_doesStand_12 rfl (lv_at hl 1 rfl) ?_
    obtain ⟨g3, hf⟩ := ob_ix hf
    refine ziald (f := (md_stands S)) X hh 7 rfl g3 dX8_doesStand_13 ?_
    refine lv_iconst (v := (1 : Int32)) hx hb dX8_doesStand_14 (by decide) ?_
    refine lv_icmp_ne (tgt := 22) hx hb dX8_doesStand_15 (by decide) (fun c4 => ?_) (fun c4 => ?_)
    · replace hf := (if_neg c4).symm.trans hf
      refine lv_iconst (v := (0 : Int32)) hx hb dX8_doesStand_22 (by decide) ?_
      exact hr2 23 ls H locs (0 : Int32) hf rfl dX8_doesStand_23 hh
    · replace hf := (if_pos c4).symm.trans hf
      refine lv_iconst (v := (1 : Int32)) hx hb dX8_doesStand_18 (by decide) ?_
      refine lv_goto (tgt := 23) hx hb dX8_doesStand_19 (by decide) ?_
      exact hr2 23 ls H locs (1 : Int32) hf rfl dX8_doesStand_23 hh
def fX8_standing_l4 (S : zMd) : Nat → (Int32) → (Int32) → Option (Int32)
  | 0, _, _ => none
  | n + 1, v1, v2 =>
  if (md_houses S) ≤ v2 then
  (some v1)
  else
  (ix 12 v2 (fX8_standing_l4 S n (v1 ||| (((md_stands S) v2.toNatClampNeg) <<< (v2 &&& 31))) (v2 + (1 : Int32))))
def fX8_standing (S : zMd) : Option (Int32) :=
  fX8_standing_l4 S FU (0 : Int32) (0 : Int32)
theorem inX8_standing_X8 : ∀ w ∈ wsX80, w ∈ wsX8_standing := by decide +kernel
theorem mmX8_standing_0 : Cond.fieldLink RX8 70 "SumOfTwoThatStandModel" "houses" "I" ∈ wsX8_standing := by decide +kernel
theorem mmX8_standing_1 : Cond.fieldLink RX8 28 "SumOfTwoThatStandModel" "stands" "[I" ∈ wsX8_standing := by decide +kernel
theorem hdX8_standing : yX8_standing.cls ≠ "java/lang/invoke/MethodHandle" ∧ yX8_standing.cls ≠ "java/lang/invoke/VarHandle" ∧ (parseMethodDescriptor yX8_standing.desc).map (fun d => d.parameters.length) = some 0 := by decide +kernel
set_option maxHeartbeats 4000000 in
set_option maxRecDepth 100000 in
theorem kX8_standing (l : Launch) (K : zK) (a0 a1 a2 a3 a4 a5 a6 a7 a8 a9 a10 a11 a12 a13 a14 a15 a16 a17 a18 a19 : Nat) (S : zMd) (R : Int32) (hf : fX8_standing S = some R) : zC l yX8_standing wsX8_standing ({ frames := 0, cells := 0, slots := 0, locals := 0 } : Room) K [.ref a0] (cMd K a0 a1 a2 a3 a4 a5 a6 a7 a8 a9 a10 a11 a12 a13 a14 a15 a16 a17 a18 a19 S) (some (.int R)) (cMd K a0 a1 a2 a3 a4 a5 a6 a7 a8 a9 a10 a11 a12 a13 a14 a15 a16 a17 a18 a19 S) := by
  refine zC_i R (cc := cX8_standing) (maxL := 3) (by decide +kernel) rfl (Nat.le_of_ble_eq_true rfl) rfl rfl ?_
  intro p e s m below meth c Q A X hret ls hl hh
  have X : zX p m c cX8_standing 3 s ([.ref a0] : List Value).toArray wsX8_standing RX8 K A := X
  have hx := X.1.1
  have hb := X.1.2.1
  have hr2 : ∀ (pc : Nat) (ls : Array Slot) (H : Heap) (locs : List Loc) (v : Int32), some v = some R → decode cX8_standing pc = .ok (.ireturn, 1) → zW K A s H locs (cMd K a0 a1 a2 a3 a4 a5 a6 a7 a8 a9 a10 a11 a12 a13 a14 a15 a16 a17 a18 a19 S) → W p l e ({ frames := 0, cells := 0, slots := 0, locals := 0 } : Room) s m ([.ref a0] : List Value).toArray below meth c H locs 0 0 Q (F0 m pc ls [.int v]) := by
    intro pc ls H locs v h hd hh
    cases h; exact hret pc ls H locs _ rfl hd hh
  have hl : lv_has ls 3 [(0, .ref a0)] := hl
  have hL4 : ∀ (n : Nat) (v1 : Int32) (v2 : Int32), ∀ (H : Heap) (locs : List Loc) (ls : Array Slot), fX8_standing_l4 S n v1 v2 = some R → lv_has ls 3 [(0, .ref a0), (1, .int v1), (2, .int v2)] → zW K A s H locs (cMd K a0 a1 a2 a3 a4 a5 a6 a7 a8 a9 a10 a11 a12 a13 a14 a15 a16 a17 a18 a19 S) → W p l e ({ frames := 0, cells := 0, slots := 0, locals := 0 } : Room) s m ([.ref a0] : List Value).toArray below meth c H locs 0 0 Q (F0 m 4 ls []) := by
    intro n
    induction n with
    | zero =>
      intro v1 v2 H locs ls hf hl hh
      rw [fX8_standing_l4] at hf; cases hf
    | succ n ih =>
      intro v1 v2 H locs ls hf hl hh
      rw [fX8_standing_l4] at hf
      refine lv_iload_n hx hb dX8_standing_4 rfl (lv_at hl 2 rfl) ?_
      refine lv_aload_n hx hb dX8_standing_5 rfl (lv_at hl 0 rfl) ?_
      refine zget (v := .int (md_houses S)) (ref := "SumOfTwoThatStandModel") (C := RX8) (T := TX8) (N := 33) (index := 70) X hh inX8_standing_X8 0 rfl rfl 9 (by decide) mmX8_standing_0 rfl rfl dX8_standing_6 ?_
      refine lv_icmp_ge (tgt := 29) hx hb dX8_standing_9 (by decide) (fun c1 => ?_) (fun c1 => ?_)
      · replace hf := (if_pos c1).symm.trans hf
        refine lv_iload_n hx hb dX8_standing_29 rfl (lv_at hl 1 rfl) ?_
        exact hr2 30 ls H locs v1 hf dX8_standing_30 hh
      · replace hf := (if_neg c1).symm.trans hf
        refine lv_iload_n hx hb dX8_standing_12 rfl (lv_at hl 1 rfl) ?_
        refine lv_aload_n hx hb dX8_standing_13 rfl (lv_at hl 0 rfl) ?_
        refine zget (v := .ref a7) (ref := "SumOfTwoThatStandModel") (C := RX8) (T := TX8) (N := 33) (index := 28) X hh inX8_standing_X8 0 rfl rfl 6 (by decide) mmX8_standing_1 rfl rfl dX8_standing_14 ?_
        refine lv_iload_n hx hb dX8_standing_17 rfl (lv_at hl 2 rfl) ?_
        obtain ⟨g2, hf⟩ := ob_ix hf
        refine ziald (f := (md_stands S)) X hh 7 rfl g2 dX8_standing_18 ?_
        refine lv_iload_n hx hb dX8_standing_19 rfl (lv_at hl 2 rfl) ?_
        refine lv_ishl hx hb dX8_standing_20 ?_
        refine lv_ior hx hb dX8_standing_21 ?_
        refine lv_istore_n (lv' := [(1, .int (v1 ||| (((md_stands S) v2.toNatClampNeg) <<< (v2 &&& 31)))), (0, .ref a0), (2, .int v2)]) hx hb dX8_standing_22 rfl hl (by decide) rfl (fun ls hl => ?_)
        refine lv_iinc (v := (v2 + (1 : Int32))) (lv' := [(2, .int (v2 + (1 : Int32))), (1, .int (v1 ||| (((md_stands S) v2.toNatClampNeg) <<< (v2 &&& 31)))), (0, .ref a0)]) hx hb dX8_standing_23 hl (k := 2) rfl rfl (by decide) rfl (fun ls hl => ?_)
        refine lv_goto (tgt := 4) hx hb dX8_standing_26 (by decide) ?_
        exact ih (v1 ||| (((md_stands S) v2.toNatClampNeg) <<< (v2 &&& 31))) (v2 + (1 : Int32)) H locs ls hf (lv_sub hl [2, 1, 0] rfl) hh
  unfold fX8_standing at hf
  refine (fun (hmain : ∀ (H : Heap) (locs : List Loc), zW K A s H locs (cMd K a0 a1 a2 a3 a4 a5 a6 a7 a8 a9 a10 a11 a12 a13 a14 a15 a16 a17 a18 a19 S) → W p l e ({ frames := 0, cells := 0, slots := 0, locals := 0 } : Room) s m ([.ref a0] : List Value).toArray below meth c H locs 0 0 Q (F0 m 0 ls [])) => hmain s.heap [] hh) (fun H locs hh => ?_)
  refine lv_iconst (v := (0 : Int32)) hx hb dX8_standing_0 (by decide) ?_
  refine lv_istore_n (lv' := [(1, .int (0 : Int32)), (0, .ref a0)]) hx hb dX8_standing_1 rfl hl (by decide) rfl (fun ls hl => ?_)
  refine lv_iconst (v := (0 : Int32)) hx hb dX8_standing_2 (by decide) ?_
  refine lv_istore_n (lv' := [(2, .int (0 : Int32)), (1, .int (0 : Int32)), (0, .ref a0)]) hx hb dX8_standing_3 rfl hl (by decide) rfl (fun ls hl => ?_)
  exact hL4 FU (0 : Int32) (0 : Int32) H locs ls hf (lv_sub hl [2, 1, 0] rfl) hh
def fX8_lends (S : zMd) (p1 : Int32) (p2 : Int32) : Option (Int32) :=
  ix 12 p1 (if ((md_kind S) p1.toNatClampNeg) = (1 : Int32) then
  (if ((md_uses S) p1.toNatClampNeg) = (0 : Int32) then
  (some (1 : Int32))
  else
  (some (0 : Int32)))
  else
  (if ((md_kind S) p1.toNatClampNeg) = (2 : Int32) then
  (some (1 : Int32))
  else
  (if ((md_kind S) p1.toNatClampNeg) = (3 : Int32) then
  (if (p2 - p2 / (2 : Int32) * (2 : Int32)) = (0 : Int32) then
  (some (1 : Int32))
  else
  (some (0 : Int32)))
  else
  (if ((md_kind S) p1.toNatClampNeg) = (4 : Int32) then
  (some (0 : Int32))
  else
  (some (1 : Int32))))))
theorem inX8_lends_X8 : ∀ w ∈ wsX80, w ∈ wsX8_lends := by decide +kernel
theorem mmX8_lends_0 : Cond.fieldLink RX8 16 "SumOfTwoThatStandModel" "kind" "[I" ∈ wsX8_lends := by decide +kernel
theorem mmX8_lends_1 : Cond.fieldLink RX8 31 "SumOfTwoThatStandModel" "uses" "[I" ∈ wsX8_lends := by decide +kernel
theorem hdX8_lends : yX8_lends.cls ≠ "java/lang/invoke/MethodHandle" ∧ yX8_lends.cls ≠ "java/lang/invoke/VarHandle" ∧ (parseMethodDescriptor yX8_lends.desc).map (fun d => d.parameters.length) = some 2 := by decide +kernel
set_option maxHeartbeats 4000000 in
set_option maxRecDepth 100000 in
theorem kX8_lends (l : Launch) (K : zK) (a0 a1 a2 a3 a4 a5 a6 a7 a8 a9 a10 a11 a12 a13 a14 a15 a16 a17 a18 a19 : Nat) (S : zMd) (p1 : Int32) (p2 : Int32) (R : Int32) (hf : fX8_lends S p1 p2 = some R) : zC l yX8_lends wsX8_lends ({ frames := 0, cells := 0, slots := 0, locals := 0 } : Room) K [.ref a0, .int p1, .int p2] (cMd K a0 a1 a2 a3 a4 a5 a6 a7 a8 a9 a10 a11 a12 a13 a14 a15 a16 a17 a18 a19 S) (some (.int R)) (cMd K a0 a1 a2 a3 a4 a5 a6 a7 a8 a9 a10 a11 a12 a13 a14 a15 a16 a17 a18 a19 S) := by
  refine zC_z .boolean R (cc := cX8_lends) (maxL := 3) (by decide +kernel) rfl (Nat.le_of_ble_eq_true rfl) rfl rfl ?_
  intro p e s m below meth c Q A X hret ls hl hh
  have X : zX p m c cX8_lends 3 s ([.ref a0, .int p1, .int p2] : List Value).toArray wsX8_lends RX8 K A := X
  have hx := X.1.1
  have hb := X.1.2.1
  have hr2 : ∀ (pc : Nat) (ls : Array Slot) (H : Heap) (locs : List Loc) (v : Int32), some v = some R → narrow .boolean (.int v) = .int v → decode cX8_lends pc = .ok (.ireturn, 1) → zW K A s H locs (cMd K a0 a1 a2 a3 a4 a5 a6 a7 a8 a9 a10 a11 a12 a13 a14 a15 a16 a17 a18 a19 S) → W p l e ({ frames := 0, cells := 0, slots := 0, locals := 0 } : Room) s m ([.ref a0, .int p1, .int p2] : List Value).toArray below meth c H locs 0 0 Q (F0 m pc ls [.int v]) := by
    intro pc ls H locs v h hn hd hh
    cases h; exact hret pc ls H locs _ rfl hn hd hh
  have hl : lv_has ls 3 [(0, .ref a0), (1, .int p1), (2, .int p2)] := hl
  unfold fX8_lends at hf
  refine (fun (hmain : ∀ (H : Heap) (locs : List Loc), zW K A s H locs (cMd K a0 a1 a2 a3 a4 a5 a6 a7 a8 a9 a10 a11 a12 a13 a14 a15 a16 a17 a18 a19 S) → W p l e ({ frames := 0, cells := 0, slots := 0, locals := 0 } : Room) s m ([.ref a0, .int p1, .int p2] : List Value).toArray below meth c H locs 0 0 Q (F0 m 0 ls [])) => hmain s.heap [] hh) (fun H locs hh => ?_)
  refine lv_aload_n hx hb dX8_lends_0 rfl (lv_at hl 0 rfl) ?_
  refine zget (v := .ref a3) (ref := "SumOfTwoThatStandModel") (C := RX8) (T := TX8) (N := 33) (index := 16) X hh inX8_lends_X8 0 rfl rfl 2 (by decide) mmX8_lends_0 rfl rfl dX8_lends_1 ?_
  refine lv_iload_n hx hb dX8_lends_4 rfl (lv_at hl 1 rfl) ?_
  obtain ⟨g1, hf⟩ := ob_ix hf
  refine ziald (f := (md_kind S)) X hh 3 rfl g1 dX8_lends_5 ?_
  by_cases c2_0 : ((md_kind S) p1.toNatClampNeg) = (1 : Int32)
  · replace hf := (if_pos c2_0).symm.trans hf
    refine lv_tableIn (off := 30) (tgt := 36) hx hb dX8_lends_6 (by rw [c2_0]; decide) (by rw [c2_0]; decide) (by rw [c2_0]; decide) (by decide) ?_
    refine lv_aload_n hx hb dX8_lends_36 rfl (lv_at hl 0 rfl) ?_
    refine zget (v := .ref a8) (ref := "SumOfTwoThatStandModel") (C := RX8) (T := TX8) (N := 33) (index := 31) X hh inX8_lends_X8 0 rfl rfl 7 (by decide) mmX8_lends_1 rfl rfl dX8_lends_37 ?_
    refine lv_iload_n hx hb dX8_lends_40 rfl (lv_at hl 1 rfl) ?_
    refine ziald (f := (md_uses S)) X hh 8 rfl g1 dX8_lends_41 ?_
    refine lv_if_ne (tgt := 49) hx hb dX8_lends_42 (by decide) (fun c3 => ?_) (fun c3 => ?_)
    · replace hf := (if_neg c3).symm.trans hf
      refine lv_iconst (v := (0 : Int32)) hx hb dX8_lends_49 (by decide) ?_
      exact hr2 50 ls H locs (0 : Int32) hf rfl dX8_lends_50 hh
    · replace hf := (if_pos c3).symm.trans hf
      refine lv_iconst (v := (1 : Int32)) hx hb dX8_lends_45 (by decide) ?_
      refine lv_goto (tgt := 50) hx hb dX8_lends_46 (by decide) ?_
      exact hr2 50 ls H locs (1 : Int32) hf rfl dX8_lends_50 hh
  replace hf := (if_neg c2_0).symm.trans hf
  by_cases c2_1 : ((md_kind S) p1.toNatClampNeg) = (2 : Int32)
  · replace hf := (if_pos c2_1).symm.trans hf
    refine lv_tableIn (off := 59) (tgt := 65) hx hb dX8_lends_6 (by rw [c2_1]; decide) (by rw [c2_1]; decide) (by rw [c2_1]; decide) (by decide) ?_
    refine lv_iconst (v := (1 : Int32)) hx hb dX8_lends_65 (by decide) ?_
    exact hr2 66 ls H locs (1 : Int32) hf rfl dX8_lends_66 hh
  replace hf := (if_neg c2_1).symm.trans hf
  by_cases c2_2 : ((md_kind S) p1.toNatClampNeg) = (3 : Int32)
  · replace hf := (if_pos c2_2).symm.trans hf
    refine lv_tableIn (off := 45) (tgt := 51) hx hb dX8_lends_6 (by rw [c2_2]; decide) (by rw [c2_2]; decide) (by rw [c2_2]; decide) (by decide) ?_
    refine lv_iload_n hx hb dX8_lends_51 rfl (lv_at hl 2 rfl) ?_
    refine lv_iconst (v := (2 : Int32)) hx hb dX8_lends_52 (by decide) ?_
    refine lv_irem hx hb dX8_lends_53 (by decide) ?_
    refine lv_if_ne (tgt := 61) hx hb dX8_lends_54 (by decide) (fun c5 => ?_) (fun c5 => ?_)
    · replace hf := (if_neg c5).symm.trans hf
      refine lv_iconst (v := (0 : Int32)) hx hb dX8_lends_61 (by decide) ?_
      exact hr2 62 ls H locs (0 : Int32) hf rfl dX8_lends_62 hh
    · replace hf := (if_pos c5).symm.trans hf
      refine lv_iconst (v := (1 : Int32)) hx hb dX8_lends_57 (by decide) ?_
      refine lv_goto (tgt := 62) hx hb dX8_lends_58 (by decide) ?_
      exact hr2 62 ls H locs (1 : Int32) hf rfl dX8_lends_62 hh
  replace hf := (if_neg c2_2).symm.trans hf
  by_cases c2_3 : ((md_kind S) p1.toNatClampNeg) = (4 : Int32)
  · replace hf := (if_pos c2_3).symm.trans hf
    refine lv_tableIn (off := 57) (tgt := 63) hx hb dX8_lends_6 (by rw [c2_3]; decide) (by rw [c2_3]; decide) (by rw [c2_3]; decide) (by decide) ?_
    refine lv_iconst (v := (0 : Int32)) hx hb dX8_lends_63 (by decide) ?_
    exact hr2 64 ls H locs (0 : Int32) hf rfl dX8_lends_64 hh
  replace hf := (if_neg c2_3).symm.trans hf
  refine lv_tableOut (tgt := 65) hx hb dX8_lends_6 (by have e0 := lv_neT c2_0 (a := 1) (by decide); have e1 := lv_neT c2_1 (a := 2) (by decide); have e2 := lv_neT c2_2 (a := 3) (by decide); have e3 := lv_neT c2_3 (a := 4) (by decide); omega) (by decide) ?_
  refine lv_iconst (v := (1 : Int32)) hx hb dX8_lends_65 (by decide) ?_
  exact hr2 66 ls H locs (1 : Int32) hf rfl dX8_lends_66 hh
def fX8_fee (S : zMd) (p1 : Int32) : Option (Int32) :=
  ix 12 p1 (if ((md_kind S) p1.toNatClampNeg) = (2 : Int32) then
  (some ((md_figure S) p1.toNatClampNeg))
  else
  (if ((md_kind S) p1.toNatClampNeg) = (3 : Int32) then
  (some (((2 : Int32) * ((md_figure S) p1.toNatClampNeg)) + (1 : Int32)))
  else
  (some (0 : Int32))))
theorem inX8_fee_X8 : ∀ w ∈ wsX80, w ∈ wsX8_fee := by decide +kernel
theorem mmX8_fee_0 : Cond.fieldLink RX8 16 "SumOfTwoThatStandModel" "kind" "[I" ∈ wsX8_fee := by decide +kernel
theorem mmX8_fee_1 : Cond.fieldLink RX8 19 "SumOfTwoThatStandModel" "figure" "[I" ∈ wsX8_fee := by decide +kernel
theorem hdX8_fee : yX8_fee.cls ≠ "java/lang/invoke/MethodHandle" ∧ yX8_fee.cls ≠ "java/lang/invoke/VarHandle" ∧ (parseMethodDescriptor yX8_fee.desc).map (fun d => d.parameters.length) = some 1 := by decide +kernel
set_option maxHeartbeats 4000000 in
set_option maxRecDepth 100000 in
theorem kX8_fee (l : Launch) (K : zK) (a0 a1 a2 a3 a4 a5 a6 a7 a8 a9 a10 a11 a12 a13 a14 a15 a16 a17 a18 a19 : Nat) (S : zMd) (p1 : Int32) (R : Int32) (hf : fX8_fee S p1 = some R) : zC l yX8_fee wsX8_fee ({ frames := 0, cells := 0, slots := 0, locals := 0 } : Room) K [.ref a0, .int p1] (cMd K a0 a1 a2 a3 a4 a5 a6 a7 a8 a9 a10 a11 a12 a13 a14 a15 a16 a17 a18 a19 S) (some (.int R)) (cMd K a0 a1 a2 a3 a4 a5 a6 a7 a8 a9 a10 a11 a12 a13 a14 a15 a16 a17 a18 a19 S) := by
  refine zC_i R (cc := cX8_fee) (maxL := 2) (by decide +kernel) rfl (Nat.le_of_ble_eq_true rfl) rfl rfl ?_
  intro p e s m below meth c Q A X hret ls hl hh
  have X : zX p m c cX8_fee 2 s ([.ref a0, .int p1] : List Value).toArray wsX8_fee RX8 K A := X
  have hx := X.1.1
  have hb := X.1.2.1
  have hr2 : ∀ (pc : Nat) (ls : Array Slot) (H : Heap) (locs : List Loc) (v : Int32), some v = some R → decode cX8_fee pc = .ok (.ireturn, 1) → zW K A s H locs (cMd K a0 a1 a2 a3 a4 a5 a6 a7 a8 a9 a10 a11 a12 a13 a14 a15 a16 a17 a18 a19 S) → W p l e ({ frames := 0, cells := 0, slots := 0, locals := 0 } : Room) s m ([.ref a0, .int p1] : List Value).toArray below meth c H locs 0 0 Q (F0 m pc ls [.int v]) := by
    intro pc ls H locs v h hd hh
    cases h; exact hret pc ls H locs _ rfl hd hh
  have hl : lv_has ls 2 [(0, .ref a0), (1, .int p1)] := hl
  unfold fX8_fee at hf
  refine (fun (hmain : ∀ (H : Heap) (locs : List Loc), zW K A s H locs (cMd K a0 a1 a2 a3 a4 a5 a6 a7 a8 a9 a10 a11 a12 a13 a14 a15 a16 a17 a18 a19 S) → W p l e ({ frames := 0, cells := 0, slots := 0, locals := 0 } : Room) s m ([.ref a0, .int p1] : List Value).toArray below meth c H locs 0 0 Q (F0 m 0 ls [])) => hmain s.heap [] hh) (fun H locs hh => ?_)
  refine lv_aload_n hx hb dX8_fee_0 rfl (lv_at hl 0 rfl) ?_
  refine zget (v := .ref a3) (ref := "SumOfTwoThatStandModel") (C := RX8) (T := TX8) (N := 33) (index := 16) X hh inX8_fee_X8 0 rfl rfl 2 (by decide) mmX8_fee_0 rfl rfl dX8_fee_1 ?_
  refine lv_iload_n hx hb dX8_fee_4 rfl (lv_at hl 1 rfl) ?_
  obtain ⟨g1, hf⟩ := ob_ix hf
  refine ziald (f := (md_kind S)) X hh 3 rfl g1 dX8_fee_5 ?_
  refine lv_iconst (v := (2 : Int32)) hx hb dX8_fee_6 (by decide) ?_
  refine lv_icmp_ne (tgt := 19) hx hb dX8_fee_7 (by decide) (fun c2 => ?_) (fun c2 => ?_)
  · replace hf := (if_neg c2).symm.trans hf
    refine lv_aload_n hx hb dX8_fee_19 rfl (lv_at hl 0 rfl) ?_
    refine zget (v := .ref a3) (ref := "SumOfTwoThatStandModel") (C := RX8) (T := TX8) (N := 33) (index := 16) X hh inX8_fee_X8 0 rfl rfl 2 (by decide) mmX8_fee_0 rfl rfl dX8_fee_20 ?_
    refine lv_iload_n hx hb dX8_fee_23 rfl (lv_at hl 1 rfl) ?_
    refine ziald (f := (md_kind S)) X hh 3 rfl g1 dX8_fee_24 ?_
    refine lv_iconst (v := (3 : Int32)) hx hb dX8_fee_25 (by decide) ?_
    refine lv_icmp_ne (tgt := 42) hx hb dX8_fee_26 (by decide) (fun c3 => ?_) (fun c3 => ?_)
    · replace hf := (if_neg c3).symm.trans hf
      refine lv_iconst (v := (0 : Int32)) hx hb dX8_fee_42 (by decide) ?_
      exact hr2 43 ls H locs (0 : Int32) hf dX8_fee_43 hh
    · replace hf := (if_pos c3).symm.trans hf
      refine lv_iconst (v := (2 : Int32)) hx hb dX8_fee_29 (by decide) ?_
      refine lv_aload_n hx hb dX8_fee_30 rfl (lv_at hl 0 rfl) ?_
      refine zget (v := .ref a4) (ref := "SumOfTwoThatStandModel") (C := RX8) (T := TX8) (N := 33) (index := 19) X hh inX8_fee_X8 0 rfl rfl 3 (by decide) mmX8_fee_1 rfl rfl dX8_fee_31 ?_
      refine lv_iload_n hx hb dX8_fee_34 rfl (lv_at hl 1 rfl) ?_
      refine ziald (f := (md_figure S)) X hh 4 rfl g1 dX8_fee_35 ?_
      refine lv_imul hx hb dX8_fee_36 ?_
      refine lv_iconst (v := (1 : Int32)) hx hb dX8_fee_37 (by decide) ?_
      refine lv_iadd hx hb dX8_fee_38 ?_
      refine lv_goto (tgt := 43) hx hb dX8_fee_39 (by decide) ?_
      exact hr2 43 ls H locs (((2 : Int32) * ((md_figure S) p1.toNatClampNeg)) + (1 : Int32)) hf dX8_fee_43 hh
  · replace hf := (if_pos c2).symm.trans hf
    refine lv_aload_n hx hb dX8_fee_10 rfl (lv_at hl 0 rfl) ?_
    refine zget (v := .ref a4) (ref := "SumOfTwoThatStandModel") (C := RX8) (T := TX8) (N := 33) (index := 19) X hh inX8_fee_X8 0 rfl rfl 3 (by decide) mmX8_fee_1 rfl rfl dX8_fee_11 ?_
    refine lv_iload_n hx hb dX8_fee_14 rfl (lv_at hl 1 rfl) ?_
    refine ziald (f := (md_figure S)) X hh 4 rfl g1 dX8_fee_15 ?_
    refine lv_goto (tgt := 43) hx hb dX8_fee_16 (by decide) ?_
    exact hr2 43 ls H locs ((md_figure S) p1.toNatClampNeg) hf dX8_fee_43 hh
def fX8_isThere_j32 (S : zMd) (v1 : Int32) (v2 : Int32) (k2 : (Int32) → Option (Int32)) : Option (Int32) :=
  k2 (v2 + (1 : Int32))
def fX8_isThere_l2 (S : zMd) (v1 : Int32) : Nat → (Int32) → Option (Int32)
  | 0, _ => none
  | n + 1, v2 =>
  if (md_houses S) ≤ v2 then
  (some (0 : Int32))
  else
  (ix 12 v2 (if ((md_stands S) v2.toNatClampNeg) = (1 : Int32) then
  (if ((md_number S) v2.toNatClampNeg) = v1 then
  (some (1 : Int32))
  else
  (fX8_isThere_j32 S v1 v2 (fX8_isThere_l2 S v1 n)))
  else
  (fX8_isThere_j32 S v1 v2 (fX8_isThere_l2 S v1 n))))
def fX8_isThere (S : zMd) (p1 : Int32) : Option (Int32) :=
  fX8_isThere_l2 S p1 FU (0 : Int32)
theorem inX8_isThere_X8 : ∀ w ∈ wsX80, w ∈ wsX8_isThere := by decide +kernel
theorem mmX8_isThere_0 : Cond.fieldLink RX8 70 "SumOfTwoThatStandModel" "houses" "I" ∈ wsX8_isThere := by decide +kernel
theorem mmX8_isThere_1 : Cond.fieldLink RX8 28 "SumOfTwoThatStandModel" "stands" "[I" ∈ wsX8_isThere := by decide +kernel
theorem mmX8_isThere_2 : Cond.fieldLink RX8 13 "SumOfTwoThatStandModel" "number" "[I" ∈ wsX8_isThere := by decide +kernel
theorem hdX8_isThere : yX8_isThere.cls ≠ "java/lang/invoke/MethodHandle" ∧ yX8_isThere.cls ≠ "java/lang/invoke/VarHandle" ∧ (parseMethodDescriptor yX8_isThere.desc).map (fun d => d.parameters.length) = some 1 := by decide +kernel
set_option maxHeartbeats 4000000 in
set_option maxRecDepth 100000 in
theorem kX8_isThere (l : Launch) (K : zK) (a0 a1 a2 a3 a4 a5 a6 a7 a8 a9 a10 a11 a12 a13 a14 a15 a16 a17 a18 a19 : Nat) (S : zMd) (p1 : Int32) (R : Int32) (hf : fX8_isThere S p1 = some R) : zC l yX8_isThere wsX8_isThere ({ frames := 0, cells := 0, slots := 0, locals := 0 } : Room) K [.ref a0, .int p1] (cMd K a0 a1 a2 a3 a4 a5 a6 a7 a8 a9 a10 a11 a12 a13 a14 a15 a16 a17 a18 a19 S) (some (.int R)) (cMd K a0 a1 a2 a3 a4 a5 a6 a7 a8 a9 a10 a11 a12 a13 a14 a15 a16 a17 a18 a19 S) := by
  refine zC_z .boolean R (cc := cX8_isThere) (maxL := 3) (by decide +kernel) rfl (Nat.le_of_ble_eq_true rfl) rfl rfl ?_
  intro p e s m below meth c Q A X hret ls hl hh
  have X : zX p m c cX8_isThere 3 s ([.ref a0, .int p1] : List Value).toArray wsX8_isThere RX8 K A := X
  have hx := X.1.1
  have hb := X.1.2.1
  have hr2 : ∀ (pc : Nat) (ls : Array Slot) (H : Heap) (locs : List Loc) (v : Int32), some v = some R → narrow .boolean (.int v) = .int v → decode cX8_isThere pc = .ok (.ireturn, 1) → zW K A s H locs (cMd K a0 a1 a2 a3 a4 a5 a6 a7 a8 a9 a10 a11 a12 a13 a14 a15 a16 a17 a18 a19 S) → W p l e ({ frames := 0, cells := 0, slots := 0, locals := 0 } : Room) s m ([.ref a0, .int p1] : List Value).toArray below meth c H locs 0 0 Q (F0 m pc ls [.int v]) := by
    intro pc ls H locs v h hn hd hh
    cases h; exact hret pc ls H locs _ rfl hn hd hh
  have hl : lv_has ls 3 [(0, .ref a0), (1, .int p1)] := hl
  have hJ32 : ∀ (v1 : Int32) (v2 : Int32) (k2 : (Int32) → Option (Int32)), (∀ (v2 : Int32) (H : Heap) (locs : List Loc) (ls : Array Slot), k2 v2 = some R → lv_has ls 3 [(0, .ref a0), (1, .int v1), (2, .int v2)] → zW K A s H locs (cMd K a0 a1 a2 a3 a4 a5 a6 a7 a8 a9 a10 a11 a12 a13 a14 a15 a16 a17 a18 a19 S) → W p l e ({ frames := 0, cells := 0, slots := 0, locals := 0 } : Room) s m ([.ref a0, .int p1] : List Value).toArray below meth c H locs 0 0 Q (F0 m 2 ls [])) → ∀ (H : Heap) (locs : List Loc) (ls : Array Slot), fX8_isThere_j32 S v1 v2 k2 = some R → lv_has ls 3 [(0, .ref a0), (1, .int v1), (2, .int v2)] → zW K A s H locs (cMd K a0 a1 a2 a3 a4 a5 a6 a7 a8 a9 a10 a11 a12 a13 a14 a15 a16 a17 a18 a19 S) → W p l e ({ frames := 0, cells := 0, slots := 0, locals := 0 } : Room) s m ([.ref a0, .int p1] : List Value).toArray below meth c H locs 0 0 Q (F0 m 32 ls []) := by
    intro v1 v2 k2 hk2 H locs ls hf hl hh
    unfold fX8_isThere_j32 at hf
    refine lv_iinc (v := (v2 + (1 : Int32))) (lv' := [(2, .int (v2 + (1 : Int32))), (0, .ref a0), (1, .int v1)]) hx hb dX8_isThere_32 hl (k := 2) rfl rfl (by decide) rfl (fun ls hl => ?_)
    refine lv_goto (tgt := 2) hx hb dX8_isThere_35 (by decide) ?_
    exact hk2 (v2 + (1 : Int32)) H locs ls hf (lv_sub hl [1, 2, 0] rfl) hh
  have hL2 : ∀ (v1 : Int32), ∀ (n : Nat) (v2 : Int32), ∀ (H : Heap) (locs : List Loc) (ls : Array Slot), fX8_isThere_l2 S v1 n v2 = some R → lv_has ls 3 [(0, .ref a0), (1, .int v1), (2, .int v2)] → zW K A s H locs (cMd K a0 a1 a2 a3 a4 a5 a6 a7 a8 a9 a10 a11 a12 a13 a14 a15 a16 a17 a18 a19 S) → W p l e ({ frames := 0, cells := 0, slots := 0, locals := 0 } : Room) s m ([.ref a0, .int p1] : List Value).toArray below meth c H locs 0 0 Q (F0 m 2 ls []) := by
    intro v1 n
    induction n with
    | zero =>
      intro v2 H locs ls hf hl hh
      rw [fX8_isThere_l2] at hf; cases hf
    | succ n ih =>
      intro v2 H locs ls hf hl hh
      rw [fX8_isThere_l2] at hf
      refine lv_iload_n hx hb dX8_isThere_2 rfl (lv_at hl 2 rfl) ?_
      refine lv_aload_n hx hb dX8_isThere_3 rfl (lv_at hl 0 rfl) ?_
      refine zget (v := .int (md_houses S)) (ref := "SumOfTwoThatStandModel") (C := RX8) (T := TX8) (N := 33) (index := 70) X hh inX8_isThere_X8 0 rfl rfl 9 (by decide) mmX8_isThere_0 rfl rfl dX8_isThere_4 ?_
      refine lv_icmp_ge (tgt := 38) hx hb dX8_isThere_7 (by decide) (fun c1 => ?_) (fun c1 => ?_)
      · replace hf := (if_pos c1).symm.trans hf
        refine lv_iconst (v := (0 : Int32)) hx hb dX8_isThere_38 (by decide) ?_
        exact hr2 39 ls H locs (0 : Int32) hf rfl dX8_isThere_39 hh
      · replace hf := (if_neg c1).symm.trans hf
        refine lv_aload_n hx hb dX8_isThere_10 rfl (lv_at hl 0 rfl) ?_
        refine zget (v := .ref a7) (ref := "SumOfTwoThatStandModel") (C := RX8) (T := TX8) (N := 33) (index := 28) X hh inX8_isThere_X8 0 rfl rfl 6 (by decide) mmX8_isThere_1 rfl rfl dX8_isThere_11 ?_
        refine lv_iload_n hx hb dX8_isThere_14 rfl (lv_at hl 2 rfl) ?_
        obtain ⟨g2, hf⟩ := ob_ix hf
        refine ziald (f := (md_stands S)) X hh 7 rfl g2 dX8_isThere_15 ?_
        refine lv_iconst (v := (1 : Int32)) hx hb dX8_isThere_16 (by decide) ?_
        refine lv_icmp_ne (tgt := 32) hx hb dX8_isThere_17 (by decide) (fun c3 => ?_) (fun c3 => ?_)
        · replace hf := (if_neg c3).symm.trans hf
          exact hJ32 v1 v2 (fX8_isThere_l2 S v1 n) (ih) H locs ls hf (lv_sub hl [0, 1, 2] rfl) hh
        · replace hf := (if_pos c3).symm.trans hf
          refine lv_aload_n hx hb dX8_isThere_20 rfl (lv_at hl 0 rfl) ?_
          refine zget (v := .ref a2) (ref := "SumOfTwoThatStandModel") (C := RX8) (T := TX8) (N := 33) (index := 13) X hh inX8_isThere_X8 0 rfl rfl 1 (by decide) mmX8_isThere_2 rfl rfl dX8_isThere_21 ?_
          refine lv_iload_n hx hb dX8_isThere_24 rfl (lv_at hl 2 rfl) ?_
          refine ziald (f := (md_number S)) X hh 2 rfl g2 dX8_isThere_25 ?_
          refine lv_iload_n hx hb dX8_isThere_26 rfl (lv_at hl 1 rfl) ?_
          refine lv_icmp_ne (tgt := 32) hx hb dX8_isThere_27 (by decide) (fun c4 => ?_) (fun c4 => ?_)
          · replace hf := (if_neg c4).symm.trans hf
            exact hJ32 v1 v2 (fX8_isThere_l2 S v1 n) (ih) H locs ls hf (lv_sub hl [0, 1, 2] rfl) hh
          · replace hf := (if_pos c4).symm.trans hf
            refine lv_iconst (v := (1 : Int32)) hx hb dX8_isThere_30 (by decide) ?_
            exact hr2 31 ls H locs (1 : Int32) hf rfl dX8_isThere_31 hh
  unfold fX8_isThere at hf
  refine (fun (hmain : ∀ (H : Heap) (locs : List Loc), zW K A s H locs (cMd K a0 a1 a2 a3 a4 a5 a6 a7 a8 a9 a10 a11 a12 a13 a14 a15 a16 a17 a18 a19 S) → W p l e ({ frames := 0, cells := 0, slots := 0, locals := 0 } : Room) s m ([.ref a0, .int p1] : List Value).toArray below meth c H locs 0 0 Q (F0 m 0 ls [])) => hmain s.heap [] hh) (fun H locs hh => ?_)
  refine lv_iconst (v := (0 : Int32)) hx hb dX8_isThere_0 (by decide) ?_
  refine lv_istore_n (lv' := [(2, .int (0 : Int32)), (0, .ref a0), (1, .int p1)]) hx hb dX8_isThere_1 rfl hl (by decide) rfl (fun ls hl => ?_)
  exact hL2 p1 FU (0 : Int32) H locs ls hf (lv_sub hl [1, 2, 0] rfl) hh
def fX8_latest_j28 (S : zMd) (v2 : Int32) (t0 : Int32) (k5 : (Int32) → (Int32) → Option (Int32)) : Option (Int32) :=
  k5 t0 (v2 + (1 : Int32))
def fX8_latest_l5 (S : zMd) : Nat → (Int32) → (Int32) → Option (Int32)
  | 0, _, _ => none
  | n + 1, v1, v2 =>
  if (md_houses S) ≤ v2 then
  (some v1)
  else
  (ix 12 v2 (if ((md_stands S) v2.toNatClampNeg) = (1 : Int32) then
  (fX8_latest_j28 S v2 v2 (fX8_latest_l5 S n))
  else
  (fX8_latest_j28 S v2 v1 (fX8_latest_l5 S n))))
def fX8_latest (S : zMd) : Option (Int32) :=
  fX8_latest_l5 S FU (-9 : Int32) (0 : Int32)
theorem inX8_latest_X8 : ∀ w ∈ wsX80, w ∈ wsX8_latest := by decide +kernel
theorem mmX8_latest_0 : Cond.fieldLink RX8 70 "SumOfTwoThatStandModel" "houses" "I" ∈ wsX8_latest := by decide +kernel
theorem mmX8_latest_1 : Cond.fieldLink RX8 28 "SumOfTwoThatStandModel" "stands" "[I" ∈ wsX8_latest := by decide +kernel
theorem hdX8_latest : yX8_latest.cls ≠ "java/lang/invoke/MethodHandle" ∧ yX8_latest.cls ≠ "java/lang/invoke/VarHandle" ∧ (parseMethodDescriptor yX8_latest.desc).map (fun d => d.parameters.length) = some 0 := by decide +kernel
set_option maxHeartbeats 4000000 in
set_option maxRecDepth 100000 in
theorem kX8_latest (l : Launch) (K : zK) (a0 a1 a2 a3 a4 a5 a6 a7 a8 a9 a10 a11 a12 a13 a14 a15 a16 a17 a18 a19 : Nat) (S : zMd) (R : Int32) (hf : fX8_latest S = some R) : zC l yX8_latest wsX8_latest ({ frames := 0, cells := 0, slots := 0, locals := 0 } : Room) K [.ref a0] (cMd K a0 a1 a2 a3 a4 a5 a6 a7 a8 a9 a10 a11 a12 a13 a14 a15 a16 a17 a18 a19 S) (some (.int R)) (cMd K a0 a1 a2 a3 a4 a5 a6 a7 a8 a9 a10 a11 a12 a13 a14 a15 a16 a17 a18 a19 S) := by
  refine zC_i R (cc := cX8_latest) (maxL := 3) (by decide +kernel) rfl (Nat.le_of_ble_eq_true rfl) rfl rfl ?_
  intro p e s m below meth c Q A X hret ls hl hh
  have X : zX p m c cX8_latest 3 s ([.ref a0] : List Value).toArray wsX8_latest RX8 K A := X
  have hx := X.1.1
  have hb := X.1.2.1
  have hr2 : ∀ (pc : Nat) (ls : Array Slot) (H : Heap) (locs : List Loc) (v : Int32), some v = some R → decode cX8_latest pc = .ok (.ireturn, 1) → zW K A s H locs (cMd K a0 a1 a2 a3 a4 a5 a6 a7 a8 a9 a10 a11 a12 a13 a14 a15 a16 a17 a18 a19 S) → W p l e ({ frames := 0, cells := 0, slots := 0, locals := 0 } : Room) s m ([.ref a0] : List Value).toArray below meth c H locs 0 0 Q (F0 m pc ls [.int v]) := by
    intro pc ls H locs v h hd hh
    cases h; exact hret pc ls H locs _ rfl hd hh
  have hl : lv_has ls 3 [(0, .ref a0)] := hl
  have hJ28 : ∀ (v2 : Int32) (t0 : Int32) (k5 : (Int32) → (Int32) → Option (Int32)), (∀ (v1 : Int32) (v2 : Int32) (H : Heap) (locs : List Loc) (ls : Array Slot), k5 v1 v2 = some R → lv_has ls 3 [(0, .ref a0), (1, .int v1), (2, .int v2)] → zW K A s H locs (cMd K a0 a1 a2 a3 a4 a5 a6 a7 a8 a9 a10 a11 a12 a13 a14 a15 a16 a17 a18 a19 S) → W p l e ({ frames := 0, cells := 0, slots := 0, locals := 0 } : Room) s m ([.ref a0] : List Value).toArray below meth c H locs 0 0 Q (F0 m 5 ls [])) → ∀ (H : Heap) (locs : List Loc) (ls : Array Slot), fX8_latest_j28 S v2 t0 k5 = some R → lv_has ls 3 [(0, .ref a0), (2, .int v2)] → zW K A s H locs (cMd K a0 a1 a2 a3 a4 a5 a6 a7 a8 a9 a10 a11 a12 a13 a14 a15 a16 a17 a18 a19 S) → W p l e ({ frames := 0, cells := 0, slots := 0, locals := 0 } : Room) s m ([.ref a0] : List Value).toArray below meth c H locs 0 0 Q (F0 m 28 ls [.int t0]) := by
    intro v2 t0 k5 hk5 H locs ls hf hl hh
    unfold fX8_latest_j28 at hf
    refine lv_istore_n (lv' := [(1, .int t0), (0, .ref a0), (2, .int v2)]) hx hb dX8_latest_28 rfl hl (by decide) rfl (fun ls hl => ?_)
    refine lv_iinc (v := (v2 + (1 : Int32))) (lv' := [(2, .int (v2 + (1 : Int32))), (1, .int t0), (0, .ref a0)]) hx hb dX8_latest_29 hl (k := 2) rfl rfl (by decide) rfl (fun ls hl => ?_)
    refine lv_goto (tgt := 5) hx hb dX8_latest_32 (by decide) ?_
    exact hk5 t0 (v2 + (1 : Int32)) H locs ls hf (lv_sub hl [2, 1, 0] rfl) hh
  have hL5 : ∀ (n : Nat) (v1 : Int32) (v2 : Int32), ∀ (H : Heap) (locs : List Loc) (ls : Array Slot), fX8_latest_l5 S n v1 v2 = some R → lv_has ls 3 [(0, .ref a0), (1, .int v1), (2, .int v2)] → zW K A s H locs (cMd K a0 a1 a2 a3 a4 a5 a6 a7 a8 a9 a10 a11 a12 a13 a14 a15 a16 a17 a18 a19 S) → W p l e ({ frames := 0, cells := 0, slots := 0, locals := 0 } : Room) s m ([.ref a0] : List Value).toArray below meth c H locs 0 0 Q (F0 m 5 ls []) := by
    intro n
    induction n with
    | zero =>
      intro v1 v2 H locs ls hf hl hh
      rw [fX8_latest_l5] at hf; cases hf
    | succ n ih =>
      intro v1 v2 H locs ls hf hl hh
      rw [fX8_latest_l5] at hf
      refine lv_iload_n hx hb dX8_latest_5 rfl (lv_at hl 2 rfl) ?_
      refine lv_aload_n hx hb dX8_latest_6 rfl (lv_at hl 0 rfl) ?_
      refine zget (v := .int (md_houses S)) (ref := "SumOfTwoThatStandModel") (C := RX8) (T := TX8) (N := 33) (index := 70) X hh inX8_latest_X8 0 rfl rfl 9 (by decide) mmX8_latest_0 rfl rfl dX8_latest_7 ?_
      refine lv_icmp_ge (tgt := 35) hx hb dX8_latest_10 (by decide) (fun c1 => ?_) (fun c1 => ?_)
      · replace hf := (if_pos c1).symm.trans hf
        refine lv_iload_n hx hb dX8_latest_35 rfl (lv_at hl 1 rfl) ?_
        exact hr2 36 ls H locs v1 hf dX8_latest_36 hh
      · replace hf := (if_neg c1).symm.trans hf
        refine lv_aload_n hx hb dX8_latest_13 rfl (lv_at hl 0 rfl) ?_
        refine zget (v := .ref a7) (ref := "SumOfTwoThatStandModel") (C := RX8) (T := TX8) (N := 33) (index := 28) X hh inX8_latest_X8 0 rfl rfl 6 (by decide) mmX8_latest_1 rfl rfl dX8_latest_14 ?_
        refine lv_iload_n hx hb dX8_latest_17 rfl (lv_at hl 2 rfl) ?_
        obtain ⟨g2, hf⟩ := ob_ix hf
        refine ziald (f := (md_stands S)) X hh 7 rfl g2 dX8_latest_18 ?_
        refine lv_iconst (v := (1 : Int32)) hx hb dX8_latest_19 (by decide) ?_
        refine lv_icmp_ne (tgt := 27) hx hb dX8_latest_20 (by decide) (fun c3 => ?_) (fun c3 => ?_)
        · replace hf := (if_neg c3).symm.trans hf
          refine lv_iload_n hx hb dX8_latest_27 rfl (lv_at hl 1 rfl) ?_
          exact hJ28 v2 v1 (fX8_latest_l5 S n) (ih) H locs ls hf (lv_sub hl [0, 2] rfl) hh
        · replace hf := (if_pos c3).symm.trans hf
          refine lv_iload_n hx hb dX8_latest_23 rfl (lv_at hl 2 rfl) ?_
          refine lv_goto (tgt := 28) hx hb dX8_latest_24 (by decide) ?_
          exact hJ28 v2 v2 (fX8_latest_l5 S n) (ih) H locs ls hf (lv_sub hl [0, 2] rfl) hh
  unfold fX8_latest at hf
  refine (fun (hmain : ∀ (H : Heap) (locs : List Loc), zW K A s H locs (cMd K a0 a1 a2 a3 a4 a5 a6 a7 a8 a9 a10 a11 a12 a13 a14 a15 a16 a17 a18 a19 S) → W p l e ({ frames := 0, cells := 0, slots := 0, locals := 0 } : Room) s m ([.ref a0] : List Value).toArray below meth c H locs 0 0 Q (F0 m 0 ls [])) => hmain s.heap [] hh) (fun H locs hh => ?_)
  refine lv_bipush (v := (-9 : Int32)) hx hb dX8_latest_0 (by decide) ?_
  refine lv_istore_n (lv' := [(1, .int (-9 : Int32)), (0, .ref a0)]) hx hb dX8_latest_2 rfl hl (by decide) rfl (fun ls hl => ?_)
  refine lv_iconst (v := (0 : Int32)) hx hb dX8_latest_3 (by decide) ?_
  refine lv_istore_n (lv' := [(2, .int (0 : Int32)), (1, .int (-9 : Int32)), (0, .ref a0)]) hx hb dX8_latest_4 rfl hl (by decide) rfl (fun ls hl => ?_)
  exact hL5 FU (-9 : Int32) (0 : Int32) H locs ls hf (lv_sub hl [2, 1, 0] rfl) hh
def fX8_isLawful (S : zMd) (p1 : Int32) (p2 : Int32) : Option (Int32) :=
  if (md_sums S) = (2 : Int32) then
  (if p1 = p2 then
  (some (1 : Int32))
  else
  (some (0 : Int32)))
  else
  (if (md_sums S) = (1 : Int32) then
  ((fX8_latest S).bind fun u3 =>
  if p1 = u3 then
  (some (1 : Int32))
  else
  ((fX8_latest S).bind fun u5 =>
  if p2 = u5 then
  (some (1 : Int32))
  else
  (some (0 : Int32))))
  else
  (some (1 : Int32)))
theorem inX8_isLawful_X8 : ∀ w ∈ wsX80, w ∈ wsX8_isLawful := by decide +kernel
theorem mmX8_isLawful_0 : Cond.fieldLink RX8 86 "SumOfTwoThatStandModel" "sums" "I" ∈ wsX8_isLawful := by decide +kernel
theorem hdX8_isLawful : yX8_isLawful.cls ≠ "java/lang/invoke/MethodHandle" ∧ yX8_isLawful.cls ≠ "java/lang/invoke/VarHandle" ∧ (parseMethodDescriptor yX8_isLawful.desc).map (fun d => d.parameters.length) = some 2 := by decide +kernel
set_option maxHeartbeats 4000000 in
set_option maxRecDepth 100000 in
theorem kX8_isLawful (l : Launch) (K : zK) (a0 a1 a2 a3 a4 a5 a6 a7 a8 a9 a10 a11 a12 a13 a14 a15 a16 a17 a18 a19 : Nat) (S : zMd) (p1 : Int32) (p2 : Int32) (R : Int32) (hf : fX8_isLawful S p1 p2 = some R) : zC l yX8_isLawful wsX8_isLawful ({ frames := 1, cells := 0, slots := 0, locals := 22 } : Room) K [.ref a0, .int p1, .int p2] (cMd K a0 a1 a2 a3 a4 a5 a6 a7 a8 a9 a10 a11 a12 a13 a14 a15 a16 a17 a18 a19 S) (some (.int R)) (cMd K a0 a1 a2 a3 a4 a5 a6 a7 a8 a9 a10 a11 a12 a13 a14 a15 a16 a17 a18 a19 S) := by
  refine zC_z .boolean R (cc := cX8_isLawful) (maxL := 3) (by decide +kernel) rfl (Nat.le_of_ble_eq_true rfl) rfl rfl ?_
  intro p e s m below meth c Q A X hret ls hl hh
  have X : zX p m c cX8_isLawful 3 s ([.ref a0, .int p1, .int p2] : List Value).toArray wsX8_isLawful RX8 K A := X
  have hx := X.1.1
  have hb := X.1.2.1
  have hr2 : ∀ (pc : Nat) (ls : Array Slot) (H : Heap) (locs : List Loc) (v : Int32), some v = some R → narrow .boolean (.int v) = .int v → decode cX8_isLawful pc = .ok (.ireturn, 1) → zW K A s H locs (cMd K a0 a1 a2 a3 a4 a5 a6 a7 a8 a9 a10 a11 a12 a13 a14 a15 a16 a17 a18 a19 S) → W p l e ({ frames := 1, cells := 0, slots := 0, locals := 22 } : Room) s m ([.ref a0, .int p1, .int p2] : List Value).toArray below meth c H locs 0 0 Q (F0 m pc ls [.int v]) := by
    intro pc ls H locs v h hn hd hh
    cases h; exact hret pc ls H locs _ rfl hn hd hh
  have hl : lv_has ls 3 [(0, .ref a0), (1, .int p1), (2, .int p2)] := hl
  unfold fX8_isLawful at hf
  refine (fun (hmain : ∀ (H : Heap) (locs : List Loc), zW K A s H locs (cMd K a0 a1 a2 a3 a4 a5 a6 a7 a8 a9 a10 a11 a12 a13 a14 a15 a16 a17 a18 a19 S) → W p l e ({ frames := 1, cells := 0, slots := 0, locals := 22 } : Room) s m ([.ref a0, .int p1, .int p2] : List Value).toArray below meth c H locs 0 0 Q (F0 m 0 ls [])) => hmain s.heap [] hh) (fun H locs hh => ?_)
  refine lv_aload_n hx hb dX8_isLawful_0 rfl (lv_at hl 0 rfl) ?_
  refine zget (v := .int (md_sums S)) (ref := "SumOfTwoThatStandModel") (C := RX8) (T := TX8) (N := 33) (index := 86) X hh inX8_isLawful_X8 0 rfl rfl 10 (by decide) mmX8_isLawful_0 rfl rfl dX8_isLawful_1 ?_
  refine lv_iconst (v := (2 : Int32)) hx hb dX8_isLawful_4 (by decide) ?_
  refine lv_icmp_ne (tgt := 19) hx hb dX8_isLawful_5 (by decide) (fun c1 => ?_) (fun c1 => ?_)
  · replace hf := (if_neg c1).symm.trans hf
    refine lv_aload_n hx hb dX8_isLawful_19 rfl (lv_at hl 0 rfl) ?_
    refine zget (v := .int (md_sums S)) (ref := "SumOfTwoThatStandModel") (C := RX8) (T := TX8) (N := 33) (index := 86) X hh inX8_isLawful_X8 0 rfl rfl 10 (by decide) mmX8_isLawful_0 rfl rfl dX8_isLawful_20 ?_
    refine lv_iconst (v := (1 : Int32)) hx hb dX8_isLawful_23 (by decide) ?_
    refine lv_icmp_ne (tgt := 43) hx hb dX8_isLawful_24 (by decide) (fun c2 => ?_) (fun c2 => ?_)
    · replace hf := (if_neg c2).symm.trans hf
      refine lv_iconst (v := (1 : Int32)) hx hb dX8_isLawful_43 (by decide) ?_
      refine lv_goto (tgt := 48) hx hb dX8_isLawful_44 (by decide) ?_
      exact hr2 48 ls H locs (1 : Int32) hf rfl dX8_isLawful_48 hh
    · replace hf := (if_pos c2).symm.trans hf
      refine lv_iload_n hx hb dX8_isLawful_27 rfl (lv_at hl 1 rfl) ?_
      refine lv_aload_n hx hb dX8_isLawful_28 rfl (lv_at hl 0 rfl) ?_
      obtain ⟨u3, hu3, hf⟩ := ob_bind hf
      refine zcallV (ci := 7) (q0 := 0) (As := []) (rest := [.int p1]) (wr := []) (ws' := cMd K a0 a1 a2 a3 a4 a5 a6 a7 a8 a9 a10 a11 a12 a13 a14 a15 a16 a17 a18 a19 S) (ov := some (.int u3)) X hh hl (kX8_latest l K a0 a1 a2 a3 a4 a5 a6 a7 a8 a9 a10 a11 a12 a13 a14 a15 a16 a17 a18 a19 S u3 hu3) (fun ht => cwV 0 ht gX8_isLawful_X8_latest rfl rfl rfl ⟨rfl, hdX8_latest⟩ ⟨Nat.le_of_ble_eq_true rfl, Nat.le_of_ble_eq_true rfl⟩) [0, 1, 2, 3, 4, 5, 6, 7, 8, 9, 10, 11, 12, 13, 14, 15, 16, 17, 18, 19] [] [0, 1, 2, 3, 4, 5, 6, 7, 8, 9, 10, 11, 12, 13, 14, 15, 16, 17, 18, 19] rfl rfl rfl rfl (by decide) rfl rfl rfl rfl rfl rfl (Nat.le_of_ble_eq_true rfl) dX8_isLawful_29 ⟨Nat.zero_le _, Nat.zero_le _⟩ (fun H locs hh => ?_)
      refine lv_icmp_eq (tgt := 43) hx hb dX8_isLawful_32 (by decide) (fun c4 => ?_) (fun c4 => ?_)
      · replace hf := (if_pos c4).symm.trans hf
        refine lv_iconst (v := (1 : Int32)) hx hb dX8_isLawful_43 (by decide) ?_
        refine lv_goto (tgt := 48) hx hb dX8_isLawful_44 (by decide) ?_
        exact hr2 48 ls H locs (1 : Int32) hf rfl dX8_isLawful_48 hh
      · replace hf := (if_neg c4).symm.trans hf
        refine lv_iload_n hx hb dX8_isLawful_35 rfl (lv_at hl 2 rfl) ?_
        refine lv_aload_n hx hb dX8_isLawful_36 rfl (lv_at hl 0 rfl) ?_
        obtain ⟨u5, hu5, hf⟩ := ob_bind hf
        refine zcallV (ci := 7) (q0 := 0) (As := []) (rest := [.int p2]) (wr := []) (ws' := cMd K a0 a1 a2 a3 a4 a5 a6 a7 a8 a9 a10 a11 a12 a13 a14 a15 a16 a17 a18 a19 S) (ov := some (.int u5)) X hh hl (kX8_latest l K a0 a1 a2 a3 a4 a5 a6 a7 a8 a9 a10 a11 a12 a13 a14 a15 a16 a17 a18 a19 S u5 hu5) (fun ht => cwV 0 ht gX8_isLawful_X8_latest rfl rfl rfl ⟨rfl, hdX8_latest⟩ ⟨Nat.le_of_ble_eq_true rfl, Nat.le_of_ble_eq_true rfl⟩) [0, 1, 2, 3, 4, 5, 6, 7, 8, 9, 10, 11, 12, 13, 14, 15, 16, 17, 18, 19] [] [0, 1, 2, 3, 4, 5, 6, 7, 8, 9, 10, 11, 12, 13, 14, 15, 16, 17, 18, 19] rfl rfl rfl rfl (by decide) rfl rfl rfl rfl rfl rfl (Nat.le_of_ble_eq_true rfl) dX8_isLawful_37 ⟨Nat.zero_le _, Nat.zero_le _⟩ (fun H locs hh => ?_)
        refine lv_icmp_ne (tgt := 47) hx hb dX8_isLawful_40 (by decide) (fun c6 => ?_) (fun c6 => ?_)
        · replace hf := (if_neg c6).symm.trans hf
          refine lv_iconst (v := (0 : Int32)) hx hb dX8_isLawful_47 (by decide) ?_
          exact hr2 48 ls H locs (0 : Int32) hf rfl dX8_isLawful_48 hh
        · replace hf := (if_pos c6).symm.trans hf
          refine lv_iconst (v := (1 : Int32)) hx hb dX8_isLawful_43 (by decide) ?_
          refine lv_goto (tgt := 48) hx hb dX8_isLawful_44 (by decide) ?_
          exact hr2 48 ls H locs (1 : Int32) hf rfl dX8_isLawful_48 hh
  · replace hf := (if_pos c1).symm.trans hf
    refine lv_iload_n hx hb dX8_isLawful_8 rfl (lv_at hl 1 rfl) ?_
    refine lv_iload_n hx hb dX8_isLawful_9 rfl (lv_at hl 2 rfl) ?_
    refine lv_icmp_ne (tgt := 17) hx hb dX8_isLawful_10 (by decide) (fun c7 => ?_) (fun c7 => ?_)
    · replace hf := (if_neg c7).symm.trans hf
      refine lv_iconst (v := (0 : Int32)) hx hb dX8_isLawful_17 (by decide) ?_
      exact hr2 18 ls H locs (0 : Int32) hf rfl dX8_isLawful_18 hh
    · replace hf := (if_pos c7).symm.trans hf
      refine lv_iconst (v := (1 : Int32)) hx hb dX8_isLawful_13 (by decide) ?_
      refine lv_goto (tgt := 18) hx hb dX8_isLawful_14 (by decide) ?_
      exact hr2 18 ls H locs (1 : Int32) hf rfl dX8_isLawful_18 hh
def fX8_mayBe (S : zMd) (p1 : Int32) (p2 : Int32) : Option (Int32) :=
  ix 12 p1 (ix 12 p2 ((fX8_lends S p1 (((md_number S) p1.toNatClampNeg) + ((md_number S) p2.toNatClampNeg))).bind fun u3 =>
  if u3 = (0 : Int32) then
  (some (0 : Int32))
  else
  ((fX8_lends S p2 (((md_number S) p1.toNatClampNeg) + ((md_number S) p2.toNatClampNeg))).bind fun u5 =>
  if u5 = (0 : Int32) then
  (some (0 : Int32))
  else
  (if (9999 : Int32) < (((md_number S) p1.toNatClampNeg) + ((md_number S) p2.toNatClampNeg)) then
  (some (0 : Int32))
  else
  ((fX8_isThere S (((md_number S) p1.toNatClampNeg) + ((md_number S) p2.toNatClampNeg))).bind fun u8 =>
  if u8 = (0 : Int32) then
  ((fX8_isLawful S p1 p2).bind fun u10 =>
  if u10 = (0 : Int32) then
  (some (0 : Int32))
  else
  (some (1 : Int32)))
  else
  (some (0 : Int32)))))))
theorem inX8_mayBe_X8 : ∀ w ∈ wsX80, w ∈ wsX8_mayBe := by decide +kernel
theorem mmX8_mayBe_0 : Cond.fieldLink RX8 13 "SumOfTwoThatStandModel" "number" "[I" ∈ wsX8_mayBe := by decide +kernel
theorem hdX8_mayBe : yX8_mayBe.cls ≠ "java/lang/invoke/MethodHandle" ∧ yX8_mayBe.cls ≠ "java/lang/invoke/VarHandle" ∧ (parseMethodDescriptor yX8_mayBe.desc).map (fun d => d.parameters.length) = some 2 := by decide +kernel
set_option maxHeartbeats 4000000 in
set_option maxRecDepth 100000 in
theorem kX8_mayBe (l : Launch) (K : zK) (a0 a1 a2 a3 a4 a5 a6 a7 a8 a9 a10 a11 a12 a13 a14 a15 a16 a17 a18 a19 : Nat) (S : zMd) (p1 : Int32) (p2 : Int32) (R : Int32) (hf : fX8_mayBe S p1 p2 = some R) : zC l yX8_mayBe wsX8_mayBe ({ frames := 2, cells := 0, slots := 0, locals := 44 } : Room) K [.ref a0, .int p1, .int p2] (cMd K a0 a1 a2 a3 a4 a5 a6 a7 a8 a9 a10 a11 a12 a13 a14 a15 a16 a17 a18 a19 S) (some (.int R)) (cMd K a0 a1 a2 a3 a4 a5 a6 a7 a8 a9 a10 a11 a12 a13 a14 a15 a16 a17 a18 a19 S) := by
  refine zC_z .boolean R (cc := cX8_mayBe) (maxL := 4) (by decide +kernel) rfl (Nat.le_of_ble_eq_true rfl) rfl rfl ?_
  intro p e s m below meth c Q A X hret ls hl hh
  have X : zX p m c cX8_mayBe 4 s ([.ref a0, .int p1, .int p2] : List Value).toArray wsX8_mayBe RX8 K A := X
  have hx := X.1.1
  have hb := X.1.2.1
  have hr2 : ∀ (pc : Nat) (ls : Array Slot) (H : Heap) (locs : List Loc) (v : Int32), some v = some R → narrow .boolean (.int v) = .int v → decode cX8_mayBe pc = .ok (.ireturn, 1) → zW K A s H locs (cMd K a0 a1 a2 a3 a4 a5 a6 a7 a8 a9 a10 a11 a12 a13 a14 a15 a16 a17 a18 a19 S) → W p l e ({ frames := 2, cells := 0, slots := 0, locals := 44 } : Room) s m ([.ref a0, .int p1, .int p2] : List Value).toArray below meth c H locs 0 0 Q (F0 m pc ls [.int v]) := by
    intro pc ls H locs v h hn hd hh
    cases h; exact hret pc ls H locs _ rfl hn hd hh
  have hl : lv_has ls 4 [(0, .ref a0), (1, .int p1), (2, .int p2)] := hl
  unfold fX8_mayBe at hf
  refine (fun (hmain : ∀ (H : Heap) (locs : List Loc), zW K A s H locs (cMd K a0 a1 a2 a3 a4 a5 a6 a7 a8 a9 a10 a11 a12 a13 a14 a15 a16 a17 a18 a19 S) → W p l e ({ frames := 2, cells := 0, slots := 0, locals := 44 } : Room) s m ([.ref a0, .int p1, .int p2] : List Value).toArray below meth c H locs 0 0 Q (F0 m 0 ls [])) => hmain s.heap [] hh) (fun H locs hh => ?_)
  refine lv_aload_n hx hb dX8_mayBe_0 rfl (lv_at hl 0 rfl) ?_
  refine zget (v := .ref a2) (ref := "SumOfTwoThatStandModel") (C := RX8) (T := TX8) (N := 33) (index := 13) X hh inX8_mayBe_X8 0 rfl rfl 1 (by decide) mmX8_mayBe_0 rfl rfl dX8_mayBe_1 ?_
  refine lv_iload_n hx hb dX8_mayBe_4 rfl (lv_at hl 1 rfl) ?_
  obtain ⟨g1, hf⟩ := ob_ix hf
  refine ziald (f := (md_number S)) X hh 2 rfl g1 dX8_mayBe_5 ?_
  refine lv_aload_n hx hb dX8_mayBe_6 rfl (lv_at hl 0 rfl) ?_
  refine zget (v := .ref a2) (ref := "SumOfTwoThatStandModel") (C := RX8) (T := TX8) (N := 33) (index := 13) X hh inX8_mayBe_X8 0 rfl rfl 1 (by decide) mmX8_mayBe_0 rfl rfl dX8_mayBe_7 ?_
  refine lv_iload_n hx hb dX8_mayBe_10 rfl (lv_at hl 2 rfl) ?_
  obtain ⟨g2, hf⟩ := ob_ix hf
  refine ziald (f := (md_number S)) X hh 2 rfl g2 dX8_mayBe_11 ?_
  refine lv_iadd hx hb dX8_mayBe_12 ?_
  refine lv_istore_n (lv' := [(3, .int (((md_number S) p1.toNatClampNeg) + ((md_number S) p2.toNatClampNeg))), (0, .ref a0), (1, .int p1), (2, .int p2)]) hx hb dX8_mayBe_13 rfl hl (by decide) rfl (fun ls hl => ?_)
  refine lv_aload_n hx hb dX8_mayBe_14 rfl (lv_at hl 1 rfl) ?_
  refine lv_iload_n hx hb dX8_mayBe_15 rfl (lv_at hl 2 rfl) ?_
  refine lv_iload_n hx hb dX8_mayBe_16 rfl (lv_at hl 0 rfl) ?_
  obtain ⟨u3, hu3, hf⟩ := ob_bind hf
  refine zcallV (ci := 7) (q0 := 0) (As := [.int p1, .int (((md_number S) p1.toNatClampNeg) + ((md_number S) p2.toNatClampNeg))]) (rest := []) (wr := []) (ws' := cMd K a0 a1 a2 a3 a4 a5 a6 a7 a8 a9 a10 a11 a12 a13 a14 a15 a16 a17 a18 a19 S) (ov := some (.int u3)) X hh hl (kX8_lends l K a0 a1 a2 a3 a4 a5 a6 a7 a8 a9 a10 a11 a12 a13 a14 a15 a16 a17 a18 a19 S p1 (((md_number S) p1.toNatClampNeg) + ((md_number S) p2.toNatClampNeg)) u3 hu3) (fun ht => cwV 2 ht gX8_mayBe_X8_lends rfl rfl rfl ⟨rfl, hdX8_lends⟩ ⟨Nat.le_of_ble_eq_true rfl, Nat.le_of_ble_eq_true rfl⟩) [0, 1, 2, 3, 4, 5, 6, 7, 8, 9, 10, 11, 12, 13, 14, 15, 16, 17, 18, 19] [] [0, 1, 2, 3, 4, 5, 6, 7, 8, 9, 10, 11, 12, 13, 14, 15, 16, 17, 18, 19] rfl rfl rfl rfl (by decide) rfl rfl rfl rfl rfl rfl (Nat.le_of_ble_eq_true rfl) dX8_mayBe_17 ⟨Nat.zero_le _, Nat.zero_le _⟩ (fun H locs hh => ?_)
  refine lv_if_eq (tgt := 60) hx hb dX8_mayBe_20 (by decide) (fun c4 => ?_) (fun c4 => ?_)
  · replace hf := (if_pos c4).symm.trans hf
    refine lv_iconst (v := (0 : Int32)) hx hb dX8_mayBe_60 (by decide) ?_
    exact hr2 61 ls H locs (0 : Int32) hf rfl dX8_mayBe_61 hh
  · replace hf := (if_neg c4).symm.trans hf
    refine lv_aload_n hx hb dX8_mayBe_23 rfl (lv_at hl 1 rfl) ?_
    refine lv_iload_n hx hb dX8_mayBe_24 rfl (lv_at hl 3 rfl) ?_
    refine lv_iload_n hx hb dX8_mayBe_25 rfl (lv_at hl 0 rfl) ?_
    obtain ⟨u5, hu5, hf⟩ := ob_bind hf
    refine zcallV (ci := 7) (q0 := 0) (As := [.int p2, .int (((md_number S) p1.toNatClampNeg) + ((md_number S) p2.toNatClampNeg))]) (rest := []) (wr := []) (ws' := cMd K a0 a1 a2 a3 a4 a5 a6 a7 a8 a9 a10 a11 a12 a13 a14 a15 a16 a17 a18 a19 S) (ov := some (.int u5)) X hh hl (kX8_lends l K a0 a1 a2 a3 a4 a5 a6 a7 a8 a9 a10 a11 a12 a13 a14 a15 a16 a17 a18 a19 S p2 (((md_number S) p1.toNatClampNeg) + ((md_number S) p2.toNatClampNeg)) u5 hu5) (fun ht => cwV 2 ht gX8_mayBe_X8_lends rfl rfl rfl ⟨rfl, hdX8_lends⟩ ⟨Nat.le_of_ble_eq_true rfl, Nat.le_of_ble_eq_true rfl⟩) [0, 1, 2, 3, 4, 5, 6, 7, 8, 9, 10, 11, 12, 13, 14, 15, 16, 17, 18, 19] [] [0, 1, 2, 3, 4, 5, 6, 7, 8, 9, 10, 11, 12, 13, 14, 15, 16, 17, 18, 19] rfl rfl rfl rfl (by decide) rfl rfl rfl rfl rfl rfl (Nat.le_of_ble_eq_true rfl) dX8_mayBe_26 ⟨Nat.zero_le _, Nat.zero_le _⟩ (fun H locs hh => ?_)
    refine lv_if_eq (tgt := 60) hx hb dX8_mayBe_29 (by decide) (fun c6 => ?_) (fun c6 => ?_)
    · replace hf := (if_pos c6).symm.trans hf
      refine lv_iconst (v := (0 : Int32)) hx hb dX8_mayBe_60 (by decide) ?_
      exact hr2 61 ls H locs (0 : Int32) hf rfl dX8_mayBe_61 hh
    · replace hf := (if_neg c6).symm.trans hf
      refine lv_iload_n hx hb dX8_mayBe_32 rfl (lv_at hl 0 rfl) ?_
      refine lv_sipush (v := (9999 : Int32)) hx hb dX8_mayBe_33 (by decide) ?_
      refine lv_icmp_gt (tgt := 60) hx hb dX8_mayBe_36 (by decide) (fun c7 => ?_) (fun c7 => ?_)
      · replace hf := (if_pos c7).symm.trans hf
        refine lv_iconst (v := (0 : Int32)) hx hb dX8_mayBe_60 (by decide) ?_
        exact hr2 61 ls H locs (0 : Int32) hf rfl dX8_mayBe_61 hh
      · replace hf := (if_neg c7).symm.trans hf
        refine lv_aload_n hx hb dX8_mayBe_39 rfl (lv_at hl 1 rfl) ?_
        refine lv_iload_n hx hb dX8_mayBe_40 rfl (lv_at hl 0 rfl) ?_
        obtain ⟨u8, hu8, hf⟩ := ob_bind hf
        refine zcallV (ci := 7) (q0 := 0) (As := [.int (((md_number S) p1.toNatClampNeg) + ((md_number S) p2.toNatClampNeg))]) (rest := []) (wr := []) (ws' := cMd K a0 a1 a2 a3 a4 a5 a6 a7 a8 a9 a10 a11 a12 a13 a14 a15 a16 a17 a18 a19 S) (ov := some (.int u8)) X hh hl (kX8_isThere l K a0 a1 a2 a3 a4 a5 a6 a7 a8 a9 a10 a11 a12 a13 a14 a15 a16 a17 a18 a19 S (((md_number S) p1.toNatClampNeg) + ((md_number S) p2.toNatClampNeg)) u8 hu8) (fun ht => cwV 1 ht gX8_mayBe_X8_isThere rfl rfl rfl ⟨rfl, hdX8_isThere⟩ ⟨Nat.le_of_ble_eq_true rfl, Nat.le_of_ble_eq_true rfl⟩) [0, 1, 2, 3, 4, 5, 6, 7, 8, 9, 10, 11, 12, 13, 14, 15, 16, 17, 18, 19] [] [0, 1, 2, 3, 4, 5, 6, 7, 8, 9, 10, 11, 12, 13, 14, 15, 16, 17, 18, 19] rfl rfl rfl rfl (by decide) rfl rfl rfl rfl rfl rfl (Nat.le_of_ble_eq_true rfl) dX8_mayBe_41 ⟨Nat.zero_le _, Nat.zero_le _⟩ (fun H locs hh => ?_)
        refine lv_if_ne (tgt := 60) hx hb dX8_mayBe_44 (by decide) (fun c9 => ?_) (fun c9 => ?_)
        · replace hf := (if_neg c9).symm.trans hf
          refine lv_iconst (v := (0 : Int32)) hx hb dX8_mayBe_60 (by decide) ?_
          exact hr2 61 ls H locs (0 : Int32) hf rfl dX8_mayBe_61 hh
        · replace hf := (if_pos c9).symm.trans hf
          refine lv_aload_n hx hb dX8_mayBe_47 rfl (lv_at hl 1 rfl) ?_
          refine lv_iload_n hx hb dX8_mayBe_48 rfl (lv_at hl 2 rfl) ?_
          refine lv_iload_n hx hb dX8_mayBe_49 rfl (lv_at hl 3 rfl) ?_
          obtain ⟨u10, hu10, hf⟩ := ob_bind hf
          refine zcallV (ci := 7) (q0 := 0) (As := [.int p1, .int p2]) (rest := []) (wr := []) (ws' := cMd K a0 a1 a2 a3 a4 a5 a6 a7 a8 a9 a10 a11 a12 a13 a14 a15 a16 a17 a18 a19 S) (ov := some (.int u10)) X hh hl (kX8_isLawful l K a0 a1 a2 a3 a4 a5 a6 a7 a8 a9 a10 a11 a12 a13 a14 a15 a16 a17 a18 a19 S p1 p2 u10 hu10) (fun ht => cwV 2 ht gX8_mayBe_X8_isLawful rfl rfl rfl ⟨rfl, hdX8_isLawful⟩ ⟨Nat.le_of_ble_eq_true rfl, Nat.le_of_ble_eq_true rfl⟩) [0, 1, 2, 3, 4, 5, 6, 7, 8, 9, 10, 11, 12, 13, 14, 15, 16, 17, 18, 19] [] [0, 1, 2, 3, 4, 5, 6, 7, 8, 9, 10, 11, 12, 13, 14, 15, 16, 17, 18, 19] rfl rfl rfl rfl (by decide) rfl rfl rfl rfl rfl rfl (Nat.le_of_ble_eq_true rfl) dX8_mayBe_50 ⟨Nat.zero_le _, Nat.zero_le _⟩ (fun H locs hh => ?_)
          refine lv_if_eq (tgt := 60) hx hb dX8_mayBe_53 (by decide) (fun c11 => ?_) (fun c11 => ?_)
          · replace hf := (if_pos c11).symm.trans hf
            refine lv_iconst (v := (0 : Int32)) hx hb dX8_mayBe_60 (by decide) ?_
            exact hr2 61 ls H locs (0 : Int32) hf rfl dX8_mayBe_61 hh
          · replace hf := (if_neg c11).symm.trans hf
            refine lv_iconst (v := (1 : Int32)) hx hb dX8_mayBe_56 (by decide) ?_
            refine lv_goto (tgt := 61) hx hb dX8_mayBe_57 (by decide) ?_
            exact hr2 61 ls H locs (1 : Int32) hf rfl dX8_mayBe_61 hh
def fX8_isUsed (S : zMd) (p1 : Int32) : Option (zMd) :=
  ix 12 p1 ((fX8_fee (md_set_uses S (upd (md_uses S) p1.toNatClampNeg (((md_uses S) p1.toNatClampNeg) + (1 : Int32)))) p1).bind fun u2 =>
  if ((md_kind S) p1.toNatClampNeg) = (1 : Int32) then
  (some (md_set_earned (md_set_uses (md_set_stands S (upd (md_stands S) p1.toNatClampNeg (0 : Int32))) (upd (md_uses S) p1.toNatClampNeg (((md_uses S) p1.toNatClampNeg) + (1 : Int32)))) (upd (md_earned S) p1.toNatClampNeg (((md_earned S) p1.toNatClampNeg) + u2))))
  else
  (some (md_set_earned (md_set_uses S (upd (md_uses S) p1.toNatClampNeg (((md_uses S) p1.toNatClampNeg) + (1 : Int32)))) (upd (md_earned S) p1.toNatClampNeg (((md_earned S) p1.toNatClampNeg) + u2)))))
theorem inX8_isUsed_X8 : ∀ w ∈ wsX80, w ∈ wsX8_isUsed := by decide +kernel
theorem mmX8_isUsed_0 : Cond.fieldLink RX8 31 "SumOfTwoThatStandModel" "uses" "[I" ∈ wsX8_isUsed := by decide +kernel
theorem mmX8_isUsed_1 : Cond.fieldLink RX8 34 "SumOfTwoThatStandModel" "earned" "[I" ∈ wsX8_isUsed := by decide +kernel
theorem mmX8_isUsed_2 : Cond.fieldLink RX8 16 "SumOfTwoThatStandModel" "kind" "[I" ∈ wsX8_isUsed := by decide +kernel
theorem mmX8_isUsed_3 : Cond.fieldLink RX8 28 "SumOfTwoThatStandModel" "stands" "[I" ∈ wsX8_isUsed := by decide +kernel
theorem hdX8_isUsed : yX8_isUsed.cls ≠ "java/lang/invoke/MethodHandle" ∧ yX8_isUsed.cls ≠ "java/lang/invoke/VarHandle" ∧ (parseMethodDescriptor yX8_isUsed.desc).map (fun d => d.parameters.length) = some 1 := by decide +kernel
set_option maxHeartbeats 4000000 in
set_option maxRecDepth 100000 in
theorem kX8_isUsed (l : Launch) (K : zK) (a0 a1 a2 a3 a4 a5 a6 a7 a8 a9 a10 a11 a12 a13 a14 a15 a16 a17 a18 a19 : Nat) (S : zMd) (p1 : Int32) (R : zMd) (hf : fX8_isUsed S p1 = some R) : zC l yX8_isUsed wsX8_isUsed ({ frames := 1, cells := 0, slots := 0, locals := 21 } : Room) K [.ref a0, .int p1] (cMd K a0 a1 a2 a3 a4 a5 a6 a7 a8 a9 a10 a11 a12 a13 a14 a15 a16 a17 a18 a19 S) none (cMd K a0 a1 a2 a3 a4 a5 a6 a7 a8 a9 a10 a11 a12 a13 a14 a15 a16 a17 a18 a19 R) := by
  refine zC_v (cc := cX8_isUsed) (maxL := 2) (by decide +kernel) rfl (Nat.le_of_ble_eq_true rfl) rfl rfl ?_
  intro p e s m below meth c Q A X hret ls hl hh
  have X : zX p m c cX8_isUsed 2 s ([.ref a0, .int p1] : List Value).toArray wsX8_isUsed RX8 K A := X
  have hx := X.1.1
  have hb := X.1.2.1
  have hr2 : ∀ (pc : Nat) (ls : Array Slot) (H : Heap) (locs : List Loc) (S : zMd), some S = some R → decode cX8_isUsed pc = .ok (.return_, 1) → zW K A s H locs (cMd K a0 a1 a2 a3 a4 a5 a6 a7 a8 a9 a10 a11 a12 a13 a14 a15 a16 a17 a18 a19 S) → W p l e ({ frames := 1, cells := 0, slots := 0, locals := 21 } : Room) s m ([.ref a0, .int p1] : List Value).toArray below meth c H locs 0 0 Q (F0 m pc ls []) := by
    intro pc ls H locs S h hd hh
    cases h; exact hret pc ls H locs hd hh
  have hl : lv_has ls 2 [(0, .ref a0), (1, .int p1)] := hl
  unfold fX8_isUsed at hf
  refine (fun (hmain : ∀ (H : Heap) (locs : List Loc), zW K A s H locs (cMd K a0 a1 a2 a3 a4 a5 a6 a7 a8 a9 a10 a11 a12 a13 a14 a15 a16 a17 a18 a19 S) → W p l e ({ frames := 1, cells := 0, slots := 0, locals := 21 } : Room) s m ([.ref a0, .int p1] : List Value).toArray below meth c H locs 0 0 Q (F0 m 0 ls [])) => hmain s.heap [] hh) (fun H locs hh => ?_)
  refine lv_aload_n hx hb dX8_isUsed_0 rfl (lv_at hl 0 rfl) ?_
  refine zget (v := .ref a8) (ref := "SumOfTwoThatStandModel") (C := RX8) (T := TX8) (N := 33) (index := 31) X hh inX8_isUsed_X8 0 rfl rfl 7 (by decide) mmX8_isUsed_0 rfl rfl dX8_isUsed_1 ?_
  refine lv_iload_n hx hb dX8_isUsed_4 rfl (lv_at hl 1 rfl) ?_
  refine lv_dup2_11 hx hb dX8_isUsed_5 rfl rfl ?_
  obtain ⟨g1, hf⟩ := ob_ix hf
  refine ziald (f := (md_uses S)) X hh 8 rfl g1 dX8_isUsed_6 ?_
  refine lv_iconst (v := (1 : Int32)) hx hb dX8_isUsed_7 (by decide) ?_
  refine lv_iadd hx hb dX8_isUsed_8 ?_
  refine ziast (f := (md_uses S)) X hh 8 rfl g1 dX8_isUsed_9 (fun H locs hh => ?_)
  have hh : zW K A s H locs (cMd K a0 a1 a2 a3 a4 a5 a6 a7 a8 a9 a10 a11 a12 a13 a14 a15 a16 a17 a18 a19 (md_set_uses S (upd (md_uses S) p1.toNatClampNeg (((md_uses S) p1.toNatClampNeg) + (1 : Int32))))) := hh
  refine lv_aload_n hx hb dX8_isUsed_10 rfl (lv_at hl 0 rfl) ?_
  refine zget (v := .ref a9) (ref := "SumOfTwoThatStandModel") (C := RX8) (T := TX8) (N := 33) (index := 34) X hh inX8_isUsed_X8 0 rfl rfl 8 (by decide) mmX8_isUsed_1 rfl rfl dX8_isUsed_11 ?_
  refine lv_iload_n hx hb dX8_isUsed_14 rfl (lv_at hl 1 rfl) ?_
  refine lv_dup2_11 hx hb dX8_isUsed_15 rfl rfl ?_
  refine ziald (f := (md_earned S)) X hh 9 rfl g1 dX8_isUsed_16 ?_
  refine lv_aload_n hx hb dX8_isUsed_17 rfl (lv_at hl 0 rfl) ?_
  refine lv_iload_n hx hb dX8_isUsed_18 rfl (lv_at hl 1 rfl) ?_
  obtain ⟨u2, hu2, hf⟩ := ob_bind hf
  refine zcallV (ci := 7) (q0 := 0) (As := [.int p1]) (rest := [.int ((md_earned S) p1.toNatClampNeg), .int p1, .ref a9]) (wr := []) (ws' := cMd K a0 a1 a2 a3 a4 a5 a6 a7 a8 a9 a10 a11 a12 a13 a14 a15 a16 a17 a18 a19 (md_set_uses S (upd (md_uses S) p1.toNatClampNeg (((md_uses S) p1.toNatClampNeg) + (1 : Int32))))) (ov := some (.int u2)) X hh hl (kX8_fee l K a0 a1 a2 a3 a4 a5 a6 a7 a8 a9 a10 a11 a12 a13 a14 a15 a16 a17 a18 a19 (md_set_uses S (upd (md_uses S) p1.toNatClampNeg (((md_uses S) p1.toNatClampNeg) + (1 : Int32)))) p1 u2 hu2) (fun ht => cwV 1 ht gX8_isUsed_X8_fee rfl rfl rfl ⟨rfl, hdX8_fee⟩ ⟨Nat.le_of_ble_eq_true rfl, Nat.le_of_ble_eq_true rfl⟩) [0, 1, 2, 3, 4, 5, 6, 7, 8, 9, 10, 11, 12, 13, 14, 15, 16, 17, 18, 19] [] [0, 1, 2, 3, 4, 5, 6, 7, 8, 9, 10, 11, 12, 13, 14, 15, 16, 17, 18, 19] rfl rfl rfl rfl (by decide) rfl rfl rfl rfl rfl rfl (Nat.le_of_ble_eq_true rfl) dX8_isUsed_19 ⟨Nat.zero_le _, Nat.zero_le _⟩ (fun H locs hh => ?_)
  refine lv_iadd hx hb dX8_isUsed_22 ?_
  refine ziast (f := (md_earned S)) X hh 9 rfl g1 dX8_isUsed_23 (fun H locs hh => ?_)
  have hh : zW K A s H locs (cMd K a0 a1 a2 a3 a4 a5 a6 a7 a8 a9 a10 a11 a12 a13 a14 a15 a16 a17 a18 a19 (md_set_earned (md_set_uses S (upd (md_uses S) p1.toNatClampNeg (((md_uses S) p1.toNatClampNeg) + (1 : Int32)))) (upd (md_earned S) p1.toNatClampNeg (((md_earned S) p1.toNatClampNeg) + u2)))) := hh
  refine lv_aload_n hx hb dX8_isUsed_24 rfl (lv_at hl 0 rfl) ?_
  refine zget (v := .ref a3) (ref := "SumOfTwoThatStandModel") (C := RX8) (T := TX8) (N := 33) (index := 16) X hh inX8_isUsed_X8 0 rfl rfl 2 (by decide) mmX8_isUsed_2 rfl rfl dX8_isUsed_25 ?_
  refine lv_iload_n hx hb dX8_isUsed_28 rfl (lv_at hl 1 rfl) ?_
  refine ziald (f := (md_kind S)) X hh 3 rfl g1 dX8_isUsed_29 ?_
  refine lv_iconst (v := (1 : Int32)) hx hb dX8_isUsed_30 (by decide) ?_
  refine lv_icmp_ne (tgt := 41) hx hb dX8_isUsed_31 (by decide) (fun c3 => ?_) (fun c3 => ?_)
  · replace hf := (if_neg c3).symm.trans hf
    exact hr2 41 ls H locs (md_set_earned (md_set_uses S (upd (md_uses S) p1.toNatClampNeg (((md_uses S) p1.toNatClampNeg) + (1 : Int32)))) (upd (md_earned S) p1.toNatClampNeg (((md_earned S) p1.toNatClampNeg) + u2))) hf dX8_isUsed_41 hh
  · replace hf := (if_pos c3).symm.trans hf
    refine lv_aload_n hx hb dX8_isUsed_34 rfl (lv_at hl 0 rfl) ?_
    refine zget (v := .ref a7) (ref := "SumOfTwoThatStandModel") (C := RX8) (T := TX8) (N := 33) (index := 28) X hh inX8_isUsed_X8 0 rfl rfl 6 (by decide) mmX8_isUsed_3 rfl rfl dX8_isUsed_35 ?_
    refine lv_iload_n hx hb dX8_isUsed_38 rfl (lv_at hl 1 rfl) ?_
    refine lv_iconst (v := (0 : Int32)) hx hb dX8_isUsed_39 (by decide) ?_
    refine ziast (f := (md_stands S)) X hh 7 rfl g1 dX8_isUsed_40 (fun H locs hh => ?_)
    have hh : zW K A s H locs (cMd K a0 a1 a2 a3 a4 a5 a6 a7 a8 a9 a10 a11 a12 a13 a14 a15 a16 a17 a18 a19 (md_set_earned (md_set_uses (md_set_stands S (upd (md_stands S) p1.toNatClampNeg (0 : Int32))) (upd (md_uses S) p1.toNatClampNeg (((md_uses S) p1.toNatClampNeg) + (1 : Int32)))) (upd (md_earned S) p1.toNatClampNeg (((md_earned S) p1.toNatClampNeg) + u2)))) := hh
    exact hr2 41 ls H locs (md_set_earned (md_set_uses (md_set_stands S (upd (md_stands S) p1.toNatClampNeg (0 : Int32))) (upd (md_uses S) p1.toNatClampNeg (((md_uses S) p1.toNatClampNeg) + (1 : Int32)))) (upd (md_earned S) p1.toNatClampNeg (((md_earned S) p1.toNatClampNeg) + u2))) hf dX8_isUsed_41 hh
def fX8_builds (S : zMd) (p1 : Int32) (p2 : Int32) (p3 : Int32) (p4 : Int32) : Option (zMd) :=
  ix 12 p1 (ix 12 p2 ((fX8_isUsed S p1).bind fun u3 =>
  (fX8_isUsed u3 p2).bind fun u4 =>
  (fX8_isMore u4 (((md_number S) p1.toNatClampNeg) + ((md_number S) p2.toNatClampNeg)) p3 p4 p1 p2).bind fun u5 =>
  some u5))
theorem inX8_builds_X8 : ∀ w ∈ wsX80, w ∈ wsX8_builds := by decide +kernel
theorem mmX8_builds_0 : Cond.fieldLink RX8 13 "SumOfTwoThatStandModel" "number" "[I" ∈ wsX8_builds := by decide +kernel
theorem hdX8_builds : yX8_builds.cls ≠ "java/lang/invoke/MethodHandle" ∧ yX8_builds.cls ≠ "java/lang/invoke/VarHandle" ∧ (parseMethodDescriptor yX8_builds.desc).map (fun d => d.parameters.length) = some 4 := by decide +kernel
set_option maxHeartbeats 4000000 in
set_option maxRecDepth 100000 in
theorem kX8_builds (l : Launch) (K : zK) (a0 a1 a2 a3 a4 a5 a6 a7 a8 a9 a10 a11 a12 a13 a14 a15 a16 a17 a18 a19 : Nat) (S : zMd) (p1 : Int32) (p2 : Int32) (p3 : Int32) (p4 : Int32) (R : zMd) (hf : fX8_builds S p1 p2 p3 p4 = some R) : zC l yX8_builds wsX8_builds ({ frames := 2, cells := 0, slots := 0, locals := 42 } : Room) K [.ref a0, .int p1, .int p2, .int p3, .int p4] (cMd K a0 a1 a2 a3 a4 a5 a6 a7 a8 a9 a10 a11 a12 a13 a14 a15 a16 a17 a18 a19 S) none (cMd K a0 a1 a2 a3 a4 a5 a6 a7 a8 a9 a10 a11 a12 a13 a14 a15 a16 a17 a18 a19 R) := by
  refine zC_v (cc := cX8_builds) (maxL := 6) (by decide +kernel) rfl (Nat.le_of_ble_eq_true rfl) rfl rfl ?_
  intro p e s m below meth c Q A X hret ls hl hh
  have X : zX p m c cX8_builds 6 s ([.ref a0, .int p1, .int p2, .int p3, .int p4] : List Value).toArray wsX8_builds RX8 K A := X
  have hx := X.1.1
  have hb := X.1.2.1
  have hr2 : ∀ (pc : Nat) (ls : Array Slot) (H : Heap) (locs : List Loc) (S : zMd), some S = some R → decode cX8_builds pc = .ok (.return_, 1) → zW K A s H locs (cMd K a0 a1 a2 a3 a4 a5 a6 a7 a8 a9 a10 a11 a12 a13 a14 a15 a16 a17 a18 a19 S) → W p l e ({ frames := 2, cells := 0, slots := 0, locals := 42 } : Room) s m ([.ref a0, .int p1, .int p2, .int p3, .int p4] : List Value).toArray below meth c H locs 0 0 Q (F0 m pc ls []) := by
    intro pc ls H locs S h hd hh
    cases h; exact hret pc ls H locs hd hh
  have hl : lv_has ls 6 [(0, .ref a0), (1, .int p1), (2, .int p2), (3, .int p3), (4, .int p4)] := hl
  unfold fX8_builds at hf
  refine (fun (hmain : ∀ (H : Heap) (locs : List Loc), zW K A s H locs (cMd K a0 a1 a2 a3 a4 a5 a6 a7 a8 a9 a10 a11 a12 a13 a14 a15 a16 a17 a18 a19 S) → W p l e ({ frames := 2, cells := 0, slots := 0, locals := 42 } : Room) s m ([.ref a0, .int p1, .int p2, .int p3, .int p4] : List Value).toArray below meth c H locs 0 0 Q (F0 m 0 ls [])) => hmain s.heap [] hh) (fun H locs hh => ?_)
  refine lv_aload_n hx hb dX8_builds_0 rfl (lv_at hl 0 rfl) ?_
  refine zget (v := .ref a2) (ref := "SumOfTwoThatStandModel") (C := RX8) (T := TX8) (N := 33) (index := 13) X hh inX8_builds_X8 0 rfl rfl 1 (by decide) mmX8_builds_0 rfl rfl dX8_builds_1 ?_
  refine lv_iload_n hx hb dX8_builds_4 rfl (lv_at hl 1 rfl) ?_
  obtain ⟨g1, hf⟩ := ob_ix hf
  refine ziald (f := (md_number S)) X hh 2 rfl g1 dX8_builds_5 ?_
  refine lv_aload_n hx hb dX8_builds_6 rfl (lv_at hl 0 rfl) ?_
  refine zget (v := .ref a2) (ref := "SumOfTwoThatStandModel") (C := RX8) (T := TX8) (N := 33) (index := 13) X hh inX8_builds_X8 0 rfl rfl 1 (by decide) mmX8_builds_0 rfl rfl dX8_builds_7 ?_
  refine lv_iload_n hx hb dX8_builds_10 rfl (lv_at hl 2 rfl) ?_
  obtain ⟨g2, hf⟩ := ob_ix hf
  refine ziald (f := (md_number S)) X hh 2 rfl g2 dX8_builds_11 ?_
  refine lv_iadd hx hb dX8_builds_12 ?_
  refine lv_istore (lv' := [(5, .int (((md_number S) p1.toNatClampNeg) + ((md_number S) p2.toNatClampNeg))), (0, .ref a0), (1, .int p1), (2, .int p2), (3, .int p3), (4, .int p4)]) hx hb dX8_builds_13 hl (by decide) rfl (fun ls hl => ?_)
  refine lv_aload_n hx hb dX8_builds_15 rfl (lv_at hl 1 rfl) ?_
  refine lv_iload_n hx hb dX8_builds_16 rfl (lv_at hl 2 rfl) ?_
  obtain ⟨u3, hu3, hf⟩ := ob_bind hf
  refine zcallV (ci := 7) (q0 := 0) (As := [.int p1]) (rest := []) (wr := []) (ws' := cMd K a0 a1 a2 a3 a4 a5 a6 a7 a8 a9 a10 a11 a12 a13 a14 a15 a16 a17 a18 a19 u3) (ov := none) X hh hl (kX8_isUsed l K a0 a1 a2 a3 a4 a5 a6 a7 a8 a9 a10 a11 a12 a13 a14 a15 a16 a17 a18 a19 S p1 u3 hu3) (fun ht => cwV 1 ht gX8_builds_X8_isUsed rfl rfl rfl ⟨rfl, hdX8_isUsed⟩ ⟨Nat.le_of_ble_eq_true rfl, Nat.le_of_ble_eq_true rfl⟩) [0, 1, 2, 3, 4, 5, 6, 7, 8, 9, 10, 11, 12, 13, 14, 15, 16, 17, 18, 19] [] [0, 1, 2, 3, 4, 5, 6, 7, 8, 9, 10, 11, 12, 13, 14, 15, 16, 17, 18, 19] rfl rfl rfl rfl (by decide) rfl rfl rfl rfl rfl rfl (Nat.le_of_ble_eq_true rfl) dX8_builds_17 ⟨Nat.zero_le _, Nat.zero_le _⟩ (fun H locs hh => ?_)
  refine lv_aload_n hx hb dX8_builds_20 rfl (lv_at hl 1 rfl) ?_
  refine lv_iload_n hx hb dX8_builds_21 rfl (lv_at hl 3 rfl) ?_
  obtain ⟨u4, hu4, hf⟩ := ob_bind hf
  refine zcallV (ci := 7) (q0 := 0) (As := [.int p2]) (rest := []) (wr := []) (ws' := cMd K a0 a1 a2 a3 a4 a5 a6 a7 a8 a9 a10 a11 a12 a13 a14 a15 a16 a17 a18 a19 u4) (ov := none) X hh hl (kX8_isUsed l K a0 a1 a2 a3 a4 a5 a6 a7 a8 a9 a10 a11 a12 a13 a14 a15 a16 a17 a18 a19 u3 p2 u4 hu4) (fun ht => cwV 1 ht gX8_builds_X8_isUsed rfl rfl rfl ⟨rfl, hdX8_isUsed⟩ ⟨Nat.le_of_ble_eq_true rfl, Nat.le_of_ble_eq_true rfl⟩) [0, 1, 2, 3, 4, 5, 6, 7, 8, 9, 10, 11, 12, 13, 14, 15, 16, 17, 18, 19] [] [0, 1, 2, 3, 4, 5, 6, 7, 8, 9, 10, 11, 12, 13, 14, 15, 16, 17, 18, 19] rfl rfl rfl rfl (by decide) rfl rfl rfl rfl rfl rfl (Nat.le_of_ble_eq_true rfl) dX8_builds_22 ⟨Nat.zero_le _, Nat.zero_le _⟩ (fun H locs hh => ?_)
  refine lv_aload_n hx hb dX8_builds_25 rfl (lv_at hl 1 rfl) ?_
  refine lv_iload hx hb dX8_builds_26 (lv_at hl 0 rfl) ?_
  refine lv_iload_n hx hb dX8_builds_28 rfl (lv_at hl 4 rfl) ?_
  refine lv_iload hx hb dX8_builds_29 (lv_at hl 5 rfl) ?_
  refine lv_iload_n hx hb dX8_builds_31 rfl (lv_at hl 2 rfl) ?_
  refine lv_iload_n hx hb dX8_builds_32 rfl (lv_at hl 3 rfl) ?_
  obtain ⟨u5, hu5, hf⟩ := ob_bind hf
  refine zcallV (ci := 7) (q0 := 0) (As := [.int (((md_number S) p1.toNatClampNeg) + ((md_number S) p2.toNatClampNeg)), .int p3, .int p4, .int p1, .int p2]) (rest := []) (wr := []) (ws' := cMd K a0 a1 a2 a3 a4 a5 a6 a7 a8 a9 a10 a11 a12 a13 a14 a15 a16 a17 a18 a19 u5) (ov := none) X hh hl (kX8_isMore l K a0 a1 a2 a3 a4 a5 a6 a7 a8 a9 a10 a11 a12 a13 a14 a15 a16 a17 a18 a19 u4 (((md_number S) p1.toNatClampNeg) + ((md_number S) p2.toNatClampNeg)) p3 p4 p1 p2 u5 hu5) (fun ht => cwV 5 ht gX8_builds_X8_isMore rfl rfl rfl ⟨rfl, hdX8_isMore⟩ ⟨Nat.le_of_ble_eq_true rfl, Nat.le_of_ble_eq_true rfl⟩) [0, 1, 2, 3, 4, 5, 6, 7, 8, 9, 10, 11, 12, 13, 14, 15, 16, 17, 18, 19] [] [0, 1, 2, 3, 4, 5, 6, 7, 8, 9, 10, 11, 12, 13, 14, 15, 16, 17, 18, 19] rfl rfl rfl rfl (by decide) rfl rfl rfl rfl rfl rfl (Nat.le_of_ble_eq_true rfl) dX8_builds_33 ⟨Nat.zero_le _, Nat.zero_le _⟩ (fun H locs hh => ?_)
  exact hr2 36 ls H locs u5 hf dX8_builds_36 hh
def fX8_hasFallen (S : zMd) (p1 : Int32) : Option (Int32) :=
  if p1 < (0 : Int32) then
  (some (0 : Int32))
  else
  (ix 12 p1 (if ((md_stands S) p1.toNatClampNeg) = (0 : Int32) then
  (some (1 : Int32))
  else
  (some (0 : Int32))))
theorem inX8_hasFallen_X8 : ∀ w ∈ wsX80, w ∈ wsX8_hasFallen := by decide +kernel
theorem mmX8_hasFallen_0 : Cond.fieldLink RX8 28 "SumOfTwoThatStandModel" "stands" "[I" ∈ wsX8_hasFallen := by decide +kernel
theorem hdX8_hasFallen : yX8_hasFallen.cls ≠ "java/lang/invoke/MethodHandle" ∧ yX8_hasFallen.cls ≠ "java/lang/invoke/VarHandle" ∧ (parseMethodDescriptor yX8_hasFallen.desc).map (fun d => d.parameters.length) = some 1 := by decide +kernel
set_option maxHeartbeats 4000000 in
set_option maxRecDepth 100000 in
theorem kX8_hasFallen (l : Launch) (K : zK) (a0 a1 a2 a3 a4 a5 a6 a7 a8 a9 a10 a11 a12 a13 a14 a15 a16 a17 a18 a19 : Nat) (S : zMd) (p1 : Int32) (R : Int32) (hf : fX8_hasFallen S p1 = some R) : zC l yX8_hasFallen wsX8_hasFallen ({ frames := 0, cells := 0, slots := 0, locals := 0 } : Room) K [.ref a0, .int p1] (cMd K a0 a1 a2 a3 a4 a5 a6 a7 a8 a9 a10 a11 a12 a13 a14 a15 a16 a17 a18 a19 S) (some (.int R)) (cMd K a0 a1 a2 a3 a4 a5 a6 a7 a8 a9 a10 a11 a12 a13 a14 a15 a16 a17 a18 a19 S) := by
  refine zC_z .boolean R (cc := cX8_hasFallen) (maxL := 2) (by decide +kernel) rfl (Nat.le_of_ble_eq_true rfl) rfl rfl ?_
  intro p e s m below meth c Q A X hret ls hl hh
  have X : zX p m c cX8_hasFallen 2 s ([.ref a0, .int p1] : List Value).toArray wsX8_hasFallen RX8 K A := X
  have hx := X.1.1
  have hb := X.1.2.1
  have hr2 : ∀ (pc : Nat) (ls : Array Slot) (H : Heap) (locs : List Loc) (v : Int32), some v = some R → narrow .boolean (.int v) = .int v → decode cX8_hasFallen pc = .ok (.ireturn, 1) → zW K A s H locs (cMd K a0 a1 a2 a3 a4 a5 a6 a7 a8 a9 a10 a11 a12 a13 a14 a15 a16 a17 a18 a19 S) → W p l e ({ frames := 0, cells := 0, slots := 0, locals := 0 } : Room) s m ([.ref a0, .int p1] : List Value).toArray below meth c H locs 0 0 Q (F0 m pc ls [.int v]) := by
    intro pc ls H locs v h hn hd hh
    cases h; exact hret pc ls H locs _ rfl hn hd hh
  have hl : lv_has ls 2 [(0, .ref a0), (1, .int p1)] := hl
  unfold fX8_hasFallen at hf
  refine (fun (hmain : ∀ (H : Heap) (locs : List Loc), zW K A s H locs (cMd K a0 a1 a2 a3 a4 a5 a6 a7 a8 a9 a10 a11 a12 a13 a14 a15 a16 a17 a18 a19 S) → W p l e ({ frames := 0, cells := 0, slots := 0, locals := 0 } : Room) s m ([.ref a0, .int p1] : List Value).toArray below meth c H locs 0 0 Q (F0 m 0 ls [])) => hmain s.heap [] hh) (fun H locs hh => ?_)
  refine lv_iload_n hx hb dX8_hasFallen_0 rfl (lv_at hl 1 rfl) ?_
  refine lv_if_lt (tgt := 17) hx hb dX8_hasFallen_1 (by decide) (fun c1 => ?_) (fun c1 => ?_)
  · replace hf := (if_pos c1).symm.trans hf
    refine lv_iconst (v := (0 : Int32)) hx hb dX8_hasFallen_17 (by decide) ?_
    exact hr2 18 ls H locs (0 : Int32) hf rfl dX8_hasFallen_18 hh
  · replace hf := (if_neg c1).symm.trans hf
    refine lv_aload_n hx hb dX8_hasFallen_4 rfl (lv_at hl 0 rfl) ?_
    refine zget (v := .ref a7) (ref := "SumOfTwoThatStandModel") (C := RX8) (T := TX8) (N := 33) (index := 28) X hh inX8_hasFallen_X8 0 rfl rfl 6 (by decide) mmX8_hasFallen_0 rfl rfl dX8_hasFallen_5 ?_
    refine lv_iload_n hx hb dX8_hasFallen_8 rfl (lv_at hl 1 rfl) ?_
    obtain ⟨g2, hf⟩ := ob_ix hf
    refine ziald (f := (md_stands S)) X hh 7 rfl g2 dX8_hasFallen_9 ?_
    refine lv_if_ne (tgt := 17) hx hb dX8_hasFallen_10 (by decide) (fun c3 => ?_) (fun c3 => ?_)
    · replace hf := (if_neg c3).symm.trans hf
      refine lv_iconst (v := (0 : Int32)) hx hb dX8_hasFallen_17 (by decide) ?_
      exact hr2 18 ls H locs (0 : Int32) hf rfl dX8_hasFallen_18 hh
    · replace hf := (if_pos c3).symm.trans hf
      refine lv_iconst (v := (1 : Int32)) hx hb dX8_hasFallen_13 (by decide) ?_
      refine lv_goto (tgt := 18) hx hb dX8_hasFallen_14 (by decide) ?_
      exact hr2 18 ls H locs (1 : Int32) hf rfl dX8_hasFallen_18 hh
def fX8_fallsWith_j28 (S : zMd) (v1 : Int32) : Option (Int32) :=
  ix 12 v1 ((fX8_hasFallen S ((md_one S) v1.toNatClampNeg)).bind fun u2 =>
  if u2 = (0 : Int32) then
  ((fX8_hasFallen S ((md_other S) v1.toNatClampNeg)).bind fun u4 =>
  if u4 = (0 : Int32) then
  (some (0 : Int32))
  else
  (some (1 : Int32)))
  else
  (some (1 : Int32)))
def fX8_fallsWith (S : zMd) (p1 : Int32) : Option (Int32) :=
  ix 12 p1 (if ((md_stands S) p1.toNatClampNeg) = (1 : Int32) then
  (if (md_falls S) = (1 : Int32) then
  (fX8_fallsWith_j28 S p1)
  else
  (if ((md_kind S) p1.toNatClampNeg) = (5 : Int32) then
  (fX8_fallsWith_j28 S p1)
  else
  (some (0 : Int32))))
  else
  (some (0 : Int32)))
theorem inX8_fallsWith_X8 : ∀ w ∈ wsX80, w ∈ wsX8_fallsWith := by decide +kernel
theorem mmX8_fallsWith_0 : Cond.fieldLink RX8 22 "SumOfTwoThatStandModel" "one" "[I" ∈ wsX8_fallsWith := by decide +kernel
theorem mmX8_fallsWith_1 : Cond.fieldLink RX8 25 "SumOfTwoThatStandModel" "other" "[I" ∈ wsX8_fallsWith := by decide +kernel
theorem mmX8_fallsWith_2 : Cond.fieldLink RX8 28 "SumOfTwoThatStandModel" "stands" "[I" ∈ wsX8_fallsWith := by decide +kernel
theorem mmX8_fallsWith_3 : Cond.fieldLink RX8 111 "SumOfTwoThatStandModel" "falls" "I" ∈ wsX8_fallsWith := by decide +kernel
theorem mmX8_fallsWith_4 : Cond.fieldLink RX8 16 "SumOfTwoThatStandModel" "kind" "[I" ∈ wsX8_fallsWith := by decide +kernel
theorem hdX8_fallsWith : yX8_fallsWith.cls ≠ "java/lang/invoke/MethodHandle" ∧ yX8_fallsWith.cls ≠ "java/lang/invoke/VarHandle" ∧ (parseMethodDescriptor yX8_fallsWith.desc).map (fun d => d.parameters.length) = some 1 := by decide +kernel
set_option maxHeartbeats 4000000 in
set_option maxRecDepth 100000 in
theorem kX8_fallsWith (l : Launch) (K : zK) (a0 a1 a2 a3 a4 a5 a6 a7 a8 a9 a10 a11 a12 a13 a14 a15 a16 a17 a18 a19 : Nat) (S : zMd) (p1 : Int32) (R : Int32) (hf : fX8_fallsWith S p1 = some R) : zC l yX8_fallsWith wsX8_fallsWith ({ frames := 1, cells := 0, slots := 0, locals := 21 } : Room) K [.ref a0, .int p1] (cMd K a0 a1 a2 a3 a4 a5 a6 a7 a8 a9 a10 a11 a12 a13 a14 a15 a16 a17 a18 a19 S) (some (.int R)) (cMd K a0 a1 a2 a3 a4 a5 a6 a7 a8 a9 a10 a11 a12 a13 a14 a15 a16 a17 a18 a19 S) := by
  refine zC_z .boolean R (cc := cX8_fallsWith) (maxL := 2) (by decide +kernel) rfl (Nat.le_of_ble_eq_true rfl) rfl rfl ?_
  intro p e s m below meth c Q A X hret ls hl hh
  have X : zX p m c cX8_fallsWith 2 s ([.ref a0, .int p1] : List Value).toArray wsX8_fallsWith RX8 K A := X
  have hx := X.1.1
  have hb := X.1.2.1
  have hr2 : ∀ (pc : Nat) (ls : Array Slot) (H : Heap) (locs : List Loc) (v : Int32), some v = some R → narrow .boolean (.int v) = .int v → decode cX8_fallsWith pc = .ok (.ireturn, 1) → zW K A s H locs (cMd K a0 a1 a2 a3 a4 a5 a6 a7 a8 a9 a10 a11 a12 a13 a14 a15 a16 a17 a18 a19 S) → W p l e ({ frames := 1, cells := 0, slots := 0, locals := 21 } : Room) s m ([.ref a0, .int p1] : List Value).toArray below meth c H locs 0 0 Q (F0 m pc ls [.int v]) := by
    intro pc ls H locs v h hn hd hh
    cases h; exact hret pc ls H locs _ rfl hn hd hh
  have hl : lv_has ls 2 [(0, .ref a0), (1, .int p1)] := hl
  have hJ28 : ∀ (v1 : Int32), ∀ (H : Heap) (locs : List Loc) (ls : Array Slot), fX8_fallsWith_j28 S v1 = some R → lv_has ls 2 [(0, .ref a0), (1, .int v1)] → zW K A s H locs (cMd K a0 a1 a2 a3 a4 a5 a6 a7 a8 a9 a10 a11 a12 a13 a14 a15 a16 a17 a18 a19 S) → W p l e ({ frames := 1, cells := 0, slots := 0, locals := 21 } : Room) s m ([.ref a0, .int p1] : List Value).toArray below meth c H locs 0 0 Q (F0 m 28 ls []) := by
    intro v1 H locs ls hf hl hh
    unfold fX8_fallsWith_j28 at hf
    refine lv_aload_n hx hb dX8_fallsWith_28 rfl (lv_at hl 0 rfl) ?_
    refine lv_aload_n hx hb dX8_fallsWith_29 rfl (lv_at hl 0 rfl) ?_
    refine zget (v := .ref a5) (ref := "SumOfTwoThatStandModel") (C := RX8) (T := TX8) (N := 33) (index := 22) X hh inX8_fallsWith_X8 0 rfl rfl 4 (by decide) mmX8_fallsWith_0 rfl rfl dX8_fallsWith_30 ?_
    refine lv_iload_n hx hb dX8_fallsWith_33 rfl (lv_at hl 1 rfl) ?_
    obtain ⟨g1, hf⟩ := ob_ix hf
    refine ziald (f := (md_one S)) X hh 5 rfl g1 dX8_fallsWith_34 ?_
    obtain ⟨u2, hu2, hf⟩ := ob_bind hf
    refine zcallV (ci := 7) (q0 := 0) (As := [.int ((md_one S) v1.toNatClampNeg)]) (rest := []) (wr := []) (ws' := cMd K a0 a1 a2 a3 a4 a5 a6 a7 a8 a9 a10 a11 a12 a13 a14 a15 a16 a17 a18 a19 S) (ov := some (.int u2)) X hh hl (kX8_hasFallen l K a0 a1 a2 a3 a4 a5 a6 a7 a8 a9 a10 a11 a12 a13 a14 a15 a16 a17 a18 a19 S ((md_one S) v1.toNatClampNeg) u2 hu2) (fun ht => cwV 1 ht gX8_fallsWith_X8_hasFallen rfl rfl rfl ⟨rfl, hdX8_hasFallen⟩ ⟨Nat.le_of_ble_eq_true rfl, Nat.le_of_ble_eq_true rfl⟩) [0, 1, 2, 3, 4, 5, 6, 7, 8, 9, 10, 11, 12, 13, 14, 15, 16, 17, 18, 19] [] [0, 1, 2, 3, 4, 5, 6, 7, 8, 9, 10, 11, 12, 13, 14, 15, 16, 17, 18, 19] rfl rfl rfl rfl (by decide) rfl rfl rfl rfl rfl rfl (Nat.le_of_ble_eq_true rfl) dX8_fallsWith_35 ⟨Nat.zero_le _, Nat.zero_le _⟩ (fun H locs hh => ?_)
    refine lv_if_ne (tgt := 54) hx hb dX8_fallsWith_38 (by decide) (fun c3 => ?_) (fun c3 => ?_)
    · replace hf := (if_neg c3).symm.trans hf
      refine lv_iconst (v := (1 : Int32)) hx hb dX8_fallsWith_54 (by decide) ?_
      refine lv_goto (tgt := 59) hx hb dX8_fallsWith_55 (by decide) ?_
      exact hr2 59 ls H locs (1 : Int32) hf rfl dX8_fallsWith_59 hh
    · replace hf := (if_pos c3).symm.trans hf
      refine lv_aload_n hx hb dX8_fallsWith_41 rfl (lv_at hl 0 rfl) ?_
      refine lv_aload_n hx hb dX8_fallsWith_42 rfl (lv_at hl 0 rfl) ?_
      refine zget (v := .ref a6) (ref := "SumOfTwoThatStandModel") (C := RX8) (T := TX8) (N := 33) (index := 25) X hh inX8_fallsWith_X8 0 rfl rfl 5 (by decide) mmX8_fallsWith_1 rfl rfl dX8_fallsWith_43 ?_
      refine lv_iload_n hx hb dX8_fallsWith_46 rfl (lv_at hl 1 rfl) ?_
      refine ziald (f := (md_other S)) X hh 6 rfl g1 dX8_fallsWith_47 ?_
      obtain ⟨u4, hu4, hf⟩ := ob_bind hf
      refine zcallV (ci := 7) (q0 := 0) (As := [.int ((md_other S) v1.toNatClampNeg)]) (rest := []) (wr := []) (ws' := cMd K a0 a1 a2 a3 a4 a5 a6 a7 a8 a9 a10 a11 a12 a13 a14 a15 a16 a17 a18 a19 S) (ov := some (.int u4)) X hh hl (kX8_hasFallen l K a0 a1 a2 a3 a4 a5 a6 a7 a8 a9 a10 a11 a12 a13 a14 a15 a16 a17 a18 a19 S ((md_other S) v1.toNatClampNeg) u4 hu4) (fun ht => cwV 1 ht gX8_fallsWith_X8_hasFallen rfl rfl rfl ⟨rfl, hdX8_hasFallen⟩ ⟨Nat.le_of_ble_eq_true rfl, Nat.le_of_ble_eq_true rfl⟩) [0, 1, 2, 3, 4, 5, 6, 7, 8, 9, 10, 11, 12, 13, 14, 15, 16, 17, 18, 19] [] [0, 1, 2, 3, 4, 5, 6, 7, 8, 9, 10, 11, 12, 13, 14, 15, 16, 17, 18, 19] rfl rfl rfl rfl (by decide) rfl rfl rfl rfl rfl rfl (Nat.le_of_ble_eq_true rfl) dX8_fallsWith_48 ⟨Nat.zero_le _, Nat.zero_le _⟩ (fun H locs hh => ?_)
      refine lv_if_eq (tgt := 58) hx hb dX8_fallsWith_51 (by decide) (fun c5 => ?_) (fun c5 => ?_)
      · replace hf := (if_pos c5).symm.trans hf
        refine lv_iconst (v := (0 : Int32)) hx hb dX8_fallsWith_58 (by decide) ?_
        exact hr2 59 ls H locs (0 : Int32) hf rfl dX8_fallsWith_59 hh
      · replace hf := (if_neg c5).symm.trans hf
        refine lv_iconst (v := (1 : Int32)) hx hb dX8_fallsWith_54 (by decide) ?_
        refine lv_goto (tgt := 59) hx hb dX8_fallsWith_55 (by decide) ?_
        exact hr2 59 ls H locs (1 : Int32) hf rfl dX8_fallsWith_59 hh
  unfold fX8_fallsWith at hf
  refine (fun (hmain : ∀ (H : Heap) (locs : List Loc), zW K A s H locs (cMd K a0 a1 a2 a3 a4 a5 a6 a7 a8 a9 a10 a11 a12 a13 a14 a15 a16 a17 a18 a19 S) → W p l e ({ frames := 1, cells := 0, slots := 0, locals := 21 } : Room) s m ([.ref a0, .int p1] : List Value).toArray below meth c H locs 0 0 Q (F0 m 0 ls [])) => hmain s.heap [] hh) (fun H locs hh => ?_)
  refine lv_aload_n hx hb dX8_fallsWith_0 rfl (lv_at hl 0 rfl) ?_
  refine zget (v := .ref a7) (ref := "SumOfTwoThatStandModel") (C := RX8) (T := TX8) (N := 33) (index := 28) X hh inX8_fallsWith_X8 0 rfl rfl 6 (by decide) mmX8_fallsWith_2 rfl rfl dX8_fallsWith_1 ?_
  refine lv_iload_n hx hb dX8_fallsWith_4 rfl (lv_at hl 1 rfl) ?_
  obtain ⟨g6, hf⟩ := ob_ix hf
  refine ziald (f := (md_stands S)) X hh 7 rfl g6 dX8_fallsWith_5 ?_
  refine lv_iconst (v := (1 : Int32)) hx hb dX8_fallsWith_6 (by decide) ?_
  refine lv_icmp_ne (tgt := 58) hx hb dX8_fallsWith_7 (by decide) (fun c7 => ?_) (fun c7 => ?_)
  · replace hf := (if_neg c7).symm.trans hf
    refine lv_iconst (v := (0 : Int32)) hx hb dX8_fallsWith_58 (by decide) ?_
    exact hr2 59 ls H locs (0 : Int32) hf rfl dX8_fallsWith_59 hh
  · replace hf := (if_pos c7).symm.trans hf
    refine lv_aload_n hx hb dX8_fallsWith_10 rfl (lv_at hl 0 rfl) ?_
    refine zget (v := .int (md_falls S)) (ref := "SumOfTwoThatStandModel") (C := RX8) (T := TX8) (N := 33) (index := 111) X hh inX8_fallsWith_X8 0 rfl rfl 11 (by decide) mmX8_fallsWith_3 rfl rfl dX8_fallsWith_11 ?_
    refine lv_iconst (v := (1 : Int32)) hx hb dX8_fallsWith_14 (by decide) ?_
    refine lv_icmp_eq (tgt := 28) hx hb dX8_fallsWith_15 (by decide) (fun c8 => ?_) (fun c8 => ?_)
    · replace hf := (if_pos c8).symm.trans hf
      exact hJ28 p1 H locs ls hf (lv_sub hl [0, 1] rfl) hh
    · replace hf := (if_neg c8).symm.trans hf
      refine lv_aload_n hx hb dX8_fallsWith_18 rfl (lv_at hl 0 rfl) ?_
      refine zget (v := .ref a3) (ref := "SumOfTwoThatStandModel") (C := RX8) (T := TX8) (N := 33) (index := 16) X hh inX8_fallsWith_X8 0 rfl rfl 2 (by decide) mmX8_fallsWith_4 rfl rfl dX8_fallsWith_19 ?_
      refine lv_iload_n hx hb dX8_fallsWith_22 rfl (lv_at hl 1 rfl) ?_
      refine ziald (f := (md_kind S)) X hh 3 rfl g6 dX8_fallsWith_23 ?_
      refine lv_iconst (v := (5 : Int32)) hx hb dX8_fallsWith_24 (by decide) ?_
      refine lv_icmp_ne (tgt := 58) hx hb dX8_fallsWith_25 (by decide) (fun c9 => ?_) (fun c9 => ?_)
      · replace hf := (if_neg c9).symm.trans hf
        refine lv_iconst (v := (0 : Int32)) hx hb dX8_fallsWith_58 (by decide) ?_
        exact hr2 59 ls H locs (0 : Int32) hf rfl dX8_fallsWith_59 hh
      · replace hf := (if_pos c9).symm.trans hf
        exact hJ28 p1 H locs ls hf (lv_sub hl [0, 1] rfl) hh
def fX8_burns_j45 (v2 : Int32) (v3 : Int32) (S : zMd) (k17 : (Int32) → (Int32) → (zMd) → Option (zMd)) : Option (zMd) :=
  k17 v2 (v3 + (1 : Int32)) S
def fX8_burns_l17 (k9 : (Int32) → (zMd) → Option (zMd)) : Nat → (Int32) → (Int32) → (zMd) → Option (zMd)
  | 0, _, _, _ => none
  | n + 1, v2, v3, S =>
  if (md_houses S) ≤ v3 then
  (k9 v2 S)
  else
  ((fX8_fallsWith S v3).bind fun u2 =>
  if u2 = (0 : Int32) then
  (fX8_burns_j45 v2 v3 S (fX8_burns_l17 k9 n))
  else
  (ix 12 v3 (fX8_burns_j45 (1 : Int32) v3 (md_set_stands S (upd (md_stands S) v3.toNatClampNeg (0 : Int32))) (fX8_burns_l17 k9 n))))
def fX8_burns_l9  : Nat → (Int32) → (zMd) → Option (zMd)
  | 0, _, _ => none
  | n + 1, v2, S =>
  if v2 = (0 : Int32) then
  (some S)
  else
  (fX8_burns_l17 (fX8_burns_l9  n) FU (0 : Int32) (0 : Int32) S)
def fX8_burns (S : zMd) (p1 : Int32) : Option (zMd) :=
  ix 12 p1 (fX8_burns_l9 FU (1 : Int32) (md_set_stands S (upd (md_stands S) p1.toNatClampNeg (0 : Int32))))
theorem inX8_burns_X8 : ∀ w ∈ wsX80, w ∈ wsX8_burns := by decide +kernel
theorem mmX8_burns_0 : Cond.fieldLink RX8 70 "SumOfTwoThatStandModel" "houses" "I" ∈ wsX8_burns := by decide +kernel
theorem mmX8_burns_1 : Cond.fieldLink RX8 28 "SumOfTwoThatStandModel" "stands" "[I" ∈ wsX8_burns := by decide +kernel
theorem hdX8_burns : yX8_burns.cls ≠ "java/lang/invoke/MethodHandle" ∧ yX8_burns.cls ≠ "java/lang/invoke/VarHandle" ∧ (parseMethodDescriptor yX8_burns.desc).map (fun d => d.parameters.length) = some 1 := by decide +kernel
set_option maxHeartbeats 4000000 in
set_option maxRecDepth 100000 in
theorem kX8_burns (l : Launch) (K : zK) (a0 a1 a2 a3 a4 a5 a6 a7 a8 a9 a10 a11 a12 a13 a14 a15 a16 a17 a18 a19 : Nat) (S : zMd) (p1 : Int32) (R : zMd) (hf : fX8_burns S p1 = some R) : zC l yX8_burns wsX8_burns ({ frames := 2, cells := 0, slots := 0, locals := 42 } : Room) K [.ref a0, .int p1] (cMd K a0 a1 a2 a3 a4 a5 a6 a7 a8 a9 a10 a11 a12 a13 a14 a15 a16 a17 a18 a19 S) none (cMd K a0 a1 a2 a3 a4 a5 a6 a7 a8 a9 a10 a11 a12 a13 a14 a15 a16 a17 a18 a19 R) := by
  refine zC_v (cc := cX8_burns) (maxL := 4) (by decide +kernel) rfl (Nat.le_of_ble_eq_true rfl) rfl rfl ?_
  intro p e s m below meth c Q A X hret ls hl hh
  have X : zX p m c cX8_burns 4 s ([.ref a0, .int p1] : List Value).toArray wsX8_burns RX8 K A := X
  have hx := X.1.1
  have hb := X.1.2.1
  have hr2 : ∀ (pc : Nat) (ls : Array Slot) (H : Heap) (locs : List Loc) (S : zMd), some S = some R → decode cX8_burns pc = .ok (.return_, 1) → zW K A s H locs (cMd K a0 a1 a2 a3 a4 a5 a6 a7 a8 a9 a10 a11 a12 a13 a14 a15 a16 a17 a18 a19 S) → W p l e ({ frames := 2, cells := 0, slots := 0, locals := 42 } : Room) s m ([.ref a0, .int p1] : List Value).toArray below meth c H locs 0 0 Q (F0 m pc ls []) := by
    intro pc ls H locs S h hd hh
    cases h; exact hret pc ls H locs hd hh
  have hl : lv_has ls 4 [(0, .ref a0), (1, .int p1)] := hl
  have hJ45 : ∀ (v2 : Int32) (v3 : Int32) (S : zMd) (k17 : (Int32) → (Int32) → (zMd) → Option (zMd)), (∀ (v2 : Int32) (v3 : Int32) (S : zMd) (H : Heap) (locs : List Loc) (ls : Array Slot), k17 v2 v3 S = some R → lv_has ls 4 [(0, .ref a0), (2, .int v2), (3, .int v3)] → zW K A s H locs (cMd K a0 a1 a2 a3 a4 a5 a6 a7 a8 a9 a10 a11 a12 a13 a14 a15 a16 a17 a18 a19 S) → W p l e ({ frames := 2, cells := 0, slots := 0, locals := 42 } : Room) s m ([.ref a0, .int p1] : List Value).toArray below meth c H locs 0 0 Q (F0 m 17 ls [])) → ∀ (H : Heap) (locs : List Loc) (ls : Array Slot), fX8_burns_j45 v2 v3 S k17 = some R → lv_has ls 4 [(0, .ref a0), (2, .int v2), (3, .int v3)] → zW K A s H locs (cMd K a0 a1 a2 a3 a4 a5 a6 a7 a8 a9 a10 a11 a12 a13 a14 a15 a16 a17 a18 a19 S) → W p l e ({ frames := 2, cells := 0, slots := 0, locals := 42 } : Room) s m ([.ref a0, .int p1] : List Value).toArray below meth c H locs 0 0 Q (F0 m 45 ls []) := by
    intro v2 v3 S k17 hk17 H locs ls hf hl hh
    unfold fX8_burns_j45 at hf
    refine lv_iinc (v := (v3 + (1 : Int32))) (lv' := [(3, .int (v3 + (1 : Int32))), (0, .ref a0), (2, .int v2)]) hx hb dX8_burns_45 hl (k := 2) rfl rfl (by decide) rfl (fun ls hl => ?_)
    refine lv_goto (tgt := 17) hx hb dX8_burns_48 (by decide) ?_
    exact hk17 v2 (v3 + (1 : Int32)) S H locs ls hf (lv_sub hl [1, 2, 0] rfl) hh
  have hL17 : ∀ (k9 : (Int32) → (zMd) → Option (zMd)), (∀ (v2 : Int32) (S : zMd) (H : Heap) (locs : List Loc) (ls : Array Slot), k9 v2 S = some R → lv_has ls 4 [(0, .ref a0), (2, .int v2)] → zW K A s H locs (cMd K a0 a1 a2 a3 a4 a5 a6 a7 a8 a9 a10 a11 a12 a13 a14 a15 a16 a17 a18 a19 S) → W p l e ({ frames := 2, cells := 0, slots := 0, locals := 42 } : Room) s m ([.ref a0, .int p1] : List Value).toArray below meth c H locs 0 0 Q (F0 m 9 ls [])) → ∀ (n : Nat) (v2 : Int32) (v3 : Int32) (S : zMd), ∀ (H : Heap) (locs : List Loc) (ls : Array Slot), fX8_burns_l17 k9 n v2 v3 S = some R → lv_has ls 4 [(0, .ref a0), (2, .int v2), (3, .int v3)] → zW K A s H locs (cMd K a0 a1 a2 a3 a4 a5 a6 a7 a8 a9 a10 a11 a12 a13 a14 a15 a16 a17 a18 a19 S) → W p l e ({ frames := 2, cells := 0, slots := 0, locals := 42 } : Room) s m ([.ref a0, .int p1] : List Value).toArray below meth c H locs 0 0 Q (F0 m 17 ls []) := by
    intro k9 hk9 n
    induction n with
    | zero =>
      intro v2 v3 S H locs ls hf hl hh
      rw [fX8_burns_l17] at hf; cases hf
    | succ n ih =>
      intro v2 v3 S H locs ls hf hl hh
      rw [fX8_burns_l17] at hf
      refine lv_iload_n hx hb dX8_burns_17 rfl (lv_at hl 2 rfl) ?_
      refine lv_aload_n hx hb dX8_burns_18 rfl (lv_at hl 0 rfl) ?_
      refine zget (v := .int (md_houses S)) (ref := "SumOfTwoThatStandModel") (C := RX8) (T := TX8) (N := 33) (index := 70) X hh inX8_burns_X8 0 rfl rfl 9 (by decide) mmX8_burns_0 rfl rfl dX8_burns_19 ?_
      refine lv_icmp_ge (tgt := 51) hx hb dX8_burns_22 (by decide) (fun c1 => ?_) (fun c1 => ?_)
      · replace hf := (if_pos c1).symm.trans hf
        refine lv_goto (tgt := 9) hx hb dX8_burns_51 (by decide) ?_
        exact hk9 v2 S H locs ls hf (lv_sub hl [0, 1] rfl) hh
      · replace hf := (if_neg c1).symm.trans hf
        refine lv_aload_n hx hb dX8_burns_25 rfl (lv_at hl 0 rfl) ?_
        refine lv_iload_n hx hb dX8_burns_26 rfl (lv_at hl 2 rfl) ?_
        obtain ⟨u2, hu2, hf⟩ := ob_bind hf
        refine zcallV (ci := 7) (q0 := 0) (As := [.int v3]) (rest := []) (wr := []) (ws' := cMd K a0 a1 a2 a3 a4 a5 a6 a7 a8 a9 a10 a11 a12 a13 a14 a15 a16 a17 a18 a19 S) (ov := some (.int u2)) X hh hl (kX8_fallsWith l K a0 a1 a2 a3 a4 a5 a6 a7 a8 a9 a10 a11 a12 a13 a14 a15 a16 a17 a18 a19 S v3 u2 hu2) (fun ht => cwV 1 ht gX8_burns_X8_fallsWith rfl rfl rfl ⟨rfl, hdX8_fallsWith⟩ ⟨Nat.le_of_ble_eq_true rfl, Nat.le_of_ble_eq_true rfl⟩) [0, 1, 2, 3, 4, 5, 6, 7, 8, 9, 10, 11, 12, 13, 14, 15, 16, 17, 18, 19] [] [0, 1, 2, 3, 4, 5, 6, 7, 8, 9, 10, 11, 12, 13, 14, 15, 16, 17, 18, 19] rfl rfl rfl rfl (by decide) rfl rfl rfl rfl rfl rfl (Nat.le_of_ble_eq_true rfl) dX8_burns_27 ⟨Nat.zero_le _, Nat.zero_le _⟩ (fun H locs hh => ?_)
        refine lv_if_ne (tgt := 36) hx hb dX8_burns_30 (by decide) (fun c3 => ?_) (fun c3 => ?_)
        · replace hf := (if_neg c3).symm.trans hf
          refine lv_aload_n hx hb dX8_burns_36 rfl (lv_at hl 0 rfl) ?_
          refine zget (v := .ref a7) (ref := "SumOfTwoThatStandModel") (C := RX8) (T := TX8) (N := 33) (index := 28) X hh inX8_burns_X8 0 rfl rfl 6 (by decide) mmX8_burns_1 rfl rfl dX8_burns_37 ?_
          refine lv_iload_n hx hb dX8_burns_40 rfl (lv_at hl 2 rfl) ?_
          refine lv_iconst (v := (0 : Int32)) hx hb dX8_burns_41 (by decide) ?_
          obtain ⟨g4, hf⟩ := ob_ix hf
          refine ziast (f := (md_stands S)) X hh 7 rfl g4 dX8_burns_42 (fun H locs hh => ?_)
          have hh : zW K A s H locs (cMd K a0 a1 a2 a3 a4 a5 a6 a7 a8 a9 a10 a11 a12 a13 a14 a15 a16 a17 a18 a19 (md_set_stands S (upd (md_stands S) v3.toNatClampNeg (0 : Int32)))) := hh
          refine lv_iconst (v := (1 : Int32)) hx hb dX8_burns_43 (by decide) ?_
          refine lv_istore_n (lv' := [(2, .int (1 : Int32)), (0, .ref a0), (3, .int v3)]) hx hb dX8_burns_44 rfl hl (by decide) rfl (fun ls hl => ?_)
          exact hJ45 (1 : Int32) v3 (md_set_stands S (upd (md_stands S) v3.toNatClampNeg (0 : Int32))) (fX8_burns_l17 k9 n) (ih) H locs ls hf (lv_sub hl [1, 0, 2] rfl) hh
        · replace hf := (if_pos c3).symm.trans hf
          refine lv_goto (tgt := 45) hx hb dX8_burns_33 (by decide) ?_
          exact hJ45 v2 v3 S (fX8_burns_l17 k9 n) (ih) H locs ls hf (lv_sub hl [0, 1, 2] rfl) hh
  have hL9 : ∀ (n : Nat) (v2 : Int32) (S : zMd), ∀ (H : Heap) (locs : List Loc) (ls : Array Slot), fX8_burns_l9 n v2 S = some R → lv_has ls 4 [(0, .ref a0), (2, .int v2)] → zW K A s H locs (cMd K a0 a1 a2 a3 a4 a5 a6 a7 a8 a9 a10 a11 a12 a13 a14 a15 a16 a17 a18 a19 S) → W p l e ({ frames := 2, cells := 0, slots := 0, locals := 42 } : Room) s m ([.ref a0, .int p1] : List Value).toArray below meth c H locs 0 0 Q (F0 m 9 ls []) := by
    intro n
    induction n with
    | zero =>
      intro v2 S H locs ls hf hl hh
      rw [fX8_burns_l9] at hf; cases hf
    | succ n ih =>
      intro v2 S H locs ls hf hl hh
      rw [fX8_burns_l9] at hf
      refine lv_iload_n hx hb dX8_burns_9 rfl (lv_at hl 1 rfl) ?_
      refine lv_if_eq (tgt := 54) hx hb dX8_burns_10 (by decide) (fun c5 => ?_) (fun c5 => ?_)
      · replace hf := (if_pos c5).symm.trans hf
        exact hr2 54 ls H locs S hf dX8_burns_54 hh
      · replace hf := (if_neg c5).symm.trans hf
        refine lv_iconst (v := (0 : Int32)) hx hb dX8_burns_13 (by decide) ?_
        refine lv_istore_n (lv' := [(2, .int (0 : Int32)), (0, .ref a0)]) hx hb dX8_burns_14 rfl hl (by decide) rfl (fun ls hl => ?_)
        refine lv_iconst (v := (0 : Int32)) hx hb dX8_burns_15 (by decide) ?_
        refine lv_istore_n (lv' := [(3, .int (0 : Int32)), (2, .int (0 : Int32)), (0, .ref a0)]) hx hb dX8_burns_16 rfl hl (by decide) rfl (fun ls hl => ?_)
        exact hL17 (fX8_burns_l9  n) (ih) FU (0 : Int32) (0 : Int32) S H locs ls hf (lv_sub hl [2, 1, 0] rfl) hh
  unfold fX8_burns at hf
  refine (fun (hmain : ∀ (H : Heap) (locs : List Loc), zW K A s H locs (cMd K a0 a1 a2 a3 a4 a5 a6 a7 a8 a9 a10 a11 a12 a13 a14 a15 a16 a17 a18 a19 S) → W p l e ({ frames := 2, cells := 0, slots := 0, locals := 42 } : Room) s m ([.ref a0, .int p1] : List Value).toArray below meth c H locs 0 0 Q (F0 m 0 ls [])) => hmain s.heap [] hh) (fun H locs hh => ?_)
  refine lv_aload_n hx hb dX8_burns_0 rfl (lv_at hl 0 rfl) ?_
  refine zget (v := .ref a7) (ref := "SumOfTwoThatStandModel") (C := RX8) (T := TX8) (N := 33) (index := 28) X hh inX8_burns_X8 0 rfl rfl 6 (by decide) mmX8_burns_1 rfl rfl dX8_burns_1 ?_
  refine lv_iload_n hx hb dX8_burns_4 rfl (lv_at hl 1 rfl) ?_
  refine lv_iconst (v := (0 : Int32)) hx hb dX8_burns_5 (by decide) ?_
  obtain ⟨g6, hf⟩ := ob_ix hf
  refine ziast (f := (md_stands S)) X hh 7 rfl g6 dX8_burns_6 (fun H locs hh => ?_)
  have hh : zW K A s H locs (cMd K a0 a1 a2 a3 a4 a5 a6 a7 a8 a9 a10 a11 a12 a13 a14 a15 a16 a17 a18 a19 (md_set_stands S (upd (md_stands S) p1.toNatClampNeg (0 : Int32)))) := hh
  refine lv_iconst (v := (1 : Int32)) hx hb dX8_burns_7 (by decide) ?_
  refine lv_istore_n (lv' := [(2, .int (1 : Int32)), (0, .ref a0), (1, .int p1)]) hx hb dX8_burns_8 rfl hl (by decide) rfl (fun ls hl => ?_)
  exact hL9 FU (1 : Int32) (md_set_stands S (upd (md_stands S) p1.toNatClampNeg (0 : Int32))) H locs ls hf (lv_sub hl [1, 0] rfl) hh
def fX8_feed_j25 (v1 : Int32) (v2 : Int32) (S : zMd) : Option (Int32 × zMd) :=
  if v2 = (0 : Int32) then
  (ix 64 (md_taped S) (some (((md_taped S) + (1 : Int32)), (md_set_taped (md_set_tape S (upd (md_tape S) (md_taped S).toNatClampNeg v1)) ((md_taped S) + (1 : Int32))))))
  else
  ((fX8_no S v2).bind fun u3 =>
  some (u3.1, u3.2))
def fX8_feed (S : zMd) (p1 : Int32) : Option (Int32 × zMd) :=
  if (fX8_bound p1 (0 : Int32) (255 : Int32)) = (0 : Int32) then
  (if (md_taped S) = (64 : Int32) then
  (fX8_feed_j25 p1 (-6 : Int32) S)
  else
  (fX8_feed_j25 p1 (fX8_bound p1 (0 : Int32) (255 : Int32)) S))
  else
  (fX8_feed_j25 p1 (fX8_bound p1 (0 : Int32) (255 : Int32)) S)
theorem inX8_feed_X8 : ∀ w ∈ wsX80, w ∈ wsX8_feed := by decide +kernel
theorem mmX8_feed_0 : Cond.fieldLink RX8 37 "SumOfTwoThatStandModel" "tape" "[I" ∈ wsX8_feed := by decide +kernel
theorem mmX8_feed_1 : Cond.fieldLink RX8 124 "SumOfTwoThatStandModel" "taped" "I" ∈ wsX8_feed := by decide +kernel
theorem hdX8_feed : yX8_feed.cls ≠ "java/lang/invoke/MethodHandle" ∧ yX8_feed.cls ≠ "java/lang/invoke/VarHandle" ∧ (parseMethodDescriptor yX8_feed.desc).map (fun d => d.parameters.length) = some 1 := by decide +kernel
set_option maxHeartbeats 4000000 in
set_option maxRecDepth 100000 in
theorem kX8_feed (l : Launch) (K : zK) (a0 a1 a2 a3 a4 a5 a6 a7 a8 a9 a10 a11 a12 a13 a14 a15 a16 a17 a18 a19 : Nat) (S : zMd) (p1 : Int32) (R : Int32 × zMd) (hf : fX8_feed S p1 = some R) : zC l yX8_feed wsX8_feed ({ frames := 1, cells := 0, slots := 0, locals := 22 } : Room) K [.ref a0, .int p1] (cMd K a0 a1 a2 a3 a4 a5 a6 a7 a8 a9 a10 a11 a12 a13 a14 a15 a16 a17 a18 a19 S) (some (.int R.1)) (cMd K a0 a1 a2 a3 a4 a5 a6 a7 a8 a9 a10 a11 a12 a13 a14 a15 a16 a17 a18 a19 R.2) := by
  refine zC_i R.1 (cc := cX8_feed) (maxL := 3) (by decide +kernel) rfl (Nat.le_of_ble_eq_true rfl) rfl rfl ?_
  intro p e s m below meth c Q A X hret ls hl hh
  have X : zX p m c cX8_feed 3 s ([.ref a0, .int p1] : List Value).toArray wsX8_feed RX8 K A := X
  have hx := X.1.1
  have hb := X.1.2.1
  have hr2 : ∀ (pc : Nat) (ls : Array Slot) (H : Heap) (locs : List Loc) (v : Int32) (S : zMd), some (v, S) = some R → decode cX8_feed pc = .ok (.ireturn, 1) → zW K A s H locs (cMd K a0 a1 a2 a3 a4 a5 a6 a7 a8 a9 a10 a11 a12 a13 a14 a15 a16 a17 a18 a19 S) → W p l e ({ frames := 1, cells := 0, slots := 0, locals := 22 } : Room) s m ([.ref a0, .int p1] : List Value).toArray below meth c H locs 0 0 Q (F0 m pc ls [.int v]) := by
    intro pc ls H locs v S h hd hh
    cases h; exact hret pc ls H locs _ rfl hd hh
  have hl : lv_has ls 3 [(0, .ref a0), (1, .int p1)] := hl
  have hJ25 : ∀ (v1 : Int32) (v2 : Int32) (S : zMd), ∀ (H : Heap) (locs : List Loc) (ls : Array Slot), fX8_feed_j25 v1 v2 S = some R → lv_has ls 3 [(0, .ref a0), (1, .int v1), (2, .int v2)] → zW K A s H locs (cMd K a0 a1 a2 a3 a4 a5 a6 a7 a8 a9 a10 a11 a12 a13 a14 a15 a16 a17 a18 a19 S) → W p l e ({ frames := 1, cells := 0, slots := 0, locals := 22 } : Room) s m ([.ref a0, .int p1] : List Value).toArray below meth c H locs 0 0 Q (F0 m 25 ls []) := by
    intro v1 v2 S H locs ls hf hl hh
    unfold fX8_feed_j25 at hf
    refine lv_iload_n hx hb dX8_feed_25 rfl (lv_at hl 2 rfl) ?_
    refine lv_if_eq (tgt := 35) hx hb dX8_feed_26 (by decide) (fun c1 => ?_) (fun c1 => ?_)
    · replace hf := (if_pos c1).symm.trans hf
      refine lv_aload_n hx hb dX8_feed_35 rfl (lv_at hl 0 rfl) ?_
      refine zget (v := .ref a10) (ref := "SumOfTwoThatStandModel") (C := RX8) (T := TX8) (N := 33) (index := 37) X hh inX8_feed_X8 0 rfl rfl 12 (by decide) mmX8_feed_0 rfl rfl dX8_feed_36 ?_
      refine lv_aload_n hx hb dX8_feed_39 rfl (lv_at hl 0 rfl) ?_
      refine zget (v := .int (md_taped S)) (ref := "SumOfTwoThatStandModel") (C := RX8) (T := TX8) (N := 33) (index := 124) X hh inX8_feed_X8 0 rfl rfl 16 (by decide) mmX8_feed_1 rfl rfl dX8_feed_40 ?_
      refine lv_iload_n hx hb dX8_feed_43 rfl (lv_at hl 1 rfl) ?_
      obtain ⟨g2, hf⟩ := ob_ix hf
      refine ziast (f := (md_tape S)) X hh 10 rfl g2 dX8_feed_44 (fun H locs hh => ?_)
      have hh : zW K A s H locs (cMd K a0 a1 a2 a3 a4 a5 a6 a7 a8 a9 a10 a11 a12 a13 a14 a15 a16 a17 a18 a19 (md_set_tape S (upd (md_tape S) (md_taped S).toNatClampNeg v1))) := hh
      refine lv_aload_n hx hb dX8_feed_45 rfl (lv_at hl 0 rfl) ?_
      refine lv_dup hx hb dX8_feed_46 rfl ?_
      refine zget (v := .int (md_taped S)) (ref := "SumOfTwoThatStandModel") (C := RX8) (T := TX8) (N := 33) (index := 124) X hh inX8_feed_X8 0 rfl rfl 16 (by decide) mmX8_feed_1 rfl rfl dX8_feed_47 ?_
      refine lv_iconst (v := (1 : Int32)) hx hb dX8_feed_50 (by decide) ?_
      refine lv_iadd hx hb dX8_feed_51 ?_
      refine zput (v := .int ((md_taped S) + (1 : Int32))) (ty := .int) (ref := "SumOfTwoThatStandModel") (C := RX8) (T := TX8) (N := 33) (index := 124) X hh inX8_feed_X8 tyX8 tyX8_ok nmX8 0 rfl rfl 16 (by decide) mmX8_feed_1 rfl rfl (by decide +kernel) rfl rfl (Nat.le_of_ble_eq_true rfl) dX8_feed_52 (fun H locs hh => ?_)
      have hh : zW K A s H locs (cMd K a0 a1 a2 a3 a4 a5 a6 a7 a8 a9 a10 a11 a12 a13 a14 a15 a16 a17 a18 a19 (md_set_taped (md_set_tape S (upd (md_tape S) (md_taped S).toNatClampNeg v1)) ((md_taped S) + (1 : Int32)))) := hh
      refine lv_aload_n hx hb dX8_feed_55 rfl (lv_at hl 0 rfl) ?_
      refine zget (v := .int ((md_taped S) + (1 : Int32))) (ref := "SumOfTwoThatStandModel") (C := RX8) (T := TX8) (N := 33) (index := 124) X hh inX8_feed_X8 0 rfl rfl 16 (by decide) mmX8_feed_1 rfl rfl dX8_feed_56 ?_
      exact hr2 59 ls H locs ((md_taped S) + (1 : Int32)) (md_set_taped (md_set_tape S (upd (md_tape S) (md_taped S).toNatClampNeg v1)) ((md_taped S) + (1 : Int32))) hf dX8_feed_59 hh
    · replace hf := (if_neg c1).symm.trans hf
      refine lv_aload_n hx hb dX8_feed_29 rfl (lv_at hl 0 rfl) ?_
      refine lv_iload_n hx hb dX8_feed_30 rfl (lv_at hl 2 rfl) ?_
      obtain ⟨u3, hu3, hf⟩ := ob_bind hf
      refine zcallV (ci := 7) (q0 := 0) (As := [.int v2]) (rest := []) (wr := []) (ws' := cMd K a0 a1 a2 a3 a4 a5 a6 a7 a8 a9 a10 a11 a12 a13 a14 a15 a16 a17 a18 a19 u3.2) (ov := some (.int u3.1)) X hh hl (kX8_no l K a0 a1 a2 a3 a4 a5 a6 a7 a8 a9 a10 a11 a12 a13 a14 a15 a16 a17 a18 a19 S v2 u3 hu3) (fun ht => cwV 1 ht gX8_feed_X8_no rfl rfl rfl ⟨rfl, hdX8_no⟩ ⟨Nat.le_of_ble_eq_true rfl, Nat.le_of_ble_eq_true rfl⟩) [0, 1, 2, 3, 4, 5, 6, 7, 8, 9, 10, 11, 12, 13, 14, 15, 16, 17, 18, 19] [] [0, 1, 2, 3, 4, 5, 6, 7, 8, 9, 10, 11, 12, 13, 14, 15, 16, 17, 18, 19] rfl rfl rfl rfl (by decide) rfl rfl rfl rfl rfl rfl (Nat.le_of_ble_eq_true rfl) dX8_feed_31 ⟨Nat.zero_le _, Nat.zero_le _⟩ (fun H locs hh => ?_)
      exact hr2 34 ls H locs u3.1 u3.2 hf dX8_feed_34 hh
  unfold fX8_feed at hf
  refine (fun (hmain : ∀ (H : Heap) (locs : List Loc), zW K A s H locs (cMd K a0 a1 a2 a3 a4 a5 a6 a7 a8 a9 a10 a11 a12 a13 a14 a15 a16 a17 a18 a19 S) → W p l e ({ frames := 1, cells := 0, slots := 0, locals := 22 } : Room) s m ([.ref a0, .int p1] : List Value).toArray below meth c H locs 0 0 Q (F0 m 0 ls [])) => hmain s.heap [] hh) (fun H locs hh => ?_)
  refine lv_iload_n hx hb dX8_feed_0 rfl (lv_at hl 1 rfl) ?_
  refine lv_iconst (v := (0 : Int32)) hx hb dX8_feed_1 (by decide) ?_
  refine lv_sipush (v := (255 : Int32)) hx hb dX8_feed_2 (by decide) ?_
  refine zcallS (As := [.int p1, .int (0 : Int32), .int (255 : Int32)]) (rest := []) (wr := cMd K a0 a1 a2 a3 a4 a5 a6 a7 a8 a9 a10 a11 a12 a13 a14 a15 a16 a17 a18 a19 S) (ws' := cMd K a0 a1 a2 a3 a4 a5 a6 a7 a8 a9 a10 a11 a12 a13 a14 a15 a16 a17 a18 a19 S) (ov := some (.int (fX8_bound p1 (0 : Int32) (255 : Int32)))) X hh hl (kX8_bound l K p1 (0 : Int32) (255 : Int32) (fX8_bound p1 (0 : Int32) (255 : Int32)) rfl) (fun ht => va_cwS 3 ht gX8_feed_X8_bound rfl rfl rfl hdX8_bound ⟨Nat.le_of_ble_eq_true rfl, Nat.le_of_ble_eq_true rfl⟩) [] [0, 1, 2, 3, 4, 5, 6, 7, 8, 9, 10, 11, 12, 13, 14, 15, 16, 17, 18, 19] [0, 1, 2, 3, 4, 5, 6, 7, 8, 9, 10, 11, 12, 13, 14, 15, 16, 17, 18, 19] rfl rfl rfl rfl (by decide) rfl rfl rfl rfl (Nat.le_of_ble_eq_true rfl) dX8_feed_5 ⟨Nat.zero_le _, Nat.zero_le _⟩ (fun H locs hh => ?_)
  refine lv_istore_n (lv' := [(2, .int (fX8_bound p1 (0 : Int32) (255 : Int32))), (0, .ref a0), (1, .int p1)]) hx hb dX8_feed_8 rfl hl (by decide) rfl (fun ls hl => ?_)
  refine lv_iload_n hx hb dX8_feed_9 rfl (lv_at hl 0 rfl) ?_
  refine lv_if_ne (tgt := 25) hx hb dX8_feed_10 (by decide) (fun c5 => ?_) (fun c5 => ?_)
  · replace hf := (if_neg c5).symm.trans hf
    exact hJ25 p1 (fX8_bound p1 (0 : Int32) (255 : Int32)) S H locs ls hf (lv_sub hl [1, 2, 0] rfl) hh
  · replace hf := (if_pos c5).symm.trans hf
    refine lv_aload_n hx hb dX8_feed_13 rfl (lv_at hl 1 rfl) ?_
    refine zget (v := .int (md_taped S)) (ref := "SumOfTwoThatStandModel") (C := RX8) (T := TX8) (N := 33) (index := 124) X hh inX8_feed_X8 0 rfl rfl 16 (by decide) mmX8_feed_1 rfl rfl dX8_feed_14 ?_
    refine lv_bipush (v := (64 : Int32)) hx hb dX8_feed_17 (by decide) ?_
    refine lv_icmp_ne (tgt := 25) hx hb dX8_feed_19 (by decide) (fun c6 => ?_) (fun c6 => ?_)
    · replace hf := (if_neg c6).symm.trans hf
      exact hJ25 p1 (fX8_bound p1 (0 : Int32) (255 : Int32)) S H locs ls hf (lv_sub hl [1, 2, 0] rfl) hh
    · replace hf := (if_pos c6).symm.trans hf
      refine lv_bipush (v := (-6 : Int32)) hx hb dX8_feed_22 (by decide) ?_
      refine lv_istore_n (lv' := [(2, .int (-6 : Int32)), (0, .ref a0), (1, .int p1)]) hx hb dX8_feed_24 rfl hl (by decide) rfl (fun ls hl => ?_)
      exact hJ25 p1 (-6 : Int32) S H locs ls hf (lv_sub hl [1, 2, 0] rfl) hh
def fX8_sign (S : zMd) : Option (Int32) :=
  if (md_taped S) ≤ (md_reading S) then
  (some (-1 : Int32))
  else
  (ix 64 (md_reading S) (some ((md_tape S) (md_reading S).toNatClampNeg)))
theorem inX8_sign_X8 : ∀ w ∈ wsX80, w ∈ wsX8_sign := by decide +kernel
theorem mmX8_sign_0 : Cond.fieldLink RX8 130 "SumOfTwoThatStandModel" "reading" "I" ∈ wsX8_sign := by decide +kernel
theorem mmX8_sign_1 : Cond.fieldLink RX8 124 "SumOfTwoThatStandModel" "taped" "I" ∈ wsX8_sign := by decide +kernel
theorem mmX8_sign_2 : Cond.fieldLink RX8 37 "SumOfTwoThatStandModel" "tape" "[I" ∈ wsX8_sign := by decide +kernel
theorem hdX8_sign : yX8_sign.cls ≠ "java/lang/invoke/MethodHandle" ∧ yX8_sign.cls ≠ "java/lang/invoke/VarHandle" ∧ (parseMethodDescriptor yX8_sign.desc).map (fun d => d.parameters.length) = some 0 := by decide +kernel
set_option maxHeartbeats 4000000 in
set_option maxRecDepth 100000 in
theorem kX8_sign (l : Launch) (K : zK) (a0 a1 a2 a3 a4 a5 a6 a7 a8 a9 a10 a11 a12 a13 a14 a15 a16 a17 a18 a19 : Nat) (S : zMd) (R : Int32) (hf : fX8_sign S = some R) : zC l yX8_sign wsX8_sign ({ frames := 0, cells := 0, slots := 0, locals := 0 } : Room) K [.ref a0] (cMd K a0 a1 a2 a3 a4 a5 a6 a7 a8 a9 a10 a11 a12 a13 a14 a15 a16 a17 a18 a19 S) (some (.int R)) (cMd K a0 a1 a2 a3 a4 a5 a6 a7 a8 a9 a10 a11 a12 a13 a14 a15 a16 a17 a18 a19 S) := by
  refine zC_i R (cc := cX8_sign) (maxL := 1) (by decide +kernel) rfl (Nat.le_of_ble_eq_true rfl) rfl rfl ?_
  intro p e s m below meth c Q A X hret ls hl hh
  have X : zX p m c cX8_sign 1 s ([.ref a0] : List Value).toArray wsX8_sign RX8 K A := X
  have hx := X.1.1
  have hb := X.1.2.1
  have hr2 : ∀ (pc : Nat) (ls : Array Slot) (H : Heap) (locs : List Loc) (v : Int32), some v = some R → decode cX8_sign pc = .ok (.ireturn, 1) → zW K A s H locs (cMd K a0 a1 a2 a3 a4 a5 a6 a7 a8 a9 a10 a11 a12 a13 a14 a15 a16 a17 a18 a19 S) → W p l e ({ frames := 0, cells := 0, slots := 0, locals := 0 } : Room) s m ([.ref a0] : List Value).toArray below meth c H locs 0 0 Q (F0 m pc ls [.int v]) := by
    intro pc ls H locs v h hd hh
    cases h; exact hret pc ls H locs _ rfl hd hh
  have hl : lv_has ls 1 [(0, .ref a0)] := hl
  unfold fX8_sign at hf
  refine (fun (hmain : ∀ (H : Heap) (locs : List Loc), zW K A s H locs (cMd K a0 a1 a2 a3 a4 a5 a6 a7 a8 a9 a10 a11 a12 a13 a14 a15 a16 a17 a18 a19 S) → W p l e ({ frames := 0, cells := 0, slots := 0, locals := 0 } : Room) s m ([.ref a0] : List Value).toArray below meth c H locs 0 0 Q (F0 m 0 ls [])) => hmain s.heap [] hh) (fun H locs hh => ?_)
  refine lv_aload_n hx hb dX8_sign_0 rfl (lv_at hl 0 rfl) ?_
  refine zget (v := .int (md_reading S)) (ref := "SumOfTwoThatStandModel") (C := RX8) (T := TX8) (N := 33) (index := 130) X hh inX8_sign_X8 0 rfl rfl 17 (by decide) mmX8_sign_0 rfl rfl dX8_sign_1 ?_
  refine lv_aload_n hx hb dX8_sign_4 rfl (lv_at hl 0 rfl) ?_
  refine zget (v := .int (md_taped S)) (ref := "SumOfTwoThatStandModel") (C := RX8) (T := TX8) (N := 33) (index := 124) X hh inX8_sign_X8 0 rfl rfl 16 (by decide) mmX8_sign_1 rfl rfl dX8_sign_5 ?_
  refine lv_icmp_ge (tgt := 23) hx hb dX8_sign_8 (by decide) (fun c1 => ?_) (fun c1 => ?_)
  · replace hf := (if_pos c1).symm.trans hf
    refine lv_iconst (v := (-1 : Int32)) hx hb dX8_sign_23 (by decide) ?_
    exact hr2 24 ls H locs (-1 : Int32) hf dX8_sign_24 hh
  · replace hf := (if_neg c1).symm.trans hf
    refine lv_aload_n hx hb dX8_sign_11 rfl (lv_at hl 0 rfl) ?_
    refine zget (v := .ref a10) (ref := "SumOfTwoThatStandModel") (C := RX8) (T := TX8) (N := 33) (index := 37) X hh inX8_sign_X8 0 rfl rfl 12 (by decide) mmX8_sign_2 rfl rfl dX8_sign_12 ?_
    refine lv_aload_n hx hb dX8_sign_15 rfl (lv_at hl 0 rfl) ?_
    refine zget (v := .int (md_reading S)) (ref := "SumOfTwoThatStandModel") (C := RX8) (T := TX8) (N := 33) (index := 130) X hh inX8_sign_X8 0 rfl rfl 17 (by decide) mmX8_sign_0 rfl rfl dX8_sign_16 ?_
    obtain ⟨g2, hf⟩ := ob_ix hf
    refine ziald (f := (md_tape S)) X hh 10 rfl g2 dX8_sign_19 ?_
    refine lv_goto (tgt := 24) hx hb dX8_sign_20 (by decide) ?_
    exact hr2 24 ls H locs ((md_tape S) (md_reading S).toNatClampNeg) hf dX8_sign_24 hh
def fX8_reads (S : zMd) (p1 : Int32) : Option (Int32 × zMd) :=
  (fX8_sign S).bind fun u1 =>
  if u1 = p1 then
  (some ((1 : Int32), (md_set_reading S ((md_reading S) + (1 : Int32)))))
  else
  (some ((0 : Int32), S))
theorem inX8_reads_X8 : ∀ w ∈ wsX80, w ∈ wsX8_reads := by decide +kernel
theorem mmX8_reads_0 : Cond.fieldLink RX8 130 "SumOfTwoThatStandModel" "reading" "I" ∈ wsX8_reads := by decide +kernel
theorem hdX8_reads : yX8_reads.cls ≠ "java/lang/invoke/MethodHandle" ∧ yX8_reads.cls ≠ "java/lang/invoke/VarHandle" ∧ (parseMethodDescriptor yX8_reads.desc).map (fun d => d.parameters.length) = some 1 := by decide +kernel
set_option maxHeartbeats 4000000 in
set_option maxRecDepth 100000 in
theorem kX8_reads (l : Launch) (K : zK) (a0 a1 a2 a3 a4 a5 a6 a7 a8 a9 a10 a11 a12 a13 a14 a15 a16 a17 a18 a19 : Nat) (S : zMd) (p1 : Int32) (R : Int32 × zMd) (hf : fX8_reads S p1 = some R) : zC l yX8_reads wsX8_reads ({ frames := 1, cells := 0, slots := 0, locals := 20 } : Room) K [.ref a0, .int p1] (cMd K a0 a1 a2 a3 a4 a5 a6 a7 a8 a9 a10 a11 a12 a13 a14 a15 a16 a17 a18 a19 S) (some (.int R.1)) (cMd K a0 a1 a2 a3 a4 a5 a6 a7 a8 a9 a10 a11 a12 a13 a14 a15 a16 a17 a18 a19 R.2) := by
  refine zC_z .boolean R.1 (cc := cX8_reads) (maxL := 2) (by decide +kernel) rfl (Nat.le_of_ble_eq_true rfl) rfl rfl ?_
  intro p e s m below meth c Q A X hret ls hl hh
  have X : zX p m c cX8_reads 2 s ([.ref a0, .int p1] : List Value).toArray wsX8_reads RX8 K A := X
  have hx := X.1.1
  have hb := X.1.2.1
  have hr2 : ∀ (pc : Nat) (ls : Array Slot) (H : Heap) (locs : List Loc) (v : Int32) (S : zMd), some (v, S) = some R → narrow .boolean (.int v) = .int v → decode cX8_reads pc = .ok (.ireturn, 1) → zW K A s H locs (cMd K a0 a1 a2 a3 a4 a5 a6 a7 a8 a9 a10 a11 a12 a13 a14 a15 a16 a17 a18 a19 S) → W p l e ({ frames := 1, cells := 0, slots := 0, locals := 20 } : Room) s m ([.ref a0, .int p1] : List Value).toArray below meth c H locs 0 0 Q (F0 m pc ls [.int v]) := by
    intro pc ls H locs v S h hn hd hh
    cases h; exact hret pc ls H locs _ rfl hn hd hh
  have hl : lv_has ls 2 [(0, .ref a0), (1, .int p1)] := hl
  unfold fX8_reads at hf
  refine (fun (hmain : ∀ (H : Heap) (locs : List Loc), zW K A s H locs (cMd K a0 a1 a2 a3 a4 a5 a6 a7 a8 a9 a10 a11 a12 a13 a14 a15 a16 a17 a18 a19 S) → W p l e ({ frames := 1, cells := 0, slots := 0, locals := 20 } : Room) s m ([.ref a0, .int p1] : List Value).toArray below meth c H locs 0 0 Q (F0 m 0 ls [])) => hmain s.heap [] hh) (fun H locs hh => ?_)
  refine lv_aload_n hx hb dX8_reads_0 rfl (lv_at hl 0 rfl) ?_
  obtain ⟨u1, hu1, hf⟩ := ob_bind hf
  refine zcallV (ci := 7) (q0 := 0) (As := []) (rest := []) (wr := []) (ws' := cMd K a0 a1 a2 a3 a4 a5 a6 a7 a8 a9 a10 a11 a12 a13 a14 a15 a16 a17 a18 a19 S) (ov := some (.int u1)) X hh hl (kX8_sign l K a0 a1 a2 a3 a4 a5 a6 a7 a8 a9 a10 a11 a12 a13 a14 a15 a16 a17 a18 a19 S u1 hu1) (fun ht => cwV 0 ht gX8_reads_X8_sign rfl rfl rfl ⟨rfl, hdX8_sign⟩ ⟨Nat.le_of_ble_eq_true rfl, Nat.le_of_ble_eq_true rfl⟩) [0, 1, 2, 3, 4, 5, 6, 7, 8, 9, 10, 11, 12, 13, 14, 15, 16, 17, 18, 19] [] [0, 1, 2, 3, 4, 5, 6, 7, 8, 9, 10, 11, 12, 13, 14, 15, 16, 17, 18, 19] rfl rfl rfl rfl (by decide) rfl rfl rfl rfl rfl rfl (Nat.le_of_ble_eq_true rfl) dX8_reads_1 ⟨Nat.zero_le _, Nat.zero_le _⟩ (fun H locs hh => ?_)
  refine lv_iload_n hx hb dX8_reads_4 rfl (lv_at hl 1 rfl) ?_
  refine lv_icmp_eq (tgt := 10) hx hb dX8_reads_5 (by decide) (fun c2 => ?_) (fun c2 => ?_)
  · replace hf := (if_pos c2).symm.trans hf
    refine lv_aload_n hx hb dX8_reads_10 rfl (lv_at hl 0 rfl) ?_
    refine lv_dup hx hb dX8_reads_11 rfl ?_
    refine zget (v := .int (md_reading S)) (ref := "SumOfTwoThatStandModel") (C := RX8) (T := TX8) (N := 33) (index := 130) X hh inX8_reads_X8 0 rfl rfl 17 (by decide) mmX8_reads_0 rfl rfl dX8_reads_12 ?_
    refine lv_iconst (v := (1 : Int32)) hx hb dX8_reads_15 (by decide) ?_
    refine lv_iadd hx hb dX8_reads_16 ?_
    refine zput (v := .int ((md_reading S) + (1 : Int32))) (ty := .int) (ref := "SumOfTwoThatStandModel") (C := RX8) (T := TX8) (N := 33) (index := 130) X hh inX8_reads_X8 tyX8 tyX8_ok nmX8 0 rfl rfl 17 (by decide) mmX8_reads_0 rfl rfl (by decide +kernel) rfl rfl (Nat.le_of_ble_eq_true rfl) dX8_reads_17 (fun H locs hh => ?_)
    have hh : zW K A s H locs (cMd K a0 a1 a2 a3 a4 a5 a6 a7 a8 a9 a10 a11 a12 a13 a14 a15 a16 a17 a18 a19 (md_set_reading S ((md_reading S) + (1 : Int32)))) := hh
    refine lv_iconst (v := (1 : Int32)) hx hb dX8_reads_20 (by decide) ?_
    exact hr2 21 ls H locs (1 : Int32) (md_set_reading S ((md_reading S) + (1 : Int32))) hf rfl dX8_reads_21 hh
  · replace hf := (if_neg c2).symm.trans hf
    refine lv_iconst (v := (0 : Int32)) hx hb dX8_reads_8 (by decide) ?_
    exact hr2 9 ls H locs (0 : Int32) S hf rfl dX8_reads_9 hh
def fX8_readsNumber_j52 (v2 : Int32) (v3 : Int32) (S : zMd) : Option (Int32 × zMd) :=
  ix 132 (md_telling S) (if v3 ≤ (0 : Int32) then
  (some ((0 : Int32), (md_set_telling (md_set_told S (upd (md_told S) (md_telling S).toNatClampNeg v2)) ((md_telling S) + (1 : Int32)))))
  else
  (some ((1 : Int32), (md_set_telling (md_set_told S (upd (md_told S) (md_telling S).toNatClampNeg v2)) ((md_telling S) + (1 : Int32))))))
def fX8_readsNumber_l4 (v1 : Int32) : Nat → (Int32) → (Int32) → (zMd) → Option (Int32 × zMd)
  | 0, _, _, _ => none
  | n + 1, v2, v3, S =>
  if v1 ≤ v3 then
  (fX8_readsNumber_j52 v2 v3 S)
  else
  ((fX8_sign S).bind fun u4 =>
  if (fX8_isIn u4 (48 : Int32) (57 : Int32)) = (0 : Int32) then
  (fX8_readsNumber_j52 v2 v3 S)
  else
  ((fX8_sign S).bind fun u7 =>
  fX8_readsNumber_l4 v1 n ((((10 : Int32) * v2) + u7) - (48 : Int32)) (v3 + (1 : Int32)) (md_set_reading S ((md_reading S) + (1 : Int32)))))
def fX8_readsNumber (S : zMd) (p1 : Int32) : Option (Int32 × zMd) :=
  fX8_readsNumber_l4 p1 FU (0 : Int32) (0 : Int32) S
theorem inX8_readsNumber_X8 : ∀ w ∈ wsX80, w ∈ wsX8_readsNumber := by decide +kernel
theorem mmX8_readsNumber_0 : Cond.fieldLink RX8 46 "SumOfTwoThatStandModel" "told" "[I" ∈ wsX8_readsNumber := by decide +kernel
theorem mmX8_readsNumber_1 : Cond.fieldLink RX8 136 "SumOfTwoThatStandModel" "telling" "I" ∈ wsX8_readsNumber := by decide +kernel
theorem mmX8_readsNumber_2 : Cond.fieldLink RX8 130 "SumOfTwoThatStandModel" "reading" "I" ∈ wsX8_readsNumber := by decide +kernel
theorem hdX8_readsNumber : yX8_readsNumber.cls ≠ "java/lang/invoke/MethodHandle" ∧ yX8_readsNumber.cls ≠ "java/lang/invoke/VarHandle" ∧ (parseMethodDescriptor yX8_readsNumber.desc).map (fun d => d.parameters.length) = some 1 := by decide +kernel
set_option maxHeartbeats 4000000 in
set_option maxRecDepth 100000 in
theorem kX8_readsNumber (l : Launch) (K : zK) (a0 a1 a2 a3 a4 a5 a6 a7 a8 a9 a10 a11 a12 a13 a14 a15 a16 a17 a18 a19 : Nat) (S : zMd) (p1 : Int32) (R : Int32 × zMd) (hf : fX8_readsNumber S p1 = some R) : zC l yX8_readsNumber wsX8_readsNumber ({ frames := 1, cells := 0, slots := 0, locals := 22 } : Room) K [.ref a0, .int p1] (cMd K a0 a1 a2 a3 a4 a5 a6 a7 a8 a9 a10 a11 a12 a13 a14 a15 a16 a17 a18 a19 S) (some (.int R.1)) (cMd K a0 a1 a2 a3 a4 a5 a6 a7 a8 a9 a10 a11 a12 a13 a14 a15 a16 a17 a18 a19 R.2) := by
  refine zC_z .boolean R.1 (cc := cX8_readsNumber) (maxL := 4) (by decide +kernel) rfl (Nat.le_of_ble_eq_true rfl) rfl rfl ?_
  intro p e s m below meth c Q A X hret ls hl hh
  have X : zX p m c cX8_readsNumber 4 s ([.ref a0, .int p1] : List Value).toArray wsX8_readsNumber RX8 K A := X
  have hx := X.1.1
  have hb := X.1.2.1
  have hr2 : ∀ (pc : Nat) (ls : Array Slot) (H : Heap) (locs : List Loc) (v : Int32) (S : zMd), some (v, S) = some R → narrow .boolean (.int v) = .int v → decode cX8_readsNumber pc = .ok (.ireturn, 1) → zW K A s H locs (cMd K a0 a1 a2 a3 a4 a5 a6 a7 a8 a9 a10 a11 a12 a13 a14 a15 a16 a17 a18 a19 S) → W p l e ({ frames := 1, cells := 0, slots := 0, locals := 22 } : Room) s m ([.ref a0, .int p1] : List Value).toArray below meth c H locs 0 0 Q (F0 m pc ls [.int v]) := by
    intro pc ls H locs v S h hn hd hh
    cases h; exact hret pc ls H locs _ rfl hn hd hh
  have hl : lv_has ls 4 [(0, .ref a0), (1, .int p1)] := hl
  have hJ52 : ∀ (v2 : Int32) (v3 : Int32) (S : zMd), ∀ (H : Heap) (locs : List Loc) (ls : Array Slot), fX8_readsNumber_j52 v2 v3 S = some R → lv_has ls 4 [(0, .ref a0), (2, .int v2), (3, .int v3)] → zW K A s H locs (cMd K a0 a1 a2 a3 a4 a5 a6 a7 a8 a9 a10 a11 a12 a13 a14 a15 a16 a17 a18 a19 S) → W p l e ({ frames := 1, cells := 0, slots := 0, locals := 22 } : Room) s m ([.ref a0, .int p1] : List Value).toArray below meth c H locs 0 0 Q (F0 m 52 ls []) := by
    intro v2 v3 S H locs ls hf hl hh
    unfold fX8_readsNumber_j52 at hf
    refine lv_aload_n hx hb dX8_readsNumber_52 rfl (lv_at hl 0 rfl) ?_
    refine zget (v := .ref a13) (ref := "SumOfTwoThatStandModel") (C := RX8) (T := TX8) (N := 33) (index := 46) X hh inX8_readsNumber_X8 0 rfl rfl 15 (by decide) mmX8_readsNumber_0 rfl rfl dX8_readsNumber_53 ?_
    refine lv_aload_n hx hb dX8_readsNumber_56 rfl (lv_at hl 0 rfl) ?_
    refine zget (v := .int (md_telling S)) (ref := "SumOfTwoThatStandModel") (C := RX8) (T := TX8) (N := 33) (index := 136) X hh inX8_readsNumber_X8 0 rfl rfl 19 (by decide) mmX8_readsNumber_1 rfl rfl dX8_readsNumber_57 ?_
    refine lv_iload_n hx hb dX8_readsNumber_60 rfl (lv_at hl 1 rfl) ?_
    obtain ⟨g1, hf⟩ := ob_ix hf
    refine ziast (f := (md_told S)) X hh 13 rfl g1 dX8_readsNumber_61 (fun H locs hh => ?_)
    have hh : zW K A s H locs (cMd K a0 a1 a2 a3 a4 a5 a6 a7 a8 a9 a10 a11 a12 a13 a14 a15 a16 a17 a18 a19 (md_set_told S (upd (md_told S) (md_telling S).toNatClampNeg v2))) := hh
    refine lv_aload_n hx hb dX8_readsNumber_62 rfl (lv_at hl 0 rfl) ?_
    refine lv_dup hx hb dX8_readsNumber_63 rfl ?_
    refine zget (v := .int (md_telling S)) (ref := "SumOfTwoThatStandModel") (C := RX8) (T := TX8) (N := 33) (index := 136) X hh inX8_readsNumber_X8 0 rfl rfl 19 (by decide) mmX8_readsNumber_1 rfl rfl dX8_readsNumber_64 ?_
    refine lv_iconst (v := (1 : Int32)) hx hb dX8_readsNumber_67 (by decide) ?_
    refine lv_iadd hx hb dX8_readsNumber_68 ?_
    refine zput (v := .int ((md_telling S) + (1 : Int32))) (ty := .int) (ref := "SumOfTwoThatStandModel") (C := RX8) (T := TX8) (N := 33) (index := 136) X hh inX8_readsNumber_X8 tyX8 tyX8_ok nmX8 0 rfl rfl 19 (by decide) mmX8_readsNumber_1 rfl rfl (by decide +kernel) rfl rfl (Nat.le_of_ble_eq_true rfl) dX8_readsNumber_69 (fun H locs hh => ?_)
    have hh : zW K A s H locs (cMd K a0 a1 a2 a3 a4 a5 a6 a7 a8 a9 a10 a11 a12 a13 a14 a15 a16 a17 a18 a19 (md_set_telling (md_set_told S (upd (md_told S) (md_telling S).toNatClampNeg v2)) ((md_telling S) + (1 : Int32)))) := hh
    refine lv_iload_n hx hb dX8_readsNumber_72 rfl (lv_at hl 2 rfl) ?_
    refine lv_if_le (tgt := 80) hx hb dX8_readsNumber_73 (by decide) (fun c2 => ?_) (fun c2 => ?_)
    · replace hf := (if_pos c2).symm.trans hf
      refine lv_iconst (v := (0 : Int32)) hx hb dX8_readsNumber_80 (by decide) ?_
      exact hr2 81 ls H locs (0 : Int32) (md_set_telling (md_set_told S (upd (md_told S) (md_telling S).toNatClampNeg v2)) ((md_telling S) + (1 : Int32))) hf rfl dX8_readsNumber_81 hh
    · replace hf := (if_neg c2).symm.trans hf
      refine lv_iconst (v := (1 : Int32)) hx hb dX8_readsNumber_76 (by decide) ?_
      refine lv_goto (tgt := 81) hx hb dX8_readsNumber_77 (by decide) ?_
      exact hr2 81 ls H locs (1 : Int32) (md_set_telling (md_set_told S (upd (md_told S) (md_telling S).toNatClampNeg v2)) ((md_telling S) + (1 : Int32))) hf rfl dX8_readsNumber_81 hh
  have hL4 : ∀ (v1 : Int32), ∀ (n : Nat) (v2 : Int32) (v3 : Int32) (S : zMd), ∀ (H : Heap) (locs : List Loc) (ls : Array Slot), fX8_readsNumber_l4 v1 n v2 v3 S = some R → lv_has ls 4 [(0, .ref a0), (1, .int v1), (2, .int v2), (3, .int v3)] → zW K A s H locs (cMd K a0 a1 a2 a3 a4 a5 a6 a7 a8 a9 a10 a11 a12 a13 a14 a15 a16 a17 a18 a19 S) → W p l e ({ frames := 1, cells := 0, slots := 0, locals := 22 } : Room) s m ([.ref a0, .int p1] : List Value).toArray below meth c H locs 0 0 Q (F0 m 4 ls []) := by
    intro v1 n
    induction n with
    | zero =>
      intro v2 v3 S H locs ls hf hl hh
      rw [fX8_readsNumber_l4] at hf; cases hf
    | succ n ih =>
      intro v2 v3 S H locs ls hf hl hh
      rw [fX8_readsNumber_l4] at hf
      refine lv_iload_n hx hb dX8_readsNumber_4 rfl (lv_at hl 3 rfl) ?_
      refine lv_iload_n hx hb dX8_readsNumber_5 rfl (lv_at hl 1 rfl) ?_
      refine lv_icmp_ge (tgt := 52) hx hb dX8_readsNumber_6 (by decide) (fun c3 => ?_) (fun c3 => ?_)
      · replace hf := (if_pos c3).symm.trans hf
        exact hJ52 v2 v3 S H locs ls hf (lv_sub hl [0, 2, 3] rfl) hh
      · replace hf := (if_neg c3).symm.trans hf
        refine lv_aload_n hx hb dX8_readsNumber_9 rfl (lv_at hl 0 rfl) ?_
        obtain ⟨u4, hu4, hf⟩ := ob_bind hf
        refine zcallV (ci := 7) (q0 := 0) (As := []) (rest := []) (wr := []) (ws' := cMd K a0 a1 a2 a3 a4 a5 a6 a7 a8 a9 a10 a11 a12 a13 a14 a15 a16 a17 a18 a19 S) (ov := some (.int u4)) X hh hl (kX8_sign l K a0 a1 a2 a3 a4 a5 a6 a7 a8 a9 a10 a11 a12 a13 a14 a15 a16 a17 a18 a19 S u4 hu4) (fun ht => cwV 0 ht gX8_readsNumber_X8_sign rfl rfl rfl ⟨rfl, hdX8_sign⟩ ⟨Nat.le_of_ble_eq_true rfl, Nat.le_of_ble_eq_true rfl⟩) [0, 1, 2, 3, 4, 5, 6, 7, 8, 9, 10, 11, 12, 13, 14, 15, 16, 17, 18, 19] [] [0, 1, 2, 3, 4, 5, 6, 7, 8, 9, 10, 11, 12, 13, 14, 15, 16, 17, 18, 19] rfl rfl rfl rfl (by decide) rfl rfl rfl rfl rfl rfl (Nat.le_of_ble_eq_true rfl) dX8_readsNumber_10 ⟨Nat.zero_le _, Nat.zero_le _⟩ (fun H locs hh => ?_)
        refine lv_bipush (v := (48 : Int32)) hx hb dX8_readsNumber_13 (by decide) ?_
        refine lv_bipush (v := (57 : Int32)) hx hb dX8_readsNumber_15 (by decide) ?_
        refine zcallS (As := [.int u4, .int (48 : Int32), .int (57 : Int32)]) (rest := []) (wr := cMd K a0 a1 a2 a3 a4 a5 a6 a7 a8 a9 a10 a11 a12 a13 a14 a15 a16 a17 a18 a19 S) (ws' := cMd K a0 a1 a2 a3 a4 a5 a6 a7 a8 a9 a10 a11 a12 a13 a14 a15 a16 a17 a18 a19 S) (ov := some (.int (fX8_isIn u4 (48 : Int32) (57 : Int32)))) X hh hl (kX8_isIn l K u4 (48 : Int32) (57 : Int32) (fX8_isIn u4 (48 : Int32) (57 : Int32)) rfl) (fun ht => va_cwS 3 ht gX8_readsNumber_X8_isIn rfl rfl rfl hdX8_isIn ⟨Nat.le_of_ble_eq_true rfl, Nat.le_of_ble_eq_true rfl⟩) [] [0, 1, 2, 3, 4, 5, 6, 7, 8, 9, 10, 11, 12, 13, 14, 15, 16, 17, 18, 19] [0, 1, 2, 3, 4, 5, 6, 7, 8, 9, 10, 11, 12, 13, 14, 15, 16, 17, 18, 19] rfl rfl rfl rfl (by decide) rfl rfl rfl rfl (Nat.le_of_ble_eq_true rfl) dX8_readsNumber_17 ⟨Nat.zero_le _, Nat.zero_le _⟩ (fun H locs hh => ?_)
        refine lv_if_eq (tgt := 52) hx hb dX8_readsNumber_20 (by decide) (fun c6 => ?_) (fun c6 => ?_)
        · replace hf := (if_pos c6).symm.trans hf
          exact hJ52 v2 v3 S H locs ls hf (lv_sub hl [0, 2, 3] rfl) hh
        · replace hf := (if_neg c6).symm.trans hf
          refine lv_bipush (v := (10 : Int32)) hx hb dX8_readsNumber_23 (by decide) ?_
          refine lv_iload_n hx hb dX8_readsNumber_25 rfl (lv_at hl 2 rfl) ?_
          refine lv_imul hx hb dX8_readsNumber_26 ?_
          refine lv_aload_n hx hb dX8_readsNumber_27 rfl (lv_at hl 0 rfl) ?_
          obtain ⟨u7, hu7, hf⟩ := ob_bind hf
          refine zcallV (ci := 7) (q0 := 0) (As := []) (rest := [.int ((10 : Int32) * v2)]) (wr := []) (ws' := cMd K a0 a1 a2 a3 a4 a5 a6 a7 a8 a9 a10 a11 a12 a13 a14 a15 a16 a17 a18 a19 S) (ov := some (.int u7)) X hh hl (kX8_sign l K a0 a1 a2 a3 a4 a5 a6 a7 a8 a9 a10 a11 a12 a13 a14 a15 a16 a17 a18 a19 S u7 hu7) (fun ht => cwV 0 ht gX8_readsNumber_X8_sign rfl rfl rfl ⟨rfl, hdX8_sign⟩ ⟨Nat.le_of_ble_eq_true rfl, Nat.le_of_ble_eq_true rfl⟩) [0, 1, 2, 3, 4, 5, 6, 7, 8, 9, 10, 11, 12, 13, 14, 15, 16, 17, 18, 19] [] [0, 1, 2, 3, 4, 5, 6, 7, 8, 9, 10, 11, 12, 13, 14, 15, 16, 17, 18, 19] rfl rfl rfl rfl (by decide) rfl rfl rfl rfl rfl rfl (Nat.le_of_ble_eq_true rfl) dX8_readsNumber_28 ⟨Nat.zero_le _, Nat.zero_le _⟩ (fun H locs hh => ?_)
          refine lv_iadd hx hb dX8_readsNumber_31 ?_
          refine lv_bipush (v := (48 : Int32)) hx hb dX8_readsNumber_32 (by decide) ?_
          refine lv_isub hx hb dX8_readsNumber_34 ?_
          refine lv_istore_n (lv' := [(2, .int ((((10 : Int32) * v2) + u7) - (48 : Int32))), (0, .ref a0), (1, .int v1), (3, .int v3)]) hx hb dX8_readsNumber_35 rfl hl (by decide) rfl (fun ls hl => ?_)
          refine lv_aload_n hx hb dX8_readsNumber_36 rfl (lv_at hl 1 rfl) ?_
          refine lv_dup hx hb dX8_readsNumber_37 rfl ?_
          refine zget (v := .int (md_reading S)) (ref := "SumOfTwoThatStandModel") (C := RX8) (T := TX8) (N := 33) (index := 130) X hh inX8_readsNumber_X8 0 rfl rfl 17 (by decide) mmX8_readsNumber_2 rfl rfl dX8_readsNumber_38 ?_
          refine lv_iconst (v := (1 : Int32)) hx hb dX8_readsNumber_41 (by decide) ?_
          refine lv_iadd hx hb dX8_readsNumber_42 ?_
          refine zput (v := .int ((md_reading S) + (1 : Int32))) (ty := .int) (ref := "SumOfTwoThatStandModel") (C := RX8) (T := TX8) (N := 33) (index := 130) X hh inX8_readsNumber_X8 tyX8 tyX8_ok nmX8 0 rfl rfl 17 (by decide) mmX8_readsNumber_2 rfl rfl (by decide +kernel) rfl rfl (Nat.le_of_ble_eq_true rfl) dX8_readsNumber_43 (fun H locs hh => ?_)
          have hh : zW K A s H locs (cMd K a0 a1 a2 a3 a4 a5 a6 a7 a8 a9 a10 a11 a12 a13 a14 a15 a16 a17 a18 a19 (md_set_reading S ((md_reading S) + (1 : Int32)))) := hh
          refine lv_iinc (v := (v3 + (1 : Int32))) (lv' := [(3, .int (v3 + (1 : Int32))), (2, .int ((((10 : Int32) * v2) + u7) - (48 : Int32))), (0, .ref a0), (1, .int v1)]) hx hb dX8_readsNumber_46 hl (k := 3) rfl rfl (by decide) rfl (fun ls hl => ?_)
          refine lv_goto (tgt := 4) hx hb dX8_readsNumber_49 (by decide) ?_
          exact ih ((((10 : Int32) * v2) + u7) - (48 : Int32)) (v3 + (1 : Int32)) (md_set_reading S ((md_reading S) + (1 : Int32))) H locs ls hf (lv_sub hl [2, 3, 1, 0] rfl) hh
  unfold fX8_readsNumber at hf
  refine (fun (hmain : ∀ (H : Heap) (locs : List Loc), zW K A s H locs (cMd K a0 a1 a2 a3 a4 a5 a6 a7 a8 a9 a10 a11 a12 a13 a14 a15 a16 a17 a18 a19 S) → W p l e ({ frames := 1, cells := 0, slots := 0, locals := 22 } : Room) s m ([.ref a0, .int p1] : List Value).toArray below meth c H locs 0 0 Q (F0 m 0 ls [])) => hmain s.heap [] hh) (fun H locs hh => ?_)
  refine lv_iconst (v := (0 : Int32)) hx hb dX8_readsNumber_0 (by decide) ?_
  refine lv_istore_n (lv' := [(2, .int (0 : Int32)), (0, .ref a0), (1, .int p1)]) hx hb dX8_readsNumber_1 rfl hl (by decide) rfl (fun ls hl => ?_)
  refine lv_iconst (v := (0 : Int32)) hx hb dX8_readsNumber_2 (by decide) ?_
  refine lv_istore_n (lv' := [(3, .int (0 : Int32)), (2, .int (0 : Int32)), (0, .ref a0), (1, .int p1)]) hx hb dX8_readsNumber_3 rfl hl (by decide) rfl (fun ls hl => ?_)
  exact hL4 p1 FU (0 : Int32) (0 : Int32) S H locs ls hf (lv_sub hl [2, 3, 1, 0] rfl) hh
def fX8_readsAll (S : zMd) (p1 : Int32) : Option (Int32 × zMd) :=
  if p1 = (97 : Int32) then
  ((fX8_readsNumber S (2 : Int32)).bind fun u2 =>
  if u2.1 = (0 : Int32) then
  (some ((0 : Int32), u2.2))
  else
  ((fX8_reads u2.2 (44 : Int32)).bind fun u4 =>
  if u4.1 = (0 : Int32) then
  (some ((0 : Int32), u4.2))
  else
  ((fX8_readsNumber u4.2 (2 : Int32)).bind fun u6 =>
  if u6.1 = (0 : Int32) then
  (some ((0 : Int32), u6.2))
  else
  ((fX8_reads u6.2 (44 : Int32)).bind fun u8 =>
  if u8.1 = (0 : Int32) then
  (some ((0 : Int32), u8.2))
  else
  ((fX8_readsNumber u8.2 (1 : Int32)).bind fun u10 =>
  if u10.1 = (0 : Int32) then
  (some ((0 : Int32), u10.2))
  else
  ((fX8_readsNumber u10.2 (1 : Int32)).bind fun u12 =>
  if u12.1 = (0 : Int32) then
  (some ((0 : Int32), u12.2))
  else
  (some ((1 : Int32), u12.2))))))))
  else
  (if p1 = (98 : Int32) then
  ((fX8_readsNumber S (2 : Int32)).bind fun u14 =>
  if u14.1 &&& 1 = u14.1 then some (u14.1, u14.2) else none)
  else
  (if p1 = (108 : Int32) then
  ((fX8_readsNumber S (1 : Int32)).bind fun u16 =>
  if u16.1 = (0 : Int32) then
  (some ((0 : Int32), u16.2))
  else
  ((fX8_readsNumber u16.2 (1 : Int32)).bind fun u18 =>
  if u18.1 = (0 : Int32) then
  (some ((0 : Int32), u18.2))
  else
  (some ((1 : Int32), u18.2))))
  else
  (some ((1 : Int32), S))))
theorem hdX8_readsAll : yX8_readsAll.cls ≠ "java/lang/invoke/MethodHandle" ∧ yX8_readsAll.cls ≠ "java/lang/invoke/VarHandle" ∧ (parseMethodDescriptor yX8_readsAll.desc).map (fun d => d.parameters.length) = some 1 := by decide +kernel
set_option maxHeartbeats 4000000 in
set_option maxRecDepth 100000 in
theorem kX8_readsAll (l : Launch) (K : zK) (a0 a1 a2 a3 a4 a5 a6 a7 a8 a9 a10 a11 a12 a13 a14 a15 a16 a17 a18 a19 : Nat) (S : zMd) (p1 : Int32) (R : Int32 × zMd) (hf : fX8_readsAll S p1 = some R) : zC l yX8_readsAll wsX8_readsAll ({ frames := 2, cells := 0, slots := 0, locals := 45 } : Room) K [.ref a0, .int p1] (cMd K a0 a1 a2 a3 a4 a5 a6 a7 a8 a9 a10 a11 a12 a13 a14 a15 a16 a17 a18 a19 S) (some (.int R.1)) (cMd K a0 a1 a2 a3 a4 a5 a6 a7 a8 a9 a10 a11 a12 a13 a14 a15 a16 a17 a18 a19 R.2) := by
  refine zC_z .boolean R.1 (cc := cX8_readsAll) (maxL := 2) (by decide +kernel) rfl (Nat.le_of_ble_eq_true rfl) rfl rfl ?_
  intro p e s m below meth c Q A X hret ls hl hh
  have X : zX p m c cX8_readsAll 2 s ([.ref a0, .int p1] : List Value).toArray wsX8_readsAll RX8 K A := X
  have hx := X.1.1
  have hb := X.1.2.1
  have hr2 : ∀ (pc : Nat) (ls : Array Slot) (H : Heap) (locs : List Loc) (v : Int32) (S : zMd), some (v, S) = some R → narrow .boolean (.int v) = .int v → decode cX8_readsAll pc = .ok (.ireturn, 1) → zW K A s H locs (cMd K a0 a1 a2 a3 a4 a5 a6 a7 a8 a9 a10 a11 a12 a13 a14 a15 a16 a17 a18 a19 S) → W p l e ({ frames := 2, cells := 0, slots := 0, locals := 45 } : Room) s m ([.ref a0, .int p1] : List Value).toArray below meth c H locs 0 0 Q (F0 m pc ls [.int v]) := by
    intro pc ls H locs v S h hn hd hh
    cases h; exact hret pc ls H locs _ rfl hn hd hh
  have hl : lv_has ls 2 [(0, .ref a0), (1, .int p1)] := hl
  unfold fX8_readsAll at hf
  refine (fun (hmain : ∀ (H : Heap) (locs : List Loc), zW K A s H locs (cMd K a0 a1 a2 a3 a4 a5 a6 a7 a8 a9 a10 a11 a12 a13 a14 a15 a16 a17 a18 a19 S) → W p l e ({ frames := 2, cells := 0, slots := 0, locals := 45 } : Room) s m ([.ref a0, .int p1] : List Value).toArray below meth c H locs 0 0 Q (F0 m 0 ls [])) => hmain s.heap [] hh) (fun H locs hh => ?_)
  refine lv_iload_n hx hb dX8_readsAll_0 rfl (lv_at hl 1 rfl) ?_
  by_cases c1_0 : p1 = (97 : Int32)
  · replace hf := (if_pos c1_0).symm.trans hf
    refine lv_lookup (off := 35) (tgt := 36) hx hb dX8_readsAll_1 (by decide) (by rw [c1_0]; decide) (by decide) ?_
    refine lv_aload_n hx hb dX8_readsAll_36 rfl (lv_at hl 0 rfl) ?_
    refine lv_iconst (v := (2 : Int32)) hx hb dX8_readsAll_37 (by decide) ?_
    obtain ⟨u2, hu2, hf⟩ := ob_bind hf
    refine zcallV (ci := 7) (q0 := 0) (As := [.int (2 : Int32)]) (rest := []) (wr := []) (ws' := cMd K a0 a1 a2 a3 a4 a5 a6 a7 a8 a9 a10 a11 a12 a13 a14 a15 a16 a17 a18 a19 u2.2) (ov := some (.int u2.1)) X hh hl (kX8_readsNumber l K a0 a1 a2 a3 a4 a5 a6 a7 a8 a9 a10 a11 a12 a13 a14 a15 a16 a17 a18 a19 S (2 : Int32) u2 hu2) (fun ht => cwV 1 ht gX8_readsAll_X8_readsNumber rfl rfl rfl ⟨rfl, hdX8_readsNumber⟩ ⟨Nat.le_of_ble_eq_true rfl, Nat.le_of_ble_eq_true rfl⟩) [0, 1, 2, 3, 4, 5, 6, 7, 8, 9, 10, 11, 12, 13, 14, 15, 16, 17, 18, 19] [] [0, 1, 2, 3, 4, 5, 6, 7, 8, 9, 10, 11, 12, 13, 14, 15, 16, 17, 18, 19] rfl rfl rfl rfl (by decide) rfl rfl rfl rfl rfl rfl (Nat.le_of_ble_eq_true rfl) dX8_readsAll_38 ⟨Nat.zero_le _, Nat.zero_le _⟩ (fun H locs hh => ?_)
    refine lv_if_eq (tgt := 90) hx hb dX8_readsAll_41 (by decide) (fun c3 => ?_) (fun c3 => ?_)
    · replace hf := (if_pos c3).symm.trans hf
      refine lv_iconst (v := (0 : Int32)) hx hb dX8_readsAll_90 (by decide) ?_
      exact hr2 91 ls H locs (0 : Int32) u2.2 hf rfl dX8_readsAll_91 hh
    · replace hf := (if_neg c3).symm.trans hf
      refine lv_aload_n hx hb dX8_readsAll_44 rfl (lv_at hl 0 rfl) ?_
      refine lv_bipush (v := (44 : Int32)) hx hb dX8_readsAll_45 (by decide) ?_
      obtain ⟨u4, hu4, hf⟩ := ob_bind hf
      refine zcallV (ci := 7) (q0 := 0) (As := [.int (44 : Int32)]) (rest := []) (wr := []) (ws' := cMd K a0 a1 a2 a3 a4 a5 a6 a7 a8 a9 a10 a11 a12 a13 a14 a15 a16 a17 a18 a19 u4.2) (ov := some (.int u4.1)) X hh hl (kX8_reads l K a0 a1 a2 a3 a4 a5 a6 a7 a8 a9 a10 a11 a12 a13 a14 a15 a16 a17 a18 a19 u2.2 (44 : Int32) u4 hu4) (fun ht => cwV 1 ht gX8_readsAll_X8_reads rfl rfl rfl ⟨rfl, hdX8_reads⟩ ⟨Nat.le_of_ble_eq_true rfl, Nat.le_of_ble_eq_true rfl⟩) [0, 1, 2, 3, 4, 5, 6, 7, 8, 9, 10, 11, 12, 13, 14, 15, 16, 17, 18, 19] [] [0, 1, 2, 3, 4, 5, 6, 7, 8, 9, 10, 11, 12, 13, 14, 15, 16, 17, 18, 19] rfl rfl rfl rfl (by decide) rfl rfl rfl rfl rfl rfl (Nat.le_of_ble_eq_true rfl) dX8_readsAll_47 ⟨Nat.zero_le _, Nat.zero_le _⟩ (fun H locs hh => ?_)
      refine lv_if_eq (tgt := 90) hx hb dX8_readsAll_50 (by decide) (fun c5 => ?_) (fun c5 => ?_)
      · replace hf := (if_pos c5).symm.trans hf
        refine lv_iconst (v := (0 : Int32)) hx hb dX8_readsAll_90 (by decide) ?_
        exact hr2 91 ls H locs (0 : Int32) u4.2 hf rfl dX8_readsAll_91 hh
      · replace hf := (if_neg c5).symm.trans hf
        refine lv_aload_n hx hb dX8_readsAll_53 rfl (lv_at hl 0 rfl) ?_
        refine lv_iconst (v := (2 : Int32)) hx hb dX8_readsAll_54 (by decide) ?_
        obtain ⟨u6, hu6, hf⟩ := ob_bind hf
        refine zcallV (ci := 7) (q0 := 0) (As := [.int (2 : Int32)]) (rest := []) (wr := []) (ws' := cMd K a0 a1 a2 a3 a4 a5 a6 a7 a8 a9 a10 a11 a12 a13 a14 a15 a16 a17 a18 a19 u6.2) (ov := some (.int u6.1)) X hh hl (kX8_readsNumber l K a0 a1 a2 a3 a4 a5 a6 a7 a8 a9 a10 a11 a12 a13 a14 a15 a16 a17 a18 a19 u4.2 (2 : Int32) u6 hu6) (fun ht => cwV 1 ht gX8_readsAll_X8_readsNumber rfl rfl rfl ⟨rfl, hdX8_readsNumber⟩ ⟨Nat.le_of_ble_eq_true rfl, Nat.le_of_ble_eq_true rfl⟩) [0, 1, 2, 3, 4, 5, 6, 7, 8, 9, 10, 11, 12, 13, 14, 15, 16, 17, 18, 19] [] [0, 1, 2, 3, 4, 5, 6, 7, 8, 9, 10, 11, 12, 13, 14, 15, 16, 17, 18, 19] rfl rfl rfl rfl (by decide) rfl rfl rfl rfl rfl rfl (Nat.le_of_ble_eq_true rfl) dX8_readsAll_55 ⟨Nat.zero_le _, Nat.zero_le _⟩ (fun H locs hh => ?_)
        refine lv_if_eq (tgt := 90) hx hb dX8_readsAll_58 (by decide) (fun c7 => ?_) (fun c7 => ?_)
        · replace hf := (if_pos c7).symm.trans hf
          refine lv_iconst (v := (0 : Int32)) hx hb dX8_readsAll_90 (by decide) ?_
          exact hr2 91 ls H locs (0 : Int32) u6.2 hf rfl dX8_readsAll_91 hh
        · replace hf := (if_neg c7).symm.trans hf
          refine lv_aload_n hx hb dX8_readsAll_61 rfl (lv_at hl 0 rfl) ?_
          refine lv_bipush (v := (44 : Int32)) hx hb dX8_readsAll_62 (by decide) ?_
          obtain ⟨u8, hu8, hf⟩ := ob_bind hf
          refine zcallV (ci := 7) (q0 := 0) (As := [.int (44 : Int32)]) (rest := []) (wr := []) (ws' := cMd K a0 a1 a2 a3 a4 a5 a6 a7 a8 a9 a10 a11 a12 a13 a14 a15 a16 a17 a18 a19 u8.2) (ov := some (.int u8.1)) X hh hl (kX8_reads l K a0 a1 a2 a3 a4 a5 a6 a7 a8 a9 a10 a11 a12 a13 a14 a15 a16 a17 a18 a19 u6.2 (44 : Int32) u8 hu8) (fun ht => cwV 1 ht gX8_readsAll_X8_reads rfl rfl rfl ⟨rfl, hdX8_reads⟩ ⟨Nat.le_of_ble_eq_true rfl, Nat.le_of_ble_eq_true rfl⟩) [0, 1, 2, 3, 4, 5, 6, 7, 8, 9, 10, 11, 12, 13, 14, 15, 16, 17, 18, 19] [] [0, 1, 2, 3, 4, 5, 6, 7, 8, 9, 10, 11, 12, 13, 14, 15, 16, 17, 18, 19] rfl rfl rfl rfl (by decide) rfl rfl rfl rfl rfl rfl (Nat.le_of_ble_eq_true rfl) dX8_readsAll_64 ⟨Nat.zero_le _, Nat.zero_le _⟩ (fun H locs hh => ?_)
          refine lv_if_eq (tgt := 90) hx hb dX8_readsAll_67 (by decide) (fun c9 => ?_) (fun c9 => ?_)
          · replace hf := (if_pos c9).symm.trans hf
            refine lv_iconst (v := (0 : Int32)) hx hb dX8_readsAll_90 (by decide) ?_
            exact hr2 91 ls H locs (0 : Int32) u8.2 hf rfl dX8_readsAll_91 hh
          · replace hf := (if_neg c9).symm.trans hf
            refine lv_aload_n hx hb dX8_readsAll_70 rfl (lv_at hl 0 rfl) ?_
            refine lv_iconst (v := (1 : Int32)) hx hb dX8_readsAll_71 (by decide) ?_
            obtain ⟨u10, hu10, hf⟩ := ob_bind hf
            refine zcallV (ci := 7) (q0 := 0) (As := [.int (1 : Int32)]) (rest := []) (wr := []) (ws' := cMd K a0 a1 a2 a3 a4 a5 a6 a7 a8 a9 a10 a11 a12 a13 a14 a15 a16 a17 a18 a19 u10.2) (ov := some (.int u10.1)) X hh hl (kX8_readsNumber l K a0 a1 a2 a3 a4 a5 a6 a7 a8 a9 a10 a11 a12 a13 a14 a15 a16 a17 a18 a19 u8.2 (1 : Int32) u10 hu10) (fun ht => cwV 1 ht gX8_readsAll_X8_readsNumber rfl rfl rfl ⟨rfl, hdX8_readsNumber⟩ ⟨Nat.le_of_ble_eq_true rfl, Nat.le_of_ble_eq_true rfl⟩) [0, 1, 2, 3, 4, 5, 6, 7, 8, 9, 10, 11, 12, 13, 14, 15, 16, 17, 18, 19] [] [0, 1, 2, 3, 4, 5, 6, 7, 8, 9, 10, 11, 12, 13, 14, 15, 16, 17, 18, 19] rfl rfl rfl rfl (by decide) rfl rfl rfl rfl rfl rfl (Nat.le_of_ble_eq_true rfl) dX8_readsAll_72 ⟨Nat.zero_le _, Nat.zero_le _⟩ (fun H locs hh => ?_)
            refine lv_if_eq (tgt := 90) hx hb dX8_readsAll_75 (by decide) (fun c11 => ?_) (fun c11 => ?_)
            · replace hf := (if_pos c11).symm.trans hf
              refine lv_iconst (v := (0 : Int32)) hx hb dX8_readsAll_90 (by decide) ?_
              exact hr2 91 ls H locs (0 : Int32) u10.2 hf rfl dX8_readsAll_91 hh
            · replace hf := (if_neg c11).symm.trans hf
              refine lv_aload_n hx hb dX8_readsAll_78 rfl (lv_at hl 0 rfl) ?_
              refine lv_iconst (v := (1 : Int32)) hx hb dX8_readsAll_79 (by decide) ?_
              obtain ⟨u12, hu12, hf⟩ := ob_bind hf
              refine zcallV (ci := 7) (q0 := 0) (As := [.int (1 : Int32)]) (rest := []) (wr := []) (ws' := cMd K a0 a1 a2 a3 a4 a5 a6 a7 a8 a9 a10 a11 a12 a13 a14 a15 a16 a17 a18 a19 u12.2) (ov := some (.int u12.1)) X hh hl (kX8_readsNumber l K a0 a1 a2 a3 a4 a5 a6 a7 a8 a9 a10 a11 a12 a13 a14 a15 a16 a17 a18 a19 u10.2 (1 : Int32) u12 hu12) (fun ht => cwV 1 ht gX8_readsAll_X8_readsNumber rfl rfl rfl ⟨rfl, hdX8_readsNumber⟩ ⟨Nat.le_of_ble_eq_true rfl, Nat.le_of_ble_eq_true rfl⟩) [0, 1, 2, 3, 4, 5, 6, 7, 8, 9, 10, 11, 12, 13, 14, 15, 16, 17, 18, 19] [] [0, 1, 2, 3, 4, 5, 6, 7, 8, 9, 10, 11, 12, 13, 14, 15, 16, 17, 18, 19] rfl rfl rfl rfl (by decide) rfl rfl rfl rfl rfl rfl (Nat.le_of_ble_eq_true rfl) dX8_readsAll_80 ⟨Nat.zero_le _, Nat.zero_le _⟩ (fun H locs hh => ?_)
              refine lv_if_eq (tgt := 90) hx hb dX8_readsAll_83 (by decide) (fun c13 => ?_) (fun c13 => ?_)
              · replace hf := (if_pos c13).symm.trans hf
                refine lv_iconst (v := (0 : Int32)) hx hb dX8_readsAll_90 (by decide) ?_
                exact hr2 91 ls H locs (0 : Int32) u12.2 hf rfl dX8_readsAll_91 hh
              · replace hf := (if_neg c13).symm.trans hf
                refine lv_iconst (v := (1 : Int32)) hx hb dX8_readsAll_86 (by decide) ?_
                refine lv_goto (tgt := 91) hx hb dX8_readsAll_87 (by decide) ?_
                exact hr2 91 ls H locs (1 : Int32) u12.2 hf rfl dX8_readsAll_91 hh
  replace hf := (if_neg c1_0).symm.trans hf
  by_cases c1_1 : p1 = (98 : Int32)
  · replace hf := (if_pos c1_1).symm.trans hf
    refine lv_lookup (off := 91) (tgt := 92) hx hb dX8_readsAll_1 (by decide) (by rw [c1_1]; decide) (by decide) ?_
    refine lv_aload_n hx hb dX8_readsAll_92 rfl (lv_at hl 0 rfl) ?_
    refine lv_iconst (v := (2 : Int32)) hx hb dX8_readsAll_93 (by decide) ?_
    obtain ⟨u14, hu14, hf⟩ := ob_bind hf
    refine zcallV (ci := 7) (q0 := 0) (As := [.int (2 : Int32)]) (rest := []) (wr := []) (ws' := cMd K a0 a1 a2 a3 a4 a5 a6 a7 a8 a9 a10 a11 a12 a13 a14 a15 a16 a17 a18 a19 u14.2) (ov := some (.int u14.1)) X hh hl (kX8_readsNumber l K a0 a1 a2 a3 a4 a5 a6 a7 a8 a9 a10 a11 a12 a13 a14 a15 a16 a17 a18 a19 S (2 : Int32) u14 hu14) (fun ht => cwV 1 ht gX8_readsAll_X8_readsNumber rfl rfl rfl ⟨rfl, hdX8_readsNumber⟩ ⟨Nat.le_of_ble_eq_true rfl, Nat.le_of_ble_eq_true rfl⟩) [0, 1, 2, 3, 4, 5, 6, 7, 8, 9, 10, 11, 12, 13, 14, 15, 16, 17, 18, 19] [] [0, 1, 2, 3, 4, 5, 6, 7, 8, 9, 10, 11, 12, 13, 14, 15, 16, 17, 18, 19] rfl rfl rfl rfl (by decide) rfl rfl rfl rfl rfl rfl (Nat.le_of_ble_eq_true rfl) dX8_readsAll_94 ⟨Nat.zero_le _, Nat.zero_le _⟩ (fun H locs hh => ?_)
    obtain ⟨g15, hf⟩ := ob_ck hf
    exact hr2 97 ls H locs u14.1 u14.2 hf (nar_ok g15) dX8_readsAll_97 hh
  replace hf := (if_neg c1_1).symm.trans hf
  by_cases c1_2 : p1 = (108 : Int32)
  · replace hf := (if_pos c1_2).symm.trans hf
    refine lv_lookup (off := 97) (tgt := 98) hx hb dX8_readsAll_1 (by decide) (by rw [c1_2]; decide) (by decide) ?_
    refine lv_aload_n hx hb dX8_readsAll_98 rfl (lv_at hl 0 rfl) ?_
    refine lv_iconst (v := (1 : Int32)) hx hb dX8_readsAll_99 (by decide) ?_
    obtain ⟨u16, hu16, hf⟩ := ob_bind hf
    refine zcallV (ci := 7) (q0 := 0) (As := [.int (1 : Int32)]) (rest := []) (wr := []) (ws' := cMd K a0 a1 a2 a3 a4 a5 a6 a7 a8 a9 a10 a11 a12 a13 a14 a15 a16 a17 a18 a19 u16.2) (ov := some (.int u16.1)) X hh hl (kX8_readsNumber l K a0 a1 a2 a3 a4 a5 a6 a7 a8 a9 a10 a11 a12 a13 a14 a15 a16 a17 a18 a19 S (1 : Int32) u16 hu16) (fun ht => cwV 1 ht gX8_readsAll_X8_readsNumber rfl rfl rfl ⟨rfl, hdX8_readsNumber⟩ ⟨Nat.le_of_ble_eq_true rfl, Nat.le_of_ble_eq_true rfl⟩) [0, 1, 2, 3, 4, 5, 6, 7, 8, 9, 10, 11, 12, 13, 14, 15, 16, 17, 18, 19] [] [0, 1, 2, 3, 4, 5, 6, 7, 8, 9, 10, 11, 12, 13, 14, 15, 16, 17, 18, 19] rfl rfl rfl rfl (by decide) rfl rfl rfl rfl rfl rfl (Nat.le_of_ble_eq_true rfl) dX8_readsAll_100 ⟨Nat.zero_le _, Nat.zero_le _⟩ (fun H locs hh => ?_)
    refine lv_if_eq (tgt := 118) hx hb dX8_readsAll_103 (by decide) (fun c17 => ?_) (fun c17 => ?_)
    · replace hf := (if_pos c17).symm.trans hf
      refine lv_iconst (v := (0 : Int32)) hx hb dX8_readsAll_118 (by decide) ?_
      exact hr2 119 ls H locs (0 : Int32) u16.2 hf rfl dX8_readsAll_119 hh
    · replace hf := (if_neg c17).symm.trans hf
      refine lv_aload_n hx hb dX8_readsAll_106 rfl (lv_at hl 0 rfl) ?_
      refine lv_iconst (v := (1 : Int32)) hx hb dX8_readsAll_107 (by decide) ?_
      obtain ⟨u18, hu18, hf⟩ := ob_bind hf
      refine zcallV (ci := 7) (q0 := 0) (As := [.int (1 : Int32)]) (rest := []) (wr := []) (ws' := cMd K a0 a1 a2 a3 a4 a5 a6 a7 a8 a9 a10 a11 a12 a13 a14 a15 a16 a17 a18 a19 u18.2) (ov := some (.int u18.1)) X hh hl (kX8_readsNumber l K a0 a1 a2 a3 a4 a5 a6 a7 a8 a9 a10 a11 a12 a13 a14 a15 a16 a17 a18 a19 u16.2 (1 : Int32) u18 hu18) (fun ht => cwV 1 ht gX8_readsAll_X8_readsNumber rfl rfl rfl ⟨rfl, hdX8_readsNumber⟩ ⟨Nat.le_of_ble_eq_true rfl, Nat.le_of_ble_eq_true rfl⟩) [0, 1, 2, 3, 4, 5, 6, 7, 8, 9, 10, 11, 12, 13, 14, 15, 16, 17, 18, 19] [] [0, 1, 2, 3, 4, 5, 6, 7, 8, 9, 10, 11, 12, 13, 14, 15, 16, 17, 18, 19] rfl rfl rfl rfl (by decide) rfl rfl rfl rfl rfl rfl (Nat.le_of_ble_eq_true rfl) dX8_readsAll_108 ⟨Nat.zero_le _, Nat.zero_le _⟩ (fun H locs hh => ?_)
      refine lv_if_eq (tgt := 118) hx hb dX8_readsAll_111 (by decide) (fun c19 => ?_) (fun c19 => ?_)
      · replace hf := (if_pos c19).symm.trans hf
        refine lv_iconst (v := (0 : Int32)) hx hb dX8_readsAll_118 (by decide) ?_
        exact hr2 119 ls H locs (0 : Int32) u18.2 hf rfl dX8_readsAll_119 hh
      · replace hf := (if_neg c19).symm.trans hf
        refine lv_iconst (v := (1 : Int32)) hx hb dX8_readsAll_114 (by decide) ?_
        refine lv_goto (tgt := 119) hx hb dX8_readsAll_115 (by decide) ?_
        exact hr2 119 ls H locs (1 : Int32) u18.2 hf rfl dX8_readsAll_119 hh
  replace hf := (if_neg c1_2).symm.trans hf
  refine lv_lookup (off := 119) (tgt := 120) hx hb dX8_readsAll_1 (by decide) ((lv_osw c1_0 (by decide)).trans ((lv_osw c1_1 (by decide)).trans ((lv_osw c1_2 (by decide)).trans (rfl)))) (by decide) ?_
  refine lv_iconst (v := (1 : Int32)) hx hb dX8_readsAll_120 (by decide) ?_
  exact hr2 121 ls H locs (1 : Int32) S hf rfl dX8_readsAll_121 hh
def fX8_statement_j31 (v1 : Int32) (S : zMd) : Option (Int32 × zMd) :=
  ix 33 (md_statements S) ((fX8_readsAll (md_set_telling (md_set_reading (md_set_sortAt (md_set_sort S (upd (md_sort S) (md_statements S).toNatClampNeg v1)) (upd (md_sortAt S) (md_statements S).toNatClampNeg (md_reading S))) ((md_reading S) + (1 : Int32))) ((4 : Int32) * (md_statements S))) v1).bind fun u2 =>
  if u2.1 = (0 : Int32) then
  (some ((0 : Int32), u2.2))
  else
  ((fX8_reads u2.2 (59 : Int32)).bind fun u4 =>
  if u4.1 = (0 : Int32) then
  (some ((0 : Int32), u4.2))
  else
  (some ((1 : Int32), u4.2))))
def fX8_statement (S : zMd) : Option (Int32 × zMd) :=
  (fX8_sign S).bind fun u6 =>
  if u6 = (97 : Int32) then
  (fX8_statement_j31 u6 S)
  else
  (if u6 = (98 : Int32) then
  (fX8_statement_j31 u6 S)
  else
  (if u6 = (108 : Int32) then
  (fX8_statement_j31 u6 S)
  else
  (if u6 = (110 : Int32) then
  (fX8_statement_j31 u6 S)
  else
  (some ((0 : Int32), S)))))
theorem inX8_statement_X8 : ∀ w ∈ wsX80, w ∈ wsX8_statement := by decide +kernel
theorem mmX8_statement_0 : Cond.fieldLink RX8 40 "SumOfTwoThatStandModel" "sort" "[I" ∈ wsX8_statement := by decide +kernel
theorem mmX8_statement_1 : Cond.fieldLink RX8 145 "SumOfTwoThatStandModel" "statements" "I" ∈ wsX8_statement := by decide +kernel
theorem mmX8_statement_2 : Cond.fieldLink RX8 43 "SumOfTwoThatStandModel" "sortAt" "[I" ∈ wsX8_statement := by decide +kernel
theorem mmX8_statement_3 : Cond.fieldLink RX8 130 "SumOfTwoThatStandModel" "reading" "I" ∈ wsX8_statement := by decide +kernel
theorem mmX8_statement_4 : Cond.fieldLink RX8 136 "SumOfTwoThatStandModel" "telling" "I" ∈ wsX8_statement := by decide +kernel
theorem hdX8_statement : yX8_statement.cls ≠ "java/lang/invoke/MethodHandle" ∧ yX8_statement.cls ≠ "java/lang/invoke/VarHandle" ∧ (parseMethodDescriptor yX8_statement.desc).map (fun d => d.parameters.length) = some 0 := by decide +kernel
set_option maxHeartbeats 4000000 in
set_option maxRecDepth 100000 in
theorem kX8_statement (l : Launch) (K : zK) (a0 a1 a2 a3 a4 a5 a6 a7 a8 a9 a10 a11 a12 a13 a14 a15 a16 a17 a18 a19 : Nat) (S : zMd) (R : Int32 × zMd) (hf : fX8_statement S = some R) : zC l yX8_statement wsX8_statement ({ frames := 3, cells := 0, slots := 0, locals := 66 } : Room) K [.ref a0] (cMd K a0 a1 a2 a3 a4 a5 a6 a7 a8 a9 a10 a11 a12 a13 a14 a15 a16 a17 a18 a19 S) (some (.int R.1)) (cMd K a0 a1 a2 a3 a4 a5 a6 a7 a8 a9 a10 a11 a12 a13 a14 a15 a16 a17 a18 a19 R.2) := by
  refine zC_z .boolean R.1 (cc := cX8_statement) (maxL := 2) (by decide +kernel) rfl (Nat.le_of_ble_eq_true rfl) rfl rfl ?_
  intro p e s m below meth c Q A X hret ls hl hh
  have X : zX p m c cX8_statement 2 s ([.ref a0] : List Value).toArray wsX8_statement RX8 K A := X
  have hx := X.1.1
  have hb := X.1.2.1
  have hr2 : ∀ (pc : Nat) (ls : Array Slot) (H : Heap) (locs : List Loc) (v : Int32) (S : zMd), some (v, S) = some R → narrow .boolean (.int v) = .int v → decode cX8_statement pc = .ok (.ireturn, 1) → zW K A s H locs (cMd K a0 a1 a2 a3 a4 a5 a6 a7 a8 a9 a10 a11 a12 a13 a14 a15 a16 a17 a18 a19 S) → W p l e ({ frames := 3, cells := 0, slots := 0, locals := 66 } : Room) s m ([.ref a0] : List Value).toArray below meth c H locs 0 0 Q (F0 m pc ls [.int v]) := by
    intro pc ls H locs v S h hn hd hh
    cases h; exact hret pc ls H locs _ rfl hn hd hh
  have hl : lv_has ls 2 [(0, .ref a0)] := hl
  have hJ31 : ∀ (v1 : Int32) (S : zMd), ∀ (H : Heap) (locs : List Loc) (ls : Array Slot), fX8_statement_j31 v1 S = some R → lv_has ls 2 [(0, .ref a0), (1, .int v1)] → zW K A s H locs (cMd K a0 a1 a2 a3 a4 a5 a6 a7 a8 a9 a10 a11 a12 a13 a14 a15 a16 a17 a18 a19 S) → W p l e ({ frames := 3, cells := 0, slots := 0, locals := 66 } : Room) s m ([.ref a0] : List Value).toArray below meth c H locs 0 0 Q (F0 m 31 ls []) := by
    intro v1 S H locs ls hf hl hh
    unfold fX8_statement_j31 at hf
    refine lv_aload_n hx hb dX8_statement_31 rfl (lv_at hl 0 rfl) ?_
    refine zget (v := .ref a11) (ref := "SumOfTwoThatStandModel") (C := RX8) (T := TX8) (N := 33) (index := 40) X hh inX8_statement_X8 0 rfl rfl 13 (by decide) mmX8_statement_0 rfl rfl dX8_statement_32 ?_
    refine lv_aload_n hx hb dX8_statement_35 rfl (lv_at hl 0 rfl) ?_
    refine zget (v := .int (md_statements S)) (ref := "SumOfTwoThatStandModel") (C := RX8) (T := TX8) (N := 33) (index := 145) X hh inX8_statement_X8 0 rfl rfl 18 (by decide) mmX8_statement_1 rfl rfl dX8_statement_36 ?_
    refine lv_iload_n hx hb dX8_statement_39 rfl (lv_at hl 1 rfl) ?_
    obtain ⟨g1, hf⟩ := ob_ix hf
    refine ziast (f := (md_sort S)) X hh 11 rfl g1 dX8_statement_40 (fun H locs hh => ?_)
    have hh : zW K A s H locs (cMd K a0 a1 a2 a3 a4 a5 a6 a7 a8 a9 a10 a11 a12 a13 a14 a15 a16 a17 a18 a19 (md_set_sort S (upd (md_sort S) (md_statements S).toNatClampNeg v1))) := hh
    refine lv_aload_n hx hb dX8_statement_41 rfl (lv_at hl 0 rfl) ?_
    refine zget (v := .ref a12) (ref := "SumOfTwoThatStandModel") (C := RX8) (T := TX8) (N := 33) (index := 43) X hh inX8_statement_X8 0 rfl rfl 14 (by decide) mmX8_statement_2 rfl rfl dX8_statement_42 ?_
    refine lv_aload_n hx hb dX8_statement_45 rfl (lv_at hl 0 rfl) ?_
    refine zget (v := .int (md_statements S)) (ref := "SumOfTwoThatStandModel") (C := RX8) (T := TX8) (N := 33) (index := 145) X hh inX8_statement_X8 0 rfl rfl 18 (by decide) mmX8_statement_1 rfl rfl dX8_statement_46 ?_
    refine lv_aload_n hx hb dX8_statement_49 rfl (lv_at hl 0 rfl) ?_
    refine zget (v := .int (md_reading S)) (ref := "SumOfTwoThatStandModel") (C := RX8) (T := TX8) (N := 33) (index := 130) X hh inX8_statement_X8 0 rfl rfl 17 (by decide) mmX8_statement_3 rfl rfl dX8_statement_50 ?_
    refine ziast (f := (md_sortAt S)) X hh 12 rfl g1 dX8_statement_53 (fun H locs hh => ?_)
    have hh : zW K A s H locs (cMd K a0 a1 a2 a3 a4 a5 a6 a7 a8 a9 a10 a11 a12 a13 a14 a15 a16 a17 a18 a19 (md_set_sortAt (md_set_sort S (upd (md_sort S) (md_statements S).toNatClampNeg v1)) (upd (md_sortAt S) (md_statements S).toNatClampNeg (md_reading S)))) := hh
    refine lv_aload_n hx hb dX8_statement_54 rfl (lv_at hl 0 rfl) ?_
    refine lv_iconst (v := (4 : Int32)) hx hb dX8_statement_55 (by decide) ?_
    refine lv_aload_n hx hb dX8_statement_56 rfl (lv_at hl 0 rfl) ?_
    refine zget (v := .int (md_statements S)) (ref := "SumOfTwoThatStandModel") (C := RX8) (T := TX8) (N := 33) (index := 145) X hh inX8_statement_X8 0 rfl rfl 18 (by decide) mmX8_statement_1 rfl rfl dX8_statement_57 ?_
    refine lv_imul hx hb dX8_statement_60 ?_
    refine zput (v := .int ((4 : Int32) * (md_statements S))) (ty := .int) (ref := "SumOfTwoThatStandModel") (C := RX8) (T := TX8) (N := 33) (index := 136) X hh inX8_statement_X8 tyX8 tyX8_ok nmX8 0 rfl rfl 19 (by decide) mmX8_statement_4 rfl rfl (by decide +kernel) rfl rfl (Nat.le_of_ble_eq_true rfl) dX8_statement_61 (fun H locs hh => ?_)
    have hh : zW K A s H locs (cMd K a0 a1 a2 a3 a4 a5 a6 a7 a8 a9 a10 a11 a12 a13 a14 a15 a16 a17 a18 a19 (md_set_telling (md_set_sortAt (md_set_sort S (upd (md_sort S) (md_statements S).toNatClampNeg v1)) (upd (md_sortAt S) (md_statements S).toNatClampNeg (md_reading S))) ((4 : Int32) * (md_statements S)))) := hh
    refine lv_aload_n hx hb dX8_statement_64 rfl (lv_at hl 0 rfl) ?_
    refine lv_dup hx hb dX8_statement_65 rfl ?_
    refine zget (v := .int (md_reading S)) (ref := "SumOfTwoThatStandModel") (C := RX8) (T := TX8) (N := 33) (index := 130) X hh inX8_statement_X8 0 rfl rfl 17 (by decide) mmX8_statement_3 rfl rfl dX8_statement_66 ?_
    refine lv_iconst (v := (1 : Int32)) hx hb dX8_statement_69 (by decide) ?_
    refine lv_iadd hx hb dX8_statement_70 ?_
    refine zput (v := .int ((md_reading S) + (1 : Int32))) (ty := .int) (ref := "SumOfTwoThatStandModel") (C := RX8) (T := TX8) (N := 33) (index := 130) X hh inX8_statement_X8 tyX8 tyX8_ok nmX8 0 rfl rfl 17 (by decide) mmX8_statement_3 rfl rfl (by decide +kernel) rfl rfl (Nat.le_of_ble_eq_true rfl) dX8_statement_71 (fun H locs hh => ?_)
    have hh : zW K A s H locs (cMd K a0 a1 a2 a3 a4 a5 a6 a7 a8 a9 a10 a11 a12 a13 a14 a15 a16 a17 a18 a19 (md_set_telling (md_set_reading (md_set_sortAt (md_set_sort S (upd (md_sort S) (md_statements S).toNatClampNeg v1)) (upd (md_sortAt S) (md_statements S).toNatClampNeg (md_reading S))) ((md_reading S) + (1 : Int32))) ((4 : Int32) * (md_statements S)))) := hh
    refine lv_aload_n hx hb dX8_statement_74 rfl (lv_at hl 0 rfl) ?_
    refine lv_iload_n hx hb dX8_statement_75 rfl (lv_at hl 1 rfl) ?_
    obtain ⟨u2, hu2, hf⟩ := ob_bind hf
    refine zcallV (ci := 7) (q0 := 0) (As := [.int v1]) (rest := []) (wr := []) (ws' := cMd K a0 a1 a2 a3 a4 a5 a6 a7 a8 a9 a10 a11 a12 a13 a14 a15 a16 a17 a18 a19 u2.2) (ov := some (.int u2.1)) X hh hl (kX8_readsAll l K a0 a1 a2 a3 a4 a5 a6 a7 a8 a9 a10 a11 a12 a13 a14 a15 a16 a17 a18 a19 (md_set_telling (md_set_reading (md_set_sortAt (md_set_sort S (upd (md_sort S) (md_statements S).toNatClampNeg v1)) (upd (md_sortAt S) (md_statements S).toNatClampNeg (md_reading S))) ((md_reading S) + (1 : Int32))) ((4 : Int32) * (md_statements S))) v1 u2 hu2) (fun ht => cwV 1 ht gX8_statement_X8_readsAll rfl rfl rfl ⟨rfl, hdX8_readsAll⟩ ⟨Nat.le_of_ble_eq_true rfl, Nat.le_of_ble_eq_true rfl⟩) [0, 1, 2, 3, 4, 5, 6, 7, 8, 9, 10, 11, 12, 13, 14, 15, 16, 17, 18, 19] [] [0, 1, 2, 3, 4, 5, 6, 7, 8, 9, 10, 11, 12, 13, 14, 15, 16, 17, 18, 19] rfl rfl rfl rfl (by decide) rfl rfl rfl rfl rfl rfl (Nat.le_of_ble_eq_true rfl) dX8_statement_76 ⟨Nat.zero_le _, Nat.zero_le _⟩ (fun H locs hh => ?_)
    refine lv_if_eq (tgt := 95) hx hb dX8_statement_79 (by decide) (fun c3 => ?_) (fun c3 => ?_)
    · replace hf := (if_pos c3).symm.trans hf
      refine lv_iconst (v := (0 : Int32)) hx hb dX8_statement_95 (by decide) ?_
      exact hr2 96 ls H locs (0 : Int32) u2.2 hf rfl dX8_statement_96 hh
    · replace hf := (if_neg c3).symm.trans hf
      refine lv_aload_n hx hb dX8_statement_82 rfl (lv_at hl 0 rfl) ?_
      refine lv_bipush (v := (59 : Int32)) hx hb dX8_statement_83 (by decide) ?_
      obtain ⟨u4, hu4, hf⟩ := ob_bind hf
      refine zcallV (ci := 7) (q0 := 0) (As := [.int (59 : Int32)]) (rest := []) (wr := []) (ws' := cMd K a0 a1 a2 a3 a4 a5 a6 a7 a8 a9 a10 a11 a12 a13 a14 a15 a16 a17 a18 a19 u4.2) (ov := some (.int u4.1)) X hh hl (kX8_reads l K a0 a1 a2 a3 a4 a5 a6 a7 a8 a9 a10 a11 a12 a13 a14 a15 a16 a17 a18 a19 u2.2 (59 : Int32) u4 hu4) (fun ht => cwV 1 ht gX8_statement_X8_reads rfl rfl rfl ⟨rfl, hdX8_reads⟩ ⟨Nat.le_of_ble_eq_true rfl, Nat.le_of_ble_eq_true rfl⟩) [0, 1, 2, 3, 4, 5, 6, 7, 8, 9, 10, 11, 12, 13, 14, 15, 16, 17, 18, 19] [] [0, 1, 2, 3, 4, 5, 6, 7, 8, 9, 10, 11, 12, 13, 14, 15, 16, 17, 18, 19] rfl rfl rfl rfl (by decide) rfl rfl rfl rfl rfl rfl (Nat.le_of_ble_eq_true rfl) dX8_statement_85 ⟨Nat.zero_le _, Nat.zero_le _⟩ (fun H locs hh => ?_)
      refine lv_if_eq (tgt := 95) hx hb dX8_statement_88 (by decide) (fun c5 => ?_) (fun c5 => ?_)
      · replace hf := (if_pos c5).symm.trans hf
        refine lv_iconst (v := (0 : Int32)) hx hb dX8_statement_95 (by decide) ?_
        exact hr2 96 ls H locs (0 : Int32) u4.2 hf rfl dX8_statement_96 hh
      · replace hf := (if_neg c5).symm.trans hf
        refine lv_iconst (v := (1 : Int32)) hx hb dX8_statement_91 (by decide) ?_
        refine lv_goto (tgt := 96) hx hb dX8_statement_92 (by decide) ?_
        exact hr2 96 ls H locs (1 : Int32) u4.2 hf rfl dX8_statement_96 hh
  unfold fX8_statement at hf
  refine (fun (hmain : ∀ (H : Heap) (locs : List Loc), zW K A s H locs (cMd K a0 a1 a2 a3 a4 a5 a6 a7 a8 a9 a10 a11 a12 a13 a14 a15 a16 a17 a18 a19 S) → W p l e ({ frames := 3, cells := 0, slots := 0, locals := 66 } : Room) s m ([.ref a0] : List Value).toArray below meth c H locs 0 0 Q (F0 m 0 ls [])) => hmain s.heap [] hh) (fun H locs hh => ?_)
  refine lv_aload_n hx hb dX8_statement_0 rfl (lv_at hl 0 rfl) ?_
  obtain ⟨u6, hu6, hf⟩ := ob_bind hf
  refine zcallV (ci := 7) (q0 := 0) (As := []) (rest := []) (wr := []) (ws' := cMd K a0 a1 a2 a3 a4 a5 a6 a7 a8 a9 a10 a11 a12 a13 a14 a15 a16 a17 a18 a19 S) (ov := some (.int u6)) X hh hl (kX8_sign l K a0 a1 a2 a3 a4 a5 a6 a7 a8 a9 a10 a11 a12 a13 a14 a15 a16 a17 a18 a19 S u6 hu6) (fun ht => cwV 0 ht gX8_statement_X8_sign rfl rfl rfl ⟨rfl, hdX8_sign⟩ ⟨Nat.le_of_ble_eq_true rfl, Nat.le_of_ble_eq_true rfl⟩) [0, 1, 2, 3, 4, 5, 6, 7, 8, 9, 10, 11, 12, 13, 14, 15, 16, 17, 18, 19] [] [0, 1, 2, 3, 4, 5, 6, 7, 8, 9, 10, 11, 12, 13, 14, 15, 16, 17, 18, 19] rfl rfl rfl rfl (by decide) rfl rfl rfl rfl rfl rfl (Nat.le_of_ble_eq_true rfl) dX8_statement_1 ⟨Nat.zero_le _, Nat.zero_le _⟩ (fun H locs hh => ?_)
  refine lv_istore_n (lv' := [(1, .int u6), (0, .ref a0)]) hx hb dX8_statement_4 rfl hl (by decide) rfl (fun ls hl => ?_)
  refine lv_iload_n hx hb dX8_statement_5 rfl (lv_at hl 0 rfl) ?_
  refine lv_bipush (v := (97 : Int32)) hx hb dX8_statement_6 (by decide) ?_
  refine lv_icmp_eq (tgt := 31) hx hb dX8_statement_8 (by decide) (fun c7 => ?_) (fun c7 => ?_)
  · replace hf := (if_pos c7).symm.trans hf
    exact hJ31 u6 S H locs ls hf (lv_sub hl [1, 0] rfl) hh
  · replace hf := (if_neg c7).symm.trans hf
    refine lv_iload_n hx hb dX8_statement_11 rfl (lv_at hl 0 rfl) ?_
    refine lv_bipush (v := (98 : Int32)) hx hb dX8_statement_12 (by decide) ?_
    refine lv_icmp_eq (tgt := 31) hx hb dX8_statement_14 (by decide) (fun c8 => ?_) (fun c8 => ?_)
    · replace hf := (if_pos c8).symm.trans hf
      exact hJ31 u6 S H locs ls hf (lv_sub hl [1, 0] rfl) hh
    · replace hf := (if_neg c8).symm.trans hf
      refine lv_iload_n hx hb dX8_statement_17 rfl (lv_at hl 0 rfl) ?_
      refine lv_bipush (v := (108 : Int32)) hx hb dX8_statement_18 (by decide) ?_
      refine lv_icmp_eq (tgt := 31) hx hb dX8_statement_20 (by decide) (fun c9 => ?_) (fun c9 => ?_)
      · replace hf := (if_pos c9).symm.trans hf
        exact hJ31 u6 S H locs ls hf (lv_sub hl [1, 0] rfl) hh
      · replace hf := (if_neg c9).symm.trans hf
        refine lv_iload_n hx hb dX8_statement_23 rfl (lv_at hl 0 rfl) ?_
        refine lv_bipush (v := (110 : Int32)) hx hb dX8_statement_24 (by decide) ?_
        refine lv_icmp_eq (tgt := 31) hx hb dX8_statement_26 (by decide) (fun c10 => ?_) (fun c10 => ?_)
        · replace hf := (if_pos c10).symm.trans hf
          exact hJ31 u6 S H locs ls hf (lv_sub hl [1, 0] rfl) hh
        · replace hf := (if_neg c10).symm.trans hf
          refine lv_iconst (v := (0 : Int32)) hx hb dX8_statement_29 (by decide) ?_
          exact hr2 30 ls H locs (0 : Int32) S hf rfl dX8_statement_30 hh
def fX8_comesNew (S : zMd) (p1 : Int32) : Option (Int32 × zMd) :=
  ix 132 p1 (ix 132 (p1 + (1 : Int32)) ((fX8_doesStand S ((md_told S) p1.toNatClampNeg)).bind fun u3 =>
  if u3 = (0 : Int32) then
  (some ((0 : Int32), S))
  else
  ((fX8_doesStand S ((md_told S) (p1 + (1 : Int32)).toNatClampNeg)).bind fun u5 =>
  if u5 = (0 : Int32) then
  (some ((0 : Int32), S))
  else
  (ix 132 (p1 + (2 : Int32)) (if (6 : Int32) ≤ ((md_told S) (p1 + (2 : Int32)).toNatClampNeg) then
  (some ((0 : Int32), S))
  else
  ((fX8_mayBe S ((md_told S) p1.toNatClampNeg) ((md_told S) (p1 + (1 : Int32)).toNatClampNeg)).bind fun u9 =>
  if u9 = (0 : Int32) then
  (some ((0 : Int32), S))
  else
  (if (md_houses S) = (12 : Int32) then
  (some ((0 : Int32), S))
  else
  (ix 132 (p1 + (3 : Int32)) ((fX8_builds S ((md_told S) p1.toNatClampNeg) ((md_told S) (p1 + (1 : Int32)).toNatClampNeg) ((md_told S) (p1 + (2 : Int32)).toNatClampNeg) ((md_told S) (p1 + (3 : Int32)).toNatClampNeg)).bind fun u13 =>
  some ((1 : Int32), u13))))))))))
theorem inX8_comesNew_X8 : ∀ w ∈ wsX80, w ∈ wsX8_comesNew := by decide +kernel
theorem mmX8_comesNew_0 : Cond.fieldLink RX8 46 "SumOfTwoThatStandModel" "told" "[I" ∈ wsX8_comesNew := by decide +kernel
theorem mmX8_comesNew_1 : Cond.fieldLink RX8 70 "SumOfTwoThatStandModel" "houses" "I" ∈ wsX8_comesNew := by decide +kernel
theorem hdX8_comesNew : yX8_comesNew.cls ≠ "java/lang/invoke/MethodHandle" ∧ yX8_comesNew.cls ≠ "java/lang/invoke/VarHandle" ∧ (parseMethodDescriptor yX8_comesNew.desc).map (fun d => d.parameters.length) = some 1 := by decide +kernel
set_option maxHeartbeats 4000000 in
set_option maxRecDepth 100000 in
theorem kX8_comesNew (l : Launch) (K : zK) (a0 a1 a2 a3 a4 a5 a6 a7 a8 a9 a10 a11 a12 a13 a14 a15 a16 a17 a18 a19 : Nat) (S : zMd) (p1 : Int32) (R : Int32 × zMd) (hf : fX8_comesNew S p1 = some R) : zC l yX8_comesNew wsX8_comesNew ({ frames := 3, cells := 0, slots := 0, locals := 67 } : Room) K [.ref a0, .int p1] (cMd K a0 a1 a2 a3 a4 a5 a6 a7 a8 a9 a10 a11 a12 a13 a14 a15 a16 a17 a18 a19 S) (some (.int R.1)) (cMd K a0 a1 a2 a3 a4 a5 a6 a7 a8 a9 a10 a11 a12 a13 a14 a15 a16 a17 a18 a19 R.2) := by
  refine zC_z .boolean R.1 (cc := cX8_comesNew) (maxL := 4) (by decide +kernel) rfl (Nat.le_of_ble_eq_true rfl) rfl rfl ?_
  intro p e s m below meth c Q A X hret ls hl hh
  have X : zX p m c cX8_comesNew 4 s ([.ref a0, .int p1] : List Value).toArray wsX8_comesNew RX8 K A := X
  have hx := X.1.1
  have hb := X.1.2.1
  have hr2 : ∀ (pc : Nat) (ls : Array Slot) (H : Heap) (locs : List Loc) (v : Int32) (S : zMd), some (v, S) = some R → narrow .boolean (.int v) = .int v → decode cX8_comesNew pc = .ok (.ireturn, 1) → zW K A s H locs (cMd K a0 a1 a2 a3 a4 a5 a6 a7 a8 a9 a10 a11 a12 a13 a14 a15 a16 a17 a18 a19 S) → W p l e ({ frames := 3, cells := 0, slots := 0, locals := 67 } : Room) s m ([.ref a0, .int p1] : List Value).toArray below meth c H locs 0 0 Q (F0 m pc ls [.int v]) := by
    intro pc ls H locs v S h hn hd hh
    cases h; exact hret pc ls H locs _ rfl hn hd hh
  have hl : lv_has ls 4 [(0, .ref a0), (1, .int p1)] := hl
  unfold fX8_comesNew at hf
  refine (fun (hmain : ∀ (H : Heap) (locs : List Loc), zW K A s H locs (cMd K a0 a1 a2 a3 a4 a5 a6 a7 a8 a9 a10 a11 a12 a13 a14 a15 a16 a17 a18 a19 S) → W p l e ({ frames := 3, cells := 0, slots := 0, locals := 67 } : Room) s m ([.ref a0, .int p1] : List Value).toArray below meth c H locs 0 0 Q (F0 m 0 ls [])) => hmain s.heap [] hh) (fun H locs hh => ?_)
  refine lv_aload_n hx hb dX8_comesNew_0 rfl (lv_at hl 0 rfl) ?_
  refine zget (v := .ref a13) (ref := "SumOfTwoThatStandModel") (C := RX8) (T := TX8) (N := 33) (index := 46) X hh inX8_comesNew_X8 0 rfl rfl 15 (by decide) mmX8_comesNew_0 rfl rfl dX8_comesNew_1 ?_
  refine lv_iload_n hx hb dX8_comesNew_4 rfl (lv_at hl 1 rfl) ?_
  obtain ⟨g1, hf⟩ := ob_ix hf
  refine ziald (f := (md_told S)) X hh 13 rfl g1 dX8_comesNew_5 ?_
  refine lv_istore_n (lv' := [(2, .int ((md_told S) p1.toNatClampNeg)), (0, .ref a0), (1, .int p1)]) hx hb dX8_comesNew_6 rfl hl (by decide) rfl (fun ls hl => ?_)
  refine lv_aload_n hx hb dX8_comesNew_7 rfl (lv_at hl 1 rfl) ?_
  refine zget (v := .ref a13) (ref := "SumOfTwoThatStandModel") (C := RX8) (T := TX8) (N := 33) (index := 46) X hh inX8_comesNew_X8 0 rfl rfl 15 (by decide) mmX8_comesNew_0 rfl rfl dX8_comesNew_8 ?_
  refine lv_iload_n hx hb dX8_comesNew_11 rfl (lv_at hl 2 rfl) ?_
  refine lv_iconst (v := (1 : Int32)) hx hb dX8_comesNew_12 (by decide) ?_
  refine lv_iadd hx hb dX8_comesNew_13 ?_
  obtain ⟨g2, hf⟩ := ob_ix hf
  refine ziald (f := (md_told S)) X hh 13 rfl g2 dX8_comesNew_14 ?_
  refine lv_istore_n (lv' := [(3, .int ((md_told S) (p1 + (1 : Int32)).toNatClampNeg)), (2, .int ((md_told S) p1.toNatClampNeg)), (0, .ref a0), (1, .int p1)]) hx hb dX8_comesNew_15 rfl hl (by decide) rfl (fun ls hl => ?_)
  refine lv_aload_n hx hb dX8_comesNew_16 rfl (lv_at hl 2 rfl) ?_
  refine lv_iload_n hx hb dX8_comesNew_17 rfl (lv_at hl 1 rfl) ?_
  obtain ⟨u3, hu3, hf⟩ := ob_bind hf
  refine zcallV (ci := 7) (q0 := 0) (As := [.int ((md_told S) p1.toNatClampNeg)]) (rest := []) (wr := []) (ws' := cMd K a0 a1 a2 a3 a4 a5 a6 a7 a8 a9 a10 a11 a12 a13 a14 a15 a16 a17 a18 a19 S) (ov := some (.int u3)) X hh hl (kX8_doesStand l K a0 a1 a2 a3 a4 a5 a6 a7 a8 a9 a10 a11 a12 a13 a14 a15 a16 a17 a18 a19 S ((md_told S) p1.toNatClampNeg) u3 hu3) (fun ht => cwV 1 ht gX8_comesNew_X8_doesStand rfl rfl rfl ⟨rfl, hdX8_doesStand⟩ ⟨Nat.le_of_ble_eq_true rfl, Nat.le_of_ble_eq_true rfl⟩) [0, 1, 2, 3, 4, 5, 6, 7, 8, 9, 10, 11, 12, 13, 14, 15, 16, 17, 18, 19] [] [0, 1, 2, 3, 4, 5, 6, 7, 8, 9, 10, 11, 12, 13, 14, 15, 16, 17, 18, 19] rfl rfl rfl rfl (by decide) rfl rfl rfl rfl rfl rfl (Nat.le_of_ble_eq_true rfl) dX8_comesNew_18 ⟨Nat.zero_le _, Nat.zero_le _⟩ (fun H locs hh => ?_)
  refine lv_if_eq (tgt := 63) hx hb dX8_comesNew_21 (by decide) (fun c4 => ?_) (fun c4 => ?_)
  · replace hf := (if_pos c4).symm.trans hf
    refine lv_iconst (v := (0 : Int32)) hx hb dX8_comesNew_63 (by decide) ?_
    exact hr2 64 ls H locs (0 : Int32) S hf rfl dX8_comesNew_64 hh
  · replace hf := (if_neg c4).symm.trans hf
    refine lv_aload_n hx hb dX8_comesNew_24 rfl (lv_at hl 2 rfl) ?_
    refine lv_iload_n hx hb dX8_comesNew_25 rfl (lv_at hl 0 rfl) ?_
    obtain ⟨u5, hu5, hf⟩ := ob_bind hf
    refine zcallV (ci := 7) (q0 := 0) (As := [.int ((md_told S) (p1 + (1 : Int32)).toNatClampNeg)]) (rest := []) (wr := []) (ws' := cMd K a0 a1 a2 a3 a4 a5 a6 a7 a8 a9 a10 a11 a12 a13 a14 a15 a16 a17 a18 a19 S) (ov := some (.int u5)) X hh hl (kX8_doesStand l K a0 a1 a2 a3 a4 a5 a6 a7 a8 a9 a10 a11 a12 a13 a14 a15 a16 a17 a18 a19 S ((md_told S) (p1 + (1 : Int32)).toNatClampNeg) u5 hu5) (fun ht => cwV 1 ht gX8_comesNew_X8_doesStand rfl rfl rfl ⟨rfl, hdX8_doesStand⟩ ⟨Nat.le_of_ble_eq_true rfl, Nat.le_of_ble_eq_true rfl⟩) [0, 1, 2, 3, 4, 5, 6, 7, 8, 9, 10, 11, 12, 13, 14, 15, 16, 17, 18, 19] [] [0, 1, 2, 3, 4, 5, 6, 7, 8, 9, 10, 11, 12, 13, 14, 15, 16, 17, 18, 19] rfl rfl rfl rfl (by decide) rfl rfl rfl rfl rfl rfl (Nat.le_of_ble_eq_true rfl) dX8_comesNew_26 ⟨Nat.zero_le _, Nat.zero_le _⟩ (fun H locs hh => ?_)
    refine lv_if_eq (tgt := 63) hx hb dX8_comesNew_29 (by decide) (fun c6 => ?_) (fun c6 => ?_)
    · replace hf := (if_pos c6).symm.trans hf
      refine lv_iconst (v := (0 : Int32)) hx hb dX8_comesNew_63 (by decide) ?_
      exact hr2 64 ls H locs (0 : Int32) S hf rfl dX8_comesNew_64 hh
    · replace hf := (if_neg c6).symm.trans hf
      refine lv_aload_n hx hb dX8_comesNew_32 rfl (lv_at hl 2 rfl) ?_
      refine zget (v := .ref a13) (ref := "SumOfTwoThatStandModel") (C := RX8) (T := TX8) (N := 33) (index := 46) X hh inX8_comesNew_X8 0 rfl rfl 15 (by decide) mmX8_comesNew_0 rfl rfl dX8_comesNew_33 ?_
      refine lv_iload_n hx hb dX8_comesNew_36 rfl (lv_at hl 3 rfl) ?_
      refine lv_iconst (v := (2 : Int32)) hx hb dX8_comesNew_37 (by decide) ?_
      refine lv_iadd hx hb dX8_comesNew_38 ?_
      obtain ⟨g7, hf⟩ := ob_ix hf
      refine ziald (f := (md_told S)) X hh 13 rfl g7 dX8_comesNew_39 ?_
      refine lv_bipush (v := (6 : Int32)) hx hb dX8_comesNew_40 (by decide) ?_
      refine lv_icmp_ge (tgt := 63) hx hb dX8_comesNew_42 (by decide) (fun c8 => ?_) (fun c8 => ?_)
      · replace hf := (if_pos c8).symm.trans hf
        refine lv_iconst (v := (0 : Int32)) hx hb dX8_comesNew_63 (by decide) ?_
        exact hr2 64 ls H locs (0 : Int32) S hf rfl dX8_comesNew_64 hh
      · replace hf := (if_neg c8).symm.trans hf
        refine lv_aload_n hx hb dX8_comesNew_45 rfl (lv_at hl 2 rfl) ?_
        refine lv_iload_n hx hb dX8_comesNew_46 rfl (lv_at hl 1 rfl) ?_
        refine lv_iload_n hx hb dX8_comesNew_47 rfl (lv_at hl 0 rfl) ?_
        obtain ⟨u9, hu9, hf⟩ := ob_bind hf
        refine zcallV (ci := 7) (q0 := 0) (As := [.int ((md_told S) p1.toNatClampNeg), .int ((md_told S) (p1 + (1 : Int32)).toNatClampNeg)]) (rest := []) (wr := []) (ws' := cMd K a0 a1 a2 a3 a4 a5 a6 a7 a8 a9 a10 a11 a12 a13 a14 a15 a16 a17 a18 a19 S) (ov := some (.int u9)) X hh hl (kX8_mayBe l K a0 a1 a2 a3 a4 a5 a6 a7 a8 a9 a10 a11 a12 a13 a14 a15 a16 a17 a18 a19 S ((md_told S) p1.toNatClampNeg) ((md_told S) (p1 + (1 : Int32)).toNatClampNeg) u9 hu9) (fun ht => cwV 2 ht gX8_comesNew_X8_mayBe rfl rfl rfl ⟨rfl, hdX8_mayBe⟩ ⟨Nat.le_of_ble_eq_true rfl, Nat.le_of_ble_eq_true rfl⟩) [0, 1, 2, 3, 4, 5, 6, 7, 8, 9, 10, 11, 12, 13, 14, 15, 16, 17, 18, 19] [] [0, 1, 2, 3, 4, 5, 6, 7, 8, 9, 10, 11, 12, 13, 14, 15, 16, 17, 18, 19] rfl rfl rfl rfl (by decide) rfl rfl rfl rfl rfl rfl (Nat.le_of_ble_eq_true rfl) dX8_comesNew_48 ⟨Nat.zero_le _, Nat.zero_le _⟩ (fun H locs hh => ?_)
        refine lv_if_eq (tgt := 63) hx hb dX8_comesNew_51 (by decide) (fun c10 => ?_) (fun c10 => ?_)
        · replace hf := (if_pos c10).symm.trans hf
          refine lv_iconst (v := (0 : Int32)) hx hb dX8_comesNew_63 (by decide) ?_
          exact hr2 64 ls H locs (0 : Int32) S hf rfl dX8_comesNew_64 hh
        · replace hf := (if_neg c10).symm.trans hf
          refine lv_aload_n hx hb dX8_comesNew_54 rfl (lv_at hl 2 rfl) ?_
          refine zget (v := .int (md_houses S)) (ref := "SumOfTwoThatStandModel") (C := RX8) (T := TX8) (N := 33) (index := 70) X hh inX8_comesNew_X8 0 rfl rfl 9 (by decide) mmX8_comesNew_1 rfl rfl dX8_comesNew_55 ?_
          refine lv_bipush (v := (12 : Int32)) hx hb dX8_comesNew_58 (by decide) ?_
          refine lv_icmp_ne (tgt := 65) hx hb dX8_comesNew_60 (by decide) (fun c11 => ?_) (fun c11 => ?_)
          · replace hf := (if_neg c11).symm.trans hf
            refine lv_aload_n hx hb dX8_comesNew_65 rfl (lv_at hl 2 rfl) ?_
            refine lv_iload_n hx hb dX8_comesNew_66 rfl (lv_at hl 1 rfl) ?_
            refine lv_iload_n hx hb dX8_comesNew_67 rfl (lv_at hl 0 rfl) ?_
            refine lv_aload_n hx hb dX8_comesNew_68 rfl (lv_at hl 2 rfl) ?_
            refine zget (v := .ref a13) (ref := "SumOfTwoThatStandModel") (C := RX8) (T := TX8) (N := 33) (index := 46) X hh inX8_comesNew_X8 0 rfl rfl 15 (by decide) mmX8_comesNew_0 rfl rfl dX8_comesNew_69 ?_
            refine lv_iload_n hx hb dX8_comesNew_72 rfl (lv_at hl 3 rfl) ?_
            refine lv_iconst (v := (2 : Int32)) hx hb dX8_comesNew_73 (by decide) ?_
            refine lv_iadd hx hb dX8_comesNew_74 ?_
            refine ziald (f := (md_told S)) X hh 13 rfl g7 dX8_comesNew_75 ?_
            refine lv_aload_n hx hb dX8_comesNew_76 rfl (lv_at hl 2 rfl) ?_
            refine zget (v := .ref a13) (ref := "SumOfTwoThatStandModel") (C := RX8) (T := TX8) (N := 33) (index := 46) X hh inX8_comesNew_X8 0 rfl rfl 15 (by decide) mmX8_comesNew_0 rfl rfl dX8_comesNew_77 ?_
            refine lv_iload_n hx hb dX8_comesNew_80 rfl (lv_at hl 3 rfl) ?_
            refine lv_iconst (v := (3 : Int32)) hx hb dX8_comesNew_81 (by decide) ?_
            refine lv_iadd hx hb dX8_comesNew_82 ?_
            obtain ⟨g12, hf⟩ := ob_ix hf
            refine ziald (f := (md_told S)) X hh 13 rfl g12 dX8_comesNew_83 ?_
            obtain ⟨u13, hu13, hf⟩ := ob_bind hf
            refine zcallV (ci := 7) (q0 := 0) (As := [.int ((md_told S) p1.toNatClampNeg), .int ((md_told S) (p1 + (1 : Int32)).toNatClampNeg), .int ((md_told S) (p1 + (2 : Int32)).toNatClampNeg), .int ((md_told S) (p1 + (3 : Int32)).toNatClampNeg)]) (rest := []) (wr := []) (ws' := cMd K a0 a1 a2 a3 a4 a5 a6 a7 a8 a9 a10 a11 a12 a13 a14 a15 a16 a17 a18 a19 u13) (ov := none) X hh hl (kX8_builds l K a0 a1 a2 a3 a4 a5 a6 a7 a8 a9 a10 a11 a12 a13 a14 a15 a16 a17 a18 a19 S ((md_told S) p1.toNatClampNeg) ((md_told S) (p1 + (1 : Int32)).toNatClampNeg) ((md_told S) (p1 + (2 : Int32)).toNatClampNeg) ((md_told S) (p1 + (3 : Int32)).toNatClampNeg) u13 hu13) (fun ht => cwV 4 ht gX8_comesNew_X8_builds rfl rfl rfl ⟨rfl, hdX8_builds⟩ ⟨Nat.le_of_ble_eq_true rfl, Nat.le_of_ble_eq_true rfl⟩) [0, 1, 2, 3, 4, 5, 6, 7, 8, 9, 10, 11, 12, 13, 14, 15, 16, 17, 18, 19] [] [0, 1, 2, 3, 4, 5, 6, 7, 8, 9, 10, 11, 12, 13, 14, 15, 16, 17, 18, 19] rfl rfl rfl rfl (by decide) rfl rfl rfl rfl rfl rfl (Nat.le_of_ble_eq_true rfl) dX8_comesNew_84 ⟨Nat.zero_le _, Nat.zero_le _⟩ (fun H locs hh => ?_)
            refine lv_iconst (v := (1 : Int32)) hx hb dX8_comesNew_87 (by decide) ?_
            exact hr2 88 ls H locs (1 : Int32) u13 hf rfl dX8_comesNew_88 hh
          · replace hf := (if_pos c11).symm.trans hf
            refine lv_iconst (v := (0 : Int32)) hx hb dX8_comesNew_63 (by decide) ?_
            exact hr2 64 ls H locs (0 : Int32) S hf rfl dX8_comesNew_64 hh
def fX8_comesFire (S : zMd) (p1 : Int32) : Option (Int32 × zMd) :=
  (fX8_doesStand S p1).bind fun u1 =>
  if u1 = (0 : Int32) then
  (some ((0 : Int32), S))
  else
  ((fX8_burns S p1).bind fun u3 =>
  some ((1 : Int32), u3))
theorem hdX8_comesFire : yX8_comesFire.cls ≠ "java/lang/invoke/MethodHandle" ∧ yX8_comesFire.cls ≠ "java/lang/invoke/VarHandle" ∧ (parseMethodDescriptor yX8_comesFire.desc).map (fun d => d.parameters.length) = some 1 := by decide +kernel
set_option maxHeartbeats 4000000 in
set_option maxRecDepth 100000 in
theorem kX8_comesFire (l : Launch) (K : zK) (a0 a1 a2 a3 a4 a5 a6 a7 a8 a9 a10 a11 a12 a13 a14 a15 a16 a17 a18 a19 : Nat) (S : zMd) (p1 : Int32) (R : Int32 × zMd) (hf : fX8_comesFire S p1 = some R) : zC l yX8_comesFire wsX8_comesFire ({ frames := 3, cells := 0, slots := 0, locals := 65 } : Room) K [.ref a0, .int p1] (cMd K a0 a1 a2 a3 a4 a5 a6 a7 a8 a9 a10 a11 a12 a13 a14 a15 a16 a17 a18 a19 S) (some (.int R.1)) (cMd K a0 a1 a2 a3 a4 a5 a6 a7 a8 a9 a10 a11 a12 a13 a14 a15 a16 a17 a18 a19 R.2) := by
  refine zC_z .boolean R.1 (cc := cX8_comesFire) (maxL := 2) (by decide +kernel) rfl (Nat.le_of_ble_eq_true rfl) rfl rfl ?_
  intro p e s m below meth c Q A X hret ls hl hh
  have X : zX p m c cX8_comesFire 2 s ([.ref a0, .int p1] : List Value).toArray wsX8_comesFire RX8 K A := X
  have hx := X.1.1
  have hb := X.1.2.1
  have hr2 : ∀ (pc : Nat) (ls : Array Slot) (H : Heap) (locs : List Loc) (v : Int32) (S : zMd), some (v, S) = some R → narrow .boolean (.int v) = .int v → decode cX8_comesFire pc = .ok (.ireturn, 1) → zW K A s H locs (cMd K a0 a1 a2 a3 a4 a5 a6 a7 a8 a9 a10 a11 a12 a13 a14 a15 a16 a17 a18 a19 S) → W p l e ({ frames := 3, cells := 0, slots := 0, locals := 65 } : Room) s m ([.ref a0, .int p1] : List Value).toArray below meth c H locs 0 0 Q (F0 m pc ls [.int v]) := by
    intro pc ls H locs v S h hn hd hh
    cases h; exact hret pc ls H locs _ rfl hn hd hh
  have hl : lv_has ls 2 [(0, .ref a0), (1, .int p1)] := hl
  unfold fX8_comesFire at hf
  refine (fun (hmain : ∀ (H : Heap) (locs : List Loc), zW K A s H locs (cMd K a0 a1 a2 a3 a4 a5 a6 a7 a8 a9 a10 a11 a12 a13 a14 a15 a16 a17 a18 a19 S) → W p l e ({ frames := 3, cells := 0, slots := 0, locals := 65 } : Room) s m ([.ref a0, .int p1] : List Value).toArray below meth c H locs 0 0 Q (F0 m 0 ls [])) => hmain s.heap [] hh) (fun H locs hh => ?_)
  refine lv_aload_n hx hb dX8_comesFire_0 rfl (lv_at hl 0 rfl) ?_
  refine lv_iload_n hx hb dX8_comesFire_1 rfl (lv_at hl 1 rfl) ?_
  obtain ⟨u1, hu1, hf⟩ := ob_bind hf
  refine zcallV (ci := 7) (q0 := 0) (As := [.int p1]) (rest := []) (wr := []) (ws' := cMd K a0 a1 a2 a3 a4 a5 a6 a7 a8 a9 a10 a11 a12 a13 a14 a15 a16 a17 a18 a19 S) (ov := some (.int u1)) X hh hl (kX8_doesStand l K a0 a1 a2 a3 a4 a5 a6 a7 a8 a9 a10 a11 a12 a13 a14 a15 a16 a17 a18 a19 S p1 u1 hu1) (fun ht => cwV 1 ht gX8_comesFire_X8_doesStand rfl rfl rfl ⟨rfl, hdX8_doesStand⟩ ⟨Nat.le_of_ble_eq_true rfl, Nat.le_of_ble_eq_true rfl⟩) [0, 1, 2, 3, 4, 5, 6, 7, 8, 9, 10, 11, 12, 13, 14, 15, 16, 17, 18, 19] [] [0, 1, 2, 3, 4, 5, 6, 7, 8, 9, 10, 11, 12, 13, 14, 15, 16, 17, 18, 19] rfl rfl rfl rfl (by decide) rfl rfl rfl rfl rfl rfl (Nat.le_of_ble_eq_true rfl) dX8_comesFire_2 ⟨Nat.zero_le _, Nat.zero_le _⟩ (fun H locs hh => ?_)
  refine lv_if_ne (tgt := 10) hx hb dX8_comesFire_5 (by decide) (fun c2 => ?_) (fun c2 => ?_)
  · replace hf := (if_neg c2).symm.trans hf
    refine lv_aload_n hx hb dX8_comesFire_10 rfl (lv_at hl 0 rfl) ?_
    refine lv_iload_n hx hb dX8_comesFire_11 rfl (lv_at hl 1 rfl) ?_
    obtain ⟨u3, hu3, hf⟩ := ob_bind hf
    refine zcallV (ci := 7) (q0 := 0) (As := [.int p1]) (rest := []) (wr := []) (ws' := cMd K a0 a1 a2 a3 a4 a5 a6 a7 a8 a9 a10 a11 a12 a13 a14 a15 a16 a17 a18 a19 u3) (ov := none) X hh hl (kX8_burns l K a0 a1 a2 a3 a4 a5 a6 a7 a8 a9 a10 a11 a12 a13 a14 a15 a16 a17 a18 a19 S p1 u3 hu3) (fun ht => cwV 1 ht gX8_comesFire_X8_burns rfl rfl rfl ⟨rfl, hdX8_burns⟩ ⟨Nat.le_of_ble_eq_true rfl, Nat.le_of_ble_eq_true rfl⟩) [0, 1, 2, 3, 4, 5, 6, 7, 8, 9, 10, 11, 12, 13, 14, 15, 16, 17, 18, 19] [] [0, 1, 2, 3, 4, 5, 6, 7, 8, 9, 10, 11, 12, 13, 14, 15, 16, 17, 18, 19] rfl rfl rfl rfl (by decide) rfl rfl rfl rfl rfl rfl (Nat.le_of_ble_eq_true rfl) dX8_comesFire_12 ⟨Nat.zero_le _, Nat.zero_le _⟩ (fun H locs hh => ?_)
    refine lv_iconst (v := (1 : Int32)) hx hb dX8_comesFire_15 (by decide) ?_
    exact hr2 16 ls H locs (1 : Int32) u3 hf rfl dX8_comesFire_16 hh
  · replace hf := (if_pos c2).symm.trans hf
    refine lv_iconst (v := (0 : Int32)) hx hb dX8_comesFire_8 (by decide) ?_
    exact hr2 9 ls H locs (0 : Int32) S hf rfl dX8_comesFire_9 hh
def fX8_comesLaw (S : zMd) (p1 : Int32) (p2 : Int32) : Int32 × zMd :=
  if (2 : Int32) < p1 then
  (((0 : Int32), S))
  else
  (if p2 ≤ (1 : Int32) then
  (((1 : Int32), (md_set_falls (md_set_sums S p1) p2)))
  else
  (((0 : Int32), S)))
theorem inX8_comesLaw_X8 : ∀ w ∈ wsX80, w ∈ wsX8_comesLaw := by decide +kernel
theorem mmX8_comesLaw_0 : Cond.fieldLink RX8 86 "SumOfTwoThatStandModel" "sums" "I" ∈ wsX8_comesLaw := by decide +kernel
theorem mmX8_comesLaw_1 : Cond.fieldLink RX8 111 "SumOfTwoThatStandModel" "falls" "I" ∈ wsX8_comesLaw := by decide +kernel
theorem hdX8_comesLaw : yX8_comesLaw.cls ≠ "java/lang/invoke/MethodHandle" ∧ yX8_comesLaw.cls ≠ "java/lang/invoke/VarHandle" ∧ (parseMethodDescriptor yX8_comesLaw.desc).map (fun d => d.parameters.length) = some 2 := by decide +kernel
set_option maxHeartbeats 4000000 in
set_option maxRecDepth 100000 in
theorem kX8_comesLaw (l : Launch) (K : zK) (a0 a1 a2 a3 a4 a5 a6 a7 a8 a9 a10 a11 a12 a13 a14 a15 a16 a17 a18 a19 : Nat) (S : zMd) (p1 : Int32) (p2 : Int32) (R : Int32 × zMd) (hf : fX8_comesLaw S p1 p2 = R) : zC l yX8_comesLaw wsX8_comesLaw ({ frames := 0, cells := 0, slots := 0, locals := 0 } : Room) K [.ref a0, .int p1, .int p2] (cMd K a0 a1 a2 a3 a4 a5 a6 a7 a8 a9 a10 a11 a12 a13 a14 a15 a16 a17 a18 a19 S) (some (.int R.1)) (cMd K a0 a1 a2 a3 a4 a5 a6 a7 a8 a9 a10 a11 a12 a13 a14 a15 a16 a17 a18 a19 R.2) := by
  refine zC_z .boolean R.1 (cc := cX8_comesLaw) (maxL := 3) (by decide +kernel) rfl (Nat.le_of_ble_eq_true rfl) rfl rfl ?_
  intro p e s m below meth c Q A X hret ls hl hh
  have X : zX p m c cX8_comesLaw 3 s ([.ref a0, .int p1, .int p2] : List Value).toArray wsX8_comesLaw RX8 K A := X
  have hx := X.1.1
  have hb := X.1.2.1
  have hr2 : ∀ (pc : Nat) (ls : Array Slot) (H : Heap) (locs : List Loc) (v : Int32) (S : zMd), (v, S) = R → narrow .boolean (.int v) = .int v → decode cX8_comesLaw pc = .ok (.ireturn, 1) → zW K A s H locs (cMd K a0 a1 a2 a3 a4 a5 a6 a7 a8 a9 a10 a11 a12 a13 a14 a15 a16 a17 a18 a19 S) → W p l e ({ frames := 0, cells := 0, slots := 0, locals := 0 } : Room) s m ([.ref a0, .int p1, .int p2] : List Value).toArray below meth c H locs 0 0 Q (F0 m pc ls [.int v]) := by
    intro pc ls H locs v S h hn hd hh
    cases h; exact hret pc ls H locs _ rfl hn hd hh
  have hl : lv_has ls 3 [(0, .ref a0), (1, .int p1), (2, .int p2)] := hl
  unfold fX8_comesLaw at hf
  refine (fun (hmain : ∀ (H : Heap) (locs : List Loc), zW K A s H locs (cMd K a0 a1 a2 a3 a4 a5 a6 a7 a8 a9 a10 a11 a12 a13 a14 a15 a16 a17 a18 a19 S) → W p l e ({ frames := 0, cells := 0, slots := 0, locals := 0 } : Room) s m ([.ref a0, .int p1, .int p2] : List Value).toArray below meth c H locs 0 0 Q (F0 m 0 ls [])) => hmain s.heap [] hh) (fun H locs hh => ?_)
  refine lv_iload_n hx hb dX8_comesLaw_0 rfl (lv_at hl 1 rfl) ?_
  refine lv_iconst (v := (2 : Int32)) hx hb dX8_comesLaw_1 (by decide) ?_
  refine lv_icmp_gt (tgt := 10) hx hb dX8_comesLaw_2 (by decide) (fun c1 => ?_) (fun c1 => ?_)
  · replace hf := (if_pos c1).symm.trans hf
    refine lv_iconst (v := (0 : Int32)) hx hb dX8_comesLaw_10 (by decide) ?_
    exact hr2 11 ls H locs (0 : Int32) S hf rfl dX8_comesLaw_11 hh
  · replace hf := (if_neg c1).symm.trans hf
    refine lv_iload_n hx hb dX8_comesLaw_5 rfl (lv_at hl 2 rfl) ?_
    refine lv_iconst (v := (1 : Int32)) hx hb dX8_comesLaw_6 (by decide) ?_
    refine lv_icmp_le (tgt := 12) hx hb dX8_comesLaw_7 (by decide) (fun c2 => ?_) (fun c2 => ?_)
    · replace hf := (if_pos c2).symm.trans hf
      refine lv_aload_n hx hb dX8_comesLaw_12 rfl (lv_at hl 0 rfl) ?_
      refine lv_iload_n hx hb dX8_comesLaw_13 rfl (lv_at hl 1 rfl) ?_
      refine zput (v := .int p1) (ty := .int) (ref := "SumOfTwoThatStandModel") (C := RX8) (T := TX8) (N := 33) (index := 86) X hh inX8_comesLaw_X8 tyX8 tyX8_ok nmX8 0 rfl rfl 10 (by decide) mmX8_comesLaw_0 rfl rfl (by decide +kernel) rfl rfl (Nat.le_of_ble_eq_true rfl) dX8_comesLaw_14 (fun H locs hh => ?_)
      have hh : zW K A s H locs (cMd K a0 a1 a2 a3 a4 a5 a6 a7 a8 a9 a10 a11 a12 a13 a14 a15 a16 a17 a18 a19 (md_set_sums S p1)) := hh
      refine lv_aload_n hx hb dX8_comesLaw_17 rfl (lv_at hl 0 rfl) ?_
      refine lv_iload_n hx hb dX8_comesLaw_18 rfl (lv_at hl 2 rfl) ?_
      refine zput (v := .int p2) (ty := .int) (ref := "SumOfTwoThatStandModel") (C := RX8) (T := TX8) (N := 33) (index := 111) X hh inX8_comesLaw_X8 tyX8 tyX8_ok nmX8 0 rfl rfl 11 (by decide) mmX8_comesLaw_1 rfl rfl (by decide +kernel) rfl rfl (Nat.le_of_ble_eq_true rfl) dX8_comesLaw_19 (fun H locs hh => ?_)
      have hh : zW K A s H locs (cMd K a0 a1 a2 a3 a4 a5 a6 a7 a8 a9 a10 a11 a12 a13 a14 a15 a16 a17 a18 a19 (md_set_falls (md_set_sums S p1) p2)) := hh
      refine lv_iconst (v := (1 : Int32)) hx hb dX8_comesLaw_22 (by decide) ?_
      exact hr2 23 ls H locs (1 : Int32) (md_set_falls (md_set_sums S p1) p2) hf rfl dX8_comesLaw_23 hh
    · replace hf := (if_neg c2).symm.trans hf
      refine lv_iconst (v := (0 : Int32)) hx hb dX8_comesLaw_10 (by decide) ?_
      exact hr2 11 ls H locs (0 : Int32) S hf rfl dX8_comesLaw_11 hh
def fX8_comesTold (S : zMd) (p1 : Int32) : Option (Int32 × zMd) :=
  ix 33 p1 (if ((md_sort S) p1.toNatClampNeg) = (97 : Int32) then
  ((fX8_comesNew S ((4 : Int32) * p1)).bind fun u3 =>
  if u3.1 &&& 1 = u3.1 then some (u3.1, u3.2) else none)
  else
  (if ((md_sort S) p1.toNatClampNeg) = (98 : Int32) then
  (ix 132 ((4 : Int32) * p1) ((fX8_comesFire S ((md_told S) ((4 : Int32) * p1).toNatClampNeg)).bind fun u6 =>
  if u6.1 &&& 1 = u6.1 then some (u6.1, u6.2) else none))
  else
  (if ((md_sort S) p1.toNatClampNeg) = (108 : Int32) then
  (ix 132 ((4 : Int32) * p1) (ix 132 (((4 : Int32) * p1) + (1 : Int32)) (if (fX8_comesLaw S ((md_told S) ((4 : Int32) * p1).toNatClampNeg) ((md_told S) (((4 : Int32) * p1) + (1 : Int32)).toNatClampNeg)).1 &&& 1 = (fX8_comesLaw S ((md_told S) ((4 : Int32) * p1).toNatClampNeg) ((md_told S) (((4 : Int32) * p1) + (1 : Int32)).toNatClampNeg)).1 then some ((fX8_comesLaw S ((md_told S) ((4 : Int32) * p1).toNatClampNeg) ((md_told S) (((4 : Int32) * p1) + (1 : Int32)).toNatClampNeg)).1, (fX8_comesLaw S ((md_told S) ((4 : Int32) * p1).toNatClampNeg) ((md_told S) (((4 : Int32) * p1) + (1 : Int32)).toNatClampNeg)).2) else none)))
  else
  ((fX8_beginsAnew S).bind fun u12 =>
  some ((1 : Int32), u12)))))
theorem inX8_comesTold_X8 : ∀ w ∈ wsX80, w ∈ wsX8_comesTold := by decide +kernel
theorem mmX8_comesTold_0 : Cond.fieldLink RX8 40 "SumOfTwoThatStandModel" "sort" "[I" ∈ wsX8_comesTold := by decide +kernel
theorem mmX8_comesTold_1 : Cond.fieldLink RX8 46 "SumOfTwoThatStandModel" "told" "[I" ∈ wsX8_comesTold := by decide +kernel
theorem hdX8_comesTold : yX8_comesTold.cls ≠ "java/lang/invoke/MethodHandle" ∧ yX8_comesTold.cls ≠ "java/lang/invoke/VarHandle" ∧ (parseMethodDescriptor yX8_comesTold.desc).map (fun d => d.parameters.length) = some 1 := by decide +kernel
set_option maxHeartbeats 4000000 in
set_option maxRecDepth 100000 in
theorem kX8_comesTold (l : Launch) (K : zK) (a0 a1 a2 a3 a4 a5 a6 a7 a8 a9 a10 a11 a12 a13 a14 a15 a16 a17 a18 a19 : Nat) (S : zMd) (p1 : Int32) (R : Int32 × zMd) (hf : fX8_comesTold S p1 = some R) : zC l yX8_comesTold wsX8_comesTold ({ frames := 4, cells := 0, slots := 0, locals := 90 } : Room) K [.ref a0, .int p1] (cMd K a0 a1 a2 a3 a4 a5 a6 a7 a8 a9 a10 a11 a12 a13 a14 a15 a16 a17 a18 a19 S) (some (.int R.1)) (cMd K a0 a1 a2 a3 a4 a5 a6 a7 a8 a9 a10 a11 a12 a13 a14 a15 a16 a17 a18 a19 R.2) := by
  refine zC_z .boolean R.1 (cc := cX8_comesTold) (maxL := 3) (by decide +kernel) rfl (Nat.le_of_ble_eq_true rfl) rfl rfl ?_
  intro p e s m below meth c Q A X hret ls hl hh
  have X : zX p m c cX8_comesTold 3 s ([.ref a0, .int p1] : List Value).toArray wsX8_comesTold RX8 K A := X
  have hx := X.1.1
  have hb := X.1.2.1
  have hr2 : ∀ (pc : Nat) (ls : Array Slot) (H : Heap) (locs : List Loc) (v : Int32) (S : zMd), some (v, S) = some R → narrow .boolean (.int v) = .int v → decode cX8_comesTold pc = .ok (.ireturn, 1) → zW K A s H locs (cMd K a0 a1 a2 a3 a4 a5 a6 a7 a8 a9 a10 a11 a12 a13 a14 a15 a16 a17 a18 a19 S) → W p l e ({ frames := 4, cells := 0, slots := 0, locals := 90 } : Room) s m ([.ref a0, .int p1] : List Value).toArray below meth c H locs 0 0 Q (F0 m pc ls [.int v]) := by
    intro pc ls H locs v S h hn hd hh
    cases h; exact hret pc ls H locs _ rfl hn hd hh
  have hl : lv_has ls 3 [(0, .ref a0), (1, .int p1)] := hl
  unfold fX8_comesTold at hf
  refine (fun (hmain : ∀ (H : Heap) (locs : List Loc), zW K A s H locs (cMd K a0 a1 a2 a3 a4 a5 a6 a7 a8 a9 a10 a11 a12 a13 a14 a15 a16 a17 a18 a19 S) → W p l e ({ frames := 4, cells := 0, slots := 0, locals := 90 } : Room) s m ([.ref a0, .int p1] : List Value).toArray below meth c H locs 0 0 Q (F0 m 0 ls [])) => hmain s.heap [] hh) (fun H locs hh => ?_)
  refine lv_iconst (v := (4 : Int32)) hx hb dX8_comesTold_0 (by decide) ?_
  refine lv_iload_n hx hb dX8_comesTold_1 rfl (lv_at hl 1 rfl) ?_
  refine lv_imul hx hb dX8_comesTold_2 ?_
  refine lv_istore_n (lv' := [(2, .int ((4 : Int32) * p1)), (0, .ref a0), (1, .int p1)]) hx hb dX8_comesTold_3 rfl hl (by decide) rfl (fun ls hl => ?_)
  refine lv_aload_n hx hb dX8_comesTold_4 rfl (lv_at hl 1 rfl) ?_
  refine zget (v := .ref a11) (ref := "SumOfTwoThatStandModel") (C := RX8) (T := TX8) (N := 33) (index := 40) X hh inX8_comesTold_X8 0 rfl rfl 13 (by decide) mmX8_comesTold_0 rfl rfl dX8_comesTold_5 ?_
  refine lv_iload_n hx hb dX8_comesTold_8 rfl (lv_at hl 2 rfl) ?_
  obtain ⟨g1, hf⟩ := ob_ix hf
  refine ziald (f := (md_sort S)) X hh 11 rfl g1 dX8_comesTold_9 ?_
  by_cases c2_0 : ((md_sort S) p1.toNatClampNeg) = (97 : Int32)
  · replace hf := (if_pos c2_0).symm.trans hf
    refine lv_lookup (off := 34) (tgt := 44) hx hb dX8_comesTold_10 (by decide) (by rw [c2_0]; decide) (by decide) ?_
    refine lv_aload_n hx hb dX8_comesTold_44 rfl (lv_at hl 1 rfl) ?_
    refine lv_iload_n hx hb dX8_comesTold_45 rfl (lv_at hl 0 rfl) ?_
    obtain ⟨u3, hu3, hf⟩ := ob_bind hf
    refine zcallV (ci := 7) (q0 := 0) (As := [.int ((4 : Int32) * p1)]) (rest := []) (wr := []) (ws' := cMd K a0 a1 a2 a3 a4 a5 a6 a7 a8 a9 a10 a11 a12 a13 a14 a15 a16 a17 a18 a19 u3.2) (ov := some (.int u3.1)) X hh hl (kX8_comesNew l K a0 a1 a2 a3 a4 a5 a6 a7 a8 a9 a10 a11 a12 a13 a14 a15 a16 a17 a18 a19 S ((4 : Int32) * p1) u3 hu3) (fun ht => cwV 1 ht gX8_comesTold_X8_comesNew rfl rfl rfl ⟨rfl, hdX8_comesNew⟩ ⟨Nat.le_of_ble_eq_true rfl, Nat.le_of_ble_eq_true rfl⟩) [0, 1, 2, 3, 4, 5, 6, 7, 8, 9, 10, 11, 12, 13, 14, 15, 16, 17, 18, 19] [] [0, 1, 2, 3, 4, 5, 6, 7, 8, 9, 10, 11, 12, 13, 14, 15, 16, 17, 18, 19] rfl rfl rfl rfl (by decide) rfl rfl rfl rfl rfl rfl (Nat.le_of_ble_eq_true rfl) dX8_comesTold_46 ⟨Nat.zero_le _, Nat.zero_le _⟩ (fun H locs hh => ?_)
    obtain ⟨g4, hf⟩ := ob_ck hf
    exact hr2 49 ls H locs u3.1 u3.2 hf (nar_ok g4) dX8_comesTold_49 hh
  replace hf := (if_neg c2_0).symm.trans hf
  by_cases c2_1 : ((md_sort S) p1.toNatClampNeg) = (98 : Int32)
  · replace hf := (if_pos c2_1).symm.trans hf
    refine lv_lookup (off := 40) (tgt := 50) hx hb dX8_comesTold_10 (by decide) (by rw [c2_1]; decide) (by decide) ?_
    refine lv_aload_n hx hb dX8_comesTold_50 rfl (lv_at hl 1 rfl) ?_
    refine lv_aload_n hx hb dX8_comesTold_51 rfl (lv_at hl 1 rfl) ?_
    refine zget (v := .ref a13) (ref := "SumOfTwoThatStandModel") (C := RX8) (T := TX8) (N := 33) (index := 46) X hh inX8_comesTold_X8 0 rfl rfl 15 (by decide) mmX8_comesTold_1 rfl rfl dX8_comesTold_52 ?_
    refine lv_iload_n hx hb dX8_comesTold_55 rfl (lv_at hl 0 rfl) ?_
    obtain ⟨g5, hf⟩ := ob_ix hf
    refine ziald (f := (md_told S)) X hh 13 rfl g5 dX8_comesTold_56 ?_
    obtain ⟨u6, hu6, hf⟩ := ob_bind hf
    refine zcallV (ci := 7) (q0 := 0) (As := [.int ((md_told S) ((4 : Int32) * p1).toNatClampNeg)]) (rest := []) (wr := []) (ws' := cMd K a0 a1 a2 a3 a4 a5 a6 a7 a8 a9 a10 a11 a12 a13 a14 a15 a16 a17 a18 a19 u6.2) (ov := some (.int u6.1)) X hh hl (kX8_comesFire l K a0 a1 a2 a3 a4 a5 a6 a7 a8 a9 a10 a11 a12 a13 a14 a15 a16 a17 a18 a19 S ((md_told S) ((4 : Int32) * p1).toNatClampNeg) u6 hu6) (fun ht => cwV 1 ht gX8_comesTold_X8_comesFire rfl rfl rfl ⟨rfl, hdX8_comesFire⟩ ⟨Nat.le_of_ble_eq_true rfl, Nat.le_of_ble_eq_true rfl⟩) [0, 1, 2, 3, 4, 5, 6, 7, 8, 9, 10, 11, 12, 13, 14, 15, 16, 17, 18, 19] [] [0, 1, 2, 3, 4, 5, 6, 7, 8, 9, 10, 11, 12, 13, 14, 15, 16, 17, 18, 19] rfl rfl rfl rfl (by decide) rfl rfl rfl rfl rfl rfl (Nat.le_of_ble_eq_true rfl) dX8_comesTold_57 ⟨Nat.zero_le _, Nat.zero_le _⟩ (fun H locs hh => ?_)
    obtain ⟨g7, hf⟩ := ob_ck hf
    exact hr2 60 ls H locs u6.1 u6.2 hf (nar_ok g7) dX8_comesTold_60 hh
  replace hf := (if_neg c2_1).symm.trans hf
  by_cases c2_2 : ((md_sort S) p1.toNatClampNeg) = (108 : Int32)
  · replace hf := (if_pos c2_2).symm.trans hf
    refine lv_lookup (off := 51) (tgt := 61) hx hb dX8_comesTold_10 (by decide) (by rw [c2_2]; decide) (by decide) ?_
    refine lv_aload_n hx hb dX8_comesTold_61 rfl (lv_at hl 1 rfl) ?_
    refine lv_aload_n hx hb dX8_comesTold_62 rfl (lv_at hl 1 rfl) ?_
    refine zget (v := .ref a13) (ref := "SumOfTwoThatStandModel") (C := RX8) (T := TX8) (N := 33) (index := 46) X hh inX8_comesTold_X8 0 rfl rfl 15 (by decide) mmX8_comesTold_1 rfl rfl dX8_comesTold_63 ?_
    refine lv_iload_n hx hb dX8_comesTold_66 rfl (lv_at hl 0 rfl) ?_
    obtain ⟨g8, hf⟩ := ob_ix hf
    refine ziald (f := (md_told S)) X hh 13 rfl g8 dX8_comesTold_67 ?_
    refine lv_aload_n hx hb dX8_comesTold_68 rfl (lv_at hl 1 rfl) ?_
    refine zget (v := .ref a13) (ref := "SumOfTwoThatStandModel") (C := RX8) (T := TX8) (N := 33) (index := 46) X hh inX8_comesTold_X8 0 rfl rfl 15 (by decide) mmX8_comesTold_1 rfl rfl dX8_comesTold_69 ?_
    refine lv_iload_n hx hb dX8_comesTold_72 rfl (lv_at hl 0 rfl) ?_
    refine lv_iconst (v := (1 : Int32)) hx hb dX8_comesTold_73 (by decide) ?_
    refine lv_iadd hx hb dX8_comesTold_74 ?_
    obtain ⟨g9, hf⟩ := ob_ix hf
    refine ziald (f := (md_told S)) X hh 13 rfl g9 dX8_comesTold_75 ?_
    refine zcallV (ci := 7) (q0 := 0) (As := [.int ((md_told S) ((4 : Int32) * p1).toNatClampNeg), .int ((md_told S) (((4 : Int32) * p1) + (1 : Int32)).toNatClampNeg)]) (rest := []) (wr := []) (ws' := cMd K a0 a1 a2 a3 a4 a5 a6 a7 a8 a9 a10 a11 a12 a13 a14 a15 a16 a17 a18 a19 (fX8_comesLaw S ((md_told S) ((4 : Int32) * p1).toNatClampNeg) ((md_told S) (((4 : Int32) * p1) + (1 : Int32)).toNatClampNeg)).2) (ov := some (.int (fX8_comesLaw S ((md_told S) ((4 : Int32) * p1).toNatClampNeg) ((md_told S) (((4 : Int32) * p1) + (1 : Int32)).toNatClampNeg)).1)) X hh hl (kX8_comesLaw l K a0 a1 a2 a3 a4 a5 a6 a7 a8 a9 a10 a11 a12 a13 a14 a15 a16 a17 a18 a19 S ((md_told S) ((4 : Int32) * p1).toNatClampNeg) ((md_told S) (((4 : Int32) * p1) + (1 : Int32)).toNatClampNeg) (fX8_comesLaw S ((md_told S) ((4 : Int32) * p1).toNatClampNeg) ((md_told S) (((4 : Int32) * p1) + (1 : Int32)).toNatClampNeg)) rfl) (fun ht => cwV 2 ht gX8_comesTold_X8_comesLaw rfl rfl rfl ⟨rfl, hdX8_comesLaw⟩ ⟨Nat.le_of_ble_eq_true rfl, Nat.le_of_ble_eq_true rfl⟩) [0, 1, 2, 3, 4, 5, 6, 7, 8, 9, 10, 11, 12, 13, 14, 15, 16, 17, 18, 19] [] [0, 1, 2, 3, 4, 5, 6, 7, 8, 9, 10, 11, 12, 13, 14, 15, 16, 17, 18, 19] rfl rfl rfl rfl (by decide) rfl rfl rfl rfl rfl rfl (Nat.le_of_ble_eq_true rfl) dX8_comesTold_76 ⟨Nat.zero_le _, Nat.zero_le _⟩ (fun H locs hh => ?_)
    obtain ⟨g11, hf⟩ := ob_ck hf
    exact hr2 79 ls H locs (fX8_comesLaw S ((md_told S) ((4 : Int32) * p1).toNatClampNeg) ((md_told S) (((4 : Int32) * p1) + (1 : Int32)).toNatClampNeg)).1 (fX8_comesLaw S ((md_told S) ((4 : Int32) * p1).toNatClampNeg) ((md_told S) (((4 : Int32) * p1) + (1 : Int32)).toNatClampNeg)).2 hf (nar_ok g11) dX8_comesTold_79 hh
  replace hf := (if_neg c2_2).symm.trans hf
  refine lv_lookup (off := 70) (tgt := 80) hx hb dX8_comesTold_10 (by decide) ((lv_osw c2_0 (by decide)).trans ((lv_osw c2_1 (by decide)).trans ((lv_osw c2_2 (by decide)).trans (rfl)))) (by decide) ?_
  refine lv_aload_n hx hb dX8_comesTold_80 rfl (lv_at hl 1 rfl) ?_
  obtain ⟨u12, hu12, hf⟩ := ob_bind hf
  refine zcallV (ci := 7) (q0 := 0) (As := []) (rest := []) (wr := []) (ws' := cMd K a0 a1 a2 a3 a4 a5 a6 a7 a8 a9 a10 a11 a12 a13 a14 a15 a16 a17 a18 a19 u12) (ov := none) X hh hl (kX8_beginsAnew l K a0 a1 a2 a3 a4 a5 a6 a7 a8 a9 a10 a11 a12 a13 a14 a15 a16 a17 a18 a19 S u12 hu12) (fun ht => cwV 0 ht gX8_comesTold_X8_beginsAnew rfl rfl rfl ⟨rfl, hdX8_beginsAnew⟩ ⟨Nat.le_of_ble_eq_true rfl, Nat.le_of_ble_eq_true rfl⟩) [0, 1, 2, 3, 4, 5, 6, 7, 8, 9, 10, 11, 12, 13, 14, 15, 16, 17, 18, 19] [] [0, 1, 2, 3, 4, 5, 6, 7, 8, 9, 10, 11, 12, 13, 14, 15, 16, 17, 18, 19] rfl rfl rfl rfl (by decide) rfl rfl rfl rfl rfl rfl (Nat.le_of_ble_eq_true rfl) dX8_comesTold_81 ⟨Nat.zero_le _, Nat.zero_le _⟩ (fun H locs hh => ?_)
  refine lv_iconst (v := (1 : Int32)) hx hb dX8_comesTold_84 (by decide) ?_
  exact hr2 85 ls H locs (1 : Int32) u12 hf rfl dX8_comesTold_85 hh
def fX8_passOne_j38 (v2 : Int32) (S : zMd) : Option (Int32 × zMd) :=
  some (v2, (md_set_cursor S ((md_cursor S) + (1 : Int32))))
def fX8_passOne_j20 (v1 : Int32) (t0 : Int32) (S : zMd) : Option (Int32 × zMd) :=
  if (md_isKeeping S) = (0 : Int32) then
  (fX8_passOne_j38 t0 S)
  else
  (ix 400 (md_cursor S) (fX8_passOne_j38 t0 (md_set_kept S (upd (md_kept S) (md_cursor S).toNatClampNeg v1))))
def fX8_passOne (S : zMd) (p1 : Int32) : Option (Int32 × zMd) :=
  if (md_isKeeping S) = (0 : Int32) then
  (ix 400 (md_cursor S) (fX8_passOne_j20 p1 ((md_kept S) (md_cursor S).toNatClampNeg) S))
  else
  (fX8_passOne_j20 p1 p1 S)
theorem inX8_passOne_X8 : ∀ w ∈ wsX80, w ∈ wsX8_passOne := by decide +kernel
theorem mmX8_passOne_0 : Cond.fieldLink RX8 188 "SumOfTwoThatStandModel" "cursor" "I" ∈ wsX8_passOne := by decide +kernel
theorem mmX8_passOne_1 : Cond.fieldLink RX8 184 "SumOfTwoThatStandModel" "isKeeping" "Z" ∈ wsX8_passOne := by decide +kernel
theorem mmX8_passOne_2 : Cond.fieldLink RX8 49 "SumOfTwoThatStandModel" "kept" "[I" ∈ wsX8_passOne := by decide +kernel
theorem hdX8_passOne : yX8_passOne.cls ≠ "java/lang/invoke/MethodHandle" ∧ yX8_passOne.cls ≠ "java/lang/invoke/VarHandle" ∧ (parseMethodDescriptor yX8_passOne.desc).map (fun d => d.parameters.length) = some 1 := by decide +kernel
set_option maxHeartbeats 4000000 in
set_option maxRecDepth 100000 in
theorem kX8_passOne (l : Launch) (K : zK) (a0 a1 a2 a3 a4 a5 a6 a7 a8 a9 a10 a11 a12 a13 a14 a15 a16 a17 a18 a19 : Nat) (S : zMd) (p1 : Int32) (R : Int32 × zMd) (hf : fX8_passOne S p1 = some R) : zC l yX8_passOne wsX8_passOne ({ frames := 0, cells := 0, slots := 0, locals := 0 } : Room) K [.ref a0, .int p1] (cMd K a0 a1 a2 a3 a4 a5 a6 a7 a8 a9 a10 a11 a12 a13 a14 a15 a16 a17 a18 a19 S) (some (.int R.1)) (cMd K a0 a1 a2 a3 a4 a5 a6 a7 a8 a9 a10 a11 a12 a13 a14 a15 a16 a17 a18 a19 R.2) := by
  refine zC_i R.1 (cc := cX8_passOne) (maxL := 3) (by decide +kernel) rfl (Nat.le_of_ble_eq_true rfl) rfl rfl ?_
  intro p e s m below meth c Q A X hret ls hl hh
  have X : zX p m c cX8_passOne 3 s ([.ref a0, .int p1] : List Value).toArray wsX8_passOne RX8 K A := X
  have hx := X.1.1
  have hb := X.1.2.1
  have hr2 : ∀ (pc : Nat) (ls : Array Slot) (H : Heap) (locs : List Loc) (v : Int32) (S : zMd), some (v, S) = some R → decode cX8_passOne pc = .ok (.ireturn, 1) → zW K A s H locs (cMd K a0 a1 a2 a3 a4 a5 a6 a7 a8 a9 a10 a11 a12 a13 a14 a15 a16 a17 a18 a19 S) → W p l e ({ frames := 0, cells := 0, slots := 0, locals := 0 } : Room) s m ([.ref a0, .int p1] : List Value).toArray below meth c H locs 0 0 Q (F0 m pc ls [.int v]) := by
    intro pc ls H locs v S h hd hh
    cases h; exact hret pc ls H locs _ rfl hd hh
  have hl : lv_has ls 3 [(0, .ref a0), (1, .int p1)] := hl
  have hJ38 : ∀ (v2 : Int32) (S : zMd), ∀ (H : Heap) (locs : List Loc) (ls : Array Slot), fX8_passOne_j38 v2 S = some R → lv_has ls 3 [(0, .ref a0), (2, .int v2)] → zW K A s H locs (cMd K a0 a1 a2 a3 a4 a5 a6 a7 a8 a9 a10 a11 a12 a13 a14 a15 a16 a17 a18 a19 S) → W p l e ({ frames := 0, cells := 0, slots := 0, locals := 0 } : Room) s m ([.ref a0, .int p1] : List Value).toArray below meth c H locs 0 0 Q (F0 m 38 ls []) := by
    intro v2 S H locs ls hf hl hh
    unfold fX8_passOne_j38 at hf
    refine lv_aload_n hx hb dX8_passOne_38 rfl (lv_at hl 0 rfl) ?_
    refine lv_dup hx hb dX8_passOne_39 rfl ?_
    refine zget (v := .int (md_cursor S)) (ref := "SumOfTwoThatStandModel") (C := RX8) (T := TX8) (N := 33) (index := 188) X hh inX8_passOne_X8 0 rfl rfl 23 (by decide) mmX8_passOne_0 rfl rfl dX8_passOne_40 ?_
    refine lv_iconst (v := (1 : Int32)) hx hb dX8_passOne_43 (by decide) ?_
    refine lv_iadd hx hb dX8_passOne_44 ?_
    refine zput (v := .int ((md_cursor S) + (1 : Int32))) (ty := .int) (ref := "SumOfTwoThatStandModel") (C := RX8) (T := TX8) (N := 33) (index := 188) X hh inX8_passOne_X8 tyX8 tyX8_ok nmX8 0 rfl rfl 23 (by decide) mmX8_passOne_0 rfl rfl (by decide +kernel) rfl rfl (Nat.le_of_ble_eq_true rfl) dX8_passOne_45 (fun H locs hh => ?_)
    have hh : zW K A s H locs (cMd K a0 a1 a2 a3 a4 a5 a6 a7 a8 a9 a10 a11 a12 a13 a14 a15 a16 a17 a18 a19 (md_set_cursor S ((md_cursor S) + (1 : Int32)))) := hh
    refine lv_iload_n hx hb dX8_passOne_48 rfl (lv_at hl 1 rfl) ?_
    exact hr2 49 ls H locs v2 (md_set_cursor S ((md_cursor S) + (1 : Int32))) hf dX8_passOne_49 hh
  have hJ20 : ∀ (v1 : Int32) (t0 : Int32) (S : zMd), ∀ (H : Heap) (locs : List Loc) (ls : Array Slot), fX8_passOne_j20 v1 t0 S = some R → lv_has ls 3 [(0, .ref a0), (1, .int v1)] → zW K A s H locs (cMd K a0 a1 a2 a3 a4 a5 a6 a7 a8 a9 a10 a11 a12 a13 a14 a15 a16 a17 a18 a19 S) → W p l e ({ frames := 0, cells := 0, slots := 0, locals := 0 } : Room) s m ([.ref a0, .int p1] : List Value).toArray below meth c H locs 0 0 Q (F0 m 20 ls [.int t0]) := by
    intro v1 t0 S H locs ls hf hl hh
    unfold fX8_passOne_j20 at hf
    refine lv_istore_n (lv' := [(2, .int t0), (0, .ref a0), (1, .int v1)]) hx hb dX8_passOne_20 rfl hl (by decide) rfl (fun ls hl => ?_)
    refine lv_aload_n hx hb dX8_passOne_21 rfl (lv_at hl 1 rfl) ?_
    refine zget (v := .int (md_isKeeping S)) (ref := "SumOfTwoThatStandModel") (C := RX8) (T := TX8) (N := 33) (index := 184) X hh inX8_passOne_X8 0 rfl rfl 22 (by decide) mmX8_passOne_1 rfl rfl dX8_passOne_22 ?_
    refine lv_if_eq (tgt := 38) hx hb dX8_passOne_25 (by decide) (fun c1 => ?_) (fun c1 => ?_)
    · replace hf := (if_pos c1).symm.trans hf
      exact hJ38 t0 S H locs ls hf (lv_sub hl [1, 0] rfl) hh
    · replace hf := (if_neg c1).symm.trans hf
      refine lv_aload_n hx hb dX8_passOne_28 rfl (lv_at hl 1 rfl) ?_
      refine zget (v := .ref a14) (ref := "SumOfTwoThatStandModel") (C := RX8) (T := TX8) (N := 33) (index := 49) X hh inX8_passOne_X8 0 rfl rfl 20 (by decide) mmX8_passOne_2 rfl rfl dX8_passOne_29 ?_
      refine lv_aload_n hx hb dX8_passOne_32 rfl (lv_at hl 1 rfl) ?_
      refine zget (v := .int (md_cursor S)) (ref := "SumOfTwoThatStandModel") (C := RX8) (T := TX8) (N := 33) (index := 188) X hh inX8_passOne_X8 0 rfl rfl 23 (by decide) mmX8_passOne_0 rfl rfl dX8_passOne_33 ?_
      refine lv_iload_n hx hb dX8_passOne_36 rfl (lv_at hl 2 rfl) ?_
      obtain ⟨g2, hf⟩ := ob_ix hf
      refine ziast (f := (md_kept S)) X hh 14 rfl g2 dX8_passOne_37 (fun H locs hh => ?_)
      have hh : zW K A s H locs (cMd K a0 a1 a2 a3 a4 a5 a6 a7 a8 a9 a10 a11 a12 a13 a14 a15 a16 a17 a18 a19 (md_set_kept S (upd (md_kept S) (md_cursor S).toNatClampNeg v1))) := hh
      exact hJ38 t0 (md_set_kept S (upd (md_kept S) (md_cursor S).toNatClampNeg v1)) H locs ls hf (lv_sub hl [1, 0] rfl) hh
  unfold fX8_passOne at hf
  refine (fun (hmain : ∀ (H : Heap) (locs : List Loc), zW K A s H locs (cMd K a0 a1 a2 a3 a4 a5 a6 a7 a8 a9 a10 a11 a12 a13 a14 a15 a16 a17 a18 a19 S) → W p l e ({ frames := 0, cells := 0, slots := 0, locals := 0 } : Room) s m ([.ref a0, .int p1] : List Value).toArray below meth c H locs 0 0 Q (F0 m 0 ls [])) => hmain s.heap [] hh) (fun H locs hh => ?_)
  refine lv_aload_n hx hb dX8_passOne_0 rfl (lv_at hl 0 rfl) ?_
  refine zget (v := .int (md_isKeeping S)) (ref := "SumOfTwoThatStandModel") (C := RX8) (T := TX8) (N := 33) (index := 184) X hh inX8_passOne_X8 0 rfl rfl 22 (by decide) mmX8_passOne_1 rfl rfl dX8_passOne_1 ?_
  refine lv_if_eq (tgt := 11) hx hb dX8_passOne_4 (by decide) (fun c3 => ?_) (fun c3 => ?_)
  · replace hf := (if_pos c3).symm.trans hf
    refine lv_aload_n hx hb dX8_passOne_11 rfl (lv_at hl 0 rfl) ?_
    refine zget (v := .ref a14) (ref := "SumOfTwoThatStandModel") (C := RX8) (T := TX8) (N := 33) (index := 49) X hh inX8_passOne_X8 0 rfl rfl 20 (by decide) mmX8_passOne_2 rfl rfl dX8_passOne_12 ?_
    refine lv_aload_n hx hb dX8_passOne_15 rfl (lv_at hl 0 rfl) ?_
    refine zget (v := .int (md_cursor S)) (ref := "SumOfTwoThatStandModel") (C := RX8) (T := TX8) (N := 33) (index := 188) X hh inX8_passOne_X8 0 rfl rfl 23 (by decide) mmX8_passOne_0 rfl rfl dX8_passOne_16 ?_
    obtain ⟨g4, hf⟩ := ob_ix hf
    refine ziald (f := (md_kept S)) X hh 14 rfl g4 dX8_passOne_19 ?_
    exact hJ20 p1 ((md_kept S) (md_cursor S).toNatClampNeg) S H locs ls hf (lv_sub hl [0, 1] rfl) hh
  · replace hf := (if_neg c3).symm.trans hf
    refine lv_iload_n hx hb dX8_passOne_7 rfl (lv_at hl 1 rfl) ?_
    refine lv_goto (tgt := 20) hx hb dX8_passOne_8 (by decide) ?_
    exact hJ20 p1 p1 S H locs ls hf (lv_sub hl [0, 1] rfl) hh
def fX8_passes_number_j42 (v2 : Int32) (S : zMd) (k2 : (Int32) → (zMd) → Option (zMd)) : Option (zMd) :=
  k2 (v2 + (1 : Int32)) (md_set_cursor S ((md_cursor S) + (1 : Int32)))
def fX8_passes_number_l2  : Nat → (Int32) → (zMd) → Option (zMd)
  | 0, _, _ => none
  | n + 1, v2, S =>
  if (12 : Int32) ≤ v2 then
  (some S)
  else
  (if (md_isKeeping S) = (0 : Int32) then
  (ix 400 (md_cursor S) (ix 12 v2 (fX8_passes_number_j42 v2 (md_set_number S (upd (md_number S) v2.toNatClampNeg ((md_kept S) (md_cursor S).toNatClampNeg))) (fX8_passes_number_l2  n))))
  else
  (ix 12 v2 (ix 400 (md_cursor S) (fX8_passes_number_j42 v2 (md_set_kept S (upd (md_kept S) (md_cursor S).toNatClampNeg ((md_number S) v2.toNatClampNeg))) (fX8_passes_number_l2  n)))))
def fX8_passes_number (S : zMd) : Option (zMd) :=
  fX8_passes_number_l2 FU (0 : Int32) S
theorem inX8_passes_number_X8 : ∀ w ∈ wsX80, w ∈ wsX8_passes := by decide +kernel
theorem mmX8_passes_number_0 : Cond.fieldLink RX8 188 "SumOfTwoThatStandModel" "cursor" "I" ∈ wsX8_passes := by decide +kernel
theorem mmX8_passes_number_1 : Cond.fieldLink RX8 184 "SumOfTwoThatStandModel" "isKeeping" "Z" ∈ wsX8_passes := by decide +kernel
theorem mmX8_passes_number_2 : Cond.fieldLink RX8 49 "SumOfTwoThatStandModel" "kept" "[I" ∈ wsX8_passes := by decide +kernel
theorem hdX8_passes : yX8_passes.cls ≠ "java/lang/invoke/MethodHandle" ∧ yX8_passes.cls ≠ "java/lang/invoke/VarHandle" ∧ (parseMethodDescriptor yX8_passes.desc).map (fun d => d.parameters.length) = some 1 := by decide +kernel
set_option maxHeartbeats 4000000 in
set_option maxRecDepth 100000 in
theorem kX8_passes_number (l : Launch) (K : zK) (a0 a1 a2 a3 a4 a5 a6 a7 a8 a9 a10 a11 a12 a13 a14 a15 a16 a17 a18 a19 : Nat) (S : zMd) (R : zMd) (hf : fX8_passes_number S = some R) : zC l yX8_passes wsX8_passes ({ frames := 0, cells := 0, slots := 0, locals := 0 } : Room) K [.ref a0, .ref a2] (cMd K a0 a1 a2 a3 a4 a5 a6 a7 a8 a9 a10 a11 a12 a13 a14 a15 a16 a17 a18 a19 S) none (cMd K a0 a1 a2 a3 a4 a5 a6 a7 a8 a9 a10 a11 a12 a13 a14 a15 a16 a17 a18 a19 R) := by
  refine zC_v (cc := cX8_passes) (maxL := 3) (by decide +kernel) rfl (Nat.le_of_ble_eq_true rfl) rfl rfl ?_
  intro p e s m below meth c Q A X hret ls hl hh
  have X : zX p m c cX8_passes 3 s ([.ref a0, .ref a2] : List Value).toArray wsX8_passes RX8 K A := X
  have hx := X.1.1
  have hb := X.1.2.1
  have hr2 : ∀ (pc : Nat) (ls : Array Slot) (H : Heap) (locs : List Loc) (S : zMd), some S = some R → decode cX8_passes pc = .ok (.return_, 1) → zW K A s H locs (cMd K a0 a1 a2 a3 a4 a5 a6 a7 a8 a9 a10 a11 a12 a13 a14 a15 a16 a17 a18 a19 S) → W p l e ({ frames := 0, cells := 0, slots := 0, locals := 0 } : Room) s m ([.ref a0, .ref a2] : List Value).toArray below meth c H locs 0 0 Q (F0 m pc ls []) := by
    intro pc ls H locs S h hd hh
    cases h; exact hret pc ls H locs hd hh
  have hl : lv_has ls 3 [(0, .ref a0), (1, .ref a2)] := hl
  have hJ42 : ∀ (v2 : Int32) (S : zMd) (k2 : (Int32) → (zMd) → Option (zMd)), (∀ (v2 : Int32) (S : zMd) (H : Heap) (locs : List Loc) (ls : Array Slot), k2 v2 S = some R → lv_has ls 3 [(0, .ref a0), (1, .ref a2), (2, .int v2)] → zW K A s H locs (cMd K a0 a1 a2 a3 a4 a5 a6 a7 a8 a9 a10 a11 a12 a13 a14 a15 a16 a17 a18 a19 S) → W p l e ({ frames := 0, cells := 0, slots := 0, locals := 0 } : Room) s m ([.ref a0, .ref a2] : List Value).toArray below meth c H locs 0 0 Q (F0 m 2 ls [])) → ∀ (H : Heap) (locs : List Loc) (ls : Array Slot), fX8_passes_number_j42 v2 S k2 = some R → lv_has ls 3 [(0, .ref a0), (1, .ref a2), (2, .int v2)] → zW K A s H locs (cMd K a0 a1 a2 a3 a4 a5 a6 a7 a8 a9 a10 a11 a12 a13 a14 a15 a16 a17 a18 a19 S) → W p l e ({ frames := 0, cells := 0, slots := 0, locals := 0 } : Room) s m ([.ref a0, .ref a2] : List Value).toArray below meth c H locs 0 0 Q (F0 m 42 ls []) := by
    intro v2 S k2 hk2 H locs ls hf hl hh
    unfold fX8_passes_number_j42 at hf
    refine lv_aload_n hx hb dX8_passes_42 rfl (lv_at hl 0 rfl) ?_
    refine lv_dup hx hb dX8_passes_43 rfl ?_
    refine zget (v := .int (md_cursor S)) (ref := "SumOfTwoThatStandModel") (C := RX8) (T := TX8) (N := 33) (index := 188) X hh inX8_passes_number_X8 0 rfl rfl 23 (by decide) mmX8_passes_number_0 rfl rfl dX8_passes_44 ?_
    refine lv_iconst (v := (1 : Int32)) hx hb dX8_passes_47 (by decide) ?_
    refine lv_iadd hx hb dX8_passes_48 ?_
    refine zput (v := .int ((md_cursor S) + (1 : Int32))) (ty := .int) (ref := "SumOfTwoThatStandModel") (C := RX8) (T := TX8) (N := 33) (index := 188) X hh inX8_passes_number_X8 tyX8 tyX8_ok nmX8 0 rfl rfl 23 (by decide) mmX8_passes_number_0 rfl rfl (by decide +kernel) rfl rfl (Nat.le_of_ble_eq_true rfl) dX8_passes_49 (fun H locs hh => ?_)
    have hh : zW K A s H locs (cMd K a0 a1 a2 a3 a4 a5 a6 a7 a8 a9 a10 a11 a12 a13 a14 a15 a16 a17 a18 a19 (md_set_cursor S ((md_cursor S) + (1 : Int32)))) := hh
    refine lv_iinc (v := (v2 + (1 : Int32))) (lv' := [(2, .int (v2 + (1 : Int32))), (0, .ref a0), (1, .ref a2)]) hx hb dX8_passes_52 hl (k := 2) rfl rfl (by decide) rfl (fun ls hl => ?_)
    refine lv_goto (tgt := 2) hx hb dX8_passes_55 (by decide) ?_
    exact hk2 (v2 + (1 : Int32)) (md_set_cursor S ((md_cursor S) + (1 : Int32))) H locs ls hf (lv_sub hl [1, 2, 0] rfl) hh
  have hL2 : ∀ (n : Nat) (v2 : Int32) (S : zMd), ∀ (H : Heap) (locs : List Loc) (ls : Array Slot), fX8_passes_number_l2 n v2 S = some R → lv_has ls 3 [(0, .ref a0), (1, .ref a2), (2, .int v2)] → zW K A s H locs (cMd K a0 a1 a2 a3 a4 a5 a6 a7 a8 a9 a10 a11 a12 a13 a14 a15 a16 a17 a18 a19 S) → W p l e ({ frames := 0, cells := 0, slots := 0, locals := 0 } : Room) s m ([.ref a0, .ref a2] : List Value).toArray below meth c H locs 0 0 Q (F0 m 2 ls []) := by
    intro n
    induction n with
    | zero =>
      intro v2 S H locs ls hf hl hh
      rw [fX8_passes_number_l2] at hf; cases hf
    | succ n ih =>
      intro v2 S H locs ls hf hl hh
      rw [fX8_passes_number_l2] at hf
      refine lv_iload_n hx hb dX8_passes_2 rfl (lv_at hl 2 rfl) ?_
      refine lv_aload_n hx hb dX8_passes_3 rfl (lv_at hl 1 rfl) ?_
      refine zalenI (v := (12 : Int32)) X hh 2 rfl rfl dX8_passes_4 ?_
      refine lv_icmp_ge (tgt := 58) hx hb dX8_passes_5 (by decide) (fun c1 => ?_) (fun c1 => ?_)
      · replace hf := (if_pos c1).symm.trans hf
        exact hr2 58 ls H locs S hf dX8_passes_58 hh
      · replace hf := (if_neg c1).symm.trans hf
        refine lv_aload_n hx hb dX8_passes_8 rfl (lv_at hl 0 rfl) ?_
        refine zget (v := .int (md_isKeeping S)) (ref := "SumOfTwoThatStandModel") (C := RX8) (T := TX8) (N := 33) (index := 184) X hh inX8_passes_number_X8 0 rfl rfl 22 (by decide) mmX8_passes_number_1 rfl rfl dX8_passes_9 ?_
        refine lv_if_eq (tgt := 30) hx hb dX8_passes_12 (by decide) (fun c2 => ?_) (fun c2 => ?_)
        · replace hf := (if_pos c2).symm.trans hf
          refine lv_aload_n hx hb dX8_passes_30 rfl (lv_at hl 1 rfl) ?_
          refine lv_iload_n hx hb dX8_passes_31 rfl (lv_at hl 2 rfl) ?_
          refine lv_aload_n hx hb dX8_passes_32 rfl (lv_at hl 0 rfl) ?_
          refine zget (v := .ref a14) (ref := "SumOfTwoThatStandModel") (C := RX8) (T := TX8) (N := 33) (index := 49) X hh inX8_passes_number_X8 0 rfl rfl 20 (by decide) mmX8_passes_number_2 rfl rfl dX8_passes_33 ?_
          refine lv_aload_n hx hb dX8_passes_36 rfl (lv_at hl 0 rfl) ?_
          refine zget (v := .int (md_cursor S)) (ref := "SumOfTwoThatStandModel") (C := RX8) (T := TX8) (N := 33) (index := 188) X hh inX8_passes_number_X8 0 rfl rfl 23 (by decide) mmX8_passes_number_0 rfl rfl dX8_passes_37 ?_
          obtain ⟨g3, hf⟩ := ob_ix hf
          refine ziald (f := (md_kept S)) X hh 14 rfl g3 dX8_passes_40 ?_
          obtain ⟨g4, hf⟩ := ob_ix hf
          refine ziast (f := (md_number S)) X hh 2 rfl g4 dX8_passes_41 (fun H locs hh => ?_)
          have hh : zW K A s H locs (cMd K a0 a1 a2 a3 a4 a5 a6 a7 a8 a9 a10 a11 a12 a13 a14 a15 a16 a17 a18 a19 (md_set_number S (upd (md_number S) v2.toNatClampNeg ((md_kept S) (md_cursor S).toNatClampNeg)))) := hh
          exact hJ42 v2 (md_set_number S (upd (md_number S) v2.toNatClampNeg ((md_kept S) (md_cursor S).toNatClampNeg))) (fX8_passes_number_l2  n) (ih) H locs ls hf (lv_sub hl [0, 1, 2] rfl) hh
        · replace hf := (if_neg c2).symm.trans hf
          refine lv_aload_n hx hb dX8_passes_15 rfl (lv_at hl 0 rfl) ?_
          refine zget (v := .ref a14) (ref := "SumOfTwoThatStandModel") (C := RX8) (T := TX8) (N := 33) (index := 49) X hh inX8_passes_number_X8 0 rfl rfl 20 (by decide) mmX8_passes_number_2 rfl rfl dX8_passes_16 ?_
          refine lv_aload_n hx hb dX8_passes_19 rfl (lv_at hl 0 rfl) ?_
          refine zget (v := .int (md_cursor S)) (ref := "SumOfTwoThatStandModel") (C := RX8) (T := TX8) (N := 33) (index := 188) X hh inX8_passes_number_X8 0 rfl rfl 23 (by decide) mmX8_passes_number_0 rfl rfl dX8_passes_20 ?_
          refine lv_aload_n hx hb dX8_passes_23 rfl (lv_at hl 1 rfl) ?_
          refine lv_iload_n hx hb dX8_passes_24 rfl (lv_at hl 2 rfl) ?_
          obtain ⟨g5, hf⟩ := ob_ix hf
          refine ziald (f := (md_number S)) X hh 2 rfl g5 dX8_passes_25 ?_
          obtain ⟨g6, hf⟩ := ob_ix hf
          refine ziast (f := (md_kept S)) X hh 14 rfl g6 dX8_passes_26 (fun H locs hh => ?_)
          have hh : zW K A s H locs (cMd K a0 a1 a2 a3 a4 a5 a6 a7 a8 a9 a10 a11 a12 a13 a14 a15 a16 a17 a18 a19 (md_set_kept S (upd (md_kept S) (md_cursor S).toNatClampNeg ((md_number S) v2.toNatClampNeg)))) := hh
          refine lv_goto (tgt := 42) hx hb dX8_passes_27 (by decide) ?_
          exact hJ42 v2 (md_set_kept S (upd (md_kept S) (md_cursor S).toNatClampNeg ((md_number S) v2.toNatClampNeg))) (fX8_passes_number_l2  n) (ih) H locs ls hf (lv_sub hl [0, 1, 2] rfl) hh
  unfold fX8_passes_number at hf
  refine (fun (hmain : ∀ (H : Heap) (locs : List Loc), zW K A s H locs (cMd K a0 a1 a2 a3 a4 a5 a6 a7 a8 a9 a10 a11 a12 a13 a14 a15 a16 a17 a18 a19 S) → W p l e ({ frames := 0, cells := 0, slots := 0, locals := 0 } : Room) s m ([.ref a0, .ref a2] : List Value).toArray below meth c H locs 0 0 Q (F0 m 0 ls [])) => hmain s.heap [] hh) (fun H locs hh => ?_)
  refine lv_iconst (v := (0 : Int32)) hx hb dX8_passes_0 (by decide) ?_
  refine lv_istore_n (lv' := [(2, .int (0 : Int32)), (0, .ref a0), (1, .ref a2)]) hx hb dX8_passes_1 rfl hl (by decide) rfl (fun ls hl => ?_)
  exact hL2 FU (0 : Int32) S H locs ls hf (lv_sub hl [1, 2, 0] rfl) hh
def fX8_passes_kind_j42 (v2 : Int32) (S : zMd) (k2 : (Int32) → (zMd) → Option (zMd)) : Option (zMd) :=
  k2 (v2 + (1 : Int32)) (md_set_cursor S ((md_cursor S) + (1 : Int32)))
def fX8_passes_kind_l2  : Nat → (Int32) → (zMd) → Option (zMd)
  | 0, _, _ => none
  | n + 1, v2, S =>
  if (12 : Int32) ≤ v2 then
  (some S)
  else
  (if (md_isKeeping S) = (0 : Int32) then
  (ix 400 (md_cursor S) (ix 12 v2 (fX8_passes_kind_j42 v2 (md_set_kind S (upd (md_kind S) v2.toNatClampNeg ((md_kept S) (md_cursor S).toNatClampNeg))) (fX8_passes_kind_l2  n))))
  else
  (ix 12 v2 (ix 400 (md_cursor S) (fX8_passes_kind_j42 v2 (md_set_kept S (upd (md_kept S) (md_cursor S).toNatClampNeg ((md_kind S) v2.toNatClampNeg))) (fX8_passes_kind_l2  n)))))
def fX8_passes_kind (S : zMd) : Option (zMd) :=
  fX8_passes_kind_l2 FU (0 : Int32) S
theorem inX8_passes_kind_X8 : ∀ w ∈ wsX80, w ∈ wsX8_passes := by decide +kernel
theorem mmX8_passes_kind_0 : Cond.fieldLink RX8 188 "SumOfTwoThatStandModel" "cursor" "I" ∈ wsX8_passes := by decide +kernel
theorem mmX8_passes_kind_1 : Cond.fieldLink RX8 184 "SumOfTwoThatStandModel" "isKeeping" "Z" ∈ wsX8_passes := by decide +kernel
theorem mmX8_passes_kind_2 : Cond.fieldLink RX8 49 "SumOfTwoThatStandModel" "kept" "[I" ∈ wsX8_passes := by decide +kernel
set_option maxHeartbeats 4000000 in
set_option maxRecDepth 100000 in
theorem kX8_passes_kind (l : Launch) (K : zK) (a0 a1 a2 a3 a4 a5 a6 a7 a8 a9 a10 a11 a12 a13 a14 a15 a16 a17 a18 a19 : Nat) (S : zMd) (R : zMd) (hf : fX8_passes_kind S = some R) : zC l yX8_passes wsX8_passes ({ frames := 0, cells := 0, slots := 0, locals := 0 } : Room) K [.ref a0, .ref a3] (cMd K a0 a1 a2 a3 a4 a5 a6 a7 a8 a9 a10 a11 a12 a13 a14 a15 a16 a17 a18 a19 S) none (cMd K a0 a1 a2 a3 a4 a5 a6 a7 a8 a9 a10 a11 a12 a13 a14 a15 a16 a17 a18 a19 R) := by
  refine zC_v (cc := cX8_passes) (maxL := 3) (by decide +kernel) rfl (Nat.le_of_ble_eq_true rfl) rfl rfl ?_
  intro p e s m below meth c Q A X hret ls hl hh
  have X : zX p m c cX8_passes 3 s ([.ref a0, .ref a3] : List Value).toArray wsX8_passes RX8 K A := X
  have hx := X.1.1
  have hb := X.1.2.1
  have hr2 : ∀ (pc : Nat) (ls : Array Slot) (H : Heap) (locs : List Loc) (S : zMd), some S = some R → decode cX8_passes pc = .ok (.return_, 1) → zW K A s H locs (cMd K a0 a1 a2 a3 a4 a5 a6 a7 a8 a9 a10 a11 a12 a13 a14 a15 a16 a17 a18 a19 S) → W p l e ({ frames := 0, cells := 0, slots := 0, locals := 0 } : Room) s m ([.ref a0, .ref a3] : List Value).toArray below meth c H locs 0 0 Q (F0 m pc ls []) := by
    intro pc ls H locs S h hd hh
    cases h; exact hret pc ls H locs hd hh
  have hl : lv_has ls 3 [(0, .ref a0), (1, .ref a3)] := hl
  have hJ42 : ∀ (v2 : Int32) (S : zMd) (k2 : (Int32) → (zMd) → Option (zMd)), (∀ (v2 : Int32) (S : zMd) (H : Heap) (locs : List Loc) (ls : Array Slot), k2 v2 S = some R → lv_has ls 3 [(0, .ref a0), (1, .ref a3), (2, .int v2)] → zW K A s H locs (cMd K a0 a1 a2 a3 a4 a5 a6 a7 a8 a9 a10 a11 a12 a13 a14 a15 a16 a17 a18 a19 S) → W p l e ({ frames := 0, cells := 0, slots := 0, locals := 0 } : Room) s m ([.ref a0, .ref a3] : List Value).toArray below meth c H locs 0 0 Q (F0 m 2 ls [])) → ∀ (H : Heap) (locs : List Loc) (ls : Array Slot), fX8_passes_kind_j42 v2 S k2 = some R → lv_has ls 3 [(0, .ref a0), (1, .ref a3), (2, .int v2)] → zW K A s H locs (cMd K a0 a1 a2 a3 a4 a5 a6 a7 a8 a9 a10 a11 a12 a13 a14 a15 a16 a17 a18 a19 S) → W p l e ({ frames := 0, cells := 0, slots := 0, locals := 0 } : Room) s m ([.ref a0, .ref a3] : List Value).toArray below meth c H locs 0 0 Q (F0 m 42 ls []) := by
    intro v2 S k2 hk2 H locs ls hf hl hh
    unfold fX8_passes_kind_j42 at hf
    refine lv_aload_n hx hb dX8_passes_42 rfl (lv_at hl 0 rfl) ?_
    refine lv_dup hx hb dX8_passes_43 rfl ?_
    refine zget (v := .int (md_cursor S)) (ref := "SumOfTwoThatStandModel") (C := RX8) (T := TX8) (N := 33) (index := 188) X hh inX8_passes_kind_X8 0 rfl rfl 23 (by decide) mmX8_passes_kind_0 rfl rfl dX8_passes_44 ?_
    refine lv_iconst (v := (1 : Int32)) hx hb dX8_passes_47 (by decide) ?_
    refine lv_iadd hx hb dX8_passes_48 ?_
    refine zput (v := .int ((md_cursor S) + (1 : Int32))) (ty := .int) (ref := "SumOfTwoThatStandModel") (C := RX8) (T := TX8) (N := 33) (index := 188) X hh inX8_passes_kind_X8 tyX8 tyX8_ok nmX8 0 rfl rfl 23 (by decide) mmX8_passes_kind_0 rfl rfl (by decide +kernel) rfl rfl (Nat.le_of_ble_eq_true rfl) dX8_passes_49 (fun H locs hh => ?_)
    have hh : zW K A s H locs (cMd K a0 a1 a2 a3 a4 a5 a6 a7 a8 a9 a10 a11 a12 a13 a14 a15 a16 a17 a18 a19 (md_set_cursor S ((md_cursor S) + (1 : Int32)))) := hh
    refine lv_iinc (v := (v2 + (1 : Int32))) (lv' := [(2, .int (v2 + (1 : Int32))), (0, .ref a0), (1, .ref a3)]) hx hb dX8_passes_52 hl (k := 2) rfl rfl (by decide) rfl (fun ls hl => ?_)
    refine lv_goto (tgt := 2) hx hb dX8_passes_55 (by decide) ?_
    exact hk2 (v2 + (1 : Int32)) (md_set_cursor S ((md_cursor S) + (1 : Int32))) H locs ls hf (lv_sub hl [1, 2, 0] rfl) hh
  have hL2 : ∀ (n : Nat) (v2 : Int32) (S : zMd), ∀ (H : Heap) (locs : List Loc) (ls : Array Slot), fX8_passes_kind_l2 n v2 S = some R → lv_has ls 3 [(0, .ref a0), (1, .ref a3), (2, .int v2)] → zW K A s H locs (cMd K a0 a1 a2 a3 a4 a5 a6 a7 a8 a9 a10 a11 a12 a13 a14 a15 a16 a17 a18 a19 S) → W p l e ({ frames := 0, cells := 0, slots := 0, locals := 0 } : Room) s m ([.ref a0, .ref a3] : List Value).toArray below meth c H locs 0 0 Q (F0 m 2 ls []) := by
    intro n
    induction n with
    | zero =>
      intro v2 S H locs ls hf hl hh
      rw [fX8_passes_kind_l2] at hf; cases hf
    | succ n ih =>
      intro v2 S H locs ls hf hl hh
      rw [fX8_passes_kind_l2] at hf
      refine lv_iload_n hx hb dX8_passes_2 rfl (lv_at hl 2 rfl) ?_
      refine lv_aload_n hx hb dX8_passes_3 rfl (lv_at hl 1 rfl) ?_
      refine zalenI (v := (12 : Int32)) X hh 3 rfl rfl dX8_passes_4 ?_
      refine lv_icmp_ge (tgt := 58) hx hb dX8_passes_5 (by decide) (fun c1 => ?_) (fun c1 => ?_)
      · replace hf := (if_pos c1).symm.trans hf
        exact hr2 58 ls H locs S hf dX8_passes_58 hh
      · replace hf := (if_neg c1).symm.trans hf
        refine lv_aload_n hx hb dX8_passes_8 rfl (lv_at hl 0 rfl) ?_
        refine zget (v := .int (md_isKeeping S)) (ref := "SumOfTwoThatStandModel") (C := RX8) (T := TX8) (N := 33) (index := 184) X hh inX8_passes_kind_X8 0 rfl rfl 22 (by decide) mmX8_passes_kind_1 rfl rfl dX8_passes_9 ?_
        refine lv_if_eq (tgt := 30) hx hb dX8_passes_12 (by decide) (fun c2 => ?_) (fun c2 => ?_)
        · replace hf := (if_pos c2).symm.trans hf
          refine lv_aload_n hx hb dX8_passes_30 rfl (lv_at hl 1 rfl) ?_
          refine lv_iload_n hx hb dX8_passes_31 rfl (lv_at hl 2 rfl) ?_
          refine lv_aload_n hx hb dX8_passes_32 rfl (lv_at hl 0 rfl) ?_
          refine zget (v := .ref a14) (ref := "SumOfTwoThatStandModel") (C := RX8) (T := TX8) (N := 33) (index := 49) X hh inX8_passes_kind_X8 0 rfl rfl 20 (by decide) mmX8_passes_kind_2 rfl rfl dX8_passes_33 ?_
          refine lv_aload_n hx hb dX8_passes_36 rfl (lv_at hl 0 rfl) ?_
          refine zget (v := .int (md_cursor S)) (ref := "SumOfTwoThatStandModel") (C := RX8) (T := TX8) (N := 33) (index := 188) X hh inX8_passes_kind_X8 0 rfl rfl 23 (by decide) mmX8_passes_kind_0 rfl rfl dX8_passes_37 ?_
          obtain ⟨g3, hf⟩ := ob_ix hf
          refine ziald (f := (md_kept S)) X hh 14 rfl g3 dX8_passes_40 ?_
          obtain ⟨g4, hf⟩ := ob_ix hf
          refine ziast (f := (md_kind S)) X hh 3 rfl g4 dX8_passes_41 (fun H locs hh => ?_)
          have hh : zW K A s H locs (cMd K a0 a1 a2 a3 a4 a5 a6 a7 a8 a9 a10 a11 a12 a13 a14 a15 a16 a17 a18 a19 (md_set_kind S (upd (md_kind S) v2.toNatClampNeg ((md_kept S) (md_cursor S).toNatClampNeg)))) := hh
          exact hJ42 v2 (md_set_kind S (upd (md_kind S) v2.toNatClampNeg ((md_kept S) (md_cursor S).toNatClampNeg))) (fX8_passes_kind_l2  n) (ih) H locs ls hf (lv_sub hl [0, 1, 2] rfl) hh
        · replace hf := (if_neg c2).symm.trans hf
          refine lv_aload_n hx hb dX8_passes_15 rfl (lv_at hl 0 rfl) ?_
          refine zget (v := .ref a14) (ref := "SumOfTwoThatStandModel") (C := RX8) (T := TX8) (N := 33) (index := 49) X hh inX8_passes_kind_X8 0 rfl rfl 20 (by decide) mmX8_passes_kind_2 rfl rfl dX8_passes_16 ?_
          refine lv_aload_n hx hb dX8_passes_19 rfl (lv_at hl 0 rfl) ?_
          refine zget (v := .int (md_cursor S)) (ref := "SumOfTwoThatStandModel") (C := RX8) (T := TX8) (N := 33) (index := 188) X hh inX8_passes_kind_X8 0 rfl rfl 23 (by decide) mmX8_passes_kind_0 rfl rfl dX8_passes_20 ?_
          refine lv_aload_n hx hb dX8_passes_23 rfl (lv_at hl 1 rfl) ?_
          refine lv_iload_n hx hb dX8_passes_24 rfl (lv_at hl 2 rfl) ?_
          obtain ⟨g5, hf⟩ := ob_ix hf
          refine ziald (f := (md_kind S)) X hh 3 rfl g5 dX8_passes_25 ?_
          obtain ⟨g6, hf⟩ := ob_ix hf
          refine ziast (f := (md_kept S)) X hh 14 rfl g6 dX8_passes_26 (fun H locs hh => ?_)
          have hh : zW K A s H locs (cMd K a0 a1 a2 a3 a4 a5 a6 a7 a8 a9 a10 a11 a12 a13 a14 a15 a16 a17 a18 a19 (md_set_kept S (upd (md_kept S) (md_cursor S).toNatClampNeg ((md_kind S) v2.toNatClampNeg)))) := hh
          refine lv_goto (tgt := 42) hx hb dX8_passes_27 (by decide) ?_
          exact hJ42 v2 (md_set_kept S (upd (md_kept S) (md_cursor S).toNatClampNeg ((md_kind S) v2.toNatClampNeg))) (fX8_passes_kind_l2  n) (ih) H locs ls hf (lv_sub hl [0, 1, 2] rfl) hh
  unfold fX8_passes_kind at hf
  refine (fun (hmain : ∀ (H : Heap) (locs : List Loc), zW K A s H locs (cMd K a0 a1 a2 a3 a4 a5 a6 a7 a8 a9 a10 a11 a12 a13 a14 a15 a16 a17 a18 a19 S) → W p l e ({ frames := 0, cells := 0, slots := 0, locals := 0 } : Room) s m ([.ref a0, .ref a3] : List Value).toArray below meth c H locs 0 0 Q (F0 m 0 ls [])) => hmain s.heap [] hh) (fun H locs hh => ?_)
  refine lv_iconst (v := (0 : Int32)) hx hb dX8_passes_0 (by decide) ?_
  refine lv_istore_n (lv' := [(2, .int (0 : Int32)), (0, .ref a0), (1, .ref a3)]) hx hb dX8_passes_1 rfl hl (by decide) rfl (fun ls hl => ?_)
  exact hL2 FU (0 : Int32) S H locs ls hf (lv_sub hl [1, 2, 0] rfl) hh
def fX8_passes_figure_j42 (v2 : Int32) (S : zMd) (k2 : (Int32) → (zMd) → Option (zMd)) : Option (zMd) :=
  k2 (v2 + (1 : Int32)) (md_set_cursor S ((md_cursor S) + (1 : Int32)))
def fX8_passes_figure_l2  : Nat → (Int32) → (zMd) → Option (zMd)
  | 0, _, _ => none
  | n + 1, v2, S =>
  if (12 : Int32) ≤ v2 then
  (some S)
  else
  (if (md_isKeeping S) = (0 : Int32) then
  (ix 400 (md_cursor S) (ix 12 v2 (fX8_passes_figure_j42 v2 (md_set_figure S (upd (md_figure S) v2.toNatClampNeg ((md_kept S) (md_cursor S).toNatClampNeg))) (fX8_passes_figure_l2  n))))
  else
  (ix 12 v2 (ix 400 (md_cursor S) (fX8_passes_figure_j42 v2 (md_set_kept S (upd (md_kept S) (md_cursor S).toNatClampNeg ((md_figure S) v2.toNatClampNeg))) (fX8_passes_figure_l2  n)))))
def fX8_passes_figure (S : zMd) : Option (zMd) :=
  fX8_passes_figure_l2 FU (0 : Int32) S
theorem inX8_passes_figure_X8 : ∀ w ∈ wsX80, w ∈ wsX8_passes := by decide +kernel
theorem mmX8_passes_figure_0 : Cond.fieldLink RX8 188 "SumOfTwoThatStandModel" "cursor" "I" ∈ wsX8_passes := by decide +kernel
theorem mmX8_passes_figure_1 : Cond.fieldLink RX8 184 "SumOfTwoThatStandModel" "isKeeping" "Z" ∈ wsX8_passes := by decide +kernel
theorem mmX8_passes_figure_2 : Cond.fieldLink RX8 49 "SumOfTwoThatStandModel" "kept" "[I" ∈ wsX8_passes := by decide +kernel
set_option maxHeartbeats 4000000 in
set_option maxRecDepth 100000 in
theorem kX8_passes_figure (l : Launch) (K : zK) (a0 a1 a2 a3 a4 a5 a6 a7 a8 a9 a10 a11 a12 a13 a14 a15 a16 a17 a18 a19 : Nat) (S : zMd) (R : zMd) (hf : fX8_passes_figure S = some R) : zC l yX8_passes wsX8_passes ({ frames := 0, cells := 0, slots := 0, locals := 0 } : Room) K [.ref a0, .ref a4] (cMd K a0 a1 a2 a3 a4 a5 a6 a7 a8 a9 a10 a11 a12 a13 a14 a15 a16 a17 a18 a19 S) none (cMd K a0 a1 a2 a3 a4 a5 a6 a7 a8 a9 a10 a11 a12 a13 a14 a15 a16 a17 a18 a19 R) := by
  refine zC_v (cc := cX8_passes) (maxL := 3) (by decide +kernel) rfl (Nat.le_of_ble_eq_true rfl) rfl rfl ?_
  intro p e s m below meth c Q A X hret ls hl hh
  have X : zX p m c cX8_passes 3 s ([.ref a0, .ref a4] : List Value).toArray wsX8_passes RX8 K A := X
  have hx := X.1.1
  have hb := X.1.2.1
  have hr2 : ∀ (pc : Nat) (ls : Array Slot) (H : Heap) (locs : List Loc) (S : zMd), some S = some R → decode cX8_passes pc = .ok (.return_, 1) → zW K A s H locs (cMd K a0 a1 a2 a3 a4 a5 a6 a7 a8 a9 a10 a11 a12 a13 a14 a15 a16 a17 a18 a19 S) → W p l e ({ frames := 0, cells := 0, slots := 0, locals := 0 } : Room) s m ([.ref a0, .ref a4] : List Value).toArray below meth c H locs 0 0 Q (F0 m pc ls []) := by
    intro pc ls H locs S h hd hh
    cases h; exact hret pc ls H locs hd hh
  have hl : lv_has ls 3 [(0, .ref a0), (1, .ref a4)] := hl
  have hJ42 : ∀ (v2 : Int32) (S : zMd) (k2 : (Int32) → (zMd) → Option (zMd)), (∀ (v2 : Int32) (S : zMd) (H : Heap) (locs : List Loc) (ls : Array Slot), k2 v2 S = some R → lv_has ls 3 [(0, .ref a0), (1, .ref a4), (2, .int v2)] → zW K A s H locs (cMd K a0 a1 a2 a3 a4 a5 a6 a7 a8 a9 a10 a11 a12 a13 a14 a15 a16 a17 a18 a19 S) → W p l e ({ frames := 0, cells := 0, slots := 0, locals := 0 } : Room) s m ([.ref a0, .ref a4] : List Value).toArray below meth c H locs 0 0 Q (F0 m 2 ls [])) → ∀ (H : Heap) (locs : List Loc) (ls : Array Slot), fX8_passes_figure_j42 v2 S k2 = some R → lv_has ls 3 [(0, .ref a0), (1, .ref a4), (2, .int v2)] → zW K A s H locs (cMd K a0 a1 a2 a3 a4 a5 a6 a7 a8 a9 a10 a11 a12 a13 a14 a15 a16 a17 a18 a19 S) → W p l e ({ frames := 0, cells := 0, slots := 0, locals := 0 } : Room) s m ([.ref a0, .ref a4] : List Value).toArray below meth c H locs 0 0 Q (F0 m 42 ls []) := by
    intro v2 S k2 hk2 H locs ls hf hl hh
    unfold fX8_passes_figure_j42 at hf
    refine lv_aload_n hx hb dX8_passes_42 rfl (lv_at hl 0 rfl) ?_
    refine lv_dup hx hb dX8_passes_43 rfl ?_
    refine zget (v := .int (md_cursor S)) (ref := "SumOfTwoThatStandModel") (C := RX8) (T := TX8) (N := 33) (index := 188) X hh inX8_passes_figure_X8 0 rfl rfl 23 (by decide) mmX8_passes_figure_0 rfl rfl dX8_passes_44 ?_
    refine lv_iconst (v := (1 : Int32)) hx hb dX8_passes_47 (by decide) ?_
    refine lv_iadd hx hb dX8_passes_48 ?_
    refine zput (v := .int ((md_cursor S) + (1 : Int32))) (ty := .int) (ref := "SumOfTwoThatStandModel") (C := RX8) (T := TX8) (N := 33) (index := 188) X hh inX8_passes_figure_X8 tyX8 tyX8_ok nmX8 0 rfl rfl 23 (by decide) mmX8_passes_figure_0 rfl rfl (by decide +kernel) rfl rfl (Nat.le_of_ble_eq_true rfl) dX8_passes_49 (fun H locs hh => ?_)
    have hh : zW K A s H locs (cMd K a0 a1 a2 a3 a4 a5 a6 a7 a8 a9 a10 a11 a12 a13 a14 a15 a16 a17 a18 a19 (md_set_cursor S ((md_cursor S) + (1 : Int32)))) := hh
    refine lv_iinc (v := (v2 + (1 : Int32))) (lv' := [(2, .int (v2 + (1 : Int32))), (0, .ref a0), (1, .ref a4)]) hx hb dX8_passes_52 hl (k := 2) rfl rfl (by decide) rfl (fun ls hl => ?_)
    refine lv_goto (tgt := 2) hx hb dX8_passes_55 (by decide) ?_
    exact hk2 (v2 + (1 : Int32)) (md_set_cursor S ((md_cursor S) + (1 : Int32))) H locs ls hf (lv_sub hl [1, 2, 0] rfl) hh
  have hL2 : ∀ (n : Nat) (v2 : Int32) (S : zMd), ∀ (H : Heap) (locs : List Loc) (ls : Array Slot), fX8_passes_figure_l2 n v2 S = some R → lv_has ls 3 [(0, .ref a0), (1, .ref a4), (2, .int v2)] → zW K A s H locs (cMd K a0 a1 a2 a3 a4 a5 a6 a7 a8 a9 a10 a11 a12 a13 a14 a15 a16 a17 a18 a19 S) → W p l e ({ frames := 0, cells := 0, slots := 0, locals := 0 } : Room) s m ([.ref a0, .ref a4] : List Value).toArray below meth c H locs 0 0 Q (F0 m 2 ls []) := by
    intro n
    induction n with
    | zero =>
      intro v2 S H locs ls hf hl hh
      rw [fX8_passes_figure_l2] at hf; cases hf
    | succ n ih =>
      intro v2 S H locs ls hf hl hh
      rw [fX8_passes_figure_l2] at hf
      refine lv_iload_n hx hb dX8_passes_2 rfl (lv_at hl 2 rfl) ?_
      refine lv_aload_n hx hb dX8_passes_3 rfl (lv_at hl 1 rfl) ?_
      refine zalenI (v := (12 : Int32)) X hh 4 rfl rfl dX8_passes_4 ?_
      refine lv_icmp_ge (tgt := 58) hx hb dX8_passes_5 (by decide) (fun c1 => ?_) (fun c1 => ?_)
      · replace hf := (if_pos c1).symm.trans hf
        exact hr2 58 ls H locs S hf dX8_passes_58 hh
      · replace hf := (if_neg c1).symm.trans hf
        refine lv_aload_n hx hb dX8_passes_8 rfl (lv_at hl 0 rfl) ?_
        refine zget (v := .int (md_isKeeping S)) (ref := "SumOfTwoThatStandModel") (C := RX8) (T := TX8) (N := 33) (index := 184) X hh inX8_passes_figure_X8 0 rfl rfl 22 (by decide) mmX8_passes_figure_1 rfl rfl dX8_passes_9 ?_
        refine lv_if_eq (tgt := 30) hx hb dX8_passes_12 (by decide) (fun c2 => ?_) (fun c2 => ?_)
        · replace hf := (if_pos c2).symm.trans hf
          refine lv_aload_n hx hb dX8_passes_30 rfl (lv_at hl 1 rfl) ?_
          refine lv_iload_n hx hb dX8_passes_31 rfl (lv_at hl 2 rfl) ?_
          refine lv_aload_n hx hb dX8_passes_32 rfl (lv_at hl 0 rfl) ?_
          refine zget (v := .ref a14) (ref := "SumOfTwoThatStandModel") (C := RX8) (T := TX8) (N := 33) (index := 49) X hh inX8_passes_figure_X8 0 rfl rfl 20 (by decide) mmX8_passes_figure_2 rfl rfl dX8_passes_33 ?_
          refine lv_aload_n hx hb dX8_passes_36 rfl (lv_at hl 0 rfl) ?_
          refine zget (v := .int (md_cursor S)) (ref := "SumOfTwoThatStandModel") (C := RX8) (T := TX8) (N := 33) (index := 188) X hh inX8_passes_figure_X8 0 rfl rfl 23 (by decide) mmX8_passes_figure_0 rfl rfl dX8_passes_37 ?_
          obtain ⟨g3, hf⟩ := ob_ix hf
          refine ziald (f := (md_kept S)) X hh 14 rfl g3 dX8_passes_40 ?_
          obtain ⟨g4, hf⟩ := ob_ix hf
          refine ziast (f := (md_figure S)) X hh 4 rfl g4 dX8_passes_41 (fun H locs hh => ?_)
          have hh : zW K A s H locs (cMd K a0 a1 a2 a3 a4 a5 a6 a7 a8 a9 a10 a11 a12 a13 a14 a15 a16 a17 a18 a19 (md_set_figure S (upd (md_figure S) v2.toNatClampNeg ((md_kept S) (md_cursor S).toNatClampNeg)))) := hh
          exact hJ42 v2 (md_set_figure S (upd (md_figure S) v2.toNatClampNeg ((md_kept S) (md_cursor S).toNatClampNeg))) (fX8_passes_figure_l2  n) (ih) H locs ls hf (lv_sub hl [0, 1, 2] rfl) hh
        · replace hf := (if_neg c2).symm.trans hf
          refine lv_aload_n hx hb dX8_passes_15 rfl (lv_at hl 0 rfl) ?_
          refine zget (v := .ref a14) (ref := "SumOfTwoThatStandModel") (C := RX8) (T := TX8) (N := 33) (index := 49) X hh inX8_passes_figure_X8 0 rfl rfl 20 (by decide) mmX8_passes_figure_2 rfl rfl dX8_passes_16 ?_
          refine lv_aload_n hx hb dX8_passes_19 rfl (lv_at hl 0 rfl) ?_
          refine zget (v := .int (md_cursor S)) (ref := "SumOfTwoThatStandModel") (C := RX8) (T := TX8) (N := 33) (index := 188) X hh inX8_passes_figure_X8 0 rfl rfl 23 (by decide) mmX8_passes_figure_0 rfl rfl dX8_passes_20 ?_
          refine lv_aload_n hx hb dX8_passes_23 rfl (lv_at hl 1 rfl) ?_
          refine lv_iload_n hx hb dX8_passes_24 rfl (lv_at hl 2 rfl) ?_
          obtain ⟨g5, hf⟩ := ob_ix hf
          refine ziald (f := (md_figure S)) X hh 4 rfl g5 dX8_passes_25 ?_
          obtain ⟨g6, hf⟩ := ob_ix hf
          refine ziast (f := (md_kept S)) X hh 14 rfl g6 dX8_passes_26 (fun H locs hh => ?_)
          have hh : zW K A s H locs (cMd K a0 a1 a2 a3 a4 a5 a6 a7 a8 a9 a10 a11 a12 a13 a14 a15 a16 a17 a18 a19 (md_set_kept S (upd (md_kept S) (md_cursor S).toNatClampNeg ((md_figure S) v2.toNatClampNeg)))) := hh
          refine lv_goto (tgt := 42) hx hb dX8_passes_27 (by decide) ?_
          exact hJ42 v2 (md_set_kept S (upd (md_kept S) (md_cursor S).toNatClampNeg ((md_figure S) v2.toNatClampNeg))) (fX8_passes_figure_l2  n) (ih) H locs ls hf (lv_sub hl [0, 1, 2] rfl) hh
  unfold fX8_passes_figure at hf
  refine (fun (hmain : ∀ (H : Heap) (locs : List Loc), zW K A s H locs (cMd K a0 a1 a2 a3 a4 a5 a6 a7 a8 a9 a10 a11 a12 a13 a14 a15 a16 a17 a18 a19 S) → W p l e ({ frames := 0, cells := 0, slots := 0, locals := 0 } : Room) s m ([.ref a0, .ref a4] : List Value).toArray below meth c H locs 0 0 Q (F0 m 0 ls [])) => hmain s.heap [] hh) (fun H locs hh => ?_)
  refine lv_iconst (v := (0 : Int32)) hx hb dX8_passes_0 (by decide) ?_
  refine lv_istore_n (lv' := [(2, .int (0 : Int32)), (0, .ref a0), (1, .ref a4)]) hx hb dX8_passes_1 rfl hl (by decide) rfl (fun ls hl => ?_)
  exact hL2 FU (0 : Int32) S H locs ls hf (lv_sub hl [1, 2, 0] rfl) hh
def fX8_passes_one_j42 (v2 : Int32) (S : zMd) (k2 : (Int32) → (zMd) → Option (zMd)) : Option (zMd) :=
  k2 (v2 + (1 : Int32)) (md_set_cursor S ((md_cursor S) + (1 : Int32)))
def fX8_passes_one_l2  : Nat → (Int32) → (zMd) → Option (zMd)
  | 0, _, _ => none
  | n + 1, v2, S =>
  if (12 : Int32) ≤ v2 then
  (some S)
  else
  (if (md_isKeeping S) = (0 : Int32) then
  (ix 400 (md_cursor S) (ix 12 v2 (fX8_passes_one_j42 v2 (md_set_one S (upd (md_one S) v2.toNatClampNeg ((md_kept S) (md_cursor S).toNatClampNeg))) (fX8_passes_one_l2  n))))
  else
  (ix 12 v2 (ix 400 (md_cursor S) (fX8_passes_one_j42 v2 (md_set_kept S (upd (md_kept S) (md_cursor S).toNatClampNeg ((md_one S) v2.toNatClampNeg))) (fX8_passes_one_l2  n)))))
def fX8_passes_one (S : zMd) : Option (zMd) :=
  fX8_passes_one_l2 FU (0 : Int32) S
theorem inX8_passes_one_X8 : ∀ w ∈ wsX80, w ∈ wsX8_passes := by decide +kernel
theorem mmX8_passes_one_0 : Cond.fieldLink RX8 188 "SumOfTwoThatStandModel" "cursor" "I" ∈ wsX8_passes := by decide +kernel
theorem mmX8_passes_one_1 : Cond.fieldLink RX8 184 "SumOfTwoThatStandModel" "isKeeping" "Z" ∈ wsX8_passes := by decide +kernel
theorem mmX8_passes_one_2 : Cond.fieldLink RX8 49 "SumOfTwoThatStandModel" "kept" "[I" ∈ wsX8_passes := by decide +kernel
set_option maxHeartbeats 4000000 in
set_option maxRecDepth 100000 in
theorem kX8_passes_one (l : Launch) (K : zK) (a0 a1 a2 a3 a4 a5 a6 a7 a8 a9 a10 a11 a12 a13 a14 a15 a16 a17 a18 a19 : Nat) (S : zMd) (R : zMd) (hf : fX8_passes_one S = some R) : zC l yX8_passes wsX8_passes ({ frames := 0, cells := 0, slots := 0, locals := 0 } : Room) K [.ref a0, .ref a5] (cMd K a0 a1 a2 a3 a4 a5 a6 a7 a8 a9 a10 a11 a12 a13 a14 a15 a16 a17 a18 a19 S) none (cMd K a0 a1 a2 a3 a4 a5 a6 a7 a8 a9 a10 a11 a12 a13 a14 a15 a16 a17 a18 a19 R) := by
  refine zC_v (cc := cX8_passes) (maxL := 3) (by decide +kernel) rfl (Nat.le_of_ble_eq_true rfl) rfl rfl ?_
  intro p e s m below meth c Q A X hret ls hl hh
  have X : zX p m c cX8_passes 3 s ([.ref a0, .ref a5] : List Value).toArray wsX8_passes RX8 K A := X
  have hx := X.1.1
  have hb := X.1.2.1
  have hr2 : ∀ (pc : Nat) (ls : Array Slot) (H : Heap) (locs : List Loc) (S : zMd), some S = some R → decode cX8_passes pc = .ok (.return_, 1) → zW K A s H locs (cMd K a0 a1 a2 a3 a4 a5 a6 a7 a8 a9 a10 a11 a12 a13 a14 a15 a16 a17 a18 a19 S) → W p l e ({ frames := 0, cells := 0, slots := 0, locals := 0 } : Room) s m ([.ref a0, .ref a5] : List Value).toArray below meth c H locs 0 0 Q (F0 m pc ls []) := by
    intro pc ls H locs S h hd hh
    cases h; exact hret pc ls H locs hd hh
  have hl : lv_has ls 3 [(0, .ref a0), (1, .ref a5)] := hl
  have hJ42 : ∀ (v2 : Int32) (S : zMd) (k2 : (Int32) → (zMd) → Option (zMd)), (∀ (v2 : Int32) (S : zMd) (H : Heap) (locs : List Loc) (ls : Array Slot), k2 v2 S = some R → lv_has ls 3 [(0, .ref a0), (1, .ref a5), (2, .int v2)] → zW K A s H locs (cMd K a0 a1 a2 a3 a4 a5 a6 a7 a8 a9 a10 a11 a12 a13 a14 a15 a16 a17 a18 a19 S) → W p l e ({ frames := 0, cells := 0, slots := 0, locals := 0 } : Room) s m ([.ref a0, .ref a5] : List Value).toArray below meth c H locs 0 0 Q (F0 m 2 ls [])) → ∀ (H : Heap) (locs : List Loc) (ls : Array Slot), fX8_passes_one_j42 v2 S k2 = some R → lv_has ls 3 [(0, .ref a0), (1, .ref a5), (2, .int v2)] → zW K A s H locs (cMd K a0 a1 a2 a3 a4 a5 a6 a7 a8 a9 a10 a11 a12 a13 a14 a15 a16 a17 a18 a19 S) → W p l e ({ frames := 0, cells := 0, slots := 0, locals := 0 } : Room) s m ([.ref a0, .ref a5] : List Value).toArray below meth c H locs 0 0 Q (F0 m 42 ls []) := by
    intro v2 S k2 hk2 H locs ls hf hl hh
    unfold fX8_passes_one_j42 at hf
    refine lv_aload_n hx hb dX8_passes_42 rfl (lv_at hl 0 rfl) ?_
    refine lv_dup hx hb dX8_passes_43 rfl ?_
    refine zget (v := .int (md_cursor S)) (ref := "SumOfTwoThatStandModel") (C := RX8) (T := TX8) (N := 33) (index := 188) X hh inX8_passes_one_X8 0 rfl rfl 23 (by decide) mmX8_passes_one_0 rfl rfl dX8_passes_44 ?_
    refine lv_iconst (v := (1 : Int32)) hx hb dX8_passes_47 (by decide) ?_
    refine lv_iadd hx hb dX8_passes_48 ?_
    refine zput (v := .int ((md_cursor S) + (1 : Int32))) (ty := .int) (ref := "SumOfTwoThatStandModel") (C := RX8) (T := TX8) (N := 33) (index := 188) X hh inX8_passes_one_X8 tyX8 tyX8_ok nmX8 0 rfl rfl 23 (by decide) mmX8_passes_one_0 rfl rfl (by decide +kernel) rfl rfl (Nat.le_of_ble_eq_true rfl) dX8_passes_49 (fun H locs hh => ?_)
    have hh : zW K A s H locs (cMd K a0 a1 a2 a3 a4 a5 a6 a7 a8 a9 a10 a11 a12 a13 a14 a15 a16 a17 a18 a19 (md_set_cursor S ((md_cursor S) + (1 : Int32)))) := hh
    refine lv_iinc (v := (v2 + (1 : Int32))) (lv' := [(2, .int (v2 + (1 : Int32))), (0, .ref a0), (1, .ref a5)]) hx hb dX8_passes_52 hl (k := 2) rfl rfl (by decide) rfl (fun ls hl => ?_)
    refine lv_goto (tgt := 2) hx hb dX8_passes_55 (by decide) ?_
    exact hk2 (v2 + (1 : Int32)) (md_set_cursor S ((md_cursor S) + (1 : Int32))) H locs ls hf (lv_sub hl [1, 2, 0] rfl) hh
  have hL2 : ∀ (n : Nat) (v2 : Int32) (S : zMd), ∀ (H : Heap) (locs : List Loc) (ls : Array Slot), fX8_passes_one_l2 n v2 S = some R → lv_has ls 3 [(0, .ref a0), (1, .ref a5), (2, .int v2)] → zW K A s H locs (cMd K a0 a1 a2 a3 a4 a5 a6 a7 a8 a9 a10 a11 a12 a13 a14 a15 a16 a17 a18 a19 S) → W p l e ({ frames := 0, cells := 0, slots := 0, locals := 0 } : Room) s m ([.ref a0, .ref a5] : List Value).toArray below meth c H locs 0 0 Q (F0 m 2 ls []) := by
    intro n
    induction n with
    | zero =>
      intro v2 S H locs ls hf hl hh
      rw [fX8_passes_one_l2] at hf; cases hf
    | succ n ih =>
      intro v2 S H locs ls hf hl hh
      rw [fX8_passes_one_l2] at hf
      refine lv_iload_n hx hb dX8_passes_2 rfl (lv_at hl 2 rfl) ?_
      refine lv_aload_n hx hb dX8_passes_3 rfl (lv_at hl 1 rfl) ?_
      refine zalenI (v := (12 : Int32)) X hh 5 rfl rfl dX8_passes_4 ?_
      refine lv_icmp_ge (tgt := 58) hx hb dX8_passes_5 (by decide) (fun c1 => ?_) (fun c1 => ?_)
      · replace hf := (if_pos c1).symm.trans hf
        exact hr2 58 ls H locs S hf dX8_passes_58 hh
      · replace hf := (if_neg c1).symm.trans hf
        refine lv_aload_n hx hb dX8_passes_8 rfl (lv_at hl 0 rfl) ?_
        refine zget (v := .int (md_isKeeping S)) (ref := "SumOfTwoThatStandModel") (C := RX8) (T := TX8) (N := 33) (index := 184) X hh inX8_passes_one_X8 0 rfl rfl 22 (by decide) mmX8_passes_one_1 rfl rfl dX8_passes_9 ?_
        refine lv_if_eq (tgt := 30) hx hb dX8_passes_12 (by decide) (fun c2 => ?_) (fun c2 => ?_)
        · replace hf := (if_pos c2).symm.trans hf
          refine lv_aload_n hx hb dX8_passes_30 rfl (lv_at hl 1 rfl) ?_
          refine lv_iload_n hx hb dX8_passes_31 rfl (lv_at hl 2 rfl) ?_
          refine lv_aload_n hx hb dX8_passes_32 rfl (lv_at hl 0 rfl) ?_
          refine zget (v := .ref a14) (ref := "SumOfTwoThatStandModel") (C := RX8) (T := TX8) (N := 33) (index := 49) X hh inX8_passes_one_X8 0 rfl rfl 20 (by decide) mmX8_passes_one_2 rfl rfl dX8_passes_33 ?_
          refine lv_aload_n hx hb dX8_passes_36 rfl (lv_at hl 0 rfl) ?_
          refine zget (v := .int (md_cursor S)) (ref := "SumOfTwoThatStandModel") (C := RX8) (T := TX8) (N := 33) (index := 188) X hh inX8_passes_one_X8 0 rfl rfl 23 (by decide) mmX8_passes_one_0 rfl rfl dX8_passes_37 ?_
          obtain ⟨g3, hf⟩ := ob_ix hf
          refine ziald (f := (md_kept S)) X hh 14 rfl g3 dX8_passes_40 ?_
          obtain ⟨g4, hf⟩ := ob_ix hf
          refine ziast (f := (md_one S)) X hh 5 rfl g4 dX8_passes_41 (fun H locs hh => ?_)
          have hh : zW K A s H locs (cMd K a0 a1 a2 a3 a4 a5 a6 a7 a8 a9 a10 a11 a12 a13 a14 a15 a16 a17 a18 a19 (md_set_one S (upd (md_one S) v2.toNatClampNeg ((md_kept S) (md_cursor S).toNatClampNeg)))) := hh
          exact hJ42 v2 (md_set_one S (upd (md_one S) v2.toNatClampNeg ((md_kept S) (md_cursor S).toNatClampNeg))) (fX8_passes_one_l2  n) (ih) H locs ls hf (lv_sub hl [0, 1, 2] rfl) hh
        · replace hf := (if_neg c2).symm.trans hf
          refine lv_aload_n hx hb dX8_passes_15 rfl (lv_at hl 0 rfl) ?_
          refine zget (v := .ref a14) (ref := "SumOfTwoThatStandModel") (C := RX8) (T := TX8) (N := 33) (index := 49) X hh inX8_passes_one_X8 0 rfl rfl 20 (by decide) mmX8_passes_one_2 rfl rfl dX8_passes_16 ?_
          refine lv_aload_n hx hb dX8_passes_19 rfl (lv_at hl 0 rfl) ?_
          refine zget (v := .int (md_cursor S)) (ref := "SumOfTwoThatStandModel") (C := RX8) (T := TX8) (N := 33) (index := 188) X hh inX8_passes_one_X8 0 rfl rfl 23 (by decide) mmX8_passes_one_0 rfl rfl dX8_passes_20 ?_
          refine lv_aload_n hx hb dX8_passes_23 rfl (lv_at hl 1 rfl) ?_
          refine lv_iload_n hx hb dX8_passes_24 rfl (lv_at hl 2 rfl) ?_
          obtain ⟨g5, hf⟩ := ob_ix hf
          refine ziald (f := (md_one S)) X hh 5 rfl g5 dX8_passes_25 ?_
          obtain ⟨g6, hf⟩ := ob_ix hf
          refine ziast (f := (md_kept S)) X hh 14 rfl g6 dX8_passes_26 (fun H locs hh => ?_)
          have hh : zW K A s H locs (cMd K a0 a1 a2 a3 a4 a5 a6 a7 a8 a9 a10 a11 a12 a13 a14 a15 a16 a17 a18 a19 (md_set_kept S (upd (md_kept S) (md_cursor S).toNatClampNeg ((md_one S) v2.toNatClampNeg)))) := hh
          refine lv_goto (tgt := 42) hx hb dX8_passes_27 (by decide) ?_
          exact hJ42 v2 (md_set_kept S (upd (md_kept S) (md_cursor S).toNatClampNeg ((md_one S) v2.toNatClampNeg))) (fX8_passes_one_l2  n) (ih) H locs ls hf (lv_sub hl [0, 1, 2] rfl) hh
  unfold fX8_passes_one at hf
  refine (fun (hmain : ∀ (H : Heap) (locs : List Loc), zW K A s H locs (cMd K a0 a1 a2 a3 a4 a5 a6 a7 a8 a9 a10 a11 a12 a13 a14 a15 a16 a17 a18 a19 S) → W p l e ({ frames := 0, cells := 0, slots := 0, locals := 0 } : Room) s m ([.ref a0, .ref a5] : List Value).toArray below meth c H locs 0 0 Q (F0 m 0 ls [])) => hmain s.heap [] hh) (fun H locs hh => ?_)
  refine lv_iconst (v := (0 : Int32)) hx hb dX8_passes_0 (by decide) ?_
  refine lv_istore_n (lv' := [(2, .int (0 : Int32)), (0, .ref a0), (1, .ref a5)]) hx hb dX8_passes_1 rfl hl (by decide) rfl (fun ls hl => ?_)
  exact hL2 FU (0 : Int32) S H locs ls hf (lv_sub hl [1, 2, 0] rfl) hh
def fX8_passes_other_j42 (v2 : Int32) (S : zMd) (k2 : (Int32) → (zMd) → Option (zMd)) : Option (zMd) :=
  k2 (v2 + (1 : Int32)) (md_set_cursor S ((md_cursor S) + (1 : Int32)))
def fX8_passes_other_l2  : Nat → (Int32) → (zMd) → Option (zMd)
  | 0, _, _ => none
  | n + 1, v2, S =>
  if (12 : Int32) ≤ v2 then
  (some S)
  else
  (if (md_isKeeping S) = (0 : Int32) then
  (ix 400 (md_cursor S) (ix 12 v2 (fX8_passes_other_j42 v2 (md_set_other S (upd (md_other S) v2.toNatClampNeg ((md_kept S) (md_cursor S).toNatClampNeg))) (fX8_passes_other_l2  n))))
  else
  (ix 12 v2 (ix 400 (md_cursor S) (fX8_passes_other_j42 v2 (md_set_kept S (upd (md_kept S) (md_cursor S).toNatClampNeg ((md_other S) v2.toNatClampNeg))) (fX8_passes_other_l2  n)))))
def fX8_passes_other (S : zMd) : Option (zMd) :=
  fX8_passes_other_l2 FU (0 : Int32) S
theorem inX8_passes_other_X8 : ∀ w ∈ wsX80, w ∈ wsX8_passes := by decide +kernel
theorem mmX8_passes_other_0 : Cond.fieldLink RX8 188 "SumOfTwoThatStandModel" "cursor" "I" ∈ wsX8_passes := by decide +kernel
theorem mmX8_passes_other_1 : Cond.fieldLink RX8 184 "SumOfTwoThatStandModel" "isKeeping" "Z" ∈ wsX8_passes := by decide +kernel
theorem mmX8_passes_other_2 : Cond.fieldLink RX8 49 "SumOfTwoThatStandModel" "kept" "[I" ∈ wsX8_passes := by decide +kernel
set_option maxHeartbeats 4000000 in
set_option maxRecDepth 100000 in
theorem kX8_passes_other (l : Launch) (K : zK) (a0 a1 a2 a3 a4 a5 a6 a7 a8 a9 a10 a11 a12 a13 a14 a15 a16 a17 a18 a19 : Nat) (S : zMd) (R : zMd) (hf : fX8_passes_other S = some R) : zC l yX8_passes wsX8_passes ({ frames := 0, cells := 0, slots := 0, locals := 0 } : Room) K [.ref a0, .ref a6] (cMd K a0 a1 a2 a3 a4 a5 a6 a7 a8 a9 a10 a11 a12 a13 a14 a15 a16 a17 a18 a19 S) none (cMd K a0 a1 a2 a3 a4 a5 a6 a7 a8 a9 a10 a11 a12 a13 a14 a15 a16 a17 a18 a19 R) := by
  refine zC_v (cc := cX8_passes) (maxL := 3) (by decide +kernel) rfl (Nat.le_of_ble_eq_true rfl) rfl rfl ?_
  intro p e s m below meth c Q A X hret ls hl hh
  have X : zX p m c cX8_passes 3 s ([.ref a0, .ref a6] : List Value).toArray wsX8_passes RX8 K A := X
  have hx := X.1.1
  have hb := X.1.2.1
  have hr2 : ∀ (pc : Nat) (ls : Array Slot) (H : Heap) (locs : List Loc) (S : zMd), some S = some R → decode cX8_passes pc = .ok (.return_, 1) → zW K A s H locs (cMd K a0 a1 a2 a3 a4 a5 a6 a7 a8 a9 a10 a11 a12 a13 a14 a15 a16 a17 a18 a19 S) → W p l e ({ frames := 0, cells := 0, slots := 0, locals := 0 } : Room) s m ([.ref a0, .ref a6] : List Value).toArray below meth c H locs 0 0 Q (F0 m pc ls []) := by
    intro pc ls H locs S h hd hh
    cases h; exact hret pc ls H locs hd hh
  have hl : lv_has ls 3 [(0, .ref a0), (1, .ref a6)] := hl
  have hJ42 : ∀ (v2 : Int32) (S : zMd) (k2 : (Int32) → (zMd) → Option (zMd)), (∀ (v2 : Int32) (S : zMd) (H : Heap) (locs : List Loc) (ls : Array Slot), k2 v2 S = some R → lv_has ls 3 [(0, .ref a0), (1, .ref a6), (2, .int v2)] → zW K A s H locs (cMd K a0 a1 a2 a3 a4 a5 a6 a7 a8 a9 a10 a11 a12 a13 a14 a15 a16 a17 a18 a19 S) → W p l e ({ frames := 0, cells := 0, slots := 0, locals := 0 } : Room) s m ([.ref a0, .ref a6] : List Value).toArray below meth c H locs 0 0 Q (F0 m 2 ls [])) → ∀ (H : Heap) (locs : List Loc) (ls : Array Slot), fX8_passes_other_j42 v2 S k2 = some R → lv_has ls 3 [(0, .ref a0), (1, .ref a6), (2, .int v2)] → zW K A s H locs (cMd K a0 a1 a2 a3 a4 a5 a6 a7 a8 a9 a10 a11 a12 a13 a14 a15 a16 a17 a18 a19 S) → W p l e ({ frames := 0, cells := 0, slots := 0, locals := 0 } : Room) s m ([.ref a0, .ref a6] : List Value).toArray below meth c H locs 0 0 Q (F0 m 42 ls []) := by
    intro v2 S k2 hk2 H locs ls hf hl hh
    unfold fX8_passes_other_j42 at hf
    refine lv_aload_n hx hb dX8_passes_42 rfl (lv_at hl 0 rfl) ?_
    refine lv_dup hx hb dX8_passes_43 rfl ?_
    refine zget (v := .int (md_cursor S)) (ref := "SumOfTwoThatStandModel") (C := RX8) (T := TX8) (N := 33) (index := 188) X hh inX8_passes_other_X8 0 rfl rfl 23 (by decide) mmX8_passes_other_0 rfl rfl dX8_passes_44 ?_
    refine lv_iconst (v := (1 : Int32)) hx hb dX8_passes_47 (by decide) ?_
    refine lv_iadd hx hb dX8_passes_48 ?_
    refine zput (v := .int ((md_cursor S) + (1 : Int32))) (ty := .int) (ref := "SumOfTwoThatStandModel") (C := RX8) (T := TX8) (N := 33) (index := 188) X hh inX8_passes_other_X8 tyX8 tyX8_ok nmX8 0 rfl rfl 23 (by decide) mmX8_passes_other_0 rfl rfl (by decide +kernel) rfl rfl (Nat.le_of_ble_eq_true rfl) dX8_passes_49 (fun H locs hh => ?_)
    have hh : zW K A s H locs (cMd K a0 a1 a2 a3 a4 a5 a6 a7 a8 a9 a10 a11 a12 a13 a14 a15 a16 a17 a18 a19 (md_set_cursor S ((md_cursor S) + (1 : Int32)))) := hh
    refine lv_iinc (v := (v2 + (1 : Int32))) (lv' := [(2, .int (v2 + (1 : Int32))), (0, .ref a0), (1, .ref a6)]) hx hb dX8_passes_52 hl (k := 2) rfl rfl (by decide) rfl (fun ls hl => ?_)
    refine lv_goto (tgt := 2) hx hb dX8_passes_55 (by decide) ?_
    exact hk2 (v2 + (1 : Int32)) (md_set_cursor S ((md_cursor S) + (1 : Int32))) H locs ls hf (lv_sub hl [1, 2, 0] rfl) hh
  have hL2 : ∀ (n : Nat) (v2 : Int32) (S : zMd), ∀ (H : Heap) (locs : List Loc) (ls : Array Slot), fX8_passes_other_l2 n v2 S = some R → lv_has ls 3 [(0, .ref a0), (1, .ref a6), (2, .int v2)] → zW K A s H locs (cMd K a0 a1 a2 a3 a4 a5 a6 a7 a8 a9 a10 a11 a12 a13 a14 a15 a16 a17 a18 a19 S) → W p l e ({ frames := 0, cells := 0, slots := 0, locals := 0 } : Room) s m ([.ref a0, .ref a6] : List Value).toArray below meth c H locs 0 0 Q (F0 m 2 ls []) := by
    intro n
    induction n with
    | zero =>
      intro v2 S H locs ls hf hl hh
      rw [fX8_passes_other_l2] at hf; cases hf
    | succ n ih =>
      intro v2 S H locs ls hf hl hh
      rw [fX8_passes_other_l2] at hf
      refine lv_iload_n hx hb dX8_passes_2 rfl (lv_at hl 2 rfl) ?_
      refine lv_aload_n hx hb dX8_passes_3 rfl (lv_at hl 1 rfl) ?_
      refine zalenI (v := (12 : Int32)) X hh 6 rfl rfl dX8_passes_4 ?_
      refine lv_icmp_ge (tgt := 58) hx hb dX8_passes_5 (by decide) (fun c1 => ?_) (fun c1 => ?_)
      · replace hf := (if_pos c1).symm.trans hf
        exact hr2 58 ls H locs S hf dX8_passes_58 hh
      · replace hf := (if_neg c1).symm.trans hf
        refine lv_aload_n hx hb dX8_passes_8 rfl (lv_at hl 0 rfl) ?_
        refine zget (v := .int (md_isKeeping S)) (ref := "SumOfTwoThatStandModel") (C := RX8) (T := TX8) (N := 33) (index := 184) X hh inX8_passes_other_X8 0 rfl rfl 22 (by decide) mmX8_passes_other_1 rfl rfl dX8_passes_9 ?_
        refine lv_if_eq (tgt := 30) hx hb dX8_passes_12 (by decide) (fun c2 => ?_) (fun c2 => ?_)
        · replace hf := (if_pos c2).symm.trans hf
          refine lv_aload_n hx hb dX8_passes_30 rfl (lv_at hl 1 rfl) ?_
          refine lv_iload_n hx hb dX8_passes_31 rfl (lv_at hl 2 rfl) ?_
          refine lv_aload_n hx hb dX8_passes_32 rfl (lv_at hl 0 rfl) ?_
          refine zget (v := .ref a14) (ref := "SumOfTwoThatStandModel") (C := RX8) (T := TX8) (N := 33) (index := 49) X hh inX8_passes_other_X8 0 rfl rfl 20 (by decide) mmX8_passes_other_2 rfl rfl dX8_passes_33 ?_
          refine lv_aload_n hx hb dX8_passes_36 rfl (lv_at hl 0 rfl) ?_
          refine zget (v := .int (md_cursor S)) (ref := "SumOfTwoThatStandModel") (C := RX8) (T := TX8) (N := 33) (index := 188) X hh inX8_passes_other_X8 0 rfl rfl 23 (by decide) mmX8_passes_other_0 rfl rfl dX8_passes_37 ?_
          obtain ⟨g3, hf⟩ := ob_ix hf
          refine ziald (f := (md_kept S)) X hh 14 rfl g3 dX8_passes_40 ?_
          obtain ⟨g4, hf⟩ := ob_ix hf
          refine ziast (f := (md_other S)) X hh 6 rfl g4 dX8_passes_41 (fun H locs hh => ?_)
          have hh : zW K A s H locs (cMd K a0 a1 a2 a3 a4 a5 a6 a7 a8 a9 a10 a11 a12 a13 a14 a15 a16 a17 a18 a19 (md_set_other S (upd (md_other S) v2.toNatClampNeg ((md_kept S) (md_cursor S).toNatClampNeg)))) := hh
          exact hJ42 v2 (md_set_other S (upd (md_other S) v2.toNatClampNeg ((md_kept S) (md_cursor S).toNatClampNeg))) (fX8_passes_other_l2  n) (ih) H locs ls hf (lv_sub hl [0, 1, 2] rfl) hh
        · replace hf := (if_neg c2).symm.trans hf
          refine lv_aload_n hx hb dX8_passes_15 rfl (lv_at hl 0 rfl) ?_
          refine zget (v := .ref a14) (ref := "SumOfTwoThatStandModel") (C := RX8) (T := TX8) (N := 33) (index := 49) X hh inX8_passes_other_X8 0 rfl rfl 20 (by decide) mmX8_passes_other_2 rfl rfl dX8_passes_16 ?_
          refine lv_aload_n hx hb dX8_passes_19 rfl (lv_at hl 0 rfl) ?_
          refine zget (v := .int (md_cursor S)) (ref := "SumOfTwoThatStandModel") (C := RX8) (T := TX8) (N := 33) (index := 188) X hh inX8_passes_other_X8 0 rfl rfl 23 (by decide) mmX8_passes_other_0 rfl rfl dX8_passes_20 ?_
          refine lv_aload_n hx hb dX8_passes_23 rfl (lv_at hl 1 rfl) ?_
          refine lv_iload_n hx hb dX8_passes_24 rfl (lv_at hl 2 rfl) ?_
          obtain ⟨g5, hf⟩ := ob_ix hf
          refine ziald (f := (md_other S)) X hh 6 rfl g5 dX8_passes_25 ?_
          obtain ⟨g6, hf⟩ := ob_ix hf
          refine ziast (f := (md_kept S)) X hh 14 rfl g6 dX8_passes_26 (fun H locs hh => ?_)
          have hh : zW K A s H locs (cMd K a0 a1 a2 a3 a4 a5 a6 a7 a8 a9 a10 a11 a12 a13 a14 a15 a16 a17 a18 a19 (md_set_kept S (upd (md_kept S) (md_cursor S).toNatClampNeg ((md_other S) v2.toNatClampNeg)))) := hh
          refine lv_goto (tgt := 42) hx hb dX8_passes_27 (by decide) ?_
          exact hJ42 v2 (md_set_kept S (upd (md_kept S) (md_cursor S).toNatClampNeg ((md_other S) v2.toNatClampNeg))) (fX8_passes_other_l2  n) (ih) H locs ls hf (lv_sub hl [0, 1, 2] rfl) hh
  unfold fX8_passes_other at hf
  refine (fun (hmain : ∀ (H : Heap) (locs : List Loc), zW K A s H locs (cMd K a0 a1 a2 a3 a4 a5 a6 a7 a8 a9 a10 a11 a12 a13 a14 a15 a16 a17 a18 a19 S) → W p l e ({ frames := 0, cells := 0, slots := 0, locals := 0 } : Room) s m ([.ref a0, .ref a6] : List Value).toArray below meth c H locs 0 0 Q (F0 m 0 ls [])) => hmain s.heap [] hh) (fun H locs hh => ?_)
  refine lv_iconst (v := (0 : Int32)) hx hb dX8_passes_0 (by decide) ?_
  refine lv_istore_n (lv' := [(2, .int (0 : Int32)), (0, .ref a0), (1, .ref a6)]) hx hb dX8_passes_1 rfl hl (by decide) rfl (fun ls hl => ?_)
  exact hL2 FU (0 : Int32) S H locs ls hf (lv_sub hl [1, 2, 0] rfl) hh
def fX8_passes_stands_j42 (v2 : Int32) (S : zMd) (k2 : (Int32) → (zMd) → Option (zMd)) : Option (zMd) :=
  k2 (v2 + (1 : Int32)) (md_set_cursor S ((md_cursor S) + (1 : Int32)))
def fX8_passes_stands_l2  : Nat → (Int32) → (zMd) → Option (zMd)
  | 0, _, _ => none
  | n + 1, v2, S =>
  if (12 : Int32) ≤ v2 then
  (some S)
  else
  (if (md_isKeeping S) = (0 : Int32) then
  (ix 400 (md_cursor S) (ix 12 v2 (fX8_passes_stands_j42 v2 (md_set_stands S (upd (md_stands S) v2.toNatClampNeg ((md_kept S) (md_cursor S).toNatClampNeg))) (fX8_passes_stands_l2  n))))
  else
  (ix 12 v2 (ix 400 (md_cursor S) (fX8_passes_stands_j42 v2 (md_set_kept S (upd (md_kept S) (md_cursor S).toNatClampNeg ((md_stands S) v2.toNatClampNeg))) (fX8_passes_stands_l2  n)))))
def fX8_passes_stands (S : zMd) : Option (zMd) :=
  fX8_passes_stands_l2 FU (0 : Int32) S
theorem inX8_passes_stands_X8 : ∀ w ∈ wsX80, w ∈ wsX8_passes := by decide +kernel
theorem mmX8_passes_stands_0 : Cond.fieldLink RX8 188 "SumOfTwoThatStandModel" "cursor" "I" ∈ wsX8_passes := by decide +kernel
theorem mmX8_passes_stands_1 : Cond.fieldLink RX8 184 "SumOfTwoThatStandModel" "isKeeping" "Z" ∈ wsX8_passes := by decide +kernel
theorem mmX8_passes_stands_2 : Cond.fieldLink RX8 49 "SumOfTwoThatStandModel" "kept" "[I" ∈ wsX8_passes := by decide +kernel
set_option maxHeartbeats 4000000 in
set_option maxRecDepth 100000 in
theorem kX8_passes_stands (l : Launch) (K : zK) (a0 a1 a2 a3 a4 a5 a6 a7 a8 a9 a10 a11 a12 a13 a14 a15 a16 a17 a18 a19 : Nat) (S : zMd) (R : zMd) (hf : fX8_passes_stands S = some R) : zC l yX8_passes wsX8_passes ({ frames := 0, cells := 0, slots := 0, locals := 0 } : Room) K [.ref a0, .ref a7] (cMd K a0 a1 a2 a3 a4 a5 a6 a7 a8 a9 a10 a11 a12 a13 a14 a15 a16 a17 a18 a19 S) none (cMd K a0 a1 a2 a3 a4 a5 a6 a7 a8 a9 a10 a11 a12 a13 a14 a15 a16 a17 a18 a19 R) := by
  refine zC_v (cc := cX8_passes) (maxL := 3) (by decide +kernel) rfl (Nat.le_of_ble_eq_true rfl) rfl rfl ?_
  intro p e s m below meth c Q A X hret ls hl hh
  have X : zX p m c cX8_passes 3 s ([.ref a0, .ref a7] : List Value).toArray wsX8_passes RX8 K A := X
  have hx := X.1.1
  have hb := X.1.2.1
  have hr2 : ∀ (pc : Nat) (ls : Array Slot) (H : Heap) (locs : List Loc) (S : zMd), some S = some R → decode cX8_passes pc = .ok (.return_, 1) → zW K A s H locs (cMd K a0 a1 a2 a3 a4 a5 a6 a7 a8 a9 a10 a11 a12 a13 a14 a15 a16 a17 a18 a19 S) → W p l e ({ frames := 0, cells := 0, slots := 0, locals := 0 } : Room) s m ([.ref a0, .ref a7] : List Value).toArray below meth c H locs 0 0 Q (F0 m pc ls []) := by
    intro pc ls H locs S h hd hh
    cases h; exact hret pc ls H locs hd hh
  have hl : lv_has ls 3 [(0, .ref a0), (1, .ref a7)] := hl
  have hJ42 : ∀ (v2 : Int32) (S : zMd) (k2 : (Int32) → (zMd) → Option (zMd)), (∀ (v2 : Int32) (S : zMd) (H : Heap) (locs : List Loc) (ls : Array Slot), k2 v2 S = some R → lv_has ls 3 [(0, .ref a0), (1, .ref a7), (2, .int v2)] → zW K A s H locs (cMd K a0 a1 a2 a3 a4 a5 a6 a7 a8 a9 a10 a11 a12 a13 a14 a15 a16 a17 a18 a19 S) → W p l e ({ frames := 0, cells := 0, slots := 0, locals := 0 } : Room) s m ([.ref a0, .ref a7] : List Value).toArray below meth c H locs 0 0 Q (F0 m 2 ls [])) → ∀ (H : Heap) (locs : List Loc) (ls : Array Slot), fX8_passes_stands_j42 v2 S k2 = some R → lv_has ls 3 [(0, .ref a0), (1, .ref a7), (2, .int v2)] → zW K A s H locs (cMd K a0 a1 a2 a3 a4 a5 a6 a7 a8 a9 a10 a11 a12 a13 a14 a15 a16 a17 a18 a19 S) → W p l e ({ frames := 0, cells := 0, slots := 0, locals := 0 } : Room) s m ([.ref a0, .ref a7] : List Value).toArray below meth c H locs 0 0 Q (F0 m 42 ls []) := by
    intro v2 S k2 hk2 H locs ls hf hl hh
    unfold fX8_passes_stands_j42 at hf
    refine lv_aload_n hx hb dX8_passes_42 rfl (lv_at hl 0 rfl) ?_
    refine lv_dup hx hb dX8_passes_43 rfl ?_
    refine zget (v := .int (md_cursor S)) (ref := "SumOfTwoThatStandModel") (C := RX8) (T := TX8) (N := 33) (index := 188) X hh inX8_passes_stands_X8 0 rfl rfl 23 (by decide) mmX8_passes_stands_0 rfl rfl dX8_passes_44 ?_
    refine lv_iconst (v := (1 : Int32)) hx hb dX8_passes_47 (by decide) ?_
    refine lv_iadd hx hb dX8_passes_48 ?_
    refine zput (v := .int ((md_cursor S) + (1 : Int32))) (ty := .int) (ref := "SumOfTwoThatStandModel") (C := RX8) (T := TX8) (N := 33) (index := 188) X hh inX8_passes_stands_X8 tyX8 tyX8_ok nmX8 0 rfl rfl 23 (by decide) mmX8_passes_stands_0 rfl rfl (by decide +kernel) rfl rfl (Nat.le_of_ble_eq_true rfl) dX8_passes_49 (fun H locs hh => ?_)
    have hh : zW K A s H locs (cMd K a0 a1 a2 a3 a4 a5 a6 a7 a8 a9 a10 a11 a12 a13 a14 a15 a16 a17 a18 a19 (md_set_cursor S ((md_cursor S) + (1 : Int32)))) := hh
    refine lv_iinc (v := (v2 + (1 : Int32))) (lv' := [(2, .int (v2 + (1 : Int32))), (0, .ref a0), (1, .ref a7)]) hx hb dX8_passes_52 hl (k := 2) rfl rfl (by decide) rfl (fun ls hl => ?_)
    refine lv_goto (tgt := 2) hx hb dX8_passes_55 (by decide) ?_
    exact hk2 (v2 + (1 : Int32)) (md_set_cursor S ((md_cursor S) + (1 : Int32))) H locs ls hf (lv_sub hl [1, 2, 0] rfl) hh
  have hL2 : ∀ (n : Nat) (v2 : Int32) (S : zMd), ∀ (H : Heap) (locs : List Loc) (ls : Array Slot), fX8_passes_stands_l2 n v2 S = some R → lv_has ls 3 [(0, .ref a0), (1, .ref a7), (2, .int v2)] → zW K A s H locs (cMd K a0 a1 a2 a3 a4 a5 a6 a7 a8 a9 a10 a11 a12 a13 a14 a15 a16 a17 a18 a19 S) → W p l e ({ frames := 0, cells := 0, slots := 0, locals := 0 } : Room) s m ([.ref a0, .ref a7] : List Value).toArray below meth c H locs 0 0 Q (F0 m 2 ls []) := by
    intro n
    induction n with
    | zero =>
      intro v2 S H locs ls hf hl hh
      rw [fX8_passes_stands_l2] at hf; cases hf
    | succ n ih =>
      intro v2 S H locs ls hf hl hh
      rw [fX8_passes_stands_l2] at hf
      refine lv_iload_n hx hb dX8_passes_2 rfl (lv_at hl 2 rfl) ?_
      refine lv_aload_n hx hb dX8_passes_3 rfl (lv_at hl 1 rfl) ?_
      refine zalenI (v := (12 : Int32)) X hh 7 rfl rfl dX8_passes_4 ?_
      refine lv_icmp_ge (tgt := 58) hx hb dX8_passes_5 (by decide) (fun c1 => ?_) (fun c1 => ?_)
      · replace hf := (if_pos c1).symm.trans hf
        exact hr2 58 ls H locs S hf dX8_passes_58 hh
      · replace hf := (if_neg c1).symm.trans hf
        refine lv_aload_n hx hb dX8_passes_8 rfl (lv_at hl 0 rfl) ?_
        refine zget (v := .int (md_isKeeping S)) (ref := "SumOfTwoThatStandModel") (C := RX8) (T := TX8) (N := 33) (index := 184) X hh inX8_passes_stands_X8 0 rfl rfl 22 (by decide) mmX8_passes_stands_1 rfl rfl dX8_passes_9 ?_
        refine lv_if_eq (tgt := 30) hx hb dX8_passes_12 (by decide) (fun c2 => ?_) (fun c2 => ?_)
        · replace hf := (if_pos c2).symm.trans hf
          refine lv_aload_n hx hb dX8_passes_30 rfl (lv_at hl 1 rfl) ?_
          refine lv_iload_n hx hb dX8_passes_31 rfl (lv_at hl 2 rfl) ?_
          refine lv_aload_n hx hb dX8_passes_32 rfl (lv_at hl 0 rfl) ?_
          refine zget (v := .ref a14) (ref := "SumOfTwoThatStandModel") (C := RX8) (T := TX8) (N := 33) (index := 49) X hh inX8_passes_stands_X8 0 rfl rfl 20 (by decide) mmX8_passes_stands_2 rfl rfl dX8_passes_33 ?_
          refine lv_aload_n hx hb dX8_passes_36 rfl (lv_at hl 0 rfl) ?_
          refine zget (v := .int (md_cursor S)) (ref := "SumOfTwoThatStandModel") (C := RX8) (T := TX8) (N := 33) (index := 188) X hh inX8_passes_stands_X8 0 rfl rfl 23 (by decide) mmX8_passes_stands_0 rfl rfl dX8_passes_37 ?_
          obtain ⟨g3, hf⟩ := ob_ix hf
          refine ziald (f := (md_kept S)) X hh 14 rfl g3 dX8_passes_40 ?_
          obtain ⟨g4, hf⟩ := ob_ix hf
          refine ziast (f := (md_stands S)) X hh 7 rfl g4 dX8_passes_41 (fun H locs hh => ?_)
          have hh : zW K A s H locs (cMd K a0 a1 a2 a3 a4 a5 a6 a7 a8 a9 a10 a11 a12 a13 a14 a15 a16 a17 a18 a19 (md_set_stands S (upd (md_stands S) v2.toNatClampNeg ((md_kept S) (md_cursor S).toNatClampNeg)))) := hh
          exact hJ42 v2 (md_set_stands S (upd (md_stands S) v2.toNatClampNeg ((md_kept S) (md_cursor S).toNatClampNeg))) (fX8_passes_stands_l2  n) (ih) H locs ls hf (lv_sub hl [0, 1, 2] rfl) hh
        · replace hf := (if_neg c2).symm.trans hf
          refine lv_aload_n hx hb dX8_passes_15 rfl (lv_at hl 0 rfl) ?_
          refine zget (v := .ref a14) (ref := "SumOfTwoThatStandModel") (C := RX8) (T := TX8) (N := 33) (index := 49) X hh inX8_passes_stands_X8 0 rfl rfl 20 (by decide) mmX8_passes_stands_2 rfl rfl dX8_passes_16 ?_
          refine lv_aload_n hx hb dX8_passes_19 rfl (lv_at hl 0 rfl) ?_
          refine zget (v := .int (md_cursor S)) (ref := "SumOfTwoThatStandModel") (C := RX8) (T := TX8) (N := 33) (index := 188) X hh inX8_passes_stands_X8 0 rfl rfl 23 (by decide) mmX8_passes_stands_0 rfl rfl dX8_passes_20 ?_
          refine lv_aload_n hx hb dX8_passes_23 rfl (lv_at hl 1 rfl) ?_
          refine lv_iload_n hx hb dX8_passes_24 rfl (lv_at hl 2 rfl) ?_
          obtain ⟨g5, hf⟩ := ob_ix hf
          refine ziald (f := (md_stands S)) X hh 7 rfl g5 dX8_passes_25 ?_
          obtain ⟨g6, hf⟩ := ob_ix hf
          refine ziast (f := (md_kept S)) X hh 14 rfl g6 dX8_passes_26 (fun H locs hh => ?_)
          have hh : zW K A s H locs (cMd K a0 a1 a2 a3 a4 a5 a6 a7 a8 a9 a10 a11 a12 a13 a14 a15 a16 a17 a18 a19 (md_set_kept S (upd (md_kept S) (md_cursor S).toNatClampNeg ((md_stands S) v2.toNatClampNeg)))) := hh
          refine lv_goto (tgt := 42) hx hb dX8_passes_27 (by decide) ?_
          exact hJ42 v2 (md_set_kept S (upd (md_kept S) (md_cursor S).toNatClampNeg ((md_stands S) v2.toNatClampNeg))) (fX8_passes_stands_l2  n) (ih) H locs ls hf (lv_sub hl [0, 1, 2] rfl) hh
  unfold fX8_passes_stands at hf
  refine (fun (hmain : ∀ (H : Heap) (locs : List Loc), zW K A s H locs (cMd K a0 a1 a2 a3 a4 a5 a6 a7 a8 a9 a10 a11 a12 a13 a14 a15 a16 a17 a18 a19 S) → W p l e ({ frames := 0, cells := 0, slots := 0, locals := 0 } : Room) s m ([.ref a0, .ref a7] : List Value).toArray below meth c H locs 0 0 Q (F0 m 0 ls [])) => hmain s.heap [] hh) (fun H locs hh => ?_)
  refine lv_iconst (v := (0 : Int32)) hx hb dX8_passes_0 (by decide) ?_
  refine lv_istore_n (lv' := [(2, .int (0 : Int32)), (0, .ref a0), (1, .ref a7)]) hx hb dX8_passes_1 rfl hl (by decide) rfl (fun ls hl => ?_)
  exact hL2 FU (0 : Int32) S H locs ls hf (lv_sub hl [1, 2, 0] rfl) hh
def fX8_passes_uses_j42 (v2 : Int32) (S : zMd) (k2 : (Int32) → (zMd) → Option (zMd)) : Option (zMd) :=
  k2 (v2 + (1 : Int32)) (md_set_cursor S ((md_cursor S) + (1 : Int32)))
def fX8_passes_uses_l2  : Nat → (Int32) → (zMd) → Option (zMd)
  | 0, _, _ => none
  | n + 1, v2, S =>
  if (12 : Int32) ≤ v2 then
  (some S)
  else
  (if (md_isKeeping S) = (0 : Int32) then
  (ix 400 (md_cursor S) (ix 12 v2 (fX8_passes_uses_j42 v2 (md_set_uses S (upd (md_uses S) v2.toNatClampNeg ((md_kept S) (md_cursor S).toNatClampNeg))) (fX8_passes_uses_l2  n))))
  else
  (ix 12 v2 (ix 400 (md_cursor S) (fX8_passes_uses_j42 v2 (md_set_kept S (upd (md_kept S) (md_cursor S).toNatClampNeg ((md_uses S) v2.toNatClampNeg))) (fX8_passes_uses_l2  n)))))
def fX8_passes_uses (S : zMd) : Option (zMd) :=
  fX8_passes_uses_l2 FU (0 : Int32) S
theorem inX8_passes_uses_X8 : ∀ w ∈ wsX80, w ∈ wsX8_passes := by decide +kernel
theorem mmX8_passes_uses_0 : Cond.fieldLink RX8 188 "SumOfTwoThatStandModel" "cursor" "I" ∈ wsX8_passes := by decide +kernel
theorem mmX8_passes_uses_1 : Cond.fieldLink RX8 184 "SumOfTwoThatStandModel" "isKeeping" "Z" ∈ wsX8_passes := by decide +kernel
theorem mmX8_passes_uses_2 : Cond.fieldLink RX8 49 "SumOfTwoThatStandModel" "kept" "[I" ∈ wsX8_passes := by decide +kernel
set_option maxHeartbeats 4000000 in
set_option maxRecDepth 100000 in
theorem kX8_passes_uses (l : Launch) (K : zK) (a0 a1 a2 a3 a4 a5 a6 a7 a8 a9 a10 a11 a12 a13 a14 a15 a16 a17 a18 a19 : Nat) (S : zMd) (R : zMd) (hf : fX8_passes_uses S = some R) : zC l yX8_passes wsX8_passes ({ frames := 0, cells := 0, slots := 0, locals := 0 } : Room) K [.ref a0, .ref a8] (cMd K a0 a1 a2 a3 a4 a5 a6 a7 a8 a9 a10 a11 a12 a13 a14 a15 a16 a17 a18 a19 S) none (cMd K a0 a1 a2 a3 a4 a5 a6 a7 a8 a9 a10 a11 a12 a13 a14 a15 a16 a17 a18 a19 R) := by
  refine zC_v (cc := cX8_passes) (maxL := 3) (by decide +kernel) rfl (Nat.le_of_ble_eq_true rfl) rfl rfl ?_
  intro p e s m below meth c Q A X hret ls hl hh
  have X : zX p m c cX8_passes 3 s ([.ref a0, .ref a8] : List Value).toArray wsX8_passes RX8 K A := X
  have hx := X.1.1
  have hb := X.1.2.1
  have hr2 : ∀ (pc : Nat) (ls : Array Slot) (H : Heap) (locs : List Loc) (S : zMd), some S = some R → decode cX8_passes pc = .ok (.return_, 1) → zW K A s H locs (cMd K a0 a1 a2 a3 a4 a5 a6 a7 a8 a9 a10 a11 a12 a13 a14 a15 a16 a17 a18 a19 S) → W p l e ({ frames := 0, cells := 0, slots := 0, locals := 0 } : Room) s m ([.ref a0, .ref a8] : List Value).toArray below meth c H locs 0 0 Q (F0 m pc ls []) := by
    intro pc ls H locs S h hd hh
    cases h; exact hret pc ls H locs hd hh
  have hl : lv_has ls 3 [(0, .ref a0), (1, .ref a8)] := hl
  have hJ42 : ∀ (v2 : Int32) (S : zMd) (k2 : (Int32) → (zMd) → Option (zMd)), (∀ (v2 : Int32) (S : zMd) (H : Heap) (locs : List Loc) (ls : Array Slot), k2 v2 S = some R → lv_has ls 3 [(0, .ref a0), (1, .ref a8), (2, .int v2)] → zW K A s H locs (cMd K a0 a1 a2 a3 a4 a5 a6 a7 a8 a9 a10 a11 a12 a13 a14 a15 a16 a17 a18 a19 S) → W p l e ({ frames := 0, cells := 0, slots := 0, locals := 0 } : Room) s m ([.ref a0, .ref a8] : List Value).toArray below meth c H locs 0 0 Q (F0 m 2 ls [])) → ∀ (H : Heap) (locs : List Loc) (ls : Array Slot), fX8_passes_uses_j42 v2 S k2 = some R → lv_has ls 3 [(0, .ref a0), (1, .ref a8), (2, .int v2)] → zW K A s H locs (cMd K a0 a1 a2 a3 a4 a5 a6 a7 a8 a9 a10 a11 a12 a13 a14 a15 a16 a17 a18 a19 S) → W p l e ({ frames := 0, cells := 0, slots := 0, locals := 0 } : Room) s m ([.ref a0, .ref a8] : List Value).toArray below meth c H locs 0 0 Q (F0 m 42 ls []) := by
    intro v2 S k2 hk2 H locs ls hf hl hh
    unfold fX8_passes_uses_j42 at hf
    refine lv_aload_n hx hb dX8_passes_42 rfl (lv_at hl 0 rfl) ?_
    refine lv_dup hx hb dX8_passes_43 rfl ?_
    refine zget (v := .int (md_cursor S)) (ref := "SumOfTwoThatStandModel") (C := RX8) (T := TX8) (N := 33) (index := 188) X hh inX8_passes_uses_X8 0 rfl rfl 23 (by decide) mmX8_passes_uses_0 rfl rfl dX8_passes_44 ?_
    refine lv_iconst (v := (1 : Int32)) hx hb dX8_passes_47 (by decide) ?_
    refine lv_iadd hx hb dX8_passes_48 ?_
    refine zput (v := .int ((md_cursor S) + (1 : Int32))) (ty := .int) (ref := "SumOfTwoThatStandModel") (C := RX8) (T := TX8) (N := 33) (index := 188) X hh inX8_passes_uses_X8 tyX8 tyX8_ok nmX8 0 rfl rfl 23 (by decide) mmX8_passes_uses_0 rfl rfl (by decide +kernel) rfl rfl (Nat.le_of_ble_eq_true rfl) dX8_passes_49 (fun H locs hh => ?_)
    have hh : zW K A s H locs (cMd K a0 a1 a2 a3 a4 a5 a6 a7 a8 a9 a10 a11 a12 a13 a14 a15 a16 a17 a18 a19 (md_set_cursor S ((md_cursor S) + (1 : Int32)))) := hh
    refine lv_iinc (v := (v2 + (1 : Int32))) (lv' := [(2, .int (v2 + (1 : Int32))), (0, .ref a0), (1, .ref a8)]) hx hb dX8_passes_52 hl (k := 2) rfl rfl (by decide) rfl (fun ls hl => ?_)
    refine lv_goto (tgt := 2) hx hb dX8_passes_55 (by decide) ?_
    exact hk2 (v2 + (1 : Int32)) (md_set_cursor S ((md_cursor S) + (1 : Int32))) H locs ls hf (lv_sub hl [1, 2, 0] rfl) hh
  have hL2 : ∀ (n : Nat) (v2 : Int32) (S : zMd), ∀ (H : Heap) (locs : List Loc) (ls : Array Slot), fX8_passes_uses_l2 n v2 S = some R → lv_has ls 3 [(0, .ref a0), (1, .ref a8), (2, .int v2)] → zW K A s H locs (cMd K a0 a1 a2 a3 a4 a5 a6 a7 a8 a9 a10 a11 a12 a13 a14 a15 a16 a17 a18 a19 S) → W p l e ({ frames := 0, cells := 0, slots := 0, locals := 0 } : Room) s m ([.ref a0, .ref a8] : List Value).toArray below meth c H locs 0 0 Q (F0 m 2 ls []) := by
    intro n
    induction n with
    | zero =>
      intro v2 S H locs ls hf hl hh
      rw [fX8_passes_uses_l2] at hf; cases hf
    | succ n ih =>
      intro v2 S H locs ls hf hl hh
      rw [fX8_passes_uses_l2] at hf
      refine lv_iload_n hx hb dX8_passes_2 rfl (lv_at hl 2 rfl) ?_
      refine lv_aload_n hx hb dX8_passes_3 rfl (lv_at hl 1 rfl) ?_
      refine zalenI (v := (12 : Int32)) X hh 8 rfl rfl dX8_passes_4 ?_
      refine lv_icmp_ge (tgt := 58) hx hb dX8_passes_5 (by decide) (fun c1 => ?_) (fun c1 => ?_)
      · replace hf := (if_pos c1).symm.trans hf
        exact hr2 58 ls H locs S hf dX8_passes_58 hh
      · replace hf := (if_neg c1).symm.trans hf
        refine lv_aload_n hx hb dX8_passes_8 rfl (lv_at hl 0 rfl) ?_
        refine zget (v := .int (md_isKeeping S)) (ref := "SumOfTwoThatStandModel") (C := RX8) (T := TX8) (N := 33) (index := 184) X hh inX8_passes_uses_X8 0 rfl rfl 22 (by decide) mmX8_passes_uses_1 rfl rfl dX8_passes_9 ?_
        refine lv_if_eq (tgt := 30) hx hb dX8_passes_12 (by decide) (fun c2 => ?_) (fun c2 => ?_)
        · replace hf := (if_pos c2).symm.trans hf
          refine lv_aload_n hx hb dX8_passes_30 rfl (lv_at hl 1 rfl) ?_
          refine lv_iload_n hx hb dX8_passes_31 rfl (lv_at hl 2 rfl) ?_
          refine lv_aload_n hx hb dX8_passes_32 rfl (lv_at hl 0 rfl) ?_
          refine zget (v := .ref a14) (ref := "SumOfTwoThatStandModel") (C := RX8) (T := TX8) (N := 33) (index := 49) X hh inX8_passes_uses_X8 0 rfl rfl 20 (by decide) mmX8_passes_uses_2 rfl rfl dX8_passes_33 ?_
          refine lv_aload_n hx hb dX8_passes_36 rfl (lv_at hl 0 rfl) ?_
          refine zget (v := .int (md_cursor S)) (ref := "SumOfTwoThatStandModel") (C := RX8) (T := TX8) (N := 33) (index := 188) X hh inX8_passes_uses_X8 0 rfl rfl 23 (by decide) mmX8_passes_uses_0 rfl rfl dX8_passes_37 ?_
          obtain ⟨g3, hf⟩ := ob_ix hf
          refine ziald (f := (md_kept S)) X hh 14 rfl g3 dX8_passes_40 ?_
          obtain ⟨g4, hf⟩ := ob_ix hf
          refine ziast (f := (md_uses S)) X hh 8 rfl g4 dX8_passes_41 (fun H locs hh => ?_)
          have hh : zW K A s H locs (cMd K a0 a1 a2 a3 a4 a5 a6 a7 a8 a9 a10 a11 a12 a13 a14 a15 a16 a17 a18 a19 (md_set_uses S (upd (md_uses S) v2.toNatClampNeg ((md_kept S) (md_cursor S).toNatClampNeg)))) := hh
          exact hJ42 v2 (md_set_uses S (upd (md_uses S) v2.toNatClampNeg ((md_kept S) (md_cursor S).toNatClampNeg))) (fX8_passes_uses_l2  n) (ih) H locs ls hf (lv_sub hl [0, 1, 2] rfl) hh
        · replace hf := (if_neg c2).symm.trans hf
          refine lv_aload_n hx hb dX8_passes_15 rfl (lv_at hl 0 rfl) ?_
          refine zget (v := .ref a14) (ref := "SumOfTwoThatStandModel") (C := RX8) (T := TX8) (N := 33) (index := 49) X hh inX8_passes_uses_X8 0 rfl rfl 20 (by decide) mmX8_passes_uses_2 rfl rfl dX8_passes_16 ?_
          refine lv_aload_n hx hb dX8_passes_19 rfl (lv_at hl 0 rfl) ?_
          refine zget (v := .int (md_cursor S)) (ref := "SumOfTwoThatStandModel") (C := RX8) (T := TX8) (N := 33) (index := 188) X hh inX8_passes_uses_X8 0 rfl rfl 23 (by decide) mmX8_passes_uses_0 rfl rfl dX8_passes_20 ?_
          refine lv_aload_n hx hb dX8_passes_23 rfl (lv_at hl 1 rfl) ?_
          refine lv_iload_n hx hb dX8_passes_24 rfl (lv_at hl 2 rfl) ?_
          obtain ⟨g5, hf⟩ := ob_ix hf
          refine ziald (f := (md_uses S)) X hh 8 rfl g5 dX8_passes_25 ?_
          obtain ⟨g6, hf⟩ := ob_ix hf
          refine ziast (f := (md_kept S)) X hh 14 rfl g6 dX8_passes_26 (fun H locs hh => ?_)
          have hh : zW K A s H locs (cMd K a0 a1 a2 a3 a4 a5 a6 a7 a8 a9 a10 a11 a12 a13 a14 a15 a16 a17 a18 a19 (md_set_kept S (upd (md_kept S) (md_cursor S).toNatClampNeg ((md_uses S) v2.toNatClampNeg)))) := hh
          refine lv_goto (tgt := 42) hx hb dX8_passes_27 (by decide) ?_
          exact hJ42 v2 (md_set_kept S (upd (md_kept S) (md_cursor S).toNatClampNeg ((md_uses S) v2.toNatClampNeg))) (fX8_passes_uses_l2  n) (ih) H locs ls hf (lv_sub hl [0, 1, 2] rfl) hh
  unfold fX8_passes_uses at hf
  refine (fun (hmain : ∀ (H : Heap) (locs : List Loc), zW K A s H locs (cMd K a0 a1 a2 a3 a4 a5 a6 a7 a8 a9 a10 a11 a12 a13 a14 a15 a16 a17 a18 a19 S) → W p l e ({ frames := 0, cells := 0, slots := 0, locals := 0 } : Room) s m ([.ref a0, .ref a8] : List Value).toArray below meth c H locs 0 0 Q (F0 m 0 ls [])) => hmain s.heap [] hh) (fun H locs hh => ?_)
  refine lv_iconst (v := (0 : Int32)) hx hb dX8_passes_0 (by decide) ?_
  refine lv_istore_n (lv' := [(2, .int (0 : Int32)), (0, .ref a0), (1, .ref a8)]) hx hb dX8_passes_1 rfl hl (by decide) rfl (fun ls hl => ?_)
  exact hL2 FU (0 : Int32) S H locs ls hf (lv_sub hl [1, 2, 0] rfl) hh
def fX8_passes_earned_j42 (v2 : Int32) (S : zMd) (k2 : (Int32) → (zMd) → Option (zMd)) : Option (zMd) :=
  k2 (v2 + (1 : Int32)) (md_set_cursor S ((md_cursor S) + (1 : Int32)))
def fX8_passes_earned_l2  : Nat → (Int32) → (zMd) → Option (zMd)
  | 0, _, _ => none
  | n + 1, v2, S =>
  if (12 : Int32) ≤ v2 then
  (some S)
  else
  (if (md_isKeeping S) = (0 : Int32) then
  (ix 400 (md_cursor S) (ix 12 v2 (fX8_passes_earned_j42 v2 (md_set_earned S (upd (md_earned S) v2.toNatClampNeg ((md_kept S) (md_cursor S).toNatClampNeg))) (fX8_passes_earned_l2  n))))
  else
  (ix 12 v2 (ix 400 (md_cursor S) (fX8_passes_earned_j42 v2 (md_set_kept S (upd (md_kept S) (md_cursor S).toNatClampNeg ((md_earned S) v2.toNatClampNeg))) (fX8_passes_earned_l2  n)))))
def fX8_passes_earned (S : zMd) : Option (zMd) :=
  fX8_passes_earned_l2 FU (0 : Int32) S
theorem inX8_passes_earned_X8 : ∀ w ∈ wsX80, w ∈ wsX8_passes := by decide +kernel
theorem mmX8_passes_earned_0 : Cond.fieldLink RX8 188 "SumOfTwoThatStandModel" "cursor" "I" ∈ wsX8_passes := by decide +kernel
theorem mmX8_passes_earned_1 : Cond.fieldLink RX8 184 "SumOfTwoThatStandModel" "isKeeping" "Z" ∈ wsX8_passes := by decide +kernel
theorem mmX8_passes_earned_2 : Cond.fieldLink RX8 49 "SumOfTwoThatStandModel" "kept" "[I" ∈ wsX8_passes := by decide +kernel
set_option maxHeartbeats 4000000 in
set_option maxRecDepth 100000 in
theorem kX8_passes_earned (l : Launch) (K : zK) (a0 a1 a2 a3 a4 a5 a6 a7 a8 a9 a10 a11 a12 a13 a14 a15 a16 a17 a18 a19 : Nat) (S : zMd) (R : zMd) (hf : fX8_passes_earned S = some R) : zC l yX8_passes wsX8_passes ({ frames := 0, cells := 0, slots := 0, locals := 0 } : Room) K [.ref a0, .ref a9] (cMd K a0 a1 a2 a3 a4 a5 a6 a7 a8 a9 a10 a11 a12 a13 a14 a15 a16 a17 a18 a19 S) none (cMd K a0 a1 a2 a3 a4 a5 a6 a7 a8 a9 a10 a11 a12 a13 a14 a15 a16 a17 a18 a19 R) := by
  refine zC_v (cc := cX8_passes) (maxL := 3) (by decide +kernel) rfl (Nat.le_of_ble_eq_true rfl) rfl rfl ?_
  intro p e s m below meth c Q A X hret ls hl hh
  have X : zX p m c cX8_passes 3 s ([.ref a0, .ref a9] : List Value).toArray wsX8_passes RX8 K A := X
  have hx := X.1.1
  have hb := X.1.2.1
  have hr2 : ∀ (pc : Nat) (ls : Array Slot) (H : Heap) (locs : List Loc) (S : zMd), some S = some R → decode cX8_passes pc = .ok (.return_, 1) → zW K A s H locs (cMd K a0 a1 a2 a3 a4 a5 a6 a7 a8 a9 a10 a11 a12 a13 a14 a15 a16 a17 a18 a19 S) → W p l e ({ frames := 0, cells := 0, slots := 0, locals := 0 } : Room) s m ([.ref a0, .ref a9] : List Value).toArray below meth c H locs 0 0 Q (F0 m pc ls []) := by
    intro pc ls H locs S h hd hh
    cases h; exact hret pc ls H locs hd hh
  have hl : lv_has ls 3 [(0, .ref a0), (1, .ref a9)] := hl
  have hJ42 : ∀ (v2 : Int32) (S : zMd) (k2 : (Int32) → (zMd) → Option (zMd)), (∀ (v2 : Int32) (S : zMd) (H : Heap) (locs : List Loc) (ls : Array Slot), k2 v2 S = some R → lv_has ls 3 [(0, .ref a0), (1, .ref a9), (2, .int v2)] → zW K A s H locs (cMd K a0 a1 a2 a3 a4 a5 a6 a7 a8 a9 a10 a11 a12 a13 a14 a15 a16 a17 a18 a19 S) → W p l e ({ frames := 0, cells := 0, slots := 0, locals := 0 } : Room) s m ([.ref a0, .ref a9] : List Value).toArray below meth c H locs 0 0 Q (F0 m 2 ls [])) → ∀ (H : Heap) (locs : List Loc) (ls : Array Slot), fX8_passes_earned_j42 v2 S k2 = some R → lv_has ls 3 [(0, .ref a0), (1, .ref a9), (2, .int v2)] → zW K A s H locs (cMd K a0 a1 a2 a3 a4 a5 a6 a7 a8 a9 a10 a11 a12 a13 a14 a15 a16 a17 a18 a19 S) → W p l e ({ frames := 0, cells := 0, slots := 0, locals := 0 } : Room) s m ([.ref a0, .ref a9] : List Value).toArray below meth c H locs 0 0 Q (F0 m 42 ls []) := by
    intro v2 S k2 hk2 H locs ls hf hl hh
    unfold fX8_passes_earned_j42 at hf
    refine lv_aload_n hx hb dX8_passes_42 rfl (lv_at hl 0 rfl) ?_
    refine lv_dup hx hb dX8_passes_43 rfl ?_
    refine zget (v := .int (md_cursor S)) (ref := "SumOfTwoThatStandModel") (C := RX8) (T := TX8) (N := 33) (index := 188) X hh inX8_passes_earned_X8 0 rfl rfl 23 (by decide) mmX8_passes_earned_0 rfl rfl dX8_passes_44 ?_
    refine lv_iconst (v := (1 : Int32)) hx hb dX8_passes_47 (by decide) ?_
    refine lv_iadd hx hb dX8_passes_48 ?_
    refine zput (v := .int ((md_cursor S) + (1 : Int32))) (ty := .int) (ref := "SumOfTwoThatStandModel") (C := RX8) (T := TX8) (N := 33) (index := 188) X hh inX8_passes_earned_X8 tyX8 tyX8_ok nmX8 0 rfl rfl 23 (by decide) mmX8_passes_earned_0 rfl rfl (by decide +kernel) rfl rfl (Nat.le_of_ble_eq_true rfl) dX8_passes_49 (fun H locs hh => ?_)
    have hh : zW K A s H locs (cMd K a0 a1 a2 a3 a4 a5 a6 a7 a8 a9 a10 a11 a12 a13 a14 a15 a16 a17 a18 a19 (md_set_cursor S ((md_cursor S) + (1 : Int32)))) := hh
    refine lv_iinc (v := (v2 + (1 : Int32))) (lv' := [(2, .int (v2 + (1 : Int32))), (0, .ref a0), (1, .ref a9)]) hx hb dX8_passes_52 hl (k := 2) rfl rfl (by decide) rfl (fun ls hl => ?_)
    refine lv_goto (tgt := 2) hx hb dX8_passes_55 (by decide) ?_
    exact hk2 (v2 + (1 : Int32)) (md_set_cursor S ((md_cursor S) + (1 : Int32))) H locs ls hf (lv_sub hl [1, 2, 0] rfl) hh
  have hL2 : ∀ (n : Nat) (v2 : Int32) (S : zMd), ∀ (H : Heap) (locs : List Loc) (ls : Array Slot), fX8_passes_earned_l2 n v2 S = some R → lv_has ls 3 [(0, .ref a0), (1, .ref a9), (2, .int v2)] → zW K A s H locs (cMd K a0 a1 a2 a3 a4 a5 a6 a7 a8 a9 a10 a11 a12 a13 a14 a15 a16 a17 a18 a19 S) → W p l e ({ frames := 0, cells := 0, slots := 0, locals := 0 } : Room) s m ([.ref a0, .ref a9] : List Value).toArray below meth c H locs 0 0 Q (F0 m 2 ls []) := by
    intro n
    induction n with
    | zero =>
      intro v2 S H locs ls hf hl hh
      rw [fX8_passes_earned_l2] at hf; cases hf
    | succ n ih =>
      intro v2 S H locs ls hf hl hh
      rw [fX8_passes_earned_l2] at hf
      refine lv_iload_n hx hb dX8_passes_2 rfl (lv_at hl 2 rfl) ?_
      refine lv_aload_n hx hb dX8_passes_3 rfl (lv_at hl 1 rfl) ?_
      refine zalenI (v := (12 : Int32)) X hh 9 rfl rfl dX8_passes_4 ?_
      refine lv_icmp_ge (tgt := 58) hx hb dX8_passes_5 (by decide) (fun c1 => ?_) (fun c1 => ?_)
      · replace hf := (if_pos c1).symm.trans hf
        exact hr2 58 ls H locs S hf dX8_passes_58 hh
      · replace hf := (if_neg c1).symm.trans hf
        refine lv_aload_n hx hb dX8_passes_8 rfl (lv_at hl 0 rfl) ?_
        refine zget (v := .int (md_isKeeping S)) (ref := "SumOfTwoThatStandModel") (C := RX8) (T := TX8) (N := 33) (index := 184) X hh inX8_passes_earned_X8 0 rfl rfl 22 (by decide) mmX8_passes_earned_1 rfl rfl dX8_passes_9 ?_
        refine lv_if_eq (tgt := 30) hx hb dX8_passes_12 (by decide) (fun c2 => ?_) (fun c2 => ?_)
        · replace hf := (if_pos c2).symm.trans hf
          refine lv_aload_n hx hb dX8_passes_30 rfl (lv_at hl 1 rfl) ?_
          refine lv_iload_n hx hb dX8_passes_31 rfl (lv_at hl 2 rfl) ?_
          refine lv_aload_n hx hb dX8_passes_32 rfl (lv_at hl 0 rfl) ?_
          refine zget (v := .ref a14) (ref := "SumOfTwoThatStandModel") (C := RX8) (T := TX8) (N := 33) (index := 49) X hh inX8_passes_earned_X8 0 rfl rfl 20 (by decide) mmX8_passes_earned_2 rfl rfl dX8_passes_33 ?_
          refine lv_aload_n hx hb dX8_passes_36 rfl (lv_at hl 0 rfl) ?_
          refine zget (v := .int (md_cursor S)) (ref := "SumOfTwoThatStandModel") (C := RX8) (T := TX8) (N := 33) (index := 188) X hh inX8_passes_earned_X8 0 rfl rfl 23 (by decide) mmX8_passes_earned_0 rfl rfl dX8_passes_37 ?_
          obtain ⟨g3, hf⟩ := ob_ix hf
          refine ziald (f := (md_kept S)) X hh 14 rfl g3 dX8_passes_40 ?_
          obtain ⟨g4, hf⟩ := ob_ix hf
          refine ziast (f := (md_earned S)) X hh 9 rfl g4 dX8_passes_41 (fun H locs hh => ?_)
          have hh : zW K A s H locs (cMd K a0 a1 a2 a3 a4 a5 a6 a7 a8 a9 a10 a11 a12 a13 a14 a15 a16 a17 a18 a19 (md_set_earned S (upd (md_earned S) v2.toNatClampNeg ((md_kept S) (md_cursor S).toNatClampNeg)))) := hh
          exact hJ42 v2 (md_set_earned S (upd (md_earned S) v2.toNatClampNeg ((md_kept S) (md_cursor S).toNatClampNeg))) (fX8_passes_earned_l2  n) (ih) H locs ls hf (lv_sub hl [0, 1, 2] rfl) hh
        · replace hf := (if_neg c2).symm.trans hf
          refine lv_aload_n hx hb dX8_passes_15 rfl (lv_at hl 0 rfl) ?_
          refine zget (v := .ref a14) (ref := "SumOfTwoThatStandModel") (C := RX8) (T := TX8) (N := 33) (index := 49) X hh inX8_passes_earned_X8 0 rfl rfl 20 (by decide) mmX8_passes_earned_2 rfl rfl dX8_passes_16 ?_
          refine lv_aload_n hx hb dX8_passes_19 rfl (lv_at hl 0 rfl) ?_
          refine zget (v := .int (md_cursor S)) (ref := "SumOfTwoThatStandModel") (C := RX8) (T := TX8) (N := 33) (index := 188) X hh inX8_passes_earned_X8 0 rfl rfl 23 (by decide) mmX8_passes_earned_0 rfl rfl dX8_passes_20 ?_
          refine lv_aload_n hx hb dX8_passes_23 rfl (lv_at hl 1 rfl) ?_
          refine lv_iload_n hx hb dX8_passes_24 rfl (lv_at hl 2 rfl) ?_
          obtain ⟨g5, hf⟩ := ob_ix hf
          refine ziald (f := (md_earned S)) X hh 9 rfl g5 dX8_passes_25 ?_
          obtain ⟨g6, hf⟩ := ob_ix hf
          refine ziast (f := (md_kept S)) X hh 14 rfl g6 dX8_passes_26 (fun H locs hh => ?_)
          have hh : zW K A s H locs (cMd K a0 a1 a2 a3 a4 a5 a6 a7 a8 a9 a10 a11 a12 a13 a14 a15 a16 a17 a18 a19 (md_set_kept S (upd (md_kept S) (md_cursor S).toNatClampNeg ((md_earned S) v2.toNatClampNeg)))) := hh
          refine lv_goto (tgt := 42) hx hb dX8_passes_27 (by decide) ?_
          exact hJ42 v2 (md_set_kept S (upd (md_kept S) (md_cursor S).toNatClampNeg ((md_earned S) v2.toNatClampNeg))) (fX8_passes_earned_l2  n) (ih) H locs ls hf (lv_sub hl [0, 1, 2] rfl) hh
  unfold fX8_passes_earned at hf
  refine (fun (hmain : ∀ (H : Heap) (locs : List Loc), zW K A s H locs (cMd K a0 a1 a2 a3 a4 a5 a6 a7 a8 a9 a10 a11 a12 a13 a14 a15 a16 a17 a18 a19 S) → W p l e ({ frames := 0, cells := 0, slots := 0, locals := 0 } : Room) s m ([.ref a0, .ref a9] : List Value).toArray below meth c H locs 0 0 Q (F0 m 0 ls [])) => hmain s.heap [] hh) (fun H locs hh => ?_)
  refine lv_iconst (v := (0 : Int32)) hx hb dX8_passes_0 (by decide) ?_
  refine lv_istore_n (lv' := [(2, .int (0 : Int32)), (0, .ref a0), (1, .ref a9)]) hx hb dX8_passes_1 rfl hl (by decide) rfl (fun ls hl => ?_)
  exact hL2 FU (0 : Int32) S H locs ls hf (lv_sub hl [1, 2, 0] rfl) hh
def fX8_passesAll (S : zMd) (p1 : Int32) (p2 : Int32) : Option (zMd) :=
  if p2 &&& 1 = p2 then (fX8_passes_number (md_set_cursor (md_set_isKeeping S p2) ((100 : Int32) * p1))).bind fun u2 =>
  (fX8_passes_kind u2).bind fun u3 =>
  (fX8_passes_figure u3).bind fun u4 =>
  (fX8_passes_one u4).bind fun u5 =>
  (fX8_passes_other u5).bind fun u6 =>
  (fX8_passes_stands u6).bind fun u7 =>
  (fX8_passes_uses u7).bind fun u8 =>
  (fX8_passes_earned u8).bind fun u9 =>
  (fX8_passOne u9 (md_houses u9)).bind fun u10 =>
  (fX8_passOne (md_set_houses u10.2 u10.1) (md_sums u10.2)).bind fun u11 =>
  (fX8_passOne (md_set_sums u11.2 u11.1) (md_falls u11.2)).bind fun u12 =>
  some (md_set_falls u12.2 u12.1) else none
theorem inX8_passesAll_X8 : ∀ w ∈ wsX80, w ∈ wsX8_passesAll := by decide +kernel
theorem mmX8_passesAll_0 : Cond.fieldLink RX8 188 "SumOfTwoThatStandModel" "cursor" "I" ∈ wsX8_passesAll := by decide +kernel
theorem mmX8_passesAll_1 : Cond.fieldLink RX8 184 "SumOfTwoThatStandModel" "isKeeping" "Z" ∈ wsX8_passesAll := by decide +kernel
theorem mmX8_passesAll_2 : Cond.fieldLink RX8 13 "SumOfTwoThatStandModel" "number" "[I" ∈ wsX8_passesAll := by decide +kernel
theorem mmX8_passesAll_3 : Cond.fieldLink RX8 16 "SumOfTwoThatStandModel" "kind" "[I" ∈ wsX8_passesAll := by decide +kernel
theorem mmX8_passesAll_4 : Cond.fieldLink RX8 19 "SumOfTwoThatStandModel" "figure" "[I" ∈ wsX8_passesAll := by decide +kernel
theorem mmX8_passesAll_5 : Cond.fieldLink RX8 22 "SumOfTwoThatStandModel" "one" "[I" ∈ wsX8_passesAll := by decide +kernel
theorem mmX8_passesAll_6 : Cond.fieldLink RX8 25 "SumOfTwoThatStandModel" "other" "[I" ∈ wsX8_passesAll := by decide +kernel
theorem mmX8_passesAll_7 : Cond.fieldLink RX8 28 "SumOfTwoThatStandModel" "stands" "[I" ∈ wsX8_passesAll := by decide +kernel
theorem mmX8_passesAll_8 : Cond.fieldLink RX8 31 "SumOfTwoThatStandModel" "uses" "[I" ∈ wsX8_passesAll := by decide +kernel
theorem mmX8_passesAll_9 : Cond.fieldLink RX8 34 "SumOfTwoThatStandModel" "earned" "[I" ∈ wsX8_passesAll := by decide +kernel
theorem mmX8_passesAll_10 : Cond.fieldLink RX8 70 "SumOfTwoThatStandModel" "houses" "I" ∈ wsX8_passesAll := by decide +kernel
theorem mmX8_passesAll_11 : Cond.fieldLink RX8 86 "SumOfTwoThatStandModel" "sums" "I" ∈ wsX8_passesAll := by decide +kernel
theorem mmX8_passesAll_12 : Cond.fieldLink RX8 111 "SumOfTwoThatStandModel" "falls" "I" ∈ wsX8_passesAll := by decide +kernel
theorem hdX8_passesAll : yX8_passesAll.cls ≠ "java/lang/invoke/MethodHandle" ∧ yX8_passesAll.cls ≠ "java/lang/invoke/VarHandle" ∧ (parseMethodDescriptor yX8_passesAll.desc).map (fun d => d.parameters.length) = some 2 := by decide +kernel
set_option maxHeartbeats 4000000 in
set_option maxRecDepth 100000 in
theorem kX8_passesAll (l : Launch) (K : zK) (a0 a1 a2 a3 a4 a5 a6 a7 a8 a9 a10 a11 a12 a13 a14 a15 a16 a17 a18 a19 : Nat) (S : zMd) (p1 : Int32) (p2 : Int32) (R : zMd) (hf : fX8_passesAll S p1 p2 = some R) : zC l yX8_passesAll wsX8_passesAll ({ frames := 1, cells := 0, slots := 0, locals := 22 } : Room) K [.ref a0, .int p1, .int p2] (cMd K a0 a1 a2 a3 a4 a5 a6 a7 a8 a9 a10 a11 a12 a13 a14 a15 a16 a17 a18 a19 S) none (cMd K a0 a1 a2 a3 a4 a5 a6 a7 a8 a9 a10 a11 a12 a13 a14 a15 a16 a17 a18 a19 R) := by
  refine zC_v (cc := cX8_passesAll) (maxL := 3) (by decide +kernel) rfl (Nat.le_of_ble_eq_true rfl) rfl rfl ?_
  intro p e s m below meth c Q A X hret ls hl hh
  have X : zX p m c cX8_passesAll 3 s ([.ref a0, .int p1, .int p2] : List Value).toArray wsX8_passesAll RX8 K A := X
  have hx := X.1.1
  have hb := X.1.2.1
  have hr2 : ∀ (pc : Nat) (ls : Array Slot) (H : Heap) (locs : List Loc) (S : zMd), some S = some R → decode cX8_passesAll pc = .ok (.return_, 1) → zW K A s H locs (cMd K a0 a1 a2 a3 a4 a5 a6 a7 a8 a9 a10 a11 a12 a13 a14 a15 a16 a17 a18 a19 S) → W p l e ({ frames := 1, cells := 0, slots := 0, locals := 22 } : Room) s m ([.ref a0, .int p1, .int p2] : List Value).toArray below meth c H locs 0 0 Q (F0 m pc ls []) := by
    intro pc ls H locs S h hd hh
    cases h; exact hret pc ls H locs hd hh
  have hl : lv_has ls 3 [(0, .ref a0), (1, .int p1), (2, .int p2)] := hl
  unfold fX8_passesAll at hf
  refine (fun (hmain : ∀ (H : Heap) (locs : List Loc), zW K A s H locs (cMd K a0 a1 a2 a3 a4 a5 a6 a7 a8 a9 a10 a11 a12 a13 a14 a15 a16 a17 a18 a19 S) → W p l e ({ frames := 1, cells := 0, slots := 0, locals := 22 } : Room) s m ([.ref a0, .int p1, .int p2] : List Value).toArray below meth c H locs 0 0 Q (F0 m 0 ls [])) => hmain s.heap [] hh) (fun H locs hh => ?_)
  refine lv_aload_n hx hb dX8_passesAll_0 rfl (lv_at hl 0 rfl) ?_
  refine lv_bipush (v := (100 : Int32)) hx hb dX8_passesAll_1 (by decide) ?_
  refine lv_iload_n hx hb dX8_passesAll_3 rfl (lv_at hl 1 rfl) ?_
  refine lv_imul hx hb dX8_passesAll_4 ?_
  refine zput (v := .int ((100 : Int32) * p1)) (ty := .int) (ref := "SumOfTwoThatStandModel") (C := RX8) (T := TX8) (N := 33) (index := 188) X hh inX8_passesAll_X8 tyX8 tyX8_ok nmX8 0 rfl rfl 23 (by decide) mmX8_passesAll_0 rfl rfl (by decide +kernel) rfl rfl (Nat.le_of_ble_eq_true rfl) dX8_passesAll_5 (fun H locs hh => ?_)
  have hh : zW K A s H locs (cMd K a0 a1 a2 a3 a4 a5 a6 a7 a8 a9 a10 a11 a12 a13 a14 a15 a16 a17 a18 a19 (md_set_cursor S ((100 : Int32) * p1))) := hh
  refine lv_aload_n hx hb dX8_passesAll_8 rfl (lv_at hl 0 rfl) ?_
  refine lv_iload_n hx hb dX8_passesAll_9 rfl (lv_at hl 2 rfl) ?_
  obtain ⟨g1, hf⟩ := ob_ck hf
  refine zput (v := .int p2) (ty := .boolean) (ref := "SumOfTwoThatStandModel") (C := RX8) (T := TX8) (N := 33) (index := 184) X hh inX8_passesAll_X8 tyX8 tyX8_ok nmX8 0 rfl rfl 22 (by decide) mmX8_passesAll_1 rfl rfl (by decide +kernel) (nar_ok g1) (fit_ok g1) (Nat.le_of_ble_eq_true rfl) dX8_passesAll_10 (fun H locs hh => ?_)
  have hh : zW K A s H locs (cMd K a0 a1 a2 a3 a4 a5 a6 a7 a8 a9 a10 a11 a12 a13 a14 a15 a16 a17 a18 a19 (md_set_cursor (md_set_isKeeping S p2) ((100 : Int32) * p1))) := hh
  refine lv_aload_n hx hb dX8_passesAll_13 rfl (lv_at hl 0 rfl) ?_
  refine lv_aload_n hx hb dX8_passesAll_14 rfl (lv_at hl 0 rfl) ?_
  refine zget (v := .ref a2) (ref := "SumOfTwoThatStandModel") (C := RX8) (T := TX8) (N := 33) (index := 13) X hh inX8_passesAll_X8 0 rfl rfl 1 (by decide) mmX8_passesAll_2 rfl rfl dX8_passesAll_15 ?_
  obtain ⟨u2, hu2, hf⟩ := ob_bind hf
  refine zcallV (ci := 7) (q0 := 0) (As := [.ref a2]) (rest := []) (wr := []) (ws' := cMd K a0 a1 a2 a3 a4 a5 a6 a7 a8 a9 a10 a11 a12 a13 a14 a15 a16 a17 a18 a19 u2) (ov := none) X hh hl (kX8_passes_number l K a0 a1 a2 a3 a4 a5 a6 a7 a8 a9 a10 a11 a12 a13 a14 a15 a16 a17 a18 a19 (md_set_cursor (md_set_isKeeping S p2) ((100 : Int32) * p1)) u2 hu2) (fun ht => cwV 1 ht gX8_passesAll_X8_passes rfl rfl rfl ⟨rfl, hdX8_passes⟩ ⟨Nat.le_of_ble_eq_true rfl, Nat.le_of_ble_eq_true rfl⟩) [0, 1, 2, 3, 4, 5, 6, 7, 8, 9, 10, 11, 12, 13, 14, 15, 16, 17, 18, 19] [] [0, 1, 2, 3, 4, 5, 6, 7, 8, 9, 10, 11, 12, 13, 14, 15, 16, 17, 18, 19] rfl rfl rfl rfl (by decide) rfl rfl rfl rfl rfl rfl (Nat.le_of_ble_eq_true rfl) dX8_passesAll_18 ⟨Nat.zero_le _, Nat.zero_le _⟩ (fun H locs hh => ?_)
  refine lv_aload_n hx hb dX8_passesAll_21 rfl (lv_at hl 0 rfl) ?_
  refine lv_aload_n hx hb dX8_passesAll_22 rfl (lv_at hl 0 rfl) ?_
  refine zget (v := .ref a3) (ref := "SumOfTwoThatStandModel") (C := RX8) (T := TX8) (N := 33) (index := 16) X hh inX8_passesAll_X8 0 rfl rfl 2 (by decide) mmX8_passesAll_3 rfl rfl dX8_passesAll_23 ?_
  obtain ⟨u3, hu3, hf⟩ := ob_bind hf
  refine zcallV (ci := 7) (q0 := 0) (As := [.ref a3]) (rest := []) (wr := []) (ws' := cMd K a0 a1 a2 a3 a4 a5 a6 a7 a8 a9 a10 a11 a12 a13 a14 a15 a16 a17 a18 a19 u3) (ov := none) X hh hl (kX8_passes_kind l K a0 a1 a2 a3 a4 a5 a6 a7 a8 a9 a10 a11 a12 a13 a14 a15 a16 a17 a18 a19 u2 u3 hu3) (fun ht => cwV 1 ht gX8_passesAll_X8_passes rfl rfl rfl ⟨rfl, hdX8_passes⟩ ⟨Nat.le_of_ble_eq_true rfl, Nat.le_of_ble_eq_true rfl⟩) [0, 1, 2, 3, 4, 5, 6, 7, 8, 9, 10, 11, 12, 13, 14, 15, 16, 17, 18, 19] [] [0, 1, 2, 3, 4, 5, 6, 7, 8, 9, 10, 11, 12, 13, 14, 15, 16, 17, 18, 19] rfl rfl rfl rfl (by decide) rfl rfl rfl rfl rfl rfl (Nat.le_of_ble_eq_true rfl) dX8_passesAll_26 ⟨Nat.zero_le _, Nat.zero_le _⟩ (fun H locs hh => ?_)
  refine lv_aload_n hx hb dX8_passesAll_29 rfl (lv_at hl 0 rfl) ?_
  refine lv_aload_n hx hb dX8_passesAll_30 rfl (lv_at hl 0 rfl) ?_
  refine zget (v := .ref a4) (ref := "SumOfTwoThatStandModel") (C := RX8) (T := TX8) (N := 33) (index := 19) X hh inX8_passesAll_X8 0 rfl rfl 3 (by decide) mmX8_passesAll_4 rfl rfl dX8_passesAll_31 ?_
  obtain ⟨u4, hu4, hf⟩ := ob_bind hf
  refine zcallV (ci := 7) (q0 := 0) (As := [.ref a4]) (rest := []) (wr := []) (ws' := cMd K a0 a1 a2 a3 a4 a5 a6 a7 a8 a9 a10 a11 a12 a13 a14 a15 a16 a17 a18 a19 u4) (ov := none) X hh hl (kX8_passes_figure l K a0 a1 a2 a3 a4 a5 a6 a7 a8 a9 a10 a11 a12 a13 a14 a15 a16 a17 a18 a19 u3 u4 hu4) (fun ht => cwV 1 ht gX8_passesAll_X8_passes rfl rfl rfl ⟨rfl, hdX8_passes⟩ ⟨Nat.le_of_ble_eq_true rfl, Nat.le_of_ble_eq_true rfl⟩) [0, 1, 2, 3, 4, 5, 6, 7, 8, 9, 10, 11, 12, 13, 14, 15, 16, 17, 18, 19] [] [0, 1, 2, 3, 4, 5, 6, 7, 8, 9, 10, 11, 12, 13, 14, 15, 16, 17, 18, 19] rfl rfl rfl rfl (by decide) rfl rfl rfl rfl rfl rfl (Nat.le_of_ble_eq_true rfl) dX8_passesAll_34 ⟨Nat.zero_le _, Nat.zero_le _⟩ (fun H locs hh => ?_)
  refine lv_aload_n hx hb dX8_passesAll_37 rfl (lv_at hl 0 rfl) ?_
  refine lv_aload_n hx hb dX8_passesAll_38 rfl (lv_at hl 0 rfl) ?_
  refine zget (v := .ref a5) (ref := "SumOfTwoThatStandModel") (C := RX8) (T := TX8) (N := 33) (index := 22) X hh inX8_passesAll_X8 0 rfl rfl 4 (by decide) mmX8_passesAll_5 rfl rfl dX8_passesAll_39 ?_
  obtain ⟨u5, hu5, hf⟩ := ob_bind hf
  refine zcallV (ci := 7) (q0 := 0) (As := [.ref a5]) (rest := []) (wr := []) (ws' := cMd K a0 a1 a2 a3 a4 a5 a6 a7 a8 a9 a10 a11 a12 a13 a14 a15 a16 a17 a18 a19 u5) (ov := none) X hh hl (kX8_passes_one l K a0 a1 a2 a3 a4 a5 a6 a7 a8 a9 a10 a11 a12 a13 a14 a15 a16 a17 a18 a19 u4 u5 hu5) (fun ht => cwV 1 ht gX8_passesAll_X8_passes rfl rfl rfl ⟨rfl, hdX8_passes⟩ ⟨Nat.le_of_ble_eq_true rfl, Nat.le_of_ble_eq_true rfl⟩) [0, 1, 2, 3, 4, 5, 6, 7, 8, 9, 10, 11, 12, 13, 14, 15, 16, 17, 18, 19] [] [0, 1, 2, 3, 4, 5, 6, 7, 8, 9, 10, 11, 12, 13, 14, 15, 16, 17, 18, 19] rfl rfl rfl rfl (by decide) rfl rfl rfl rfl rfl rfl (Nat.le_of_ble_eq_true rfl) dX8_passesAll_42 ⟨Nat.zero_le _, Nat.zero_le _⟩ (fun H locs hh => ?_)
  refine lv_aload_n hx hb dX8_passesAll_45 rfl (lv_at hl 0 rfl) ?_
  refine lv_aload_n hx hb dX8_passesAll_46 rfl (lv_at hl 0 rfl) ?_
  refine zget (v := .ref a6) (ref := "SumOfTwoThatStandModel") (C := RX8) (T := TX8) (N := 33) (index := 25) X hh inX8_passesAll_X8 0 rfl rfl 5 (by decide) mmX8_passesAll_6 rfl rfl dX8_passesAll_47 ?_
  obtain ⟨u6, hu6, hf⟩ := ob_bind hf
  refine zcallV (ci := 7) (q0 := 0) (As := [.ref a6]) (rest := []) (wr := []) (ws' := cMd K a0 a1 a2 a3 a4 a5 a6 a7 a8 a9 a10 a11 a12 a13 a14 a15 a16 a17 a18 a19 u6) (ov := none) X hh hl (kX8_passes_other l K a0 a1 a2 a3 a4 a5 a6 a7 a8 a9 a10 a11 a12 a13 a14 a15 a16 a17 a18 a19 u5 u6 hu6) (fun ht => cwV 1 ht gX8_passesAll_X8_passes rfl rfl rfl ⟨rfl, hdX8_passes⟩ ⟨Nat.le_of_ble_eq_true rfl, Nat.le_of_ble_eq_true rfl⟩) [0, 1, 2, 3, 4, 5, 6, 7, 8, 9, 10, 11, 12, 13, 14, 15, 16, 17, 18, 19] [] [0, 1, 2, 3, 4, 5, 6, 7, 8, 9, 10, 11, 12, 13, 14, 15, 16, 17, 18, 19] rfl rfl rfl rfl (by decide) rfl rfl rfl rfl rfl rfl (Nat.le_of_ble_eq_true rfl) dX8_passesAll_50 ⟨Nat.zero_le _, Nat.zero_le _⟩ (fun H locs hh => ?_)
  refine lv_aload_n hx hb dX8_passesAll_53 rfl (lv_at hl 0 rfl) ?_
  refine lv_aload_n hx hb dX8_passesAll_54 rfl (lv_at hl 0 rfl) ?_
  refine zget (v := .ref a7) (ref := "SumOfTwoThatStandModel") (C := RX8) (T := TX8) (N := 33) (index := 28) X hh inX8_passesAll_X8 0 rfl rfl 6 (by decide) mmX8_passesAll_7 rfl rfl dX8_passesAll_55 ?_
  obtain ⟨u7, hu7, hf⟩ := ob_bind hf
  refine zcallV (ci := 7) (q0 := 0) (As := [.ref a7]) (rest := []) (wr := []) (ws' := cMd K a0 a1 a2 a3 a4 a5 a6 a7 a8 a9 a10 a11 a12 a13 a14 a15 a16 a17 a18 a19 u7) (ov := none) X hh hl (kX8_passes_stands l K a0 a1 a2 a3 a4 a5 a6 a7 a8 a9 a10 a11 a12 a13 a14 a15 a16 a17 a18 a19 u6 u7 hu7) (fun ht => cwV 1 ht gX8_passesAll_X8_passes rfl rfl rfl ⟨rfl, hdX8_passes⟩ ⟨Nat.le_of_ble_eq_true rfl, Nat.le_of_ble_eq_true rfl⟩) [0, 1, 2, 3, 4, 5, 6, 7, 8, 9, 10, 11, 12, 13, 14, 15, 16, 17, 18, 19] [] [0, 1, 2, 3, 4, 5, 6, 7, 8, 9, 10, 11, 12, 13, 14, 15, 16, 17, 18, 19] rfl rfl rfl rfl (by decide) rfl rfl rfl rfl rfl rfl (Nat.le_of_ble_eq_true rfl) dX8_passesAll_58 ⟨Nat.zero_le _, Nat.zero_le _⟩ (fun H locs hh => ?_)
  refine lv_aload_n hx hb dX8_passesAll_61 rfl (lv_at hl 0 rfl) ?_
  refine lv_aload_n hx hb dX8_passesAll_62 rfl (lv_at hl 0 rfl) ?_
  refine zget (v := .ref a8) (ref := "SumOfTwoThatStandModel") (C := RX8) (T := TX8) (N := 33) (index := 31) X hh inX8_passesAll_X8 0 rfl rfl 7 (by decide) mmX8_passesAll_8 rfl rfl dX8_passesAll_63 ?_
  obtain ⟨u8, hu8, hf⟩ := ob_bind hf
  refine zcallV (ci := 7) (q0 := 0) (As := [.ref a8]) (rest := []) (wr := []) (ws' := cMd K a0 a1 a2 a3 a4 a5 a6 a7 a8 a9 a10 a11 a12 a13 a14 a15 a16 a17 a18 a19 u8) (ov := none) X hh hl (kX8_passes_uses l K a0 a1 a2 a3 a4 a5 a6 a7 a8 a9 a10 a11 a12 a13 a14 a15 a16 a17 a18 a19 u7 u8 hu8) (fun ht => cwV 1 ht gX8_passesAll_X8_passes rfl rfl rfl ⟨rfl, hdX8_passes⟩ ⟨Nat.le_of_ble_eq_true rfl, Nat.le_of_ble_eq_true rfl⟩) [0, 1, 2, 3, 4, 5, 6, 7, 8, 9, 10, 11, 12, 13, 14, 15, 16, 17, 18, 19] [] [0, 1, 2, 3, 4, 5, 6, 7, 8, 9, 10, 11, 12, 13, 14, 15, 16, 17, 18, 19] rfl rfl rfl rfl (by decide) rfl rfl rfl rfl rfl rfl (Nat.le_of_ble_eq_true rfl) dX8_passesAll_66 ⟨Nat.zero_le _, Nat.zero_le _⟩ (fun H locs hh => ?_)
  refine lv_aload_n hx hb dX8_passesAll_69 rfl (lv_at hl 0 rfl) ?_
  refine lv_aload_n hx hb dX8_passesAll_70 rfl (lv_at hl 0 rfl) ?_
  refine zget (v := .ref a9) (ref := "SumOfTwoThatStandModel") (C := RX8) (T := TX8) (N := 33) (index := 34) X hh inX8_passesAll_X8 0 rfl rfl 8 (by decide) mmX8_passesAll_9 rfl rfl dX8_passesAll_71 ?_
  obtain ⟨u9, hu9, hf⟩ := ob_bind hf
  refine zcallV (ci := 7) (q0 := 0) (As := [.ref a9]) (rest := []) (wr := []) (ws' := cMd K a0 a1 a2 a3 a4 a5 a6 a7 a8 a9 a10 a11 a12 a13 a14 a15 a16 a17 a18 a19 u9) (ov := none) X hh hl (kX8_passes_earned l K a0 a1 a2 a3 a4 a5 a6 a7 a8 a9 a10 a11 a12 a13 a14 a15 a16 a17 a18 a19 u8 u9 hu9) (fun ht => cwV 1 ht gX8_passesAll_X8_passes rfl rfl rfl ⟨rfl, hdX8_passes⟩ ⟨Nat.le_of_ble_eq_true rfl, Nat.le_of_ble_eq_true rfl⟩) [0, 1, 2, 3, 4, 5, 6, 7, 8, 9, 10, 11, 12, 13, 14, 15, 16, 17, 18, 19] [] [0, 1, 2, 3, 4, 5, 6, 7, 8, 9, 10, 11, 12, 13, 14, 15, 16, 17, 18, 19] rfl rfl rfl rfl (by decide) rfl rfl rfl rfl rfl rfl (Nat.le_of_ble_eq_true rfl) dX8_passesAll_74 ⟨Nat.zero_le _, Nat.zero_le _⟩ (fun H locs hh => ?_)
  refine lv_aload_n hx hb dX8_passesAll_77 rfl (lv_at hl 0 rfl) ?_
  refine lv_aload_n hx hb dX8_passesAll_78 rfl (lv_at hl 0 rfl) ?_
  refine lv_aload_n hx hb dX8_passesAll_79 rfl (lv_at hl 0 rfl) ?_
  refine zget (v := .int (md_houses u9)) (ref := "SumOfTwoThatStandModel") (C := RX8) (T := TX8) (N := 33) (index := 70) X hh inX8_passesAll_X8 0 rfl rfl 9 (by decide) mmX8_passesAll_10 rfl rfl dX8_passesAll_80 ?_
  obtain ⟨u10, hu10, hf⟩ := ob_bind hf
  refine zcallV (ci := 7) (q0 := 0) (As := [.int (md_houses u9)]) (rest := [.ref a0]) (wr := []) (ws' := cMd K a0 a1 a2 a3 a4 a5 a6 a7 a8 a9 a10 a11 a12 a13 a14 a15 a16 a17 a18 a19 u10.2) (ov := some (.int u10.1)) X hh hl (kX8_passOne l K a0 a1 a2 a3 a4 a5 a6 a7 a8 a9 a10 a11 a12 a13 a14 a15 a16 a17 a18 a19 u9 (md_houses u9) u10 hu10) (fun ht => cwV 1 ht gX8_passesAll_X8_passOne rfl rfl rfl ⟨rfl, hdX8_passOne⟩ ⟨Nat.le_of_ble_eq_true rfl, Nat.le_of_ble_eq_true rfl⟩) [0, 1, 2, 3, 4, 5, 6, 7, 8, 9, 10, 11, 12, 13, 14, 15, 16, 17, 18, 19] [] [0, 1, 2, 3, 4, 5, 6, 7, 8, 9, 10, 11, 12, 13, 14, 15, 16, 17, 18, 19] rfl rfl rfl rfl (by decide) rfl rfl rfl rfl rfl rfl (Nat.le_of_ble_eq_true rfl) dX8_passesAll_83 ⟨Nat.zero_le _, Nat.zero_le _⟩ (fun H locs hh => ?_)
  refine zput (v := .int u10.1) (ty := .int) (ref := "SumOfTwoThatStandModel") (C := RX8) (T := TX8) (N := 33) (index := 70) X hh inX8_passesAll_X8 tyX8 tyX8_ok nmX8 0 rfl rfl 9 (by decide) mmX8_passesAll_10 rfl rfl (by decide +kernel) rfl rfl (Nat.le_of_ble_eq_true rfl) dX8_passesAll_86 (fun H locs hh => ?_)
  have hh : zW K A s H locs (cMd K a0 a1 a2 a3 a4 a5 a6 a7 a8 a9 a10 a11 a12 a13 a14 a15 a16 a17 a18 a19 (md_set_houses u10.2 u10.1)) := hh
  refine lv_aload_n hx hb dX8_passesAll_89 rfl (lv_at hl 0 rfl) ?_
  refine lv_aload_n hx hb dX8_passesAll_90 rfl (lv_at hl 0 rfl) ?_
  refine lv_aload_n hx hb dX8_passesAll_91 rfl (lv_at hl 0 rfl) ?_
  refine zget (v := .int (md_sums u10.2)) (ref := "SumOfTwoThatStandModel") (C := RX8) (T := TX8) (N := 33) (index := 86) X hh inX8_passesAll_X8 0 rfl rfl 10 (by decide) mmX8_passesAll_11 rfl rfl dX8_passesAll_92 ?_
  obtain ⟨u11, hu11, hf⟩ := ob_bind hf
  refine zcallV (ci := 7) (q0 := 0) (As := [.int (md_sums u10.2)]) (rest := [.ref a0]) (wr := []) (ws' := cMd K a0 a1 a2 a3 a4 a5 a6 a7 a8 a9 a10 a11 a12 a13 a14 a15 a16 a17 a18 a19 u11.2) (ov := some (.int u11.1)) X hh hl (kX8_passOne l K a0 a1 a2 a3 a4 a5 a6 a7 a8 a9 a10 a11 a12 a13 a14 a15 a16 a17 a18 a19 (md_set_houses u10.2 u10.1) (md_sums u10.2) u11 hu11) (fun ht => cwV 1 ht gX8_passesAll_X8_passOne rfl rfl rfl ⟨rfl, hdX8_passOne⟩ ⟨Nat.le_of_ble_eq_true rfl, Nat.le_of_ble_eq_true rfl⟩) [0, 1, 2, 3, 4, 5, 6, 7, 8, 9, 10, 11, 12, 13, 14, 15, 16, 17, 18, 19] [] [0, 1, 2, 3, 4, 5, 6, 7, 8, 9, 10, 11, 12, 13, 14, 15, 16, 17, 18, 19] rfl rfl rfl rfl (by decide) rfl rfl rfl rfl rfl rfl (Nat.le_of_ble_eq_true rfl) dX8_passesAll_95 ⟨Nat.zero_le _, Nat.zero_le _⟩ (fun H locs hh => ?_)
  refine zput (v := .int u11.1) (ty := .int) (ref := "SumOfTwoThatStandModel") (C := RX8) (T := TX8) (N := 33) (index := 86) X hh inX8_passesAll_X8 tyX8 tyX8_ok nmX8 0 rfl rfl 10 (by decide) mmX8_passesAll_11 rfl rfl (by decide +kernel) rfl rfl (Nat.le_of_ble_eq_true rfl) dX8_passesAll_98 (fun H locs hh => ?_)
  have hh : zW K A s H locs (cMd K a0 a1 a2 a3 a4 a5 a6 a7 a8 a9 a10 a11 a12 a13 a14 a15 a16 a17 a18 a19 (md_set_sums u11.2 u11.1)) := hh
  refine lv_aload_n hx hb dX8_passesAll_101 rfl (lv_at hl 0 rfl) ?_
  refine lv_aload_n hx hb dX8_passesAll_102 rfl (lv_at hl 0 rfl) ?_
  refine lv_aload_n hx hb dX8_passesAll_103 rfl (lv_at hl 0 rfl) ?_
  refine zget (v := .int (md_falls u11.2)) (ref := "SumOfTwoThatStandModel") (C := RX8) (T := TX8) (N := 33) (index := 111) X hh inX8_passesAll_X8 0 rfl rfl 11 (by decide) mmX8_passesAll_12 rfl rfl dX8_passesAll_104 ?_
  obtain ⟨u12, hu12, hf⟩ := ob_bind hf
  refine zcallV (ci := 7) (q0 := 0) (As := [.int (md_falls u11.2)]) (rest := [.ref a0]) (wr := []) (ws' := cMd K a0 a1 a2 a3 a4 a5 a6 a7 a8 a9 a10 a11 a12 a13 a14 a15 a16 a17 a18 a19 u12.2) (ov := some (.int u12.1)) X hh hl (kX8_passOne l K a0 a1 a2 a3 a4 a5 a6 a7 a8 a9 a10 a11 a12 a13 a14 a15 a16 a17 a18 a19 (md_set_sums u11.2 u11.1) (md_falls u11.2) u12 hu12) (fun ht => cwV 1 ht gX8_passesAll_X8_passOne rfl rfl rfl ⟨rfl, hdX8_passOne⟩ ⟨Nat.le_of_ble_eq_true rfl, Nat.le_of_ble_eq_true rfl⟩) [0, 1, 2, 3, 4, 5, 6, 7, 8, 9, 10, 11, 12, 13, 14, 15, 16, 17, 18, 19] [] [0, 1, 2, 3, 4, 5, 6, 7, 8, 9, 10, 11, 12, 13, 14, 15, 16, 17, 18, 19] rfl rfl rfl rfl (by decide) rfl rfl rfl rfl rfl rfl (Nat.le_of_ble_eq_true rfl) dX8_passesAll_107 ⟨Nat.zero_le _, Nat.zero_le _⟩ (fun H locs hh => ?_)
  refine zput (v := .int u12.1) (ty := .int) (ref := "SumOfTwoThatStandModel") (C := RX8) (T := TX8) (N := 33) (index := 111) X hh inX8_passesAll_X8 tyX8 tyX8_ok nmX8 0 rfl rfl 11 (by decide) mmX8_passesAll_12 rfl rfl (by decide +kernel) rfl rfl (Nat.le_of_ble_eq_true rfl) dX8_passesAll_110 (fun H locs hh => ?_)
  have hh : zW K A s H locs (cMd K a0 a1 a2 a3 a4 a5 a6 a7 a8 a9 a10 a11 a12 a13 a14 a15 a16 a17 a18 a19 (md_set_falls u12.2 u12.1)) := hh
  exact hr2 113 ls H locs (md_set_falls u12.2 u12.1) hf dX8_passesAll_113 hh
def fX8_street_l86  : Nat → (Int32) → (zMd) → Option (Int32 × zMd)
  | 0, _, _ => none
  | n + 1, v2, S =>
  if (md_statements S) ≤ v2 then
  (some ((md_statements S), S))
  else
  ((fX8_comesTold S v2).bind fun u2 =>
  if u2.1 = (0 : Int32) then
  ((fX8_passesAll u2.2 (1 : Int32) (0 : Int32)).bind fun u4 =>
  ix 33 v2 (some (((-2000 : Int32) - ((md_sortAt u4) v2.toNatClampNeg)), u4)))
  else
  (fX8_street_l86  n (v2 + (1 : Int32)) u2.2))
def fX8_street_j60 (v1 : Int32) (S : zMd) : Option (Int32 × zMd) :=
  if v1 = (0 : Int32) then
  (some (((-1000 : Int32) - (md_reading S)), (md_set_taped S (0 : Int32))))
  else
  ((fX8_passesAll (md_set_taped S (0 : Int32)) (1 : Int32) (1 : Int32)).bind fun u7 =>
  fX8_street_l86 FU (0 : Int32) u7)
def fX8_street_j53 (v1 : Int32) (t1 : Int32) (t2 : Int32) (S : zMd) (k12 : (Int32) → (zMd) → Option (Int32 × zMd)) : Option (Int32 × zMd) :=
  k12 v1 (md_set_statements S (t1 + t2))
def fX8_street_j34 (S : zMd) (k12 : (Int32) → (zMd) → Option (Int32 × zMd)) : Option (Int32 × zMd) :=
  (fX8_statement S).bind fun u8 =>
  if u8.1 = (0 : Int32) then
  (fX8_street_j53 u8.1 (md_statements u8.2) (0 : Int32) u8.2 (k12))
  else
  (fX8_street_j53 u8.1 (md_statements u8.2) (1 : Int32) u8.2 (k12))
def fX8_street_l12  : Nat → (Int32) → (zMd) → Option (Int32 × zMd)
  | 0, _, _ => none
  | n + 1, v1, S =>
  if v1 = (0 : Int32) then
  (fX8_street_j60 v1 S)
  else
  (if (md_reading S) < (md_taped S) then
  (fX8_street_j34 S (fX8_street_l12  n))
  else
  (if (md_statements S) = (0 : Int32) then
  (fX8_street_j34 S (fX8_street_l12  n))
  else
  (fX8_street_j60 v1 S)))
def fX8_street (S : zMd) : Option (Int32 × zMd) :=
  fX8_street_l12 FU (1 : Int32) (md_set_statements (md_set_reading S (0 : Int32)) (0 : Int32))
theorem inX8_street_X8 : ∀ w ∈ wsX80, w ∈ wsX8_street := by decide +kernel
theorem mmX8_street_0 : Cond.fieldLink RX8 145 "SumOfTwoThatStandModel" "statements" "I" ∈ wsX8_street := by decide +kernel
theorem mmX8_street_1 : Cond.fieldLink RX8 43 "SumOfTwoThatStandModel" "sortAt" "[I" ∈ wsX8_street := by decide +kernel
theorem mmX8_street_2 : Cond.fieldLink RX8 124 "SumOfTwoThatStandModel" "taped" "I" ∈ wsX8_street := by decide +kernel
theorem mmX8_street_3 : Cond.fieldLink RX8 130 "SumOfTwoThatStandModel" "reading" "I" ∈ wsX8_street := by decide +kernel
theorem hdX8_street : yX8_street.cls ≠ "java/lang/invoke/MethodHandle" ∧ yX8_street.cls ≠ "java/lang/invoke/VarHandle" ∧ (parseMethodDescriptor yX8_street.desc).map (fun d => d.parameters.length) = some 0 := by decide +kernel
set_option maxHeartbeats 4000000 in
set_option maxRecDepth 100000 in
theorem kX8_street (l : Launch) (K : zK) (a0 a1 a2 a3 a4 a5 a6 a7 a8 a9 a10 a11 a12 a13 a14 a15 a16 a17 a18 a19 : Nat) (S : zMd) (R : Int32 × zMd) (hf : fX8_street S = some R) : zC l yX8_street wsX8_street ({ frames := 5, cells := 0, slots := 0, locals := 112 } : Room) K [.ref a0] (cMd K a0 a1 a2 a3 a4 a5 a6 a7 a8 a9 a10 a11 a12 a13 a14 a15 a16 a17 a18 a19 S) (some (.int R.1)) (cMd K a0 a1 a2 a3 a4 a5 a6 a7 a8 a9 a10 a11 a12 a13 a14 a15 a16 a17 a18 a19 R.2) := by
  refine zC_i R.1 (cc := cX8_street) (maxL := 3) (by decide +kernel) rfl (Nat.le_of_ble_eq_true rfl) rfl rfl ?_
  intro p e s m below meth c Q A X hret ls hl hh
  have X : zX p m c cX8_street 3 s ([.ref a0] : List Value).toArray wsX8_street RX8 K A := X
  have hx := X.1.1
  have hb := X.1.2.1
  have hr2 : ∀ (pc : Nat) (ls : Array Slot) (H : Heap) (locs : List Loc) (v : Int32) (S : zMd), some (v, S) = some R → decode cX8_street pc = .ok (.ireturn, 1) → zW K A s H locs (cMd K a0 a1 a2 a3 a4 a5 a6 a7 a8 a9 a10 a11 a12 a13 a14 a15 a16 a17 a18 a19 S) → W p l e ({ frames := 5, cells := 0, slots := 0, locals := 112 } : Room) s m ([.ref a0] : List Value).toArray below meth c H locs 0 0 Q (F0 m pc ls [.int v]) := by
    intro pc ls H locs v S h hd hh
    cases h; exact hret pc ls H locs _ rfl hd hh
  have hl : lv_has ls 3 [(0, .ref a0)] := hl
  have hL86 : ∀ (n : Nat) (v2 : Int32) (S : zMd), ∀ (H : Heap) (locs : List Loc) (ls : Array Slot), fX8_street_l86 n v2 S = some R → lv_has ls 3 [(0, .ref a0), (2, .int v2)] → zW K A s H locs (cMd K a0 a1 a2 a3 a4 a5 a6 a7 a8 a9 a10 a11 a12 a13 a14 a15 a16 a17 a18 a19 S) → W p l e ({ frames := 5, cells := 0, slots := 0, locals := 112 } : Room) s m ([.ref a0] : List Value).toArray below meth c H locs 0 0 Q (F0 m 86 ls []) := by
    intro n
    induction n with
    | zero =>
      intro v2 S H locs ls hf hl hh
      rw [fX8_street_l86] at hf; cases hf
    | succ n ih =>
      intro v2 S H locs ls hf hl hh
      rw [fX8_street_l86] at hf
      refine lv_iload_n hx hb dX8_street_86 rfl (lv_at hl 1 rfl) ?_
      refine lv_aload_n hx hb dX8_street_87 rfl (lv_at hl 0 rfl) ?_
      refine zget (v := .int (md_statements S)) (ref := "SumOfTwoThatStandModel") (C := RX8) (T := TX8) (N := 33) (index := 145) X hh inX8_street_X8 0 rfl rfl 18 (by decide) mmX8_street_0 rfl rfl dX8_street_88 ?_
      refine lv_icmp_ge (tgt := 128) hx hb dX8_street_91 (by decide) (fun c1 => ?_) (fun c1 => ?_)
      · replace hf := (if_pos c1).symm.trans hf
        refine lv_aload_n hx hb dX8_street_128 rfl (lv_at hl 0 rfl) ?_
        refine zget (v := .int (md_statements S)) (ref := "SumOfTwoThatStandModel") (C := RX8) (T := TX8) (N := 33) (index := 145) X hh inX8_street_X8 0 rfl rfl 18 (by decide) mmX8_street_0 rfl rfl dX8_street_129 ?_
        exact hr2 132 ls H locs (md_statements S) S hf dX8_street_132 hh
      · replace hf := (if_neg c1).symm.trans hf
        refine lv_aload_n hx hb dX8_street_94 rfl (lv_at hl 0 rfl) ?_
        refine lv_iload_n hx hb dX8_street_95 rfl (lv_at hl 1 rfl) ?_
        obtain ⟨u2, hu2, hf⟩ := ob_bind hf
        refine zcallV (ci := 7) (q0 := 0) (As := [.int v2]) (rest := []) (wr := []) (ws' := cMd K a0 a1 a2 a3 a4 a5 a6 a7 a8 a9 a10 a11 a12 a13 a14 a15 a16 a17 a18 a19 u2.2) (ov := some (.int u2.1)) X hh hl (kX8_comesTold l K a0 a1 a2 a3 a4 a5 a6 a7 a8 a9 a10 a11 a12 a13 a14 a15 a16 a17 a18 a19 S v2 u2 hu2) (fun ht => cwV 1 ht gX8_street_X8_comesTold rfl rfl rfl ⟨rfl, hdX8_comesTold⟩ ⟨Nat.le_of_ble_eq_true rfl, Nat.le_of_ble_eq_true rfl⟩) [0, 1, 2, 3, 4, 5, 6, 7, 8, 9, 10, 11, 12, 13, 14, 15, 16, 17, 18, 19] [] [0, 1, 2, 3, 4, 5, 6, 7, 8, 9, 10, 11, 12, 13, 14, 15, 16, 17, 18, 19] rfl rfl rfl rfl (by decide) rfl rfl rfl rfl rfl rfl (Nat.le_of_ble_eq_true rfl) dX8_street_96 ⟨Nat.zero_le _, Nat.zero_le _⟩ (fun H locs hh => ?_)
        refine lv_if_eq (tgt := 105) hx hb dX8_street_99 (by decide) (fun c3 => ?_) (fun c3 => ?_)
        · replace hf := (if_pos c3).symm.trans hf
          refine lv_aload_n hx hb dX8_street_105 rfl (lv_at hl 0 rfl) ?_
          refine lv_iconst (v := (1 : Int32)) hx hb dX8_street_106 (by decide) ?_
          refine lv_iconst (v := (0 : Int32)) hx hb dX8_street_107 (by decide) ?_
          obtain ⟨u4, hu4, hf⟩ := ob_bind hf
          refine zcallV (ci := 7) (q0 := 0) (As := [.int (1 : Int32), .int (0 : Int32)]) (rest := []) (wr := []) (ws' := cMd K a0 a1 a2 a3 a4 a5 a6 a7 a8 a9 a10 a11 a12 a13 a14 a15 a16 a17 a18 a19 u4) (ov := none) X hh hl (kX8_passesAll l K a0 a1 a2 a3 a4 a5 a6 a7 a8 a9 a10 a11 a12 a13 a14 a15 a16 a17 a18 a19 u2.2 (1 : Int32) (0 : Int32) u4 hu4) (fun ht => cwV 2 ht gX8_street_X8_passesAll rfl rfl rfl ⟨rfl, hdX8_passesAll⟩ ⟨Nat.le_of_ble_eq_true rfl, Nat.le_of_ble_eq_true rfl⟩) [0, 1, 2, 3, 4, 5, 6, 7, 8, 9, 10, 11, 12, 13, 14, 15, 16, 17, 18, 19] [] [0, 1, 2, 3, 4, 5, 6, 7, 8, 9, 10, 11, 12, 13, 14, 15, 16, 17, 18, 19] rfl rfl rfl rfl (by decide) rfl rfl rfl rfl rfl rfl (Nat.le_of_ble_eq_true rfl) dX8_street_108 ⟨Nat.zero_le _, Nat.zero_le _⟩ (fun H locs hh => ?_)
          refine lv_sipush (v := (-2000 : Int32)) hx hb dX8_street_111 (by decide) ?_
          refine lv_aload_n hx hb dX8_street_114 rfl (lv_at hl 0 rfl) ?_
          refine zget (v := .ref a12) (ref := "SumOfTwoThatStandModel") (C := RX8) (T := TX8) (N := 33) (index := 43) X hh inX8_street_X8 0 rfl rfl 14 (by decide) mmX8_street_1 rfl rfl dX8_street_115 ?_
          refine lv_iload_n hx hb dX8_street_118 rfl (lv_at hl 1 rfl) ?_
          obtain ⟨g5, hf⟩ := ob_ix hf
          refine ziald (f := (md_sortAt u4)) X hh 12 rfl g5 dX8_street_119 ?_
          refine lv_isub hx hb dX8_street_120 ?_
          exact hr2 121 ls H locs ((-2000 : Int32) - ((md_sortAt u4) v2.toNatClampNeg)) u4 hf dX8_street_121 hh
        · replace hf := (if_neg c3).symm.trans hf
          refine lv_goto (tgt := 122) hx hb dX8_street_102 (by decide) ?_
          refine lv_iinc (v := (v2 + (1 : Int32))) (lv' := [(2, .int (v2 + (1 : Int32))), (0, .ref a0)]) hx hb dX8_street_122 hl (k := 1) rfl rfl (by decide) rfl (fun ls hl => ?_)
          refine lv_goto (tgt := 86) hx hb dX8_street_125 (by decide) ?_
          exact ih (v2 + (1 : Int32)) u2.2 H locs ls hf (lv_sub hl [1, 0] rfl) hh
  have hJ60 : ∀ (v1 : Int32) (S : zMd), ∀ (H : Heap) (locs : List Loc) (ls : Array Slot), fX8_street_j60 v1 S = some R → lv_has ls 3 [(0, .ref a0), (1, .int v1)] → zW K A s H locs (cMd K a0 a1 a2 a3 a4 a5 a6 a7 a8 a9 a10 a11 a12 a13 a14 a15 a16 a17 a18 a19 S) → W p l e ({ frames := 5, cells := 0, slots := 0, locals := 112 } : Room) s m ([.ref a0] : List Value).toArray below meth c H locs 0 0 Q (F0 m 60 ls []) := by
    intro v1 S H locs ls hf hl hh
    unfold fX8_street_j60 at hf
    refine lv_aload_n hx hb dX8_street_60 rfl (lv_at hl 0 rfl) ?_
    refine lv_iconst (v := (0 : Int32)) hx hb dX8_street_61 (by decide) ?_
    refine zput (v := .int (0 : Int32)) (ty := .int) (ref := "SumOfTwoThatStandModel") (C := RX8) (T := TX8) (N := 33) (index := 124) X hh inX8_street_X8 tyX8 tyX8_ok nmX8 0 rfl rfl 16 (by decide) mmX8_street_2 rfl rfl (by decide +kernel) rfl rfl (Nat.le_of_ble_eq_true rfl) dX8_street_62 (fun H locs hh => ?_)
    have hh : zW K A s H locs (cMd K a0 a1 a2 a3 a4 a5 a6 a7 a8 a9 a10 a11 a12 a13 a14 a15 a16 a17 a18 a19 (md_set_taped S (0 : Int32))) := hh
    refine lv_iload_n hx hb dX8_street_65 rfl (lv_at hl 1 rfl) ?_
    refine lv_if_ne (tgt := 78) hx hb dX8_street_66 (by decide) (fun c6 => ?_) (fun c6 => ?_)
    · replace hf := (if_neg c6).symm.trans hf
      refine lv_aload_n hx hb dX8_street_78 rfl (lv_at hl 0 rfl) ?_
      refine lv_iconst (v := (1 : Int32)) hx hb dX8_street_79 (by decide) ?_
      refine lv_iconst (v := (1 : Int32)) hx hb dX8_street_80 (by decide) ?_
      obtain ⟨u7, hu7, hf⟩ := ob_bind hf
      refine zcallV (ci := 7) (q0 := 0) (As := [.int (1 : Int32), .int (1 : Int32)]) (rest := []) (wr := []) (ws' := cMd K a0 a1 a2 a3 a4 a5 a6 a7 a8 a9 a10 a11 a12 a13 a14 a15 a16 a17 a18 a19 u7) (ov := none) X hh hl (kX8_passesAll l K a0 a1 a2 a3 a4 a5 a6 a7 a8 a9 a10 a11 a12 a13 a14 a15 a16 a17 a18 a19 (md_set_taped S (0 : Int32)) (1 : Int32) (1 : Int32) u7 hu7) (fun ht => cwV 2 ht gX8_street_X8_passesAll rfl rfl rfl ⟨rfl, hdX8_passesAll⟩ ⟨Nat.le_of_ble_eq_true rfl, Nat.le_of_ble_eq_true rfl⟩) [0, 1, 2, 3, 4, 5, 6, 7, 8, 9, 10, 11, 12, 13, 14, 15, 16, 17, 18, 19] [] [0, 1, 2, 3, 4, 5, 6, 7, 8, 9, 10, 11, 12, 13, 14, 15, 16, 17, 18, 19] rfl rfl rfl rfl (by decide) rfl rfl rfl rfl rfl rfl (Nat.le_of_ble_eq_true rfl) dX8_street_81 ⟨Nat.zero_le _, Nat.zero_le _⟩ (fun H locs hh => ?_)
      refine lv_iconst (v := (0 : Int32)) hx hb dX8_street_84 (by decide) ?_
      refine lv_istore_n (lv' := [(2, .int (0 : Int32)), (0, .ref a0), (1, .int v1)]) hx hb dX8_street_85 rfl hl (by decide) rfl (fun ls hl => ?_)
      exact hL86 FU (0 : Int32) u7 H locs ls hf (lv_sub hl [1, 0] rfl) hh
    · replace hf := (if_pos c6).symm.trans hf
      refine lv_sipush (v := (-1000 : Int32)) hx hb dX8_street_69 (by decide) ?_
      refine lv_aload_n hx hb dX8_street_72 rfl (lv_at hl 0 rfl) ?_
      refine zget (v := .int (md_reading S)) (ref := "SumOfTwoThatStandModel") (C := RX8) (T := TX8) (N := 33) (index := 130) X hh inX8_street_X8 0 rfl rfl 17 (by decide) mmX8_street_3 rfl rfl dX8_street_73 ?_
      refine lv_isub hx hb dX8_street_76 ?_
      exact hr2 77 ls H locs ((-1000 : Int32) - (md_reading S)) (md_set_taped S (0 : Int32)) hf dX8_street_77 hh
  have hJ53 : ∀ (v1 : Int32) (t1 : Int32) (t2 : Int32) (S : zMd) (k12 : (Int32) → (zMd) → Option (Int32 × zMd)), (∀ (v1 : Int32) (S : zMd) (H : Heap) (locs : List Loc) (ls : Array Slot), k12 v1 S = some R → lv_has ls 3 [(0, .ref a0), (1, .int v1)] → zW K A s H locs (cMd K a0 a1 a2 a3 a4 a5 a6 a7 a8 a9 a10 a11 a12 a13 a14 a15 a16 a17 a18 a19 S) → W p l e ({ frames := 5, cells := 0, slots := 0, locals := 112 } : Room) s m ([.ref a0] : List Value).toArray below meth c H locs 0 0 Q (F0 m 12 ls [])) → ∀ (H : Heap) (locs : List Loc) (ls : Array Slot), fX8_street_j53 v1 t1 t2 S k12 = some R → lv_has ls 3 [(0, .ref a0), (1, .int v1)] → zW K A s H locs (cMd K a0 a1 a2 a3 a4 a5 a6 a7 a8 a9 a10 a11 a12 a13 a14 a15 a16 a17 a18 a19 S) → W p l e ({ frames := 5, cells := 0, slots := 0, locals := 112 } : Room) s m ([.ref a0] : List Value).toArray below meth c H locs 0 0 Q (F0 m 53 ls [.int t2, .int t1, .ref a0]) := by
    intro v1 t1 t2 S k12 hk12 H locs ls hf hl hh
    unfold fX8_street_j53 at hf
    refine lv_iadd hx hb dX8_street_53 ?_
    refine zput (v := .int (t1 + t2)) (ty := .int) (ref := "SumOfTwoThatStandModel") (C := RX8) (T := TX8) (N := 33) (index := 145) X hh inX8_street_X8 tyX8 tyX8_ok nmX8 0 rfl rfl 18 (by decide) mmX8_street_0 rfl rfl (by decide +kernel) rfl rfl (Nat.le_of_ble_eq_true rfl) dX8_street_54 (fun H locs hh => ?_)
    have hh : zW K A s H locs (cMd K a0 a1 a2 a3 a4 a5 a6 a7 a8 a9 a10 a11 a12 a13 a14 a15 a16 a17 a18 a19 (md_set_statements S (t1 + t2))) := hh
    refine lv_goto (tgt := 12) hx hb dX8_street_57 (by decide) ?_
    exact hk12 v1 (md_set_statements S (t1 + t2)) H locs ls hf (lv_sub hl [0, 1] rfl) hh
  have hJ34 : ∀ (S : zMd) (k12 : (Int32) → (zMd) → Option (Int32 × zMd)), (∀ (v1 : Int32) (S : zMd) (H : Heap) (locs : List Loc) (ls : Array Slot), k12 v1 S = some R → lv_has ls 3 [(0, .ref a0), (1, .int v1)] → zW K A s H locs (cMd K a0 a1 a2 a3 a4 a5 a6 a7 a8 a9 a10 a11 a12 a13 a14 a15 a16 a17 a18 a19 S) → W p l e ({ frames := 5, cells := 0, slots := 0, locals := 112 } : Room) s m ([.ref a0] : List Value).toArray below meth c H locs 0 0 Q (F0 m 12 ls [])) → ∀ (H : Heap) (locs : List Loc) (ls : Array Slot), fX8_street_j34 S k12 = some R → lv_has ls 3 [(0, .ref a0)] → zW K A s H locs (cMd K a0 a1 a2 a3 a4 a5 a6 a7 a8 a9 a10 a11 a12 a13 a14 a15 a16 a17 a18 a19 S) → W p l e ({ frames := 5, cells := 0, slots := 0, locals := 112 } : Room) s m ([.ref a0] : List Value).toArray below meth c H locs 0 0 Q (F0 m 34 ls []) := by
    intro S k12 hk12 H locs ls hf hl hh
    unfold fX8_street_j34 at hf
    refine lv_aload_n hx hb dX8_street_34 rfl (lv_at hl 0 rfl) ?_
    obtain ⟨u8, hu8, hf⟩ := ob_bind hf
    refine zcallV (ci := 7) (q0 := 0) (As := []) (rest := []) (wr := []) (ws' := cMd K a0 a1 a2 a3 a4 a5 a6 a7 a8 a9 a10 a11 a12 a13 a14 a15 a16 a17 a18 a19 u8.2) (ov := some (.int u8.1)) X hh hl (kX8_statement l K a0 a1 a2 a3 a4 a5 a6 a7 a8 a9 a10 a11 a12 a13 a14 a15 a16 a17 a18 a19 S u8 hu8) (fun ht => cwV 0 ht gX8_street_X8_statement rfl rfl rfl ⟨rfl, hdX8_statement⟩ ⟨Nat.le_of_ble_eq_true rfl, Nat.le_of_ble_eq_true rfl⟩) [0, 1, 2, 3, 4, 5, 6, 7, 8, 9, 10, 11, 12, 13, 14, 15, 16, 17, 18, 19] [] [0, 1, 2, 3, 4, 5, 6, 7, 8, 9, 10, 11, 12, 13, 14, 15, 16, 17, 18, 19] rfl rfl rfl rfl (by decide) rfl rfl rfl rfl rfl rfl (Nat.le_of_ble_eq_true rfl) dX8_street_35 ⟨Nat.zero_le _, Nat.zero_le _⟩ (fun H locs hh => ?_)
    refine lv_istore_n (lv' := [(1, .int u8.1), (0, .ref a0)]) hx hb dX8_street_38 rfl hl (by decide) rfl (fun ls hl => ?_)
    refine lv_aload_n hx hb dX8_street_39 rfl (lv_at hl 1 rfl) ?_
    refine lv_dup hx hb dX8_street_40 rfl ?_
    refine zget (v := .int (md_statements u8.2)) (ref := "SumOfTwoThatStandModel") (C := RX8) (T := TX8) (N := 33) (index := 145) X hh inX8_street_X8 0 rfl rfl 18 (by decide) mmX8_street_0 rfl rfl dX8_street_41 ?_
    refine lv_iload_n hx hb dX8_street_44 rfl (lv_at hl 0 rfl) ?_
    refine lv_if_eq (tgt := 52) hx hb dX8_street_45 (by decide) (fun c9 => ?_) (fun c9 => ?_)
    · replace hf := (if_pos c9).symm.trans hf
      refine lv_iconst (v := (0 : Int32)) hx hb dX8_street_52 (by decide) ?_
      exact hJ53 u8.1 (md_statements u8.2) (0 : Int32) u8.2 (k12) (hk12) H locs ls hf (lv_sub hl [1, 0] rfl) hh
    · replace hf := (if_neg c9).symm.trans hf
      refine lv_iconst (v := (1 : Int32)) hx hb dX8_street_48 (by decide) ?_
      refine lv_goto (tgt := 53) hx hb dX8_street_49 (by decide) ?_
      exact hJ53 u8.1 (md_statements u8.2) (1 : Int32) u8.2 (k12) (hk12) H locs ls hf (lv_sub hl [1, 0] rfl) hh
  have hL12 : ∀ (n : Nat) (v1 : Int32) (S : zMd), ∀ (H : Heap) (locs : List Loc) (ls : Array Slot), fX8_street_l12 n v1 S = some R → lv_has ls 3 [(0, .ref a0), (1, .int v1)] → zW K A s H locs (cMd K a0 a1 a2 a3 a4 a5 a6 a7 a8 a9 a10 a11 a12 a13 a14 a15 a16 a17 a18 a19 S) → W p l e ({ frames := 5, cells := 0, slots := 0, locals := 112 } : Room) s m ([.ref a0] : List Value).toArray below meth c H locs 0 0 Q (F0 m 12 ls []) := by
    intro n
    induction n with
    | zero =>
      intro v1 S H locs ls hf hl hh
      rw [fX8_street_l12] at hf; cases hf
    | succ n ih =>
      intro v1 S H locs ls hf hl hh
      rw [fX8_street_l12] at hf
      refine lv_iload_n hx hb dX8_street_12 rfl (lv_at hl 1 rfl) ?_
      refine lv_if_eq (tgt := 60) hx hb dX8_street_13 (by decide) (fun c10 => ?_) (fun c10 => ?_)
      · replace hf := (if_pos c10).symm.trans hf
        exact hJ60 v1 S H locs ls hf (lv_sub hl [0, 1] rfl) hh
      · replace hf := (if_neg c10).symm.trans hf
        refine lv_aload_n hx hb dX8_street_16 rfl (lv_at hl 0 rfl) ?_
        refine zget (v := .int (md_reading S)) (ref := "SumOfTwoThatStandModel") (C := RX8) (T := TX8) (N := 33) (index := 130) X hh inX8_street_X8 0 rfl rfl 17 (by decide) mmX8_street_3 rfl rfl dX8_street_17 ?_
        refine lv_aload_n hx hb dX8_street_20 rfl (lv_at hl 0 rfl) ?_
        refine zget (v := .int (md_taped S)) (ref := "SumOfTwoThatStandModel") (C := RX8) (T := TX8) (N := 33) (index := 124) X hh inX8_street_X8 0 rfl rfl 16 (by decide) mmX8_street_2 rfl rfl dX8_street_21 ?_
        refine lv_icmp_lt (tgt := 34) hx hb dX8_street_24 (by decide) (fun c11 => ?_) (fun c11 => ?_)
        · replace hf := (if_pos c11).symm.trans hf
          exact hJ34 S (fX8_street_l12  n) (ih) H locs ls hf (lv_sub hl [0] rfl) hh
        · replace hf := (if_neg c11).symm.trans hf
          refine lv_aload_n hx hb dX8_street_27 rfl (lv_at hl 0 rfl) ?_
          refine zget (v := .int (md_statements S)) (ref := "SumOfTwoThatStandModel") (C := RX8) (T := TX8) (N := 33) (index := 145) X hh inX8_street_X8 0 rfl rfl 18 (by decide) mmX8_street_0 rfl rfl dX8_street_28 ?_
          refine lv_if_ne (tgt := 60) hx hb dX8_street_31 (by decide) (fun c12 => ?_) (fun c12 => ?_)
          · replace hf := (if_neg c12).symm.trans hf
            exact hJ60 v1 S H locs ls hf (lv_sub hl [0, 1] rfl) hh
          · replace hf := (if_pos c12).symm.trans hf
            exact hJ34 S (fX8_street_l12  n) (ih) H locs ls hf (lv_sub hl [0] rfl) hh
  unfold fX8_street at hf
  refine (fun (hmain : ∀ (H : Heap) (locs : List Loc), zW K A s H locs (cMd K a0 a1 a2 a3 a4 a5 a6 a7 a8 a9 a10 a11 a12 a13 a14 a15 a16 a17 a18 a19 S) → W p l e ({ frames := 5, cells := 0, slots := 0, locals := 112 } : Room) s m ([.ref a0] : List Value).toArray below meth c H locs 0 0 Q (F0 m 0 ls [])) => hmain s.heap [] hh) (fun H locs hh => ?_)
  refine lv_aload_n hx hb dX8_street_0 rfl (lv_at hl 0 rfl) ?_
  refine lv_iconst (v := (0 : Int32)) hx hb dX8_street_1 (by decide) ?_
  refine zput (v := .int (0 : Int32)) (ty := .int) (ref := "SumOfTwoThatStandModel") (C := RX8) (T := TX8) (N := 33) (index := 130) X hh inX8_street_X8 tyX8 tyX8_ok nmX8 0 rfl rfl 17 (by decide) mmX8_street_3 rfl rfl (by decide +kernel) rfl rfl (Nat.le_of_ble_eq_true rfl) dX8_street_2 (fun H locs hh => ?_)
  have hh : zW K A s H locs (cMd K a0 a1 a2 a3 a4 a5 a6 a7 a8 a9 a10 a11 a12 a13 a14 a15 a16 a17 a18 a19 (md_set_reading S (0 : Int32))) := hh
  refine lv_aload_n hx hb dX8_street_5 rfl (lv_at hl 0 rfl) ?_
  refine lv_iconst (v := (0 : Int32)) hx hb dX8_street_6 (by decide) ?_
  refine zput (v := .int (0 : Int32)) (ty := .int) (ref := "SumOfTwoThatStandModel") (C := RX8) (T := TX8) (N := 33) (index := 145) X hh inX8_street_X8 tyX8 tyX8_ok nmX8 0 rfl rfl 18 (by decide) mmX8_street_0 rfl rfl (by decide +kernel) rfl rfl (Nat.le_of_ble_eq_true rfl) dX8_street_7 (fun H locs hh => ?_)
  have hh : zW K A s H locs (cMd K a0 a1 a2 a3 a4 a5 a6 a7 a8 a9 a10 a11 a12 a13 a14 a15 a16 a17 a18 a19 (md_set_statements (md_set_reading S (0 : Int32)) (0 : Int32))) := hh
  refine lv_iconst (v := (1 : Int32)) hx hb dX8_street_10 (by decide) ?_
  refine lv_istore_n (lv' := [(1, .int (1 : Int32)), (0, .ref a0)]) hx hb dX8_street_11 rfl hl (by decide) rfl (fun ls hl => ?_)
  exact hL12 FU (1 : Int32) (md_set_statements (md_set_reading S (0 : Int32)) (0 : Int32)) H locs ls hf (lv_sub hl [1, 0] rfl) hh
def fX8_image (S : zMd) : Option (Int32 × zMd) :=
  (fX8_passesAll (md_set_hasImage S (1 : Int32)) (0 : Int32) (1 : Int32)).bind fun u1 =>
  some ((md_houses u1), u1)
theorem inX8_image_X8 : ∀ w ∈ wsX80, w ∈ wsX8_image := by decide +kernel
theorem mmX8_image_0 : Cond.fieldLink RX8 198 "SumOfTwoThatStandModel" "hasImage" "Z" ∈ wsX8_image := by decide +kernel
theorem mmX8_image_1 : Cond.fieldLink RX8 70 "SumOfTwoThatStandModel" "houses" "I" ∈ wsX8_image := by decide +kernel
theorem hdX8_image : yX8_image.cls ≠ "java/lang/invoke/MethodHandle" ∧ yX8_image.cls ≠ "java/lang/invoke/VarHandle" ∧ (parseMethodDescriptor yX8_image.desc).map (fun d => d.parameters.length) = some 0 := by decide +kernel
set_option maxHeartbeats 4000000 in
set_option maxRecDepth 100000 in
theorem kX8_image (l : Launch) (K : zK) (a0 a1 a2 a3 a4 a5 a6 a7 a8 a9 a10 a11 a12 a13 a14 a15 a16 a17 a18 a19 : Nat) (S : zMd) (R : Int32 × zMd) (hf : fX8_image S = some R) : zC l yX8_image wsX8_image ({ frames := 2, cells := 0, slots := 0, locals := 44 } : Room) K [.ref a0] (cMd K a0 a1 a2 a3 a4 a5 a6 a7 a8 a9 a10 a11 a12 a13 a14 a15 a16 a17 a18 a19 S) (some (.int R.1)) (cMd K a0 a1 a2 a3 a4 a5 a6 a7 a8 a9 a10 a11 a12 a13 a14 a15 a16 a17 a18 a19 R.2) := by
  refine zC_i R.1 (cc := cX8_image) (maxL := 1) (by decide +kernel) rfl (Nat.le_of_ble_eq_true rfl) rfl rfl ?_
  intro p e s m below meth c Q A X hret ls hl hh
  have X : zX p m c cX8_image 1 s ([.ref a0] : List Value).toArray wsX8_image RX8 K A := X
  have hx := X.1.1
  have hb := X.1.2.1
  have hr2 : ∀ (pc : Nat) (ls : Array Slot) (H : Heap) (locs : List Loc) (v : Int32) (S : zMd), some (v, S) = some R → decode cX8_image pc = .ok (.ireturn, 1) → zW K A s H locs (cMd K a0 a1 a2 a3 a4 a5 a6 a7 a8 a9 a10 a11 a12 a13 a14 a15 a16 a17 a18 a19 S) → W p l e ({ frames := 2, cells := 0, slots := 0, locals := 44 } : Room) s m ([.ref a0] : List Value).toArray below meth c H locs 0 0 Q (F0 m pc ls [.int v]) := by
    intro pc ls H locs v S h hd hh
    cases h; exact hret pc ls H locs _ rfl hd hh
  have hl : lv_has ls 1 [(0, .ref a0)] := hl
  unfold fX8_image at hf
  refine (fun (hmain : ∀ (H : Heap) (locs : List Loc), zW K A s H locs (cMd K a0 a1 a2 a3 a4 a5 a6 a7 a8 a9 a10 a11 a12 a13 a14 a15 a16 a17 a18 a19 S) → W p l e ({ frames := 2, cells := 0, slots := 0, locals := 44 } : Room) s m ([.ref a0] : List Value).toArray below meth c H locs 0 0 Q (F0 m 0 ls [])) => hmain s.heap [] hh) (fun H locs hh => ?_)
  refine lv_aload_n hx hb dX8_image_0 rfl (lv_at hl 0 rfl) ?_
  refine lv_iconst (v := (1 : Int32)) hx hb dX8_image_1 (by decide) ?_
  refine zput (v := .int (1 : Int32)) (ty := .boolean) (ref := "SumOfTwoThatStandModel") (C := RX8) (T := TX8) (N := 33) (index := 198) X hh inX8_image_X8 tyX8 tyX8_ok nmX8 0 rfl rfl 21 (by decide) mmX8_image_0 rfl rfl (by decide +kernel) rfl rfl (Nat.le_of_ble_eq_true rfl) dX8_image_2 (fun H locs hh => ?_)
  have hh : zW K A s H locs (cMd K a0 a1 a2 a3 a4 a5 a6 a7 a8 a9 a10 a11 a12 a13 a14 a15 a16 a17 a18 a19 (md_set_hasImage S (1 : Int32))) := hh
  refine lv_aload_n hx hb dX8_image_5 rfl (lv_at hl 0 rfl) ?_
  refine lv_iconst (v := (0 : Int32)) hx hb dX8_image_6 (by decide) ?_
  refine lv_iconst (v := (1 : Int32)) hx hb dX8_image_7 (by decide) ?_
  obtain ⟨u1, hu1, hf⟩ := ob_bind hf
  refine zcallV (ci := 7) (q0 := 0) (As := [.int (0 : Int32), .int (1 : Int32)]) (rest := []) (wr := []) (ws' := cMd K a0 a1 a2 a3 a4 a5 a6 a7 a8 a9 a10 a11 a12 a13 a14 a15 a16 a17 a18 a19 u1) (ov := none) X hh hl (kX8_passesAll l K a0 a1 a2 a3 a4 a5 a6 a7 a8 a9 a10 a11 a12 a13 a14 a15 a16 a17 a18 a19 (md_set_hasImage S (1 : Int32)) (0 : Int32) (1 : Int32) u1 hu1) (fun ht => cwV 2 ht gX8_image_X8_passesAll rfl rfl rfl ⟨rfl, hdX8_passesAll⟩ ⟨Nat.le_of_ble_eq_true rfl, Nat.le_of_ble_eq_true rfl⟩) [0, 1, 2, 3, 4, 5, 6, 7, 8, 9, 10, 11, 12, 13, 14, 15, 16, 17, 18, 19] [] [0, 1, 2, 3, 4, 5, 6, 7, 8, 9, 10, 11, 12, 13, 14, 15, 16, 17, 18, 19] rfl rfl rfl rfl (by decide) rfl rfl rfl rfl rfl rfl (Nat.le_of_ble_eq_true rfl) dX8_image_8 ⟨Nat.zero_le _, Nat.zero_le _⟩ (fun H locs hh => ?_)
  refine lv_aload_n hx hb dX8_image_11 rfl (lv_at hl 0 rfl) ?_
  refine zget (v := .int (md_houses u1)) (ref := "SumOfTwoThatStandModel") (C := RX8) (T := TX8) (N := 33) (index := 70) X hh inX8_image_X8 0 rfl rfl 9 (by decide) mmX8_image_1 rfl rfl dX8_image_12 ?_
  exact hr2 15 ls H locs (md_houses u1) u1 hf dX8_image_15 hh
def fX8_restore (S : zMd) : Option (Int32 × zMd) :=
  if (md_hasImage S) = (0 : Int32) then
  ((fX8_no S (-3 : Int32)).bind fun u3 =>
  some (u3.1, u3.2))
  else
  ((fX8_passesAll S (0 : Int32) (0 : Int32)).bind fun u2 =>
  some ((md_houses u2), u2))
theorem inX8_restore_X8 : ∀ w ∈ wsX80, w ∈ wsX8_restore := by decide +kernel
theorem mmX8_restore_0 : Cond.fieldLink RX8 198 "SumOfTwoThatStandModel" "hasImage" "Z" ∈ wsX8_restore := by decide +kernel
theorem mmX8_restore_1 : Cond.fieldLink RX8 70 "SumOfTwoThatStandModel" "houses" "I" ∈ wsX8_restore := by decide +kernel
theorem hdX8_restore : yX8_restore.cls ≠ "java/lang/invoke/MethodHandle" ∧ yX8_restore.cls ≠ "java/lang/invoke/VarHandle" ∧ (parseMethodDescriptor yX8_restore.desc).map (fun d => d.parameters.length) = some 0 := by decide +kernel
set_option maxHeartbeats 4000000 in
set_option maxRecDepth 100000 in
theorem kX8_restore (l : Launch) (K : zK) (a0 a1 a2 a3 a4 a5 a6 a7 a8 a9 a10 a11 a12 a13 a14 a15 a16 a17 a18 a19 : Nat) (S : zMd) (R : Int32 × zMd) (hf : fX8_restore S = some R) : zC l yX8_restore wsX8_restore ({ frames := 2, cells := 0, slots := 0, locals := 44 } : Room) K [.ref a0] (cMd K a0 a1 a2 a3 a4 a5 a6 a7 a8 a9 a10 a11 a12 a13 a14 a15 a16 a17 a18 a19 S) (some (.int R.1)) (cMd K a0 a1 a2 a3 a4 a5 a6 a7 a8 a9 a10 a11 a12 a13 a14 a15 a16 a17 a18 a19 R.2) := by
  refine zC_i R.1 (cc := cX8_restore) (maxL := 1) (by decide +kernel) rfl (Nat.le_of_ble_eq_true rfl) rfl rfl ?_
  intro p e s m below meth c Q A X hret ls hl hh
  have X : zX p m c cX8_restore 1 s ([.ref a0] : List Value).toArray wsX8_restore RX8 K A := X
  have hx := X.1.1
  have hb := X.1.2.1
  have hr2 : ∀ (pc : Nat) (ls : Array Slot) (H : Heap) (locs : List Loc) (v : Int32) (S : zMd), some (v, S) = some R → decode cX8_restore pc = .ok (.ireturn, 1) → zW K A s H locs (cMd K a0 a1 a2 a3 a4 a5 a6 a7 a8 a9 a10 a11 a12 a13 a14 a15 a16 a17 a18 a19 S) → W p l e ({ frames := 2, cells := 0, slots := 0, locals := 44 } : Room) s m ([.ref a0] : List Value).toArray below meth c H locs 0 0 Q (F0 m pc ls [.int v]) := by
    intro pc ls H locs v S h hd hh
    cases h; exact hret pc ls H locs _ rfl hd hh
  have hl : lv_has ls 1 [(0, .ref a0)] := hl
  unfold fX8_restore at hf
  refine (fun (hmain : ∀ (H : Heap) (locs : List Loc), zW K A s H locs (cMd K a0 a1 a2 a3 a4 a5 a6 a7 a8 a9 a10 a11 a12 a13 a14 a15 a16 a17 a18 a19 S) → W p l e ({ frames := 2, cells := 0, slots := 0, locals := 44 } : Room) s m ([.ref a0] : List Value).toArray below meth c H locs 0 0 Q (F0 m 0 ls [])) => hmain s.heap [] hh) (fun H locs hh => ?_)
  refine lv_aload_n hx hb dX8_restore_0 rfl (lv_at hl 0 rfl) ?_
  refine zget (v := .int (md_hasImage S)) (ref := "SumOfTwoThatStandModel") (C := RX8) (T := TX8) (N := 33) (index := 198) X hh inX8_restore_X8 0 rfl rfl 21 (by decide) mmX8_restore_0 rfl rfl dX8_restore_1 ?_
  refine lv_if_ne (tgt := 14) hx hb dX8_restore_4 (by decide) (fun c1 => ?_) (fun c1 => ?_)
  · replace hf := (if_neg c1).symm.trans hf
    refine lv_aload_n hx hb dX8_restore_14 rfl (lv_at hl 0 rfl) ?_
    refine lv_iconst (v := (0 : Int32)) hx hb dX8_restore_15 (by decide) ?_
    refine lv_iconst (v := (0 : Int32)) hx hb dX8_restore_16 (by decide) ?_
    obtain ⟨u2, hu2, hf⟩ := ob_bind hf
    refine zcallV (ci := 7) (q0 := 0) (As := [.int (0 : Int32), .int (0 : Int32)]) (rest := []) (wr := []) (ws' := cMd K a0 a1 a2 a3 a4 a5 a6 a7 a8 a9 a10 a11 a12 a13 a14 a15 a16 a17 a18 a19 u2) (ov := none) X hh hl (kX8_passesAll l K a0 a1 a2 a3 a4 a5 a6 a7 a8 a9 a10 a11 a12 a13 a14 a15 a16 a17 a18 a19 S (0 : Int32) (0 : Int32) u2 hu2) (fun ht => cwV 2 ht gX8_restore_X8_passesAll rfl rfl rfl ⟨rfl, hdX8_passesAll⟩ ⟨Nat.le_of_ble_eq_true rfl, Nat.le_of_ble_eq_true rfl⟩) [0, 1, 2, 3, 4, 5, 6, 7, 8, 9, 10, 11, 12, 13, 14, 15, 16, 17, 18, 19] [] [0, 1, 2, 3, 4, 5, 6, 7, 8, 9, 10, 11, 12, 13, 14, 15, 16, 17, 18, 19] rfl rfl rfl rfl (by decide) rfl rfl rfl rfl rfl rfl (Nat.le_of_ble_eq_true rfl) dX8_restore_17 ⟨Nat.zero_le _, Nat.zero_le _⟩ (fun H locs hh => ?_)
    refine lv_aload_n hx hb dX8_restore_20 rfl (lv_at hl 0 rfl) ?_
    refine zget (v := .int (md_houses u2)) (ref := "SumOfTwoThatStandModel") (C := RX8) (T := TX8) (N := 33) (index := 70) X hh inX8_restore_X8 0 rfl rfl 9 (by decide) mmX8_restore_1 rfl rfl dX8_restore_21 ?_
    exact hr2 24 ls H locs (md_houses u2) u2 hf dX8_restore_24 hh
  · replace hf := (if_pos c1).symm.trans hf
    refine lv_aload_n hx hb dX8_restore_7 rfl (lv_at hl 0 rfl) ?_
    refine lv_bipush (v := (-3 : Int32)) hx hb dX8_restore_8 (by decide) ?_
    obtain ⟨u3, hu3, hf⟩ := ob_bind hf
    refine zcallV (ci := 7) (q0 := 0) (As := [.int (-3 : Int32)]) (rest := []) (wr := []) (ws' := cMd K a0 a1 a2 a3 a4 a5 a6 a7 a8 a9 a10 a11 a12 a13 a14 a15 a16 a17 a18 a19 u3.2) (ov := some (.int u3.1)) X hh hl (kX8_no l K a0 a1 a2 a3 a4 a5 a6 a7 a8 a9 a10 a11 a12 a13 a14 a15 a16 a17 a18 a19 S (-3 : Int32) u3 hu3) (fun ht => cwV 1 ht gX8_restore_X8_no rfl rfl rfl ⟨rfl, hdX8_no⟩ ⟨Nat.le_of_ble_eq_true rfl, Nat.le_of_ble_eq_true rfl⟩) [0, 1, 2, 3, 4, 5, 6, 7, 8, 9, 10, 11, 12, 13, 14, 15, 16, 17, 18, 19] [] [0, 1, 2, 3, 4, 5, 6, 7, 8, 9, 10, 11, 12, 13, 14, 15, 16, 17, 18, 19] rfl rfl rfl rfl (by decide) rfl rfl rfl rfl rfl rfl (Nat.le_of_ble_eq_true rfl) dX8_restore_10 ⟨Nat.zero_le _, Nat.zero_le _⟩ (fun H locs hh => ?_)
    exact hr2 13 ls H locs u3.1 u3.2 hf dX8_restore_13 hh
def fX8_house (S : zMd) (p1 : Int32) (p2 : Int32) : Option (Int32 × zMd) :=
  (fX8_isHouse S p1).bind fun u1 =>
  if u1 = (0 : Int32) then
  ((fX8_no S (-1 : Int32)).bind fun u13 =>
  some (u13.1, u13.2))
  else
  (if p2 = (0 : Int32) then
  (ix 12 p1 (some (((md_kind S) p1.toNatClampNeg), S)))
  else
  (if p2 = (1 : Int32) then
  (ix 12 p1 (some (((md_figure S) p1.toNatClampNeg), S)))
  else
  (if p2 = (2 : Int32) then
  (ix 12 p1 (some (((md_number S) p1.toNatClampNeg), S)))
  else
  (if p2 = (3 : Int32) then
  (ix 12 p1 (some (((md_one S) p1.toNatClampNeg), S)))
  else
  (if p2 = (4 : Int32) then
  (ix 12 p1 (some (((md_other S) p1.toNatClampNeg), S)))
  else
  (if p2 = (5 : Int32) then
  (ix 12 p1 (some (((md_stands S) p1.toNatClampNeg), S)))
  else
  (if p2 = (6 : Int32) then
  (ix 12 p1 (some (((md_uses S) p1.toNatClampNeg), S)))
  else
  (if p2 = (7 : Int32) then
  (ix 12 p1 (some (((md_earned S) p1.toNatClampNeg), S)))
  else
  ((fX8_no S (-2 : Int32)).bind fun u12 =>
  some (u12.1, u12.2))))))))))
theorem inX8_house_X8 : ∀ w ∈ wsX80, w ∈ wsX8_house := by decide +kernel
theorem mmX8_house_0 : Cond.fieldLink RX8 16 "SumOfTwoThatStandModel" "kind" "[I" ∈ wsX8_house := by decide +kernel
theorem mmX8_house_1 : Cond.fieldLink RX8 19 "SumOfTwoThatStandModel" "figure" "[I" ∈ wsX8_house := by decide +kernel
theorem mmX8_house_2 : Cond.fieldLink RX8 13 "SumOfTwoThatStandModel" "number" "[I" ∈ wsX8_house := by decide +kernel
theorem mmX8_house_3 : Cond.fieldLink RX8 22 "SumOfTwoThatStandModel" "one" "[I" ∈ wsX8_house := by decide +kernel
theorem mmX8_house_4 : Cond.fieldLink RX8 25 "SumOfTwoThatStandModel" "other" "[I" ∈ wsX8_house := by decide +kernel
theorem mmX8_house_5 : Cond.fieldLink RX8 28 "SumOfTwoThatStandModel" "stands" "[I" ∈ wsX8_house := by decide +kernel
theorem mmX8_house_6 : Cond.fieldLink RX8 31 "SumOfTwoThatStandModel" "uses" "[I" ∈ wsX8_house := by decide +kernel
theorem mmX8_house_7 : Cond.fieldLink RX8 34 "SumOfTwoThatStandModel" "earned" "[I" ∈ wsX8_house := by decide +kernel
theorem hdX8_house : yX8_house.cls ≠ "java/lang/invoke/MethodHandle" ∧ yX8_house.cls ≠ "java/lang/invoke/VarHandle" ∧ (parseMethodDescriptor yX8_house.desc).map (fun d => d.parameters.length) = some 2 := by decide +kernel
set_option maxHeartbeats 4000000 in
set_option maxRecDepth 100000 in
theorem kX8_house (l : Launch) (K : zK) (a0 a1 a2 a3 a4 a5 a6 a7 a8 a9 a10 a11 a12 a13 a14 a15 a16 a17 a18 a19 : Nat) (S : zMd) (p1 : Int32) (p2 : Int32) (R : Int32 × zMd) (hf : fX8_house S p1 p2 = some R) : zC l yX8_house wsX8_house ({ frames := 2, cells := 0, slots := 0, locals := 43 } : Room) K [.ref a0, .int p1, .int p2] (cMd K a0 a1 a2 a3 a4 a5 a6 a7 a8 a9 a10 a11 a12 a13 a14 a15 a16 a17 a18 a19 S) (some (.int R.1)) (cMd K a0 a1 a2 a3 a4 a5 a6 a7 a8 a9 a10 a11 a12 a13 a14 a15 a16 a17 a18 a19 R.2) := by
  refine zC_i R.1 (cc := cX8_house) (maxL := 3) (by decide +kernel) rfl (Nat.le_of_ble_eq_true rfl) rfl rfl ?_
  intro p e s m below meth c Q A X hret ls hl hh
  have X : zX p m c cX8_house 3 s ([.ref a0, .int p1, .int p2] : List Value).toArray wsX8_house RX8 K A := X
  have hx := X.1.1
  have hb := X.1.2.1
  have hr2 : ∀ (pc : Nat) (ls : Array Slot) (H : Heap) (locs : List Loc) (v : Int32) (S : zMd), some (v, S) = some R → decode cX8_house pc = .ok (.ireturn, 1) → zW K A s H locs (cMd K a0 a1 a2 a3 a4 a5 a6 a7 a8 a9 a10 a11 a12 a13 a14 a15 a16 a17 a18 a19 S) → W p l e ({ frames := 2, cells := 0, slots := 0, locals := 43 } : Room) s m ([.ref a0, .int p1, .int p2] : List Value).toArray below meth c H locs 0 0 Q (F0 m pc ls [.int v]) := by
    intro pc ls H locs v S h hd hh
    cases h; exact hret pc ls H locs _ rfl hd hh
  have hl : lv_has ls 3 [(0, .ref a0), (1, .int p1), (2, .int p2)] := hl
  unfold fX8_house at hf
  refine (fun (hmain : ∀ (H : Heap) (locs : List Loc), zW K A s H locs (cMd K a0 a1 a2 a3 a4 a5 a6 a7 a8 a9 a10 a11 a12 a13 a14 a15 a16 a17 a18 a19 S) → W p l e ({ frames := 2, cells := 0, slots := 0, locals := 43 } : Room) s m ([.ref a0, .int p1, .int p2] : List Value).toArray below meth c H locs 0 0 Q (F0 m 0 ls [])) => hmain s.heap [] hh) (fun H locs hh => ?_)
  refine lv_aload_n hx hb dX8_house_0 rfl (lv_at hl 0 rfl) ?_
  refine lv_iload_n hx hb dX8_house_1 rfl (lv_at hl 1 rfl) ?_
  obtain ⟨u1, hu1, hf⟩ := ob_bind hf
  refine zcallV (ci := 7) (q0 := 0) (As := [.int p1]) (rest := []) (wr := []) (ws' := cMd K a0 a1 a2 a3 a4 a5 a6 a7 a8 a9 a10 a11 a12 a13 a14 a15 a16 a17 a18 a19 S) (ov := some (.int u1)) X hh hl (kX8_isHouse l K a0 a1 a2 a3 a4 a5 a6 a7 a8 a9 a10 a11 a12 a13 a14 a15 a16 a17 a18 a19 S p1 u1 hu1) (fun ht => cwV 1 ht gX8_house_X8_isHouse rfl rfl rfl ⟨rfl, hdX8_isHouse⟩ ⟨Nat.le_of_ble_eq_true rfl, Nat.le_of_ble_eq_true rfl⟩) [0, 1, 2, 3, 4, 5, 6, 7, 8, 9, 10, 11, 12, 13, 14, 15, 16, 17, 18, 19] [] [0, 1, 2, 3, 4, 5, 6, 7, 8, 9, 10, 11, 12, 13, 14, 15, 16, 17, 18, 19] rfl rfl rfl rfl (by decide) rfl rfl rfl rfl rfl rfl (Nat.le_of_ble_eq_true rfl) dX8_house_2 ⟨Nat.zero_le _, Nat.zero_le _⟩ (fun H locs hh => ?_)
  refine lv_if_ne (tgt := 14) hx hb dX8_house_5 (by decide) (fun c2 => ?_) (fun c2 => ?_)
  · replace hf := (if_neg c2).symm.trans hf
    refine lv_iload_n hx hb dX8_house_14 rfl (lv_at hl 2 rfl) ?_
    by_cases c3_0 : p2 = (0 : Int32)
    · replace hf := (if_pos c3_0).symm.trans hf
      refine lv_tableIn (off := 45) (tgt := 60) hx hb dX8_house_15 (by rw [c3_0]; decide) (by rw [c3_0]; decide) (by rw [c3_0]; decide) (by decide) ?_
      refine lv_aload_n hx hb dX8_house_60 rfl (lv_at hl 0 rfl) ?_
      refine zget (v := .ref a3) (ref := "SumOfTwoThatStandModel") (C := RX8) (T := TX8) (N := 33) (index := 16) X hh inX8_house_X8 0 rfl rfl 2 (by decide) mmX8_house_0 rfl rfl dX8_house_61 ?_
      refine lv_iload_n hx hb dX8_house_64 rfl (lv_at hl 1 rfl) ?_
      obtain ⟨g4, hf⟩ := ob_ix hf
      refine ziald (f := (md_kind S)) X hh 3 rfl g4 dX8_house_65 ?_
      exact hr2 66 ls H locs ((md_kind S) p1.toNatClampNeg) S hf dX8_house_66 hh
    replace hf := (if_neg c3_0).symm.trans hf
    by_cases c3_1 : p2 = (1 : Int32)
    · replace hf := (if_pos c3_1).symm.trans hf
      refine lv_tableIn (off := 52) (tgt := 67) hx hb dX8_house_15 (by rw [c3_1]; decide) (by rw [c3_1]; decide) (by rw [c3_1]; decide) (by decide) ?_
      refine lv_aload_n hx hb dX8_house_67 rfl (lv_at hl 0 rfl) ?_
      refine zget (v := .ref a4) (ref := "SumOfTwoThatStandModel") (C := RX8) (T := TX8) (N := 33) (index := 19) X hh inX8_house_X8 0 rfl rfl 3 (by decide) mmX8_house_1 rfl rfl dX8_house_68 ?_
      refine lv_iload_n hx hb dX8_house_71 rfl (lv_at hl 1 rfl) ?_
      obtain ⟨g5, hf⟩ := ob_ix hf
      refine ziald (f := (md_figure S)) X hh 4 rfl g5 dX8_house_72 ?_
      exact hr2 73 ls H locs ((md_figure S) p1.toNatClampNeg) S hf dX8_house_73 hh
    replace hf := (if_neg c3_1).symm.trans hf
    by_cases c3_2 : p2 = (2 : Int32)
    · replace hf := (if_pos c3_2).symm.trans hf
      refine lv_tableIn (off := 59) (tgt := 74) hx hb dX8_house_15 (by rw [c3_2]; decide) (by rw [c3_2]; decide) (by rw [c3_2]; decide) (by decide) ?_
      refine lv_aload_n hx hb dX8_house_74 rfl (lv_at hl 0 rfl) ?_
      refine zget (v := .ref a2) (ref := "SumOfTwoThatStandModel") (C := RX8) (T := TX8) (N := 33) (index := 13) X hh inX8_house_X8 0 rfl rfl 1 (by decide) mmX8_house_2 rfl rfl dX8_house_75 ?_
      refine lv_iload_n hx hb dX8_house_78 rfl (lv_at hl 1 rfl) ?_
      obtain ⟨g6, hf⟩ := ob_ix hf
      refine ziald (f := (md_number S)) X hh 2 rfl g6 dX8_house_79 ?_
      exact hr2 80 ls H locs ((md_number S) p1.toNatClampNeg) S hf dX8_house_80 hh
    replace hf := (if_neg c3_2).symm.trans hf
    by_cases c3_3 : p2 = (3 : Int32)
    · replace hf := (if_pos c3_3).symm.trans hf
      refine lv_tableIn (off := 66) (tgt := 81) hx hb dX8_house_15 (by rw [c3_3]; decide) (by rw [c3_3]; decide) (by rw [c3_3]; decide) (by decide) ?_
      refine lv_aload_n hx hb dX8_house_81 rfl (lv_at hl 0 rfl) ?_
      refine zget (v := .ref a5) (ref := "SumOfTwoThatStandModel") (C := RX8) (T := TX8) (N := 33) (index := 22) X hh inX8_house_X8 0 rfl rfl 4 (by decide) mmX8_house_3 rfl rfl dX8_house_82 ?_
      refine lv_iload_n hx hb dX8_house_85 rfl (lv_at hl 1 rfl) ?_
      obtain ⟨g7, hf⟩ := ob_ix hf
      refine ziald (f := (md_one S)) X hh 5 rfl g7 dX8_house_86 ?_
      exact hr2 87 ls H locs ((md_one S) p1.toNatClampNeg) S hf dX8_house_87 hh
    replace hf := (if_neg c3_3).symm.trans hf
    by_cases c3_4 : p2 = (4 : Int32)
    · replace hf := (if_pos c3_4).symm.trans hf
      refine lv_tableIn (off := 73) (tgt := 88) hx hb dX8_house_15 (by rw [c3_4]; decide) (by rw [c3_4]; decide) (by rw [c3_4]; decide) (by decide) ?_
      refine lv_aload_n hx hb dX8_house_88 rfl (lv_at hl 0 rfl) ?_
      refine zget (v := .ref a6) (ref := "SumOfTwoThatStandModel") (C := RX8) (T := TX8) (N := 33) (index := 25) X hh inX8_house_X8 0 rfl rfl 5 (by decide) mmX8_house_4 rfl rfl dX8_house_89 ?_
      refine lv_iload_n hx hb dX8_house_92 rfl (lv_at hl 1 rfl) ?_
      obtain ⟨g8, hf⟩ := ob_ix hf
      refine ziald (f := (md_other S)) X hh 6 rfl g8 dX8_house_93 ?_
      exact hr2 94 ls H locs ((md_other S) p1.toNatClampNeg) S hf dX8_house_94 hh
    replace hf := (if_neg c3_4).symm.trans hf
    by_cases c3_5 : p2 = (5 : Int32)
    · replace hf := (if_pos c3_5).symm.trans hf
      refine lv_tableIn (off := 80) (tgt := 95) hx hb dX8_house_15 (by rw [c3_5]; decide) (by rw [c3_5]; decide) (by rw [c3_5]; decide) (by decide) ?_
      refine lv_aload_n hx hb dX8_house_95 rfl (lv_at hl 0 rfl) ?_
      refine zget (v := .ref a7) (ref := "SumOfTwoThatStandModel") (C := RX8) (T := TX8) (N := 33) (index := 28) X hh inX8_house_X8 0 rfl rfl 6 (by decide) mmX8_house_5 rfl rfl dX8_house_96 ?_
      refine lv_iload_n hx hb dX8_house_99 rfl (lv_at hl 1 rfl) ?_
      obtain ⟨g9, hf⟩ := ob_ix hf
      refine ziald (f := (md_stands S)) X hh 7 rfl g9 dX8_house_100 ?_
      exact hr2 101 ls H locs ((md_stands S) p1.toNatClampNeg) S hf dX8_house_101 hh
    replace hf := (if_neg c3_5).symm.trans hf
    by_cases c3_6 : p2 = (6 : Int32)
    · replace hf := (if_pos c3_6).symm.trans hf
      refine lv_tableIn (off := 87) (tgt := 102) hx hb dX8_house_15 (by rw [c3_6]; decide) (by rw [c3_6]; decide) (by rw [c3_6]; decide) (by decide) ?_
      refine lv_aload_n hx hb dX8_house_102 rfl (lv_at hl 0 rfl) ?_
      refine zget (v := .ref a8) (ref := "SumOfTwoThatStandModel") (C := RX8) (T := TX8) (N := 33) (index := 31) X hh inX8_house_X8 0 rfl rfl 7 (by decide) mmX8_house_6 rfl rfl dX8_house_103 ?_
      refine lv_iload_n hx hb dX8_house_106 rfl (lv_at hl 1 rfl) ?_
      obtain ⟨g10, hf⟩ := ob_ix hf
      refine ziald (f := (md_uses S)) X hh 8 rfl g10 dX8_house_107 ?_
      exact hr2 108 ls H locs ((md_uses S) p1.toNatClampNeg) S hf dX8_house_108 hh
    replace hf := (if_neg c3_6).symm.trans hf
    by_cases c3_7 : p2 = (7 : Int32)
    · replace hf := (if_pos c3_7).symm.trans hf
      refine lv_tableIn (off := 94) (tgt := 109) hx hb dX8_house_15 (by rw [c3_7]; decide) (by rw [c3_7]; decide) (by rw [c3_7]; decide) (by decide) ?_
      refine lv_aload_n hx hb dX8_house_109 rfl (lv_at hl 0 rfl) ?_
      refine zget (v := .ref a9) (ref := "SumOfTwoThatStandModel") (C := RX8) (T := TX8) (N := 33) (index := 34) X hh inX8_house_X8 0 rfl rfl 8 (by decide) mmX8_house_7 rfl rfl dX8_house_110 ?_
      refine lv_iload_n hx hb dX8_house_113 rfl (lv_at hl 1 rfl) ?_
      obtain ⟨g11, hf⟩ := ob_ix hf
      refine ziald (f := (md_earned S)) X hh 9 rfl g11 dX8_house_114 ?_
      exact hr2 115 ls H locs ((md_earned S) p1.toNatClampNeg) S hf dX8_house_115 hh
    replace hf := (if_neg c3_7).symm.trans hf
    refine lv_tableOut (tgt := 116) hx hb dX8_house_15 (by have e0 := lv_neT c3_0 (a := 0) (by decide); have e1 := lv_neT c3_1 (a := 1) (by decide); have e2 := lv_neT c3_2 (a := 2) (by decide); have e3 := lv_neT c3_3 (a := 3) (by decide); have e4 := lv_neT c3_4 (a := 4) (by decide); have e5 := lv_neT c3_5 (a := 5) (by decide); have e6 := lv_neT c3_6 (a := 6) (by decide); have e7 := lv_neT c3_7 (a := 7) (by decide); omega) (by decide) ?_
    refine lv_aload_n hx hb dX8_house_116 rfl (lv_at hl 0 rfl) ?_
    refine lv_bipush (v := (-2 : Int32)) hx hb dX8_house_117 (by decide) ?_
    obtain ⟨u12, hu12, hf⟩ := ob_bind hf
    refine zcallV (ci := 7) (q0 := 0) (As := [.int (-2 : Int32)]) (rest := []) (wr := []) (ws' := cMd K a0 a1 a2 a3 a4 a5 a6 a7 a8 a9 a10 a11 a12 a13 a14 a15 a16 a17 a18 a19 u12.2) (ov := some (.int u12.1)) X hh hl (kX8_no l K a0 a1 a2 a3 a4 a5 a6 a7 a8 a9 a10 a11 a12 a13 a14 a15 a16 a17 a18 a19 S (-2 : Int32) u12 hu12) (fun ht => cwV 1 ht gX8_house_X8_no rfl rfl rfl ⟨rfl, hdX8_no⟩ ⟨Nat.le_of_ble_eq_true rfl, Nat.le_of_ble_eq_true rfl⟩) [0, 1, 2, 3, 4, 5, 6, 7, 8, 9, 10, 11, 12, 13, 14, 15, 16, 17, 18, 19] [] [0, 1, 2, 3, 4, 5, 6, 7, 8, 9, 10, 11, 12, 13, 14, 15, 16, 17, 18, 19] rfl rfl rfl rfl (by decide) rfl rfl rfl rfl rfl rfl (Nat.le_of_ble_eq_true rfl) dX8_house_119 ⟨Nat.zero_le _, Nat.zero_le _⟩ (fun H locs hh => ?_)
    exact hr2 122 ls H locs u12.1 u12.2 hf dX8_house_122 hh
  · replace hf := (if_pos c2).symm.trans hf
    refine lv_aload_n hx hb dX8_house_8 rfl (lv_at hl 0 rfl) ?_
    refine lv_iconst (v := (-1 : Int32)) hx hb dX8_house_9 (by decide) ?_
    obtain ⟨u13, hu13, hf⟩ := ob_bind hf
    refine zcallV (ci := 7) (q0 := 0) (As := [.int (-1 : Int32)]) (rest := []) (wr := []) (ws' := cMd K a0 a1 a2 a3 a4 a5 a6 a7 a8 a9 a10 a11 a12 a13 a14 a15 a16 a17 a18 a19 u13.2) (ov := some (.int u13.1)) X hh hl (kX8_no l K a0 a1 a2 a3 a4 a5 a6 a7 a8 a9 a10 a11 a12 a13 a14 a15 a16 a17 a18 a19 S (-1 : Int32) u13 hu13) (fun ht => cwV 1 ht gX8_house_X8_no rfl rfl rfl ⟨rfl, hdX8_no⟩ ⟨Nat.le_of_ble_eq_true rfl, Nat.le_of_ble_eq_true rfl⟩) [0, 1, 2, 3, 4, 5, 6, 7, 8, 9, 10, 11, 12, 13, 14, 15, 16, 17, 18, 19] [] [0, 1, 2, 3, 4, 5, 6, 7, 8, 9, 10, 11, 12, 13, 14, 15, 16, 17, 18, 19] rfl rfl rfl rfl (by decide) rfl rfl rfl rfl rfl rfl (Nat.le_of_ble_eq_true rfl) dX8_house_10 ⟨Nat.zero_le _, Nat.zero_le _⟩ (fun H locs hh => ?_)
    exact hr2 13 ls H locs u13.1 u13.2 hf dX8_house_13 hh
def fX8_law_j48 (v1 : Int32) (v2 : Int32) (t0 : Int32) (S : zMd) : Option (Int32 × zMd) :=
  if v1 = (0 : Int32) then
  (some (t0, (md_set_sums S v2)))
  else
  (some (t0, (md_set_falls S v2)))
def fX8_law_j26 (S : zMd) : Option (Int32 × zMd) :=
  (fX8_no S (-2 : Int32)).bind fun u2 =>
  some (u2.1, u2.2)
def fX8_law_j20 (v1 : Int32) (v2 : Int32) (t0 : Int32) (t1 : Int32) (t2 : Int32) (S : zMd) : Option (Int32 × zMd) :=
  if (fX8_isIn t0 t1 t2) = (0 : Int32) then
  (fX8_law_j26 S)
  else
  (if v1 = (0 : Int32) then
  (fX8_law_j48 v1 v2 (md_sums S) S)
  else
  (fX8_law_j48 v1 v2 (md_falls S) S))
def fX8_law (S : zMd) (p1 : Int32) (p2 : Int32) : Option (Int32 × zMd) :=
  if (fX8_isIn p1 (0 : Int32) (1 : Int32)) = (0 : Int32) then
  (fX8_law_j26 S)
  else
  (if p1 = (0 : Int32) then
  (fX8_law_j20 p1 p2 p2 (0 : Int32) (2 : Int32) S)
  else
  (fX8_law_j20 p1 p2 p2 (0 : Int32) (1 : Int32) S))
theorem inX8_law_X8 : ∀ w ∈ wsX80, w ∈ wsX8_law := by decide +kernel
theorem mmX8_law_0 : Cond.fieldLink RX8 111 "SumOfTwoThatStandModel" "falls" "I" ∈ wsX8_law := by decide +kernel
theorem mmX8_law_1 : Cond.fieldLink RX8 86 "SumOfTwoThatStandModel" "sums" "I" ∈ wsX8_law := by decide +kernel
theorem hdX8_law : yX8_law.cls ≠ "java/lang/invoke/MethodHandle" ∧ yX8_law.cls ≠ "java/lang/invoke/VarHandle" ∧ (parseMethodDescriptor yX8_law.desc).map (fun d => d.parameters.length) = some 2 := by decide +kernel
set_option maxHeartbeats 4000000 in
set_option maxRecDepth 100000 in
theorem kX8_law (l : Launch) (K : zK) (a0 a1 a2 a3 a4 a5 a6 a7 a8 a9 a10 a11 a12 a13 a14 a15 a16 a17 a18 a19 : Nat) (S : zMd) (p1 : Int32) (p2 : Int32) (R : Int32 × zMd) (hf : fX8_law S p1 p2 = some R) : zC l yX8_law wsX8_law ({ frames := 1, cells := 0, slots := 0, locals := 22 } : Room) K [.ref a0, .int p1, .int p2] (cMd K a0 a1 a2 a3 a4 a5 a6 a7 a8 a9 a10 a11 a12 a13 a14 a15 a16 a17 a18 a19 S) (some (.int R.1)) (cMd K a0 a1 a2 a3 a4 a5 a6 a7 a8 a9 a10 a11 a12 a13 a14 a15 a16 a17 a18 a19 R.2) := by
  refine zC_i R.1 (cc := cX8_law) (maxL := 4) (by decide +kernel) rfl (Nat.le_of_ble_eq_true rfl) rfl rfl ?_
  intro p e s m below meth c Q A X hret ls hl hh
  have X : zX p m c cX8_law 4 s ([.ref a0, .int p1, .int p2] : List Value).toArray wsX8_law RX8 K A := X
  have hx := X.1.1
  have hb := X.1.2.1
  have hr2 : ∀ (pc : Nat) (ls : Array Slot) (H : Heap) (locs : List Loc) (v : Int32) (S : zMd), some (v, S) = some R → decode cX8_law pc = .ok (.ireturn, 1) → zW K A s H locs (cMd K a0 a1 a2 a3 a4 a5 a6 a7 a8 a9 a10 a11 a12 a13 a14 a15 a16 a17 a18 a19 S) → W p l e ({ frames := 1, cells := 0, slots := 0, locals := 22 } : Room) s m ([.ref a0, .int p1, .int p2] : List Value).toArray below meth c H locs 0 0 Q (F0 m pc ls [.int v]) := by
    intro pc ls H locs v S h hd hh
    cases h; exact hret pc ls H locs _ rfl hd hh
  have hl : lv_has ls 4 [(0, .ref a0), (1, .int p1), (2, .int p2)] := hl
  have hJ48 : ∀ (v1 : Int32) (v2 : Int32) (t0 : Int32) (S : zMd), ∀ (H : Heap) (locs : List Loc) (ls : Array Slot), fX8_law_j48 v1 v2 t0 S = some R → lv_has ls 4 [(0, .ref a0), (1, .int v1), (2, .int v2)] → zW K A s H locs (cMd K a0 a1 a2 a3 a4 a5 a6 a7 a8 a9 a10 a11 a12 a13 a14 a15 a16 a17 a18 a19 S) → W p l e ({ frames := 1, cells := 0, slots := 0, locals := 22 } : Room) s m ([.ref a0, .int p1, .int p2] : List Value).toArray below meth c H locs 0 0 Q (F0 m 48 ls [.int t0]) := by
    intro v1 v2 t0 S H locs ls hf hl hh
    unfold fX8_law_j48 at hf
    refine lv_istore_n (lv' := [(3, .int t0), (0, .ref a0), (1, .int v1), (2, .int v2)]) hx hb dX8_law_48 rfl hl (by decide) rfl (fun ls hl => ?_)
    refine lv_iload_n hx hb dX8_law_49 rfl (lv_at hl 2 rfl) ?_
    refine lv_if_ne (tgt := 61) hx hb dX8_law_50 (by decide) (fun c1 => ?_) (fun c1 => ?_)
    · replace hf := (if_neg c1).symm.trans hf
      refine lv_aload_n hx hb dX8_law_61 rfl (lv_at hl 1 rfl) ?_
      refine lv_iload_n hx hb dX8_law_62 rfl (lv_at hl 3 rfl) ?_
      refine zput (v := .int v2) (ty := .int) (ref := "SumOfTwoThatStandModel") (C := RX8) (T := TX8) (N := 33) (index := 111) X hh inX8_law_X8 tyX8 tyX8_ok nmX8 0 rfl rfl 11 (by decide) mmX8_law_0 rfl rfl (by decide +kernel) rfl rfl (Nat.le_of_ble_eq_true rfl) dX8_law_63 (fun H locs hh => ?_)
      have hh : zW K A s H locs (cMd K a0 a1 a2 a3 a4 a5 a6 a7 a8 a9 a10 a11 a12 a13 a14 a15 a16 a17 a18 a19 (md_set_falls S v2)) := hh
      refine lv_iload_n hx hb dX8_law_66 rfl (lv_at hl 0 rfl) ?_
      exact hr2 67 ls H locs t0 (md_set_falls S v2) hf dX8_law_67 hh
    · replace hf := (if_pos c1).symm.trans hf
      refine lv_aload_n hx hb dX8_law_53 rfl (lv_at hl 1 rfl) ?_
      refine lv_iload_n hx hb dX8_law_54 rfl (lv_at hl 3 rfl) ?_
      refine zput (v := .int v2) (ty := .int) (ref := "SumOfTwoThatStandModel") (C := RX8) (T := TX8) (N := 33) (index := 86) X hh inX8_law_X8 tyX8 tyX8_ok nmX8 0 rfl rfl 10 (by decide) mmX8_law_1 rfl rfl (by decide +kernel) rfl rfl (Nat.le_of_ble_eq_true rfl) dX8_law_55 (fun H locs hh => ?_)
      have hh : zW K A s H locs (cMd K a0 a1 a2 a3 a4 a5 a6 a7 a8 a9 a10 a11 a12 a13 a14 a15 a16 a17 a18 a19 (md_set_sums S v2)) := hh
      refine lv_goto (tgt := 66) hx hb dX8_law_58 (by decide) ?_
      refine lv_iload_n hx hb dX8_law_66 rfl (lv_at hl 0 rfl) ?_
      exact hr2 67 ls H locs t0 (md_set_sums S v2) hf dX8_law_67 hh
  have hJ26 : ∀ (S : zMd), ∀ (H : Heap) (locs : List Loc) (ls : Array Slot), fX8_law_j26 S = some R → lv_has ls 4 [(0, .ref a0)] → zW K A s H locs (cMd K a0 a1 a2 a3 a4 a5 a6 a7 a8 a9 a10 a11 a12 a13 a14 a15 a16 a17 a18 a19 S) → W p l e ({ frames := 1, cells := 0, slots := 0, locals := 22 } : Room) s m ([.ref a0, .int p1, .int p2] : List Value).toArray below meth c H locs 0 0 Q (F0 m 26 ls []) := by
    intro S H locs ls hf hl hh
    unfold fX8_law_j26 at hf
    refine lv_aload_n hx hb dX8_law_26 rfl (lv_at hl 0 rfl) ?_
    refine lv_bipush (v := (-2 : Int32)) hx hb dX8_law_27 (by decide) ?_
    obtain ⟨u2, hu2, hf⟩ := ob_bind hf
    refine zcallV (ci := 7) (q0 := 0) (As := [.int (-2 : Int32)]) (rest := []) (wr := []) (ws' := cMd K a0 a1 a2 a3 a4 a5 a6 a7 a8 a9 a10 a11 a12 a13 a14 a15 a16 a17 a18 a19 u2.2) (ov := some (.int u2.1)) X hh hl (kX8_no l K a0 a1 a2 a3 a4 a5 a6 a7 a8 a9 a10 a11 a12 a13 a14 a15 a16 a17 a18 a19 S (-2 : Int32) u2 hu2) (fun ht => cwV 1 ht gX8_law_X8_no rfl rfl rfl ⟨rfl, hdX8_no⟩ ⟨Nat.le_of_ble_eq_true rfl, Nat.le_of_ble_eq_true rfl⟩) [0, 1, 2, 3, 4, 5, 6, 7, 8, 9, 10, 11, 12, 13, 14, 15, 16, 17, 18, 19] [] [0, 1, 2, 3, 4, 5, 6, 7, 8, 9, 10, 11, 12, 13, 14, 15, 16, 17, 18, 19] rfl rfl rfl rfl (by decide) rfl rfl rfl rfl rfl rfl (Nat.le_of_ble_eq_true rfl) dX8_law_29 ⟨Nat.zero_le _, Nat.zero_le _⟩ (fun H locs hh => ?_)
    exact hr2 32 ls H locs u2.1 u2.2 hf dX8_law_32 hh
  have hJ20 : ∀ (v1 : Int32) (v2 : Int32) (t0 : Int32) (t1 : Int32) (t2 : Int32) (S : zMd), ∀ (H : Heap) (locs : List Loc) (ls : Array Slot), fX8_law_j20 v1 v2 t0 t1 t2 S = some R → lv_has ls 4 [(0, .ref a0), (1, .int v1), (2, .int v2)] → zW K A s H locs (cMd K a0 a1 a2 a3 a4 a5 a6 a7 a8 a9 a10 a11 a12 a13 a14 a15 a16 a17 a18 a19 S) → W p l e ({ frames := 1, cells := 0, slots := 0, locals := 22 } : Room) s m ([.ref a0, .int p1, .int p2] : List Value).toArray below meth c H locs 0 0 Q (F0 m 20 ls [.int t2, .int t1, .int t0]) := by
    intro v1 v2 t0 t1 t2 S H locs ls hf hl hh
    unfold fX8_law_j20 at hf
    refine zcallS (As := [.int t0, .int t1, .int t2]) (rest := []) (wr := cMd K a0 a1 a2 a3 a4 a5 a6 a7 a8 a9 a10 a11 a12 a13 a14 a15 a16 a17 a18 a19 S) (ws' := cMd K a0 a1 a2 a3 a4 a5 a6 a7 a8 a9 a10 a11 a12 a13 a14 a15 a16 a17 a18 a19 S) (ov := some (.int (fX8_isIn t0 t1 t2))) X hh hl (kX8_isIn l K t0 t1 t2 (fX8_isIn t0 t1 t2) rfl) (fun ht => va_cwS 3 ht gX8_law_X8_isIn rfl rfl rfl hdX8_isIn ⟨Nat.le_of_ble_eq_true rfl, Nat.le_of_ble_eq_true rfl⟩) [] [0, 1, 2, 3, 4, 5, 6, 7, 8, 9, 10, 11, 12, 13, 14, 15, 16, 17, 18, 19] [0, 1, 2, 3, 4, 5, 6, 7, 8, 9, 10, 11, 12, 13, 14, 15, 16, 17, 18, 19] rfl rfl rfl rfl (by decide) rfl rfl rfl rfl (Nat.le_of_ble_eq_true rfl) dX8_law_20 ⟨Nat.zero_le _, Nat.zero_le _⟩ (fun H locs hh => ?_)
    refine lv_if_ne (tgt := 33) hx hb dX8_law_23 (by decide) (fun c4 => ?_) (fun c4 => ?_)
    · replace hf := (if_neg c4).symm.trans hf
      refine lv_iload_n hx hb dX8_law_33 rfl (lv_at hl 1 rfl) ?_
      refine lv_if_ne (tgt := 44) hx hb dX8_law_34 (by decide) (fun c5 => ?_) (fun c5 => ?_)
      · replace hf := (if_neg c5).symm.trans hf
        refine lv_aload_n hx hb dX8_law_44 rfl (lv_at hl 0 rfl) ?_
        refine zget (v := .int (md_falls S)) (ref := "SumOfTwoThatStandModel") (C := RX8) (T := TX8) (N := 33) (index := 111) X hh inX8_law_X8 0 rfl rfl 11 (by decide) mmX8_law_0 rfl rfl dX8_law_45 ?_
        exact hJ48 v1 v2 (md_falls S) S H locs ls hf (lv_sub hl [0, 1, 2] rfl) hh
      · replace hf := (if_pos c5).symm.trans hf
        refine lv_aload_n hx hb dX8_law_37 rfl (lv_at hl 0 rfl) ?_
        refine zget (v := .int (md_sums S)) (ref := "SumOfTwoThatStandModel") (C := RX8) (T := TX8) (N := 33) (index := 86) X hh inX8_law_X8 0 rfl rfl 10 (by decide) mmX8_law_1 rfl rfl dX8_law_38 ?_
        refine lv_goto (tgt := 48) hx hb dX8_law_41 (by decide) ?_
        exact hJ48 v1 v2 (md_sums S) S H locs ls hf (lv_sub hl [0, 1, 2] rfl) hh
    · replace hf := (if_pos c4).symm.trans hf
      exact hJ26 S H locs ls hf (lv_sub hl [0] rfl) hh
  unfold fX8_law at hf
  refine (fun (hmain : ∀ (H : Heap) (locs : List Loc), zW K A s H locs (cMd K a0 a1 a2 a3 a4 a5 a6 a7 a8 a9 a10 a11 a12 a13 a14 a15 a16 a17 a18 a19 S) → W p l e ({ frames := 1, cells := 0, slots := 0, locals := 22 } : Room) s m ([.ref a0, .int p1, .int p2] : List Value).toArray below meth c H locs 0 0 Q (F0 m 0 ls [])) => hmain s.heap [] hh) (fun H locs hh => ?_)
  refine lv_iload_n hx hb dX8_law_0 rfl (lv_at hl 1 rfl) ?_
  refine lv_iconst (v := (0 : Int32)) hx hb dX8_law_1 (by decide) ?_
  refine lv_iconst (v := (1 : Int32)) hx hb dX8_law_2 (by decide) ?_
  refine zcallS (As := [.int p1, .int (0 : Int32), .int (1 : Int32)]) (rest := []) (wr := cMd K a0 a1 a2 a3 a4 a5 a6 a7 a8 a9 a10 a11 a12 a13 a14 a15 a16 a17 a18 a19 S) (ws' := cMd K a0 a1 a2 a3 a4 a5 a6 a7 a8 a9 a10 a11 a12 a13 a14 a15 a16 a17 a18 a19 S) (ov := some (.int (fX8_isIn p1 (0 : Int32) (1 : Int32)))) X hh hl (kX8_isIn l K p1 (0 : Int32) (1 : Int32) (fX8_isIn p1 (0 : Int32) (1 : Int32)) rfl) (fun ht => va_cwS 3 ht gX8_law_X8_isIn rfl rfl rfl hdX8_isIn ⟨Nat.le_of_ble_eq_true rfl, Nat.le_of_ble_eq_true rfl⟩) [] [0, 1, 2, 3, 4, 5, 6, 7, 8, 9, 10, 11, 12, 13, 14, 15, 16, 17, 18, 19] [0, 1, 2, 3, 4, 5, 6, 7, 8, 9, 10, 11, 12, 13, 14, 15, 16, 17, 18, 19] rfl rfl rfl rfl (by decide) rfl rfl rfl rfl (Nat.le_of_ble_eq_true rfl) dX8_law_3 ⟨Nat.zero_le _, Nat.zero_le _⟩ (fun H locs hh => ?_)
  refine lv_if_eq (tgt := 26) hx hb dX8_law_6 (by decide) (fun c7 => ?_) (fun c7 => ?_)
  · replace hf := (if_pos c7).symm.trans hf
    exact hJ26 S H locs ls hf (lv_sub hl [0] rfl) hh
  · replace hf := (if_neg c7).symm.trans hf
    refine lv_iload_n hx hb dX8_law_9 rfl (lv_at hl 2 rfl) ?_
    refine lv_iconst (v := (0 : Int32)) hx hb dX8_law_10 (by decide) ?_
    refine lv_iload_n hx hb dX8_law_11 rfl (lv_at hl 1 rfl) ?_
    refine lv_if_ne (tgt := 19) hx hb dX8_law_12 (by decide) (fun c8 => ?_) (fun c8 => ?_)
    · replace hf := (if_neg c8).symm.trans hf
      refine lv_iconst (v := (1 : Int32)) hx hb dX8_law_19 (by decide) ?_
      exact hJ20 p1 p2 p2 (0 : Int32) (1 : Int32) S H locs ls hf (lv_sub hl [0, 1, 2] rfl) hh
    · replace hf := (if_pos c8).symm.trans hf
      refine lv_iconst (v := (2 : Int32)) hx hb dX8_law_15 (by decide) ?_
      refine lv_goto (tgt := 20) hx hb dX8_law_16 (by decide) ?_
      exact hJ20 p1 p2 p2 (0 : Int32) (2 : Int32) S H locs ls hf (lv_sub hl [0, 1, 2] rfl) hh
def fX8_may_j42 (v1 : Int32) (v2 : Int32) (t0 : Int32) (S : zMd) : Option (Int32 × zMd) :=
  if t0 = (0 : Int32) then
  ((fX8_mayBe S v1 v2).bind fun u2 =>
  if u2 = (0 : Int32) then
  (some ((0 : Int32), S))
  else
  (some ((1 : Int32), S)))
  else
  ((fX8_no S t0).bind fun u4 =>
  some (u4.1, u4.2))
def fX8_may_j36 (v1 : Int32) (v2 : Int32) (S : zMd) : Option (Int32 × zMd) :=
  fX8_may_j42 v1 v2 (-3 : Int32) S
def fX8_may_j16 (v1 : Int32) (v2 : Int32) (S : zMd) : Option (Int32 × zMd) :=
  fX8_may_j42 v1 v2 (-1 : Int32) S
def fX8_may (S : zMd) (p1 : Int32) (p2 : Int32) : Option (Int32 × zMd) :=
  (fX8_isHouse S p1).bind fun u5 =>
  if u5 = (0 : Int32) then
  (fX8_may_j16 p1 p2 S)
  else
  ((fX8_isHouse S p2).bind fun u7 =>
  if u7 = (0 : Int32) then
  (fX8_may_j16 p1 p2 S)
  else
  ((fX8_doesStand S p1).bind fun u9 =>
  if u9 = (0 : Int32) then
  (fX8_may_j36 p1 p2 S)
  else
  ((fX8_doesStand S p2).bind fun u11 =>
  if u11 = (0 : Int32) then
  (fX8_may_j36 p1 p2 S)
  else
  (fX8_may_j42 p1 p2 (0 : Int32) S))))
theorem hdX8_may : yX8_may.cls ≠ "java/lang/invoke/MethodHandle" ∧ yX8_may.cls ≠ "java/lang/invoke/VarHandle" ∧ (parseMethodDescriptor yX8_may.desc).map (fun d => d.parameters.length) = some 2 := by decide +kernel
set_option maxHeartbeats 4000000 in
set_option maxRecDepth 100000 in
theorem kX8_may (l : Launch) (K : zK) (a0 a1 a2 a3 a4 a5 a6 a7 a8 a9 a10 a11 a12 a13 a14 a15 a16 a17 a18 a19 : Nat) (S : zMd) (p1 : Int32) (p2 : Int32) (R : Int32 × zMd) (hf : fX8_may S p1 p2 = some R) : zC l yX8_may wsX8_may ({ frames := 3, cells := 0, slots := 0, locals := 67 } : Room) K [.ref a0, .int p1, .int p2] (cMd K a0 a1 a2 a3 a4 a5 a6 a7 a8 a9 a10 a11 a12 a13 a14 a15 a16 a17 a18 a19 S) (some (.int R.1)) (cMd K a0 a1 a2 a3 a4 a5 a6 a7 a8 a9 a10 a11 a12 a13 a14 a15 a16 a17 a18 a19 R.2) := by
  refine zC_i R.1 (cc := cX8_may) (maxL := 4) (by decide +kernel) rfl (Nat.le_of_ble_eq_true rfl) rfl rfl ?_
  intro p e s m below meth c Q A X hret ls hl hh
  have X : zX p m c cX8_may 4 s ([.ref a0, .int p1, .int p2] : List Value).toArray wsX8_may RX8 K A := X
  have hx := X.1.1
  have hb := X.1.2.1
  have hr2 : ∀ (pc : Nat) (ls : Array Slot) (H : Heap) (locs : List Loc) (v : Int32) (S : zMd), some (v, S) = some R → decode cX8_may pc = .ok (.ireturn, 1) → zW K A s H locs (cMd K a0 a1 a2 a3 a4 a5 a6 a7 a8 a9 a10 a11 a12 a13 a14 a15 a16 a17 a18 a19 S) → W p l e ({ frames := 3, cells := 0, slots := 0, locals := 67 } : Room) s m ([.ref a0, .int p1, .int p2] : List Value).toArray below meth c H locs 0 0 Q (F0 m pc ls [.int v]) := by
    intro pc ls H locs v S h hd hh
    cases h; exact hret pc ls H locs _ rfl hd hh
  have hl : lv_has ls 4 [(0, .ref a0), (1, .int p1), (2, .int p2)] := hl
  have hJ42 : ∀ (v1 : Int32) (v2 : Int32) (t0 : Int32) (S : zMd), ∀ (H : Heap) (locs : List Loc) (ls : Array Slot), fX8_may_j42 v1 v2 t0 S = some R → lv_has ls 4 [(0, .ref a0), (1, .int v1), (2, .int v2)] → zW K A s H locs (cMd K a0 a1 a2 a3 a4 a5 a6 a7 a8 a9 a10 a11 a12 a13 a14 a15 a16 a17 a18 a19 S) → W p l e ({ frames := 3, cells := 0, slots := 0, locals := 67 } : Room) s m ([.ref a0, .int p1, .int p2] : List Value).toArray below meth c H locs 0 0 Q (F0 m 42 ls [.int t0]) := by
    intro v1 v2 t0 S H locs ls hf hl hh
    unfold fX8_may_j42 at hf
    refine lv_istore_n (lv' := [(3, .int t0), (0, .ref a0), (1, .int v1), (2, .int v2)]) hx hb dX8_may_42 rfl hl (by decide) rfl (fun ls hl => ?_)
    refine lv_iload_n hx hb dX8_may_43 rfl (lv_at hl 0 rfl) ?_
    refine lv_if_eq (tgt := 55) hx hb dX8_may_44 (by decide) (fun c1 => ?_) (fun c1 => ?_)
    · replace hf := (if_pos c1).symm.trans hf
      refine lv_aload_n hx hb dX8_may_55 rfl (lv_at hl 1 rfl) ?_
      refine lv_iload_n hx hb dX8_may_56 rfl (lv_at hl 2 rfl) ?_
      refine lv_iload_n hx hb dX8_may_57 rfl (lv_at hl 3 rfl) ?_
      obtain ⟨u2, hu2, hf⟩ := ob_bind hf
      refine zcallV (ci := 7) (q0 := 0) (As := [.int v1, .int v2]) (rest := []) (wr := []) (ws' := cMd K a0 a1 a2 a3 a4 a5 a6 a7 a8 a9 a10 a11 a12 a13 a14 a15 a16 a17 a18 a19 S) (ov := some (.int u2)) X hh hl (kX8_mayBe l K a0 a1 a2 a3 a4 a5 a6 a7 a8 a9 a10 a11 a12 a13 a14 a15 a16 a17 a18 a19 S v1 v2 u2 hu2) (fun ht => cwV 2 ht gX8_may_X8_mayBe rfl rfl rfl ⟨rfl, hdX8_mayBe⟩ ⟨Nat.le_of_ble_eq_true rfl, Nat.le_of_ble_eq_true rfl⟩) [0, 1, 2, 3, 4, 5, 6, 7, 8, 9, 10, 11, 12, 13, 14, 15, 16, 17, 18, 19] [] [0, 1, 2, 3, 4, 5, 6, 7, 8, 9, 10, 11, 12, 13, 14, 15, 16, 17, 18, 19] rfl rfl rfl rfl (by decide) rfl rfl rfl rfl rfl rfl (Nat.le_of_ble_eq_true rfl) dX8_may_58 ⟨Nat.zero_le _, Nat.zero_le _⟩ (fun H locs hh => ?_)
      refine lv_if_eq (tgt := 68) hx hb dX8_may_61 (by decide) (fun c3 => ?_) (fun c3 => ?_)
      · replace hf := (if_pos c3).symm.trans hf
        refine lv_iconst (v := (0 : Int32)) hx hb dX8_may_68 (by decide) ?_
        exact hr2 69 ls H locs (0 : Int32) S hf dX8_may_69 hh
      · replace hf := (if_neg c3).symm.trans hf
        refine lv_iconst (v := (1 : Int32)) hx hb dX8_may_64 (by decide) ?_
        refine lv_goto (tgt := 69) hx hb dX8_may_65 (by decide) ?_
        exact hr2 69 ls H locs (1 : Int32) S hf dX8_may_69 hh
    · replace hf := (if_neg c1).symm.trans hf
      refine lv_aload_n hx hb dX8_may_47 rfl (lv_at hl 1 rfl) ?_
      refine lv_iload_n hx hb dX8_may_48 rfl (lv_at hl 0 rfl) ?_
      obtain ⟨u4, hu4, hf⟩ := ob_bind hf
      refine zcallV (ci := 7) (q0 := 0) (As := [.int t0]) (rest := []) (wr := []) (ws' := cMd K a0 a1 a2 a3 a4 a5 a6 a7 a8 a9 a10 a11 a12 a13 a14 a15 a16 a17 a18 a19 u4.2) (ov := some (.int u4.1)) X hh hl (kX8_no l K a0 a1 a2 a3 a4 a5 a6 a7 a8 a9 a10 a11 a12 a13 a14 a15 a16 a17 a18 a19 S t0 u4 hu4) (fun ht => cwV 1 ht gX8_may_X8_no rfl rfl rfl ⟨rfl, hdX8_no⟩ ⟨Nat.le_of_ble_eq_true rfl, Nat.le_of_ble_eq_true rfl⟩) [0, 1, 2, 3, 4, 5, 6, 7, 8, 9, 10, 11, 12, 13, 14, 15, 16, 17, 18, 19] [] [0, 1, 2, 3, 4, 5, 6, 7, 8, 9, 10, 11, 12, 13, 14, 15, 16, 17, 18, 19] rfl rfl rfl rfl (by decide) rfl rfl rfl rfl rfl rfl (Nat.le_of_ble_eq_true rfl) dX8_may_49 ⟨Nat.zero_le _, Nat.zero_le _⟩ (fun H locs hh => ?_)
      refine lv_goto (tgt := 69) hx hb dX8_may_52 (by decide) ?_
      exact hr2 69 ls H locs u4.1 u4.2 hf dX8_may_69 hh
  have hJ36 : ∀ (v1 : Int32) (v2 : Int32) (S : zMd), ∀ (H : Heap) (locs : List Loc) (ls : Array Slot), fX8_may_j36 v1 v2 S = some R → lv_has ls 4 [(0, .ref a0), (1, .int v1), (2, .int v2)] → zW K A s H locs (cMd K a0 a1 a2 a3 a4 a5 a6 a7 a8 a9 a10 a11 a12 a13 a14 a15 a16 a17 a18 a19 S) → W p l e ({ frames := 3, cells := 0, slots := 0, locals := 67 } : Room) s m ([.ref a0, .int p1, .int p2] : List Value).toArray below meth c H locs 0 0 Q (F0 m 36 ls []) := by
    intro v1 v2 S H locs ls hf hl hh
    unfold fX8_may_j36 at hf
    refine lv_bipush (v := (-3 : Int32)) hx hb dX8_may_36 (by decide) ?_
    refine lv_goto (tgt := 42) hx hb dX8_may_38 (by decide) ?_
    exact hJ42 v1 v2 (-3 : Int32) S H locs ls hf (lv_sub hl [0, 1, 2] rfl) hh
  have hJ16 : ∀ (v1 : Int32) (v2 : Int32) (S : zMd), ∀ (H : Heap) (locs : List Loc) (ls : Array Slot), fX8_may_j16 v1 v2 S = some R → lv_has ls 4 [(0, .ref a0), (1, .int v1), (2, .int v2)] → zW K A s H locs (cMd K a0 a1 a2 a3 a4 a5 a6 a7 a8 a9 a10 a11 a12 a13 a14 a15 a16 a17 a18 a19 S) → W p l e ({ frames := 3, cells := 0, slots := 0, locals := 67 } : Room) s m ([.ref a0, .int p1, .int p2] : List Value).toArray below meth c H locs 0 0 Q (F0 m 16 ls []) := by
    intro v1 v2 S H locs ls hf hl hh
    unfold fX8_may_j16 at hf
    refine lv_iconst (v := (-1 : Int32)) hx hb dX8_may_16 (by decide) ?_
    refine lv_goto (tgt := 42) hx hb dX8_may_17 (by decide) ?_
    exact hJ42 v1 v2 (-1 : Int32) S H locs ls hf (lv_sub hl [0, 1, 2] rfl) hh
  unfold fX8_may at hf
  refine (fun (hmain : ∀ (H : Heap) (locs : List Loc), zW K A s H locs (cMd K a0 a1 a2 a3 a4 a5 a6 a7 a8 a9 a10 a11 a12 a13 a14 a15 a16 a17 a18 a19 S) → W p l e ({ frames := 3, cells := 0, slots := 0, locals := 67 } : Room) s m ([.ref a0, .int p1, .int p2] : List Value).toArray below meth c H locs 0 0 Q (F0 m 0 ls [])) => hmain s.heap [] hh) (fun H locs hh => ?_)
  refine lv_aload_n hx hb dX8_may_0 rfl (lv_at hl 0 rfl) ?_
  refine lv_iload_n hx hb dX8_may_1 rfl (lv_at hl 1 rfl) ?_
  obtain ⟨u5, hu5, hf⟩ := ob_bind hf
  refine zcallV (ci := 7) (q0 := 0) (As := [.int p1]) (rest := []) (wr := []) (ws' := cMd K a0 a1 a2 a3 a4 a5 a6 a7 a8 a9 a10 a11 a12 a13 a14 a15 a16 a17 a18 a19 S) (ov := some (.int u5)) X hh hl (kX8_isHouse l K a0 a1 a2 a3 a4 a5 a6 a7 a8 a9 a10 a11 a12 a13 a14 a15 a16 a17 a18 a19 S p1 u5 hu5) (fun ht => cwV 1 ht gX8_may_X8_isHouse rfl rfl rfl ⟨rfl, hdX8_isHouse⟩ ⟨Nat.le_of_ble_eq_true rfl, Nat.le_of_ble_eq_true rfl⟩) [0, 1, 2, 3, 4, 5, 6, 7, 8, 9, 10, 11, 12, 13, 14, 15, 16, 17, 18, 19] [] [0, 1, 2, 3, 4, 5, 6, 7, 8, 9, 10, 11, 12, 13, 14, 15, 16, 17, 18, 19] rfl rfl rfl rfl (by decide) rfl rfl rfl rfl rfl rfl (Nat.le_of_ble_eq_true rfl) dX8_may_2 ⟨Nat.zero_le _, Nat.zero_le _⟩ (fun H locs hh => ?_)
  refine lv_if_eq (tgt := 16) hx hb dX8_may_5 (by decide) (fun c6 => ?_) (fun c6 => ?_)
  · replace hf := (if_pos c6).symm.trans hf
    exact hJ16 p1 p2 S H locs ls hf (lv_sub hl [0, 1, 2] rfl) hh
  · replace hf := (if_neg c6).symm.trans hf
    refine lv_aload_n hx hb dX8_may_8 rfl (lv_at hl 0 rfl) ?_
    refine lv_iload_n hx hb dX8_may_9 rfl (lv_at hl 2 rfl) ?_
    obtain ⟨u7, hu7, hf⟩ := ob_bind hf
    refine zcallV (ci := 7) (q0 := 0) (As := [.int p2]) (rest := []) (wr := []) (ws' := cMd K a0 a1 a2 a3 a4 a5 a6 a7 a8 a9 a10 a11 a12 a13 a14 a15 a16 a17 a18 a19 S) (ov := some (.int u7)) X hh hl (kX8_isHouse l K a0 a1 a2 a3 a4 a5 a6 a7 a8 a9 a10 a11 a12 a13 a14 a15 a16 a17 a18 a19 S p2 u7 hu7) (fun ht => cwV 1 ht gX8_may_X8_isHouse rfl rfl rfl ⟨rfl, hdX8_isHouse⟩ ⟨Nat.le_of_ble_eq_true rfl, Nat.le_of_ble_eq_true rfl⟩) [0, 1, 2, 3, 4, 5, 6, 7, 8, 9, 10, 11, 12, 13, 14, 15, 16, 17, 18, 19] [] [0, 1, 2, 3, 4, 5, 6, 7, 8, 9, 10, 11, 12, 13, 14, 15, 16, 17, 18, 19] rfl rfl rfl rfl (by decide) rfl rfl rfl rfl rfl rfl (Nat.le_of_ble_eq_true rfl) dX8_may_10 ⟨Nat.zero_le _, Nat.zero_le _⟩ (fun H locs hh => ?_)
    refine lv_if_ne (tgt := 20) hx hb dX8_may_13 (by decide) (fun c8 => ?_) (fun c8 => ?_)
    · replace hf := (if_neg c8).symm.trans hf
      refine lv_aload_n hx hb dX8_may_20 rfl (lv_at hl 0 rfl) ?_
      refine lv_iload_n hx hb dX8_may_21 rfl (lv_at hl 1 rfl) ?_
      obtain ⟨u9, hu9, hf⟩ := ob_bind hf
      refine zcallV (ci := 7) (q0 := 0) (As := [.int p1]) (rest := []) (wr := []) (ws' := cMd K a0 a1 a2 a3 a4 a5 a6 a7 a8 a9 a10 a11 a12 a13 a14 a15 a16 a17 a18 a19 S) (ov := some (.int u9)) X hh hl (kX8_doesStand l K a0 a1 a2 a3 a4 a5 a6 a7 a8 a9 a10 a11 a12 a13 a14 a15 a16 a17 a18 a19 S p1 u9 hu9) (fun ht => cwV 1 ht gX8_may_X8_doesStand rfl rfl rfl ⟨rfl, hdX8_doesStand⟩ ⟨Nat.le_of_ble_eq_true rfl, Nat.le_of_ble_eq_true rfl⟩) [0, 1, 2, 3, 4, 5, 6, 7, 8, 9, 10, 11, 12, 13, 14, 15, 16, 17, 18, 19] [] [0, 1, 2, 3, 4, 5, 6, 7, 8, 9, 10, 11, 12, 13, 14, 15, 16, 17, 18, 19] rfl rfl rfl rfl (by decide) rfl rfl rfl rfl rfl rfl (Nat.le_of_ble_eq_true rfl) dX8_may_22 ⟨Nat.zero_le _, Nat.zero_le _⟩ (fun H locs hh => ?_)
      refine lv_if_eq (tgt := 36) hx hb dX8_may_25 (by decide) (fun c10 => ?_) (fun c10 => ?_)
      · replace hf := (if_pos c10).symm.trans hf
        exact hJ36 p1 p2 S H locs ls hf (lv_sub hl [0, 1, 2] rfl) hh
      · replace hf := (if_neg c10).symm.trans hf
        refine lv_aload_n hx hb dX8_may_28 rfl (lv_at hl 0 rfl) ?_
        refine lv_iload_n hx hb dX8_may_29 rfl (lv_at hl 2 rfl) ?_
        obtain ⟨u11, hu11, hf⟩ := ob_bind hf
        refine zcallV (ci := 7) (q0 := 0) (As := [.int p2]) (rest := []) (wr := []) (ws' := cMd K a0 a1 a2 a3 a4 a5 a6 a7 a8 a9 a10 a11 a12 a13 a14 a15 a16 a17 a18 a19 S) (ov := some (.int u11)) X hh hl (kX8_doesStand l K a0 a1 a2 a3 a4 a5 a6 a7 a8 a9 a10 a11 a12 a13 a14 a15 a16 a17 a18 a19 S p2 u11 hu11) (fun ht => cwV 1 ht gX8_may_X8_doesStand rfl rfl rfl ⟨rfl, hdX8_doesStand⟩ ⟨Nat.le_of_ble_eq_true rfl, Nat.le_of_ble_eq_true rfl⟩) [0, 1, 2, 3, 4, 5, 6, 7, 8, 9, 10, 11, 12, 13, 14, 15, 16, 17, 18, 19] [] [0, 1, 2, 3, 4, 5, 6, 7, 8, 9, 10, 11, 12, 13, 14, 15, 16, 17, 18, 19] rfl rfl rfl rfl (by decide) rfl rfl rfl rfl rfl rfl (Nat.le_of_ble_eq_true rfl) dX8_may_30 ⟨Nat.zero_le _, Nat.zero_le _⟩ (fun H locs hh => ?_)
        refine lv_if_ne (tgt := 41) hx hb dX8_may_33 (by decide) (fun c12 => ?_) (fun c12 => ?_)
        · replace hf := (if_neg c12).symm.trans hf
          refine lv_iconst (v := (0 : Int32)) hx hb dX8_may_41 (by decide) ?_
          exact hJ42 p1 p2 (0 : Int32) S H locs ls hf (lv_sub hl [0, 1, 2] rfl) hh
        · replace hf := (if_pos c12).symm.trans hf
          exact hJ36 p1 p2 S H locs ls hf (lv_sub hl [0, 1, 2] rfl) hh
    · replace hf := (if_pos c8).symm.trans hf
      exact hJ16 p1 p2 S H locs ls hf (lv_sub hl [0, 1, 2] rfl) hh
def fX8_canBe (S : zMd) (p1 : Int32) (p2 : Int32) : Option (Int32) :=
  (fX8_doesStand S p1).bind fun u1 =>
  if u1 = (0 : Int32) then
  (some (0 : Int32))
  else
  ((fX8_doesStand S p2).bind fun u3 =>
  if u3 = (0 : Int32) then
  (some (0 : Int32))
  else
  ((fX8_mayBe S p1 p2).bind fun u5 =>
  if u5 = (0 : Int32) then
  (some (0 : Int32))
  else
  (some (1 : Int32))))
theorem hdX8_canBe : yX8_canBe.cls ≠ "java/lang/invoke/MethodHandle" ∧ yX8_canBe.cls ≠ "java/lang/invoke/VarHandle" ∧ (parseMethodDescriptor yX8_canBe.desc).map (fun d => d.parameters.length) = some 2 := by decide +kernel
set_option maxHeartbeats 4000000 in
set_option maxRecDepth 100000 in
theorem kX8_canBe (l : Launch) (K : zK) (a0 a1 a2 a3 a4 a5 a6 a7 a8 a9 a10 a11 a12 a13 a14 a15 a16 a17 a18 a19 : Nat) (S : zMd) (p1 : Int32) (p2 : Int32) (R : Int32) (hf : fX8_canBe S p1 p2 = some R) : zC l yX8_canBe wsX8_canBe ({ frames := 3, cells := 0, slots := 0, locals := 67 } : Room) K [.ref a0, .int p1, .int p2] (cMd K a0 a1 a2 a3 a4 a5 a6 a7 a8 a9 a10 a11 a12 a13 a14 a15 a16 a17 a18 a19 S) (some (.int R)) (cMd K a0 a1 a2 a3 a4 a5 a6 a7 a8 a9 a10 a11 a12 a13 a14 a15 a16 a17 a18 a19 S) := by
  refine zC_z .boolean R (cc := cX8_canBe) (maxL := 3) (by decide +kernel) rfl (Nat.le_of_ble_eq_true rfl) rfl rfl ?_
  intro p e s m below meth c Q A X hret ls hl hh
  have X : zX p m c cX8_canBe 3 s ([.ref a0, .int p1, .int p2] : List Value).toArray wsX8_canBe RX8 K A := X
  have hx := X.1.1
  have hb := X.1.2.1
  have hr2 : ∀ (pc : Nat) (ls : Array Slot) (H : Heap) (locs : List Loc) (v : Int32), some v = some R → narrow .boolean (.int v) = .int v → decode cX8_canBe pc = .ok (.ireturn, 1) → zW K A s H locs (cMd K a0 a1 a2 a3 a4 a5 a6 a7 a8 a9 a10 a11 a12 a13 a14 a15 a16 a17 a18 a19 S) → W p l e ({ frames := 3, cells := 0, slots := 0, locals := 67 } : Room) s m ([.ref a0, .int p1, .int p2] : List Value).toArray below meth c H locs 0 0 Q (F0 m pc ls [.int v]) := by
    intro pc ls H locs v h hn hd hh
    cases h; exact hret pc ls H locs _ rfl hn hd hh
  have hl : lv_has ls 3 [(0, .ref a0), (1, .int p1), (2, .int p2)] := hl
  unfold fX8_canBe at hf
  refine (fun (hmain : ∀ (H : Heap) (locs : List Loc), zW K A s H locs (cMd K a0 a1 a2 a3 a4 a5 a6 a7 a8 a9 a10 a11 a12 a13 a14 a15 a16 a17 a18 a19 S) → W p l e ({ frames := 3, cells := 0, slots := 0, locals := 67 } : Room) s m ([.ref a0, .int p1, .int p2] : List Value).toArray below meth c H locs 0 0 Q (F0 m 0 ls [])) => hmain s.heap [] hh) (fun H locs hh => ?_)
  refine lv_aload_n hx hb dX8_canBe_0 rfl (lv_at hl 0 rfl) ?_
  refine lv_iload_n hx hb dX8_canBe_1 rfl (lv_at hl 1 rfl) ?_
  obtain ⟨u1, hu1, hf⟩ := ob_bind hf
  refine zcallV (ci := 7) (q0 := 0) (As := [.int p1]) (rest := []) (wr := []) (ws' := cMd K a0 a1 a2 a3 a4 a5 a6 a7 a8 a9 a10 a11 a12 a13 a14 a15 a16 a17 a18 a19 S) (ov := some (.int u1)) X hh hl (kX8_doesStand l K a0 a1 a2 a3 a4 a5 a6 a7 a8 a9 a10 a11 a12 a13 a14 a15 a16 a17 a18 a19 S p1 u1 hu1) (fun ht => cwV 1 ht gX8_canBe_X8_doesStand rfl rfl rfl ⟨rfl, hdX8_doesStand⟩ ⟨Nat.le_of_ble_eq_true rfl, Nat.le_of_ble_eq_true rfl⟩) [0, 1, 2, 3, 4, 5, 6, 7, 8, 9, 10, 11, 12, 13, 14, 15, 16, 17, 18, 19] [] [0, 1, 2, 3, 4, 5, 6, 7, 8, 9, 10, 11, 12, 13, 14, 15, 16, 17, 18, 19] rfl rfl rfl rfl (by decide) rfl rfl rfl rfl rfl rfl (Nat.le_of_ble_eq_true rfl) dX8_canBe_2 ⟨Nat.zero_le _, Nat.zero_le _⟩ (fun H locs hh => ?_)
  refine lv_if_eq (tgt := 29) hx hb dX8_canBe_5 (by decide) (fun c2 => ?_) (fun c2 => ?_)
  · replace hf := (if_pos c2).symm.trans hf
    refine lv_iconst (v := (0 : Int32)) hx hb dX8_canBe_29 (by decide) ?_
    exact hr2 30 ls H locs (0 : Int32) hf rfl dX8_canBe_30 hh
  · replace hf := (if_neg c2).symm.trans hf
    refine lv_aload_n hx hb dX8_canBe_8 rfl (lv_at hl 0 rfl) ?_
    refine lv_iload_n hx hb dX8_canBe_9 rfl (lv_at hl 2 rfl) ?_
    obtain ⟨u3, hu3, hf⟩ := ob_bind hf
    refine zcallV (ci := 7) (q0 := 0) (As := [.int p2]) (rest := []) (wr := []) (ws' := cMd K a0 a1 a2 a3 a4 a5 a6 a7 a8 a9 a10 a11 a12 a13 a14 a15 a16 a17 a18 a19 S) (ov := some (.int u3)) X hh hl (kX8_doesStand l K a0 a1 a2 a3 a4 a5 a6 a7 a8 a9 a10 a11 a12 a13 a14 a15 a16 a17 a18 a19 S p2 u3 hu3) (fun ht => cwV 1 ht gX8_canBe_X8_doesStand rfl rfl rfl ⟨rfl, hdX8_doesStand⟩ ⟨Nat.le_of_ble_eq_true rfl, Nat.le_of_ble_eq_true rfl⟩) [0, 1, 2, 3, 4, 5, 6, 7, 8, 9, 10, 11, 12, 13, 14, 15, 16, 17, 18, 19] [] [0, 1, 2, 3, 4, 5, 6, 7, 8, 9, 10, 11, 12, 13, 14, 15, 16, 17, 18, 19] rfl rfl rfl rfl (by decide) rfl rfl rfl rfl rfl rfl (Nat.le_of_ble_eq_true rfl) dX8_canBe_10 ⟨Nat.zero_le _, Nat.zero_le _⟩ (fun H locs hh => ?_)
    refine lv_if_eq (tgt := 29) hx hb dX8_canBe_13 (by decide) (fun c4 => ?_) (fun c4 => ?_)
    · replace hf := (if_pos c4).symm.trans hf
      refine lv_iconst (v := (0 : Int32)) hx hb dX8_canBe_29 (by decide) ?_
      exact hr2 30 ls H locs (0 : Int32) hf rfl dX8_canBe_30 hh
    · replace hf := (if_neg c4).symm.trans hf
      refine lv_aload_n hx hb dX8_canBe_16 rfl (lv_at hl 0 rfl) ?_
      refine lv_iload_n hx hb dX8_canBe_17 rfl (lv_at hl 1 rfl) ?_
      refine lv_iload_n hx hb dX8_canBe_18 rfl (lv_at hl 2 rfl) ?_
      obtain ⟨u5, hu5, hf⟩ := ob_bind hf
      refine zcallV (ci := 7) (q0 := 0) (As := [.int p1, .int p2]) (rest := []) (wr := []) (ws' := cMd K a0 a1 a2 a3 a4 a5 a6 a7 a8 a9 a10 a11 a12 a13 a14 a15 a16 a17 a18 a19 S) (ov := some (.int u5)) X hh hl (kX8_mayBe l K a0 a1 a2 a3 a4 a5 a6 a7 a8 a9 a10 a11 a12 a13 a14 a15 a16 a17 a18 a19 S p1 p2 u5 hu5) (fun ht => cwV 2 ht gX8_canBe_X8_mayBe rfl rfl rfl ⟨rfl, hdX8_mayBe⟩ ⟨Nat.le_of_ble_eq_true rfl, Nat.le_of_ble_eq_true rfl⟩) [0, 1, 2, 3, 4, 5, 6, 7, 8, 9, 10, 11, 12, 13, 14, 15, 16, 17, 18, 19] [] [0, 1, 2, 3, 4, 5, 6, 7, 8, 9, 10, 11, 12, 13, 14, 15, 16, 17, 18, 19] rfl rfl rfl rfl (by decide) rfl rfl rfl rfl rfl rfl (Nat.le_of_ble_eq_true rfl) dX8_canBe_19 ⟨Nat.zero_le _, Nat.zero_le _⟩ (fun H locs hh => ?_)
      refine lv_if_eq (tgt := 29) hx hb dX8_canBe_22 (by decide) (fun c6 => ?_) (fun c6 => ?_)
      · replace hf := (if_pos c6).symm.trans hf
        refine lv_iconst (v := (0 : Int32)) hx hb dX8_canBe_29 (by decide) ?_
        exact hr2 30 ls H locs (0 : Int32) hf rfl dX8_canBe_30 hh
      · replace hf := (if_neg c6).symm.trans hf
        refine lv_iconst (v := (1 : Int32)) hx hb dX8_canBe_25 (by decide) ?_
        refine lv_goto (tgt := 30) hx hb dX8_canBe_26 (by decide) ?_
        exact hr2 30 ls H locs (1 : Int32) hf rfl dX8_canBe_30 hh
def fX8_cost_j35 (v1 : Int32) (v2 : Int32) (t0 : Int32) (S : zMd) : Option (Int32 × zMd) :=
  if t0 = (0 : Int32) then
  ((fX8_fee S v1).bind fun u2 =>
  (fX8_fee S v2).bind fun u3 =>
  some ((u2 + u3), S))
  else
  ((fX8_no S t0).bind fun u4 =>
  some (u4.1, u4.2))
def fX8_cost_j16 (v1 : Int32) (v2 : Int32) (S : zMd) : Option (Int32 × zMd) :=
  fX8_cost_j35 v1 v2 (-1 : Int32) S
def fX8_cost (S : zMd) (p1 : Int32) (p2 : Int32) : Option (Int32 × zMd) :=
  (fX8_isHouse S p1).bind fun u5 =>
  if u5 = (0 : Int32) then
  (fX8_cost_j16 p1 p2 S)
  else
  ((fX8_isHouse S p2).bind fun u7 =>
  if u7 = (0 : Int32) then
  (fX8_cost_j16 p1 p2 S)
  else
  ((fX8_canBe S p1 p2).bind fun u9 =>
  if u9 = (0 : Int32) then
  (fX8_cost_j35 p1 p2 (-3 : Int32) S)
  else
  (fX8_cost_j35 p1 p2 (0 : Int32) S)))
theorem hdX8_cost : yX8_cost.cls ≠ "java/lang/invoke/MethodHandle" ∧ yX8_cost.cls ≠ "java/lang/invoke/VarHandle" ∧ (parseMethodDescriptor yX8_cost.desc).map (fun d => d.parameters.length) = some 2 := by decide +kernel
set_option maxHeartbeats 4000000 in
set_option maxRecDepth 100000 in
theorem kX8_cost (l : Launch) (K : zK) (a0 a1 a2 a3 a4 a5 a6 a7 a8 a9 a10 a11 a12 a13 a14 a15 a16 a17 a18 a19 : Nat) (S : zMd) (p1 : Int32) (p2 : Int32) (R : Int32 × zMd) (hf : fX8_cost S p1 p2 = some R) : zC l yX8_cost wsX8_cost ({ frames := 4, cells := 0, slots := 0, locals := 89 } : Room) K [.ref a0, .int p1, .int p2] (cMd K a0 a1 a2 a3 a4 a5 a6 a7 a8 a9 a10 a11 a12 a13 a14 a15 a16 a17 a18 a19 S) (some (.int R.1)) (cMd K a0 a1 a2 a3 a4 a5 a6 a7 a8 a9 a10 a11 a12 a13 a14 a15 a16 a17 a18 a19 R.2) := by
  refine zC_i R.1 (cc := cX8_cost) (maxL := 4) (by decide +kernel) rfl (Nat.le_of_ble_eq_true rfl) rfl rfl ?_
  intro p e s m below meth c Q A X hret ls hl hh
  have X : zX p m c cX8_cost 4 s ([.ref a0, .int p1, .int p2] : List Value).toArray wsX8_cost RX8 K A := X
  have hx := X.1.1
  have hb := X.1.2.1
  have hr2 : ∀ (pc : Nat) (ls : Array Slot) (H : Heap) (locs : List Loc) (v : Int32) (S : zMd), some (v, S) = some R → decode cX8_cost pc = .ok (.ireturn, 1) → zW K A s H locs (cMd K a0 a1 a2 a3 a4 a5 a6 a7 a8 a9 a10 a11 a12 a13 a14 a15 a16 a17 a18 a19 S) → W p l e ({ frames := 4, cells := 0, slots := 0, locals := 89 } : Room) s m ([.ref a0, .int p1, .int p2] : List Value).toArray below meth c H locs 0 0 Q (F0 m pc ls [.int v]) := by
    intro pc ls H locs v S h hd hh
    cases h; exact hret pc ls H locs _ rfl hd hh
  have hl : lv_has ls 4 [(0, .ref a0), (1, .int p1), (2, .int p2)] := hl
  have hJ35 : ∀ (v1 : Int32) (v2 : Int32) (t0 : Int32) (S : zMd), ∀ (H : Heap) (locs : List Loc) (ls : Array Slot), fX8_cost_j35 v1 v2 t0 S = some R → lv_has ls 4 [(0, .ref a0), (1, .int v1), (2, .int v2)] → zW K A s H locs (cMd K a0 a1 a2 a3 a4 a5 a6 a7 a8 a9 a10 a11 a12 a13 a14 a15 a16 a17 a18 a19 S) → W p l e ({ frames := 4, cells := 0, slots := 0, locals := 89 } : Room) s m ([.ref a0, .int p1, .int p2] : List Value).toArray below meth c H locs 0 0 Q (F0 m 35 ls [.int t0]) := by
    intro v1 v2 t0 S H locs ls hf hl hh
    unfold fX8_cost_j35 at hf
    refine lv_istore_n (lv' := [(3, .int t0), (0, .ref a0), (1, .int v1), (2, .int v2)]) hx hb dX8_cost_35 rfl hl (by decide) rfl (fun ls hl => ?_)
    refine lv_iload_n hx hb dX8_cost_36 rfl (lv_at hl 0 rfl) ?_
    refine lv_if_eq (tgt := 48) hx hb dX8_cost_37 (by decide) (fun c1 => ?_) (fun c1 => ?_)
    · replace hf := (if_pos c1).symm.trans hf
      refine lv_aload_n hx hb dX8_cost_48 rfl (lv_at hl 1 rfl) ?_
      refine lv_iload_n hx hb dX8_cost_49 rfl (lv_at hl 2 rfl) ?_
      obtain ⟨u2, hu2, hf⟩ := ob_bind hf
      refine zcallV (ci := 7) (q0 := 0) (As := [.int v1]) (rest := []) (wr := []) (ws' := cMd K a0 a1 a2 a3 a4 a5 a6 a7 a8 a9 a10 a11 a12 a13 a14 a15 a16 a17 a18 a19 S) (ov := some (.int u2)) X hh hl (kX8_fee l K a0 a1 a2 a3 a4 a5 a6 a7 a8 a9 a10 a11 a12 a13 a14 a15 a16 a17 a18 a19 S v1 u2 hu2) (fun ht => cwV 1 ht gX8_cost_X8_fee rfl rfl rfl ⟨rfl, hdX8_fee⟩ ⟨Nat.le_of_ble_eq_true rfl, Nat.le_of_ble_eq_true rfl⟩) [0, 1, 2, 3, 4, 5, 6, 7, 8, 9, 10, 11, 12, 13, 14, 15, 16, 17, 18, 19] [] [0, 1, 2, 3, 4, 5, 6, 7, 8, 9, 10, 11, 12, 13, 14, 15, 16, 17, 18, 19] rfl rfl rfl rfl (by decide) rfl rfl rfl rfl rfl rfl (Nat.le_of_ble_eq_true rfl) dX8_cost_50 ⟨Nat.zero_le _, Nat.zero_le _⟩ (fun H locs hh => ?_)
      refine lv_aload_n hx hb dX8_cost_53 rfl (lv_at hl 1 rfl) ?_
      refine lv_iload_n hx hb dX8_cost_54 rfl (lv_at hl 3 rfl) ?_
      obtain ⟨u3, hu3, hf⟩ := ob_bind hf
      refine zcallV (ci := 7) (q0 := 0) (As := [.int v2]) (rest := [.int u2]) (wr := []) (ws' := cMd K a0 a1 a2 a3 a4 a5 a6 a7 a8 a9 a10 a11 a12 a13 a14 a15 a16 a17 a18 a19 S) (ov := some (.int u3)) X hh hl (kX8_fee l K a0 a1 a2 a3 a4 a5 a6 a7 a8 a9 a10 a11 a12 a13 a14 a15 a16 a17 a18 a19 S v2 u3 hu3) (fun ht => cwV 1 ht gX8_cost_X8_fee rfl rfl rfl ⟨rfl, hdX8_fee⟩ ⟨Nat.le_of_ble_eq_true rfl, Nat.le_of_ble_eq_true rfl⟩) [0, 1, 2, 3, 4, 5, 6, 7, 8, 9, 10, 11, 12, 13, 14, 15, 16, 17, 18, 19] [] [0, 1, 2, 3, 4, 5, 6, 7, 8, 9, 10, 11, 12, 13, 14, 15, 16, 17, 18, 19] rfl rfl rfl rfl (by decide) rfl rfl rfl rfl rfl rfl (Nat.le_of_ble_eq_true rfl) dX8_cost_55 ⟨Nat.zero_le _, Nat.zero_le _⟩ (fun H locs hh => ?_)
      refine lv_iadd hx hb dX8_cost_58 ?_
      exact hr2 59 ls H locs (u2 + u3) S hf dX8_cost_59 hh
    · replace hf := (if_neg c1).symm.trans hf
      refine lv_aload_n hx hb dX8_cost_40 rfl (lv_at hl 1 rfl) ?_
      refine lv_iload_n hx hb dX8_cost_41 rfl (lv_at hl 0 rfl) ?_
      obtain ⟨u4, hu4, hf⟩ := ob_bind hf
      refine zcallV (ci := 7) (q0 := 0) (As := [.int t0]) (rest := []) (wr := []) (ws' := cMd K a0 a1 a2 a3 a4 a5 a6 a7 a8 a9 a10 a11 a12 a13 a14 a15 a16 a17 a18 a19 u4.2) (ov := some (.int u4.1)) X hh hl (kX8_no l K a0 a1 a2 a3 a4 a5 a6 a7 a8 a9 a10 a11 a12 a13 a14 a15 a16 a17 a18 a19 S t0 u4 hu4) (fun ht => cwV 1 ht gX8_cost_X8_no rfl rfl rfl ⟨rfl, hdX8_no⟩ ⟨Nat.le_of_ble_eq_true rfl, Nat.le_of_ble_eq_true rfl⟩) [0, 1, 2, 3, 4, 5, 6, 7, 8, 9, 10, 11, 12, 13, 14, 15, 16, 17, 18, 19] [] [0, 1, 2, 3, 4, 5, 6, 7, 8, 9, 10, 11, 12, 13, 14, 15, 16, 17, 18, 19] rfl rfl rfl rfl (by decide) rfl rfl rfl rfl rfl rfl (Nat.le_of_ble_eq_true rfl) dX8_cost_42 ⟨Nat.zero_le _, Nat.zero_le _⟩ (fun H locs hh => ?_)
      refine lv_goto (tgt := 59) hx hb dX8_cost_45 (by decide) ?_
      exact hr2 59 ls H locs u4.1 u4.2 hf dX8_cost_59 hh
  have hJ16 : ∀ (v1 : Int32) (v2 : Int32) (S : zMd), ∀ (H : Heap) (locs : List Loc) (ls : Array Slot), fX8_cost_j16 v1 v2 S = some R → lv_has ls 4 [(0, .ref a0), (1, .int v1), (2, .int v2)] → zW K A s H locs (cMd K a0 a1 a2 a3 a4 a5 a6 a7 a8 a9 a10 a11 a12 a13 a14 a15 a16 a17 a18 a19 S) → W p l e ({ frames := 4, cells := 0, slots := 0, locals := 89 } : Room) s m ([.ref a0, .int p1, .int p2] : List Value).toArray below meth c H locs 0 0 Q (F0 m 16 ls []) := by
    intro v1 v2 S H locs ls hf hl hh
    unfold fX8_cost_j16 at hf
    refine lv_iconst (v := (-1 : Int32)) hx hb dX8_cost_16 (by decide) ?_
    refine lv_goto (tgt := 35) hx hb dX8_cost_17 (by decide) ?_
    exact hJ35 v1 v2 (-1 : Int32) S H locs ls hf (lv_sub hl [0, 1, 2] rfl) hh
  unfold fX8_cost at hf
  refine (fun (hmain : ∀ (H : Heap) (locs : List Loc), zW K A s H locs (cMd K a0 a1 a2 a3 a4 a5 a6 a7 a8 a9 a10 a11 a12 a13 a14 a15 a16 a17 a18 a19 S) → W p l e ({ frames := 4, cells := 0, slots := 0, locals := 89 } : Room) s m ([.ref a0, .int p1, .int p2] : List Value).toArray below meth c H locs 0 0 Q (F0 m 0 ls [])) => hmain s.heap [] hh) (fun H locs hh => ?_)
  refine lv_aload_n hx hb dX8_cost_0 rfl (lv_at hl 0 rfl) ?_
  refine lv_iload_n hx hb dX8_cost_1 rfl (lv_at hl 1 rfl) ?_
  obtain ⟨u5, hu5, hf⟩ := ob_bind hf
  refine zcallV (ci := 7) (q0 := 0) (As := [.int p1]) (rest := []) (wr := []) (ws' := cMd K a0 a1 a2 a3 a4 a5 a6 a7 a8 a9 a10 a11 a12 a13 a14 a15 a16 a17 a18 a19 S) (ov := some (.int u5)) X hh hl (kX8_isHouse l K a0 a1 a2 a3 a4 a5 a6 a7 a8 a9 a10 a11 a12 a13 a14 a15 a16 a17 a18 a19 S p1 u5 hu5) (fun ht => cwV 1 ht gX8_cost_X8_isHouse rfl rfl rfl ⟨rfl, hdX8_isHouse⟩ ⟨Nat.le_of_ble_eq_true rfl, Nat.le_of_ble_eq_true rfl⟩) [0, 1, 2, 3, 4, 5, 6, 7, 8, 9, 10, 11, 12, 13, 14, 15, 16, 17, 18, 19] [] [0, 1, 2, 3, 4, 5, 6, 7, 8, 9, 10, 11, 12, 13, 14, 15, 16, 17, 18, 19] rfl rfl rfl rfl (by decide) rfl rfl rfl rfl rfl rfl (Nat.le_of_ble_eq_true rfl) dX8_cost_2 ⟨Nat.zero_le _, Nat.zero_le _⟩ (fun H locs hh => ?_)
  refine lv_if_eq (tgt := 16) hx hb dX8_cost_5 (by decide) (fun c6 => ?_) (fun c6 => ?_)
  · replace hf := (if_pos c6).symm.trans hf
    exact hJ16 p1 p2 S H locs ls hf (lv_sub hl [0, 1, 2] rfl) hh
  · replace hf := (if_neg c6).symm.trans hf
    refine lv_aload_n hx hb dX8_cost_8 rfl (lv_at hl 0 rfl) ?_
    refine lv_iload_n hx hb dX8_cost_9 rfl (lv_at hl 2 rfl) ?_
    obtain ⟨u7, hu7, hf⟩ := ob_bind hf
    refine zcallV (ci := 7) (q0 := 0) (As := [.int p2]) (rest := []) (wr := []) (ws' := cMd K a0 a1 a2 a3 a4 a5 a6 a7 a8 a9 a10 a11 a12 a13 a14 a15 a16 a17 a18 a19 S) (ov := some (.int u7)) X hh hl (kX8_isHouse l K a0 a1 a2 a3 a4 a5 a6 a7 a8 a9 a10 a11 a12 a13 a14 a15 a16 a17 a18 a19 S p2 u7 hu7) (fun ht => cwV 1 ht gX8_cost_X8_isHouse rfl rfl rfl ⟨rfl, hdX8_isHouse⟩ ⟨Nat.le_of_ble_eq_true rfl, Nat.le_of_ble_eq_true rfl⟩) [0, 1, 2, 3, 4, 5, 6, 7, 8, 9, 10, 11, 12, 13, 14, 15, 16, 17, 18, 19] [] [0, 1, 2, 3, 4, 5, 6, 7, 8, 9, 10, 11, 12, 13, 14, 15, 16, 17, 18, 19] rfl rfl rfl rfl (by decide) rfl rfl rfl rfl rfl rfl (Nat.le_of_ble_eq_true rfl) dX8_cost_10 ⟨Nat.zero_le _, Nat.zero_le _⟩ (fun H locs hh => ?_)
    refine lv_if_ne (tgt := 20) hx hb dX8_cost_13 (by decide) (fun c8 => ?_) (fun c8 => ?_)
    · replace hf := (if_neg c8).symm.trans hf
      refine lv_aload_n hx hb dX8_cost_20 rfl (lv_at hl 0 rfl) ?_
      refine lv_iload_n hx hb dX8_cost_21 rfl (lv_at hl 1 rfl) ?_
      refine lv_iload_n hx hb dX8_cost_22 rfl (lv_at hl 2 rfl) ?_
      obtain ⟨u9, hu9, hf⟩ := ob_bind hf
      refine zcallV (ci := 7) (q0 := 0) (As := [.int p1, .int p2]) (rest := []) (wr := []) (ws' := cMd K a0 a1 a2 a3 a4 a5 a6 a7 a8 a9 a10 a11 a12 a13 a14 a15 a16 a17 a18 a19 S) (ov := some (.int u9)) X hh hl (kX8_canBe l K a0 a1 a2 a3 a4 a5 a6 a7 a8 a9 a10 a11 a12 a13 a14 a15 a16 a17 a18 a19 S p1 p2 u9 hu9) (fun ht => cwV 2 ht gX8_cost_X8_canBe rfl rfl rfl ⟨rfl, hdX8_canBe⟩ ⟨Nat.le_of_ble_eq_true rfl, Nat.le_of_ble_eq_true rfl⟩) [0, 1, 2, 3, 4, 5, 6, 7, 8, 9, 10, 11, 12, 13, 14, 15, 16, 17, 18, 19] [] [0, 1, 2, 3, 4, 5, 6, 7, 8, 9, 10, 11, 12, 13, 14, 15, 16, 17, 18, 19] rfl rfl rfl rfl (by decide) rfl rfl rfl rfl rfl rfl (Nat.le_of_ble_eq_true rfl) dX8_cost_23 ⟨Nat.zero_le _, Nat.zero_le _⟩ (fun H locs hh => ?_)
      refine lv_if_ne (tgt := 34) hx hb dX8_cost_26 (by decide) (fun c10 => ?_) (fun c10 => ?_)
      · replace hf := (if_neg c10).symm.trans hf
        refine lv_iconst (v := (0 : Int32)) hx hb dX8_cost_34 (by decide) ?_
        exact hJ35 p1 p2 (0 : Int32) S H locs ls hf (lv_sub hl [0, 1, 2] rfl) hh
      · replace hf := (if_pos c10).symm.trans hf
        refine lv_bipush (v := (-3 : Int32)) hx hb dX8_cost_29 (by decide) ?_
        refine lv_goto (tgt := 35) hx hb dX8_cost_31 (by decide) ?_
        exact hJ35 p1 p2 (-3 : Int32) S H locs ls hf (lv_sub hl [0, 1, 2] rfl) hh
    · replace hf := (if_pos c8).symm.trans hf
      exact hJ16 p1 p2 S H locs ls hf (lv_sub hl [0, 1, 2] rfl) hh
def fX8_add_j80 (v1 : Int32) (v2 : Int32) (v3 : Int32) (v4 : Int32) (v5 : Int32) (S : zMd) : Option (Int32 × zMd) :=
  if v5 = (0 : Int32) then
  ((fX8_builds S v1 v2 v3 v4).bind fun u2 =>
  some (((md_houses u2) - (1 : Int32)), u2))
  else
  ((fX8_no S v5).bind fun u3 =>
  some (u3.1, u3.2))
def fX8_add_j78 (v1 : Int32) (v2 : Int32) (v3 : Int32) (v4 : Int32) (t0 : Int32) (S : zMd) : Option (Int32 × zMd) :=
  fX8_add_j80 v1 v2 v3 v4 t0 S
def fX8_add_j42 (v1 : Int32) (v2 : Int32) (v3 : Int32) (v4 : Int32) (t0 : Int32) (S : zMd) : Option (Int32 × zMd) :=
  if t0 = (0 : Int32) then
  ((fX8_canBe S v1 v2).bind fun u5 =>
  if u5 = (0 : Int32) then
  (fX8_add_j78 v1 v2 v3 v4 (-3 : Int32) S)
  else
  (if (md_houses S) = (12 : Int32) then
  (fX8_add_j78 v1 v2 v3 v4 (-6 : Int32) S)
  else
  (fX8_add_j78 v1 v2 v3 v4 (0 : Int32) S)))
  else
  (fX8_add_j80 v1 v2 v3 v4 t0 S)
def fX8_add_j16 (v1 : Int32) (v2 : Int32) (v3 : Int32) (v4 : Int32) (S : zMd) : Option (Int32 × zMd) :=
  fX8_add_j42 v1 v2 v3 v4 (-1 : Int32) S
def fX8_add (S : zMd) (p1 : Int32) (p2 : Int32) (p3 : Int32) (p4 : Int32) : Option (Int32 × zMd) :=
  (fX8_isHouse S p1).bind fun u8 =>
  if u8 = (0 : Int32) then
  (fX8_add_j16 p1 p2 p3 p4 S)
  else
  ((fX8_isHouse S p2).bind fun u10 =>
  if u10 = (0 : Int32) then
  (fX8_add_j16 p1 p2 p3 p4 S)
  else
  (if (fX8_isIn p3 (0 : Int32) (5 : Int32)) = (0 : Int32) then
  (fX8_add_j42 p1 p2 p3 p4 (-2 : Int32) S)
  else
  (fX8_add_j42 p1 p2 p3 p4 (fX8_bound p4 (0 : Int32) (9 : Int32)) S)))
theorem inX8_add_X8 : ∀ w ∈ wsX80, w ∈ wsX8_add := by decide +kernel
theorem mmX8_add_0 : Cond.fieldLink RX8 70 "SumOfTwoThatStandModel" "houses" "I" ∈ wsX8_add := by decide +kernel
theorem hdX8_add : yX8_add.cls ≠ "java/lang/invoke/MethodHandle" ∧ yX8_add.cls ≠ "java/lang/invoke/VarHandle" ∧ (parseMethodDescriptor yX8_add.desc).map (fun d => d.parameters.length) = some 4 := by decide +kernel
set_option maxHeartbeats 4000000 in
set_option maxRecDepth 100000 in
theorem kX8_add (l : Launch) (K : zK) (a0 a1 a2 a3 a4 a5 a6 a7 a8 a9 a10 a11 a12 a13 a14 a15 a16 a17 a18 a19 : Nat) (S : zMd) (p1 : Int32) (p2 : Int32) (p3 : Int32) (p4 : Int32) (R : Int32 × zMd) (hf : fX8_add S p1 p2 p3 p4 = some R) : zC l yX8_add wsX8_add ({ frames := 4, cells := 0, slots := 0, locals := 89 } : Room) K [.ref a0, .int p1, .int p2, .int p3, .int p4] (cMd K a0 a1 a2 a3 a4 a5 a6 a7 a8 a9 a10 a11 a12 a13 a14 a15 a16 a17 a18 a19 S) (some (.int R.1)) (cMd K a0 a1 a2 a3 a4 a5 a6 a7 a8 a9 a10 a11 a12 a13 a14 a15 a16 a17 a18 a19 R.2) := by
  refine zC_i R.1 (cc := cX8_add) (maxL := 6) (by decide +kernel) rfl (Nat.le_of_ble_eq_true rfl) rfl rfl ?_
  intro p e s m below meth c Q A X hret ls hl hh
  have X : zX p m c cX8_add 6 s ([.ref a0, .int p1, .int p2, .int p3, .int p4] : List Value).toArray wsX8_add RX8 K A := X
  have hx := X.1.1
  have hb := X.1.2.1
  have hr2 : ∀ (pc : Nat) (ls : Array Slot) (H : Heap) (locs : List Loc) (v : Int32) (S : zMd), some (v, S) = some R → decode cX8_add pc = .ok (.ireturn, 1) → zW K A s H locs (cMd K a0 a1 a2 a3 a4 a5 a6 a7 a8 a9 a10 a11 a12 a13 a14 a15 a16 a17 a18 a19 S) → W p l e ({ frames := 4, cells := 0, slots := 0, locals := 89 } : Room) s m ([.ref a0, .int p1, .int p2, .int p3, .int p4] : List Value).toArray below meth c H locs 0 0 Q (F0 m pc ls [.int v]) := by
    intro pc ls H locs v S h hd hh
    cases h; exact hret pc ls H locs _ rfl hd hh
  have hl : lv_has ls 6 [(0, .ref a0), (1, .int p1), (2, .int p2), (3, .int p3), (4, .int p4)] := hl
  have hJ80 : ∀ (v1 : Int32) (v2 : Int32) (v3 : Int32) (v4 : Int32) (v5 : Int32) (S : zMd), ∀ (H : Heap) (locs : List Loc) (ls : Array Slot), fX8_add_j80 v1 v2 v3 v4 v5 S = some R → lv_has ls 6 [(0, .ref a0), (1, .int v1), (2, .int v2), (3, .int v3), (4, .int v4), (5, .int v5)] → zW K A s H locs (cMd K a0 a1 a2 a3 a4 a5 a6 a7 a8 a9 a10 a11 a12 a13 a14 a15 a16 a17 a18 a19 S) → W p l e ({ frames := 4, cells := 0, slots := 0, locals := 89 } : Room) s m ([.ref a0, .int p1, .int p2, .int p3, .int p4] : List Value).toArray below meth c H locs 0 0 Q (F0 m 80 ls []) := by
    intro v1 v2 v3 v4 v5 S H locs ls hf hl hh
    unfold fX8_add_j80 at hf
    refine lv_iload hx hb dX8_add_80 (lv_at hl 5 rfl) ?_
    refine lv_if_eq (tgt := 92) hx hb dX8_add_82 (by decide) (fun c1 => ?_) (fun c1 => ?_)
    · replace hf := (if_pos c1).symm.trans hf
      refine lv_aload_n hx hb dX8_add_92 rfl (lv_at hl 0 rfl) ?_
      refine lv_iload_n hx hb dX8_add_93 rfl (lv_at hl 1 rfl) ?_
      refine lv_iload_n hx hb dX8_add_94 rfl (lv_at hl 2 rfl) ?_
      refine lv_iload_n hx hb dX8_add_95 rfl (lv_at hl 3 rfl) ?_
      refine lv_iload hx hb dX8_add_96 (lv_at hl 4 rfl) ?_
      obtain ⟨u2, hu2, hf⟩ := ob_bind hf
      refine zcallV (ci := 7) (q0 := 0) (As := [.int v1, .int v2, .int v3, .int v4]) (rest := []) (wr := []) (ws' := cMd K a0 a1 a2 a3 a4 a5 a6 a7 a8 a9 a10 a11 a12 a13 a14 a15 a16 a17 a18 a19 u2) (ov := none) X hh hl (kX8_builds l K a0 a1 a2 a3 a4 a5 a6 a7 a8 a9 a10 a11 a12 a13 a14 a15 a16 a17 a18 a19 S v1 v2 v3 v4 u2 hu2) (fun ht => cwV 4 ht gX8_add_X8_builds rfl rfl rfl ⟨rfl, hdX8_builds⟩ ⟨Nat.le_of_ble_eq_true rfl, Nat.le_of_ble_eq_true rfl⟩) [0, 1, 2, 3, 4, 5, 6, 7, 8, 9, 10, 11, 12, 13, 14, 15, 16, 17, 18, 19] [] [0, 1, 2, 3, 4, 5, 6, 7, 8, 9, 10, 11, 12, 13, 14, 15, 16, 17, 18, 19] rfl rfl rfl rfl (by decide) rfl rfl rfl rfl rfl rfl (Nat.le_of_ble_eq_true rfl) dX8_add_98 ⟨Nat.zero_le _, Nat.zero_le _⟩ (fun H locs hh => ?_)
      refine lv_aload_n hx hb dX8_add_101 rfl (lv_at hl 0 rfl) ?_
      refine zget (v := .int (md_houses u2)) (ref := "SumOfTwoThatStandModel") (C := RX8) (T := TX8) (N := 33) (index := 70) X hh inX8_add_X8 0 rfl rfl 9 (by decide) mmX8_add_0 rfl rfl dX8_add_102 ?_
      refine lv_iconst (v := (1 : Int32)) hx hb dX8_add_105 (by decide) ?_
      refine lv_isub hx hb dX8_add_106 ?_
      exact hr2 107 ls H locs ((md_houses u2) - (1 : Int32)) u2 hf dX8_add_107 hh
    · replace hf := (if_neg c1).symm.trans hf
      refine lv_aload_n hx hb dX8_add_85 rfl (lv_at hl 0 rfl) ?_
      refine lv_iload hx hb dX8_add_86 (lv_at hl 5 rfl) ?_
      obtain ⟨u3, hu3, hf⟩ := ob_bind hf
      refine zcallV (ci := 7) (q0 := 0) (As := [.int v5]) (rest := []) (wr := []) (ws' := cMd K a0 a1 a2 a3 a4 a5 a6 a7 a8 a9 a10 a11 a12 a13 a14 a15 a16 a17 a18 a19 u3.2) (ov := some (.int u3.1)) X hh hl (kX8_no l K a0 a1 a2 a3 a4 a5 a6 a7 a8 a9 a10 a11 a12 a13 a14 a15 a16 a17 a18 a19 S v5 u3 hu3) (fun ht => cwV 1 ht gX8_add_X8_no rfl rfl rfl ⟨rfl, hdX8_no⟩ ⟨Nat.le_of_ble_eq_true rfl, Nat.le_of_ble_eq_true rfl⟩) [0, 1, 2, 3, 4, 5, 6, 7, 8, 9, 10, 11, 12, 13, 14, 15, 16, 17, 18, 19] [] [0, 1, 2, 3, 4, 5, 6, 7, 8, 9, 10, 11, 12, 13, 14, 15, 16, 17, 18, 19] rfl rfl rfl rfl (by decide) rfl rfl rfl rfl rfl rfl (Nat.le_of_ble_eq_true rfl) dX8_add_88 ⟨Nat.zero_le _, Nat.zero_le _⟩ (fun H locs hh => ?_)
      exact hr2 91 ls H locs u3.1 u3.2 hf dX8_add_91 hh
  have hJ78 : ∀ (v1 : Int32) (v2 : Int32) (v3 : Int32) (v4 : Int32) (t0 : Int32) (S : zMd), ∀ (H : Heap) (locs : List Loc) (ls : Array Slot), fX8_add_j78 v1 v2 v3 v4 t0 S = some R → lv_has ls 6 [(0, .ref a0), (1, .int v1), (2, .int v2), (3, .int v3), (4, .int v4)] → zW K A s H locs (cMd K a0 a1 a2 a3 a4 a5 a6 a7 a8 a9 a10 a11 a12 a13 a14 a15 a16 a17 a18 a19 S) → W p l e ({ frames := 4, cells := 0, slots := 0, locals := 89 } : Room) s m ([.ref a0, .int p1, .int p2, .int p3, .int p4] : List Value).toArray below meth c H locs 0 0 Q (F0 m 78 ls [.int t0]) := by
    intro v1 v2 v3 v4 t0 S H locs ls hf hl hh
    unfold fX8_add_j78 at hf
    refine lv_istore (lv' := [(5, .int t0), (0, .ref a0), (1, .int v1), (2, .int v2), (3, .int v3), (4, .int v4)]) hx hb dX8_add_78 hl (by decide) rfl (fun ls hl => ?_)
    exact hJ80 v1 v2 v3 v4 t0 S H locs ls hf (lv_sub hl [1, 2, 3, 4, 5, 0] rfl) hh
  have hJ42 : ∀ (v1 : Int32) (v2 : Int32) (v3 : Int32) (v4 : Int32) (t0 : Int32) (S : zMd), ∀ (H : Heap) (locs : List Loc) (ls : Array Slot), fX8_add_j42 v1 v2 v3 v4 t0 S = some R → lv_has ls 6 [(0, .ref a0), (1, .int v1), (2, .int v2), (3, .int v3), (4, .int v4)] → zW K A s H locs (cMd K a0 a1 a2 a3 a4 a5 a6 a7 a8 a9 a10 a11 a12 a13 a14 a15 a16 a17 a18 a19 S) → W p l e ({ frames := 4, cells := 0, slots := 0, locals := 89 } : Room) s m ([.ref a0, .int p1, .int p2, .int p3, .int p4] : List Value).toArray below meth c H locs 0 0 Q (F0 m 42 ls [.int t0]) := by
    intro v1 v2 v3 v4 t0 S H locs ls hf hl hh
    unfold fX8_add_j42 at hf
    refine lv_istore (lv' := [(5, .int t0), (0, .ref a0), (1, .int v1), (2, .int v2), (3, .int v3), (4, .int v4)]) hx hb dX8_add_42 hl (by decide) rfl (fun ls hl => ?_)
    refine lv_iload hx hb dX8_add_44 (lv_at hl 0 rfl) ?_
    refine lv_if_ne (tgt := 80) hx hb dX8_add_46 (by decide) (fun c4 => ?_) (fun c4 => ?_)
    · replace hf := (if_neg c4).symm.trans hf
      exact hJ80 v1 v2 v3 v4 t0 S H locs ls hf (lv_sub hl [1, 2, 3, 4, 5, 0] rfl) hh
    · replace hf := (if_pos c4).symm.trans hf
      refine lv_aload_n hx hb dX8_add_49 rfl (lv_at hl 1 rfl) ?_
      refine lv_iload_n hx hb dX8_add_50 rfl (lv_at hl 2 rfl) ?_
      refine lv_iload_n hx hb dX8_add_51 rfl (lv_at hl 3 rfl) ?_
      obtain ⟨u5, hu5, hf⟩ := ob_bind hf
      refine zcallV (ci := 7) (q0 := 0) (As := [.int v1, .int v2]) (rest := []) (wr := []) (ws' := cMd K a0 a1 a2 a3 a4 a5 a6 a7 a8 a9 a10 a11 a12 a13 a14 a15 a16 a17 a18 a19 S) (ov := some (.int u5)) X hh hl (kX8_canBe l K a0 a1 a2 a3 a4 a5 a6 a7 a8 a9 a10 a11 a12 a13 a14 a15 a16 a17 a18 a19 S v1 v2 u5 hu5) (fun ht => cwV 2 ht gX8_add_X8_canBe rfl rfl rfl ⟨rfl, hdX8_canBe⟩ ⟨Nat.le_of_ble_eq_true rfl, Nat.le_of_ble_eq_true rfl⟩) [0, 1, 2, 3, 4, 5, 6, 7, 8, 9, 10, 11, 12, 13, 14, 15, 16, 17, 18, 19] [] [0, 1, 2, 3, 4, 5, 6, 7, 8, 9, 10, 11, 12, 13, 14, 15, 16, 17, 18, 19] rfl rfl rfl rfl (by decide) rfl rfl rfl rfl rfl rfl (Nat.le_of_ble_eq_true rfl) dX8_add_52 ⟨Nat.zero_le _, Nat.zero_le _⟩ (fun H locs hh => ?_)
      refine lv_if_ne (tgt := 63) hx hb dX8_add_55 (by decide) (fun c6 => ?_) (fun c6 => ?_)
      · replace hf := (if_neg c6).symm.trans hf
        refine lv_aload_n hx hb dX8_add_63 rfl (lv_at hl 1 rfl) ?_
        refine zget (v := .int (md_houses S)) (ref := "SumOfTwoThatStandModel") (C := RX8) (T := TX8) (N := 33) (index := 70) X hh inX8_add_X8 0 rfl rfl 9 (by decide) mmX8_add_0 rfl rfl dX8_add_64 ?_
        refine lv_bipush (v := (12 : Int32)) hx hb dX8_add_67 (by decide) ?_
        refine lv_icmp_ne (tgt := 77) hx hb dX8_add_69 (by decide) (fun c7 => ?_) (fun c7 => ?_)
        · replace hf := (if_neg c7).symm.trans hf
          refine lv_iconst (v := (0 : Int32)) hx hb dX8_add_77 (by decide) ?_
          exact hJ78 v1 v2 v3 v4 (0 : Int32) S H locs ls hf (lv_sub hl [1, 2, 3, 4, 5] rfl) hh
        · replace hf := (if_pos c7).symm.trans hf
          refine lv_bipush (v := (-6 : Int32)) hx hb dX8_add_72 (by decide) ?_
          refine lv_goto (tgt := 78) hx hb dX8_add_74 (by decide) ?_
          exact hJ78 v1 v2 v3 v4 (-6 : Int32) S H locs ls hf (lv_sub hl [1, 2, 3, 4, 5] rfl) hh
      · replace hf := (if_pos c6).symm.trans hf
        refine lv_bipush (v := (-3 : Int32)) hx hb dX8_add_58 (by decide) ?_
        refine lv_goto (tgt := 78) hx hb dX8_add_60 (by decide) ?_
        exact hJ78 v1 v2 v3 v4 (-3 : Int32) S H locs ls hf (lv_sub hl [1, 2, 3, 4, 5] rfl) hh
  have hJ16 : ∀ (v1 : Int32) (v2 : Int32) (v3 : Int32) (v4 : Int32) (S : zMd), ∀ (H : Heap) (locs : List Loc) (ls : Array Slot), fX8_add_j16 v1 v2 v3 v4 S = some R → lv_has ls 6 [(0, .ref a0), (1, .int v1), (2, .int v2), (3, .int v3), (4, .int v4)] → zW K A s H locs (cMd K a0 a1 a2 a3 a4 a5 a6 a7 a8 a9 a10 a11 a12 a13 a14 a15 a16 a17 a18 a19 S) → W p l e ({ frames := 4, cells := 0, slots := 0, locals := 89 } : Room) s m ([.ref a0, .int p1, .int p2, .int p3, .int p4] : List Value).toArray below meth c H locs 0 0 Q (F0 m 16 ls []) := by
    intro v1 v2 v3 v4 S H locs ls hf hl hh
    unfold fX8_add_j16 at hf
    refine lv_iconst (v := (-1 : Int32)) hx hb dX8_add_16 (by decide) ?_
    refine lv_goto (tgt := 42) hx hb dX8_add_17 (by decide) ?_
    exact hJ42 v1 v2 v3 v4 (-1 : Int32) S H locs ls hf (lv_sub hl [0, 1, 2, 3, 4] rfl) hh
  unfold fX8_add at hf
  refine (fun (hmain : ∀ (H : Heap) (locs : List Loc), zW K A s H locs (cMd K a0 a1 a2 a3 a4 a5 a6 a7 a8 a9 a10 a11 a12 a13 a14 a15 a16 a17 a18 a19 S) → W p l e ({ frames := 4, cells := 0, slots := 0, locals := 89 } : Room) s m ([.ref a0, .int p1, .int p2, .int p3, .int p4] : List Value).toArray below meth c H locs 0 0 Q (F0 m 0 ls [])) => hmain s.heap [] hh) (fun H locs hh => ?_)
  refine lv_aload_n hx hb dX8_add_0 rfl (lv_at hl 0 rfl) ?_
  refine lv_iload_n hx hb dX8_add_1 rfl (lv_at hl 1 rfl) ?_
  obtain ⟨u8, hu8, hf⟩ := ob_bind hf
  refine zcallV (ci := 7) (q0 := 0) (As := [.int p1]) (rest := []) (wr := []) (ws' := cMd K a0 a1 a2 a3 a4 a5 a6 a7 a8 a9 a10 a11 a12 a13 a14 a15 a16 a17 a18 a19 S) (ov := some (.int u8)) X hh hl (kX8_isHouse l K a0 a1 a2 a3 a4 a5 a6 a7 a8 a9 a10 a11 a12 a13 a14 a15 a16 a17 a18 a19 S p1 u8 hu8) (fun ht => cwV 1 ht gX8_add_X8_isHouse rfl rfl rfl ⟨rfl, hdX8_isHouse⟩ ⟨Nat.le_of_ble_eq_true rfl, Nat.le_of_ble_eq_true rfl⟩) [0, 1, 2, 3, 4, 5, 6, 7, 8, 9, 10, 11, 12, 13, 14, 15, 16, 17, 18, 19] [] [0, 1, 2, 3, 4, 5, 6, 7, 8, 9, 10, 11, 12, 13, 14, 15, 16, 17, 18, 19] rfl rfl rfl rfl (by decide) rfl rfl rfl rfl rfl rfl (Nat.le_of_ble_eq_true rfl) dX8_add_2 ⟨Nat.zero_le _, Nat.zero_le _⟩ (fun H locs hh => ?_)
  refine lv_if_eq (tgt := 16) hx hb dX8_add_5 (by decide) (fun c9 => ?_) (fun c9 => ?_)
  · replace hf := (if_pos c9).symm.trans hf
    exact hJ16 p1 p2 p3 p4 S H locs ls hf (lv_sub hl [0, 1, 2, 3, 4] rfl) hh
  · replace hf := (if_neg c9).symm.trans hf
    refine lv_aload_n hx hb dX8_add_8 rfl (lv_at hl 0 rfl) ?_
    refine lv_iload_n hx hb dX8_add_9 rfl (lv_at hl 2 rfl) ?_
    obtain ⟨u10, hu10, hf⟩ := ob_bind hf
    refine zcallV (ci := 7) (q0 := 0) (As := [.int p2]) (rest := []) (wr := []) (ws' := cMd K a0 a1 a2 a3 a4 a5 a6 a7 a8 a9 a10 a11 a12 a13 a14 a15 a16 a17 a18 a19 S) (ov := some (.int u10)) X hh hl (kX8_isHouse l K a0 a1 a2 a3 a4 a5 a6 a7 a8 a9 a10 a11 a12 a13 a14 a15 a16 a17 a18 a19 S p2 u10 hu10) (fun ht => cwV 1 ht gX8_add_X8_isHouse rfl rfl rfl ⟨rfl, hdX8_isHouse⟩ ⟨Nat.le_of_ble_eq_true rfl, Nat.le_of_ble_eq_true rfl⟩) [0, 1, 2, 3, 4, 5, 6, 7, 8, 9, 10, 11, 12, 13, 14, 15, 16, 17, 18, 19] [] [0, 1, 2, 3, 4, 5, 6, 7, 8, 9, 10, 11, 12, 13, 14, 15, 16, 17, 18, 19] rfl rfl rfl rfl (by decide) rfl rfl rfl rfl rfl rfl (Nat.le_of_ble_eq_true rfl) dX8_add_10 ⟨Nat.zero_le _, Nat.zero_le _⟩ (fun H locs hh => ?_)
    refine lv_if_ne (tgt := 20) hx hb dX8_add_13 (by decide) (fun c11 => ?_) (fun c11 => ?_)
    · replace hf := (if_neg c11).symm.trans hf
      refine lv_iload_n hx hb dX8_add_20 rfl (lv_at hl 3 rfl) ?_
      refine lv_iconst (v := (0 : Int32)) hx hb dX8_add_21 (by decide) ?_
      refine lv_iconst (v := (5 : Int32)) hx hb dX8_add_22 (by decide) ?_
      refine zcallS (As := [.int p3, .int (0 : Int32), .int (5 : Int32)]) (rest := []) (wr := cMd K a0 a1 a2 a3 a4 a5 a6 a7 a8 a9 a10 a11 a12 a13 a14 a15 a16 a17 a18 a19 S) (ws' := cMd K a0 a1 a2 a3 a4 a5 a6 a7 a8 a9 a10 a11 a12 a13 a14 a15 a16 a17 a18 a19 S) (ov := some (.int (fX8_isIn p3 (0 : Int32) (5 : Int32)))) X hh hl (kX8_isIn l K p3 (0 : Int32) (5 : Int32) (fX8_isIn p3 (0 : Int32) (5 : Int32)) rfl) (fun ht => va_cwS 3 ht gX8_add_X8_isIn rfl rfl rfl hdX8_isIn ⟨Nat.le_of_ble_eq_true rfl, Nat.le_of_ble_eq_true rfl⟩) [] [0, 1, 2, 3, 4, 5, 6, 7, 8, 9, 10, 11, 12, 13, 14, 15, 16, 17, 18, 19] [0, 1, 2, 3, 4, 5, 6, 7, 8, 9, 10, 11, 12, 13, 14, 15, 16, 17, 18, 19] rfl rfl rfl rfl (by decide) rfl rfl rfl rfl (Nat.le_of_ble_eq_true rfl) dX8_add_23 ⟨Nat.zero_le _, Nat.zero_le _⟩ (fun H locs hh => ?_)
      refine lv_if_ne (tgt := 34) hx hb dX8_add_26 (by decide) (fun c13 => ?_) (fun c13 => ?_)
      · replace hf := (if_neg c13).symm.trans hf
        refine lv_iload hx hb dX8_add_34 (lv_at hl 4 rfl) ?_
        refine lv_iconst (v := (0 : Int32)) hx hb dX8_add_36 (by decide) ?_
        refine lv_bipush (v := (9 : Int32)) hx hb dX8_add_37 (by decide) ?_
        refine zcallS (As := [.int p4, .int (0 : Int32), .int (9 : Int32)]) (rest := []) (wr := cMd K a0 a1 a2 a3 a4 a5 a6 a7 a8 a9 a10 a11 a12 a13 a14 a15 a16 a17 a18 a19 S) (ws' := cMd K a0 a1 a2 a3 a4 a5 a6 a7 a8 a9 a10 a11 a12 a13 a14 a15 a16 a17 a18 a19 S) (ov := some (.int (fX8_bound p4 (0 : Int32) (9 : Int32)))) X hh hl (kX8_bound l K p4 (0 : Int32) (9 : Int32) (fX8_bound p4 (0 : Int32) (9 : Int32)) rfl) (fun ht => va_cwS 3 ht gX8_add_X8_bound rfl rfl rfl hdX8_bound ⟨Nat.le_of_ble_eq_true rfl, Nat.le_of_ble_eq_true rfl⟩) [] [0, 1, 2, 3, 4, 5, 6, 7, 8, 9, 10, 11, 12, 13, 14, 15, 16, 17, 18, 19] [0, 1, 2, 3, 4, 5, 6, 7, 8, 9, 10, 11, 12, 13, 14, 15, 16, 17, 18, 19] rfl rfl rfl rfl (by decide) rfl rfl rfl rfl (Nat.le_of_ble_eq_true rfl) dX8_add_39 ⟨Nat.zero_le _, Nat.zero_le _⟩ (fun H locs hh => ?_)
        exact hJ42 p1 p2 p3 p4 (fX8_bound p4 (0 : Int32) (9 : Int32)) S H locs ls hf (lv_sub hl [0, 1, 2, 3, 4] rfl) hh
      · replace hf := (if_pos c13).symm.trans hf
        refine lv_bipush (v := (-2 : Int32)) hx hb dX8_add_29 (by decide) ?_
        refine lv_goto (tgt := 42) hx hb dX8_add_31 (by decide) ?_
        exact hJ42 p1 p2 p3 p4 (-2 : Int32) S H locs ls hf (lv_sub hl [0, 1, 2, 3, 4] rfl) hh
    · replace hf := (if_pos c11).symm.trans hf
      exact hJ16 p1 p2 p3 p4 S H locs ls hf (lv_sub hl [0, 1, 2, 3, 4] rfl) hh
def fX8_burn_j26 (v1 : Int32) (t0 : Int32) (S : zMd) : Option (Int32 × zMd) :=
  if t0 = (0 : Int32) then
  ((fX8_standing S).bind fun u2 =>
  (fX8_bits u2).bind fun u3 =>
  (fX8_burns S v1).bind fun u4 =>
  (fX8_standing u4).bind fun u5 =>
  (fX8_bits u5).bind fun u6 =>
  some ((u3 - u6), u4))
  else
  ((fX8_no S t0).bind fun u7 =>
  some (u7.1, u7.2))
def fX8_burn (S : zMd) (p1 : Int32) : Option (Int32 × zMd) :=
  (fX8_isHouse S p1).bind fun u8 =>
  if u8 = (0 : Int32) then
  (fX8_burn_j26 p1 (-1 : Int32) S)
  else
  ((fX8_doesStand S p1).bind fun u10 =>
  if u10 = (0 : Int32) then
  (fX8_burn_j26 p1 (-3 : Int32) S)
  else
  (fX8_burn_j26 p1 (0 : Int32) S))
theorem hdX8_burn : yX8_burn.cls ≠ "java/lang/invoke/MethodHandle" ∧ yX8_burn.cls ≠ "java/lang/invoke/VarHandle" ∧ (parseMethodDescriptor yX8_burn.desc).map (fun d => d.parameters.length) = some 1 := by decide +kernel
set_option maxHeartbeats 4000000 in
set_option maxRecDepth 100000 in
theorem kX8_burn (l : Launch) (K : zK) (a0 a1 a2 a3 a4 a5 a6 a7 a8 a9 a10 a11 a12 a13 a14 a15 a16 a17 a18 a19 : Nat) (S : zMd) (p1 : Int32) (R : Int32 × zMd) (hf : fX8_burn S p1 = some R) : zC l yX8_burn wsX8_burn ({ frames := 3, cells := 0, slots := 0, locals := 65 } : Room) K [.ref a0, .int p1] (cMd K a0 a1 a2 a3 a4 a5 a6 a7 a8 a9 a10 a11 a12 a13 a14 a15 a16 a17 a18 a19 S) (some (.int R.1)) (cMd K a0 a1 a2 a3 a4 a5 a6 a7 a8 a9 a10 a11 a12 a13 a14 a15 a16 a17 a18 a19 R.2) := by
  refine zC_i R.1 (cc := cX8_burn) (maxL := 4) (by decide +kernel) rfl (Nat.le_of_ble_eq_true rfl) rfl rfl ?_
  intro p e s m below meth c Q A X hret ls hl hh
  have X : zX p m c cX8_burn 4 s ([.ref a0, .int p1] : List Value).toArray wsX8_burn RX8 K A := X
  have hx := X.1.1
  have hb := X.1.2.1
  have hr2 : ∀ (pc : Nat) (ls : Array Slot) (H : Heap) (locs : List Loc) (v : Int32) (S : zMd), some (v, S) = some R → decode cX8_burn pc = .ok (.ireturn, 1) → zW K A s H locs (cMd K a0 a1 a2 a3 a4 a5 a6 a7 a8 a9 a10 a11 a12 a13 a14 a15 a16 a17 a18 a19 S) → W p l e ({ frames := 3, cells := 0, slots := 0, locals := 65 } : Room) s m ([.ref a0, .int p1] : List Value).toArray below meth c H locs 0 0 Q (F0 m pc ls [.int v]) := by
    intro pc ls H locs v S h hd hh
    cases h; exact hret pc ls H locs _ rfl hd hh
  have hl : lv_has ls 4 [(0, .ref a0), (1, .int p1)] := hl
  have hJ26 : ∀ (v1 : Int32) (t0 : Int32) (S : zMd), ∀ (H : Heap) (locs : List Loc) (ls : Array Slot), fX8_burn_j26 v1 t0 S = some R → lv_has ls 4 [(0, .ref a0), (1, .int v1)] → zW K A s H locs (cMd K a0 a1 a2 a3 a4 a5 a6 a7 a8 a9 a10 a11 a12 a13 a14 a15 a16 a17 a18 a19 S) → W p l e ({ frames := 3, cells := 0, slots := 0, locals := 65 } : Room) s m ([.ref a0, .int p1] : List Value).toArray below meth c H locs 0 0 Q (F0 m 26 ls [.int t0]) := by
    intro v1 t0 S H locs ls hf hl hh
    unfold fX8_burn_j26 at hf
    refine lv_istore_n (lv' := [(2, .int t0), (0, .ref a0), (1, .int v1)]) hx hb dX8_burn_26 rfl hl (by decide) rfl (fun ls hl => ?_)
    refine lv_iload_n hx hb dX8_burn_27 rfl (lv_at hl 0 rfl) ?_
    refine lv_if_eq (tgt := 37) hx hb dX8_burn_28 (by decide) (fun c1 => ?_) (fun c1 => ?_)
    · replace hf := (if_pos c1).symm.trans hf
      refine lv_aload_n hx hb dX8_burn_37 rfl (lv_at hl 1 rfl) ?_
      obtain ⟨u2, hu2, hf⟩ := ob_bind hf
      refine zcallV (ci := 7) (q0 := 0) (As := []) (rest := []) (wr := []) (ws' := cMd K a0 a1 a2 a3 a4 a5 a6 a7 a8 a9 a10 a11 a12 a13 a14 a15 a16 a17 a18 a19 S) (ov := some (.int u2)) X hh hl (kX8_standing l K a0 a1 a2 a3 a4 a5 a6 a7 a8 a9 a10 a11 a12 a13 a14 a15 a16 a17 a18 a19 S u2 hu2) (fun ht => cwV 0 ht gX8_burn_X8_standing rfl rfl rfl ⟨rfl, hdX8_standing⟩ ⟨Nat.le_of_ble_eq_true rfl, Nat.le_of_ble_eq_true rfl⟩) [0, 1, 2, 3, 4, 5, 6, 7, 8, 9, 10, 11, 12, 13, 14, 15, 16, 17, 18, 19] [] [0, 1, 2, 3, 4, 5, 6, 7, 8, 9, 10, 11, 12, 13, 14, 15, 16, 17, 18, 19] rfl rfl rfl rfl (by decide) rfl rfl rfl rfl rfl rfl (Nat.le_of_ble_eq_true rfl) dX8_burn_38 ⟨Nat.zero_le _, Nat.zero_le _⟩ (fun H locs hh => ?_)
      obtain ⟨u3, hu3, hf⟩ := ob_bind hf
      refine zcallS (As := [.int u2]) (rest := []) (wr := cMd K a0 a1 a2 a3 a4 a5 a6 a7 a8 a9 a10 a11 a12 a13 a14 a15 a16 a17 a18 a19 S) (ws' := cMd K a0 a1 a2 a3 a4 a5 a6 a7 a8 a9 a10 a11 a12 a13 a14 a15 a16 a17 a18 a19 S) (ov := some (.int u3)) X hh hl (kX8_bits l K u2 u3 hu3) (fun ht => va_cwS 1 ht gX8_burn_X8_bits rfl rfl rfl hdX8_bits ⟨Nat.le_of_ble_eq_true rfl, Nat.le_of_ble_eq_true rfl⟩) [] [0, 1, 2, 3, 4, 5, 6, 7, 8, 9, 10, 11, 12, 13, 14, 15, 16, 17, 18, 19] [0, 1, 2, 3, 4, 5, 6, 7, 8, 9, 10, 11, 12, 13, 14, 15, 16, 17, 18, 19] rfl rfl rfl rfl (by decide) rfl rfl rfl rfl (Nat.le_of_ble_eq_true rfl) dX8_burn_41 ⟨Nat.zero_le _, Nat.zero_le _⟩ (fun H locs hh => ?_)
      refine lv_istore_n (lv' := [(3, .int u3), (2, .int t0), (0, .ref a0), (1, .int v1)]) hx hb dX8_burn_44 rfl hl (by decide) rfl (fun ls hl => ?_)
      refine lv_aload_n hx hb dX8_burn_45 rfl (lv_at hl 2 rfl) ?_
      refine lv_iload_n hx hb dX8_burn_46 rfl (lv_at hl 3 rfl) ?_
      obtain ⟨u4, hu4, hf⟩ := ob_bind hf
      refine zcallV (ci := 7) (q0 := 0) (As := [.int v1]) (rest := []) (wr := []) (ws' := cMd K a0 a1 a2 a3 a4 a5 a6 a7 a8 a9 a10 a11 a12 a13 a14 a15 a16 a17 a18 a19 u4) (ov := none) X hh hl (kX8_burns l K a0 a1 a2 a3 a4 a5 a6 a7 a8 a9 a10 a11 a12 a13 a14 a15 a16 a17 a18 a19 S v1 u4 hu4) (fun ht => cwV 1 ht gX8_burn_X8_burns rfl rfl rfl ⟨rfl, hdX8_burns⟩ ⟨Nat.le_of_ble_eq_true rfl, Nat.le_of_ble_eq_true rfl⟩) [0, 1, 2, 3, 4, 5, 6, 7, 8, 9, 10, 11, 12, 13, 14, 15, 16, 17, 18, 19] [] [0, 1, 2, 3, 4, 5, 6, 7, 8, 9, 10, 11, 12, 13, 14, 15, 16, 17, 18, 19] rfl rfl rfl rfl (by decide) rfl rfl rfl rfl rfl rfl (Nat.le_of_ble_eq_true rfl) dX8_burn_47 ⟨Nat.zero_le _, Nat.zero_le _⟩ (fun H locs hh => ?_)
      refine lv_iload_n hx hb dX8_burn_50 rfl (lv_at hl 0 rfl) ?_
      refine lv_aload_n hx hb dX8_burn_51 rfl (lv_at hl 2 rfl) ?_
      obtain ⟨u5, hu5, hf⟩ := ob_bind hf
      refine zcallV (ci := 7) (q0 := 0) (As := []) (rest := [.int u3]) (wr := []) (ws' := cMd K a0 a1 a2 a3 a4 a5 a6 a7 a8 a9 a10 a11 a12 a13 a14 a15 a16 a17 a18 a19 u4) (ov := some (.int u5)) X hh hl (kX8_standing l K a0 a1 a2 a3 a4 a5 a6 a7 a8 a9 a10 a11 a12 a13 a14 a15 a16 a17 a18 a19 u4 u5 hu5) (fun ht => cwV 0 ht gX8_burn_X8_standing rfl rfl rfl ⟨rfl, hdX8_standing⟩ ⟨Nat.le_of_ble_eq_true rfl, Nat.le_of_ble_eq_true rfl⟩) [0, 1, 2, 3, 4, 5, 6, 7, 8, 9, 10, 11, 12, 13, 14, 15, 16, 17, 18, 19] [] [0, 1, 2, 3, 4, 5, 6, 7, 8, 9, 10, 11, 12, 13, 14, 15, 16, 17, 18, 19] rfl rfl rfl rfl (by decide) rfl rfl rfl rfl rfl rfl (Nat.le_of_ble_eq_true rfl) dX8_burn_52 ⟨Nat.zero_le _, Nat.zero_le _⟩ (fun H locs hh => ?_)
      obtain ⟨u6, hu6, hf⟩ := ob_bind hf
      refine zcallS (As := [.int u5]) (rest := [.int u3]) (wr := cMd K a0 a1 a2 a3 a4 a5 a6 a7 a8 a9 a10 a11 a12 a13 a14 a15 a16 a17 a18 a19 u4) (ws' := cMd K a0 a1 a2 a3 a4 a5 a6 a7 a8 a9 a10 a11 a12 a13 a14 a15 a16 a17 a18 a19 u4) (ov := some (.int u6)) X hh hl (kX8_bits l K u5 u6 hu6) (fun ht => va_cwS 1 ht gX8_burn_X8_bits rfl rfl rfl hdX8_bits ⟨Nat.le_of_ble_eq_true rfl, Nat.le_of_ble_eq_true rfl⟩) [] [0, 1, 2, 3, 4, 5, 6, 7, 8, 9, 10, 11, 12, 13, 14, 15, 16, 17, 18, 19] [0, 1, 2, 3, 4, 5, 6, 7, 8, 9, 10, 11, 12, 13, 14, 15, 16, 17, 18, 19] rfl rfl rfl rfl (by decide) rfl rfl rfl rfl (Nat.le_of_ble_eq_true rfl) dX8_burn_55 ⟨Nat.zero_le _, Nat.zero_le _⟩ (fun H locs hh => ?_)
      refine lv_isub hx hb dX8_burn_58 ?_
      exact hr2 59 ls H locs (u3 - u6) u4 hf dX8_burn_59 hh
    · replace hf := (if_neg c1).symm.trans hf
      refine lv_aload_n hx hb dX8_burn_31 rfl (lv_at hl 1 rfl) ?_
      refine lv_iload_n hx hb dX8_burn_32 rfl (lv_at hl 0 rfl) ?_
      obtain ⟨u7, hu7, hf⟩ := ob_bind hf
      refine zcallV (ci := 7) (q0 := 0) (As := [.int t0]) (rest := []) (wr := []) (ws' := cMd K a0 a1 a2 a3 a4 a5 a6 a7 a8 a9 a10 a11 a12 a13 a14 a15 a16 a17 a18 a19 u7.2) (ov := some (.int u7.1)) X hh hl (kX8_no l K a0 a1 a2 a3 a4 a5 a6 a7 a8 a9 a10 a11 a12 a13 a14 a15 a16 a17 a18 a19 S t0 u7 hu7) (fun ht => cwV 1 ht gX8_burn_X8_no rfl rfl rfl ⟨rfl, hdX8_no⟩ ⟨Nat.le_of_ble_eq_true rfl, Nat.le_of_ble_eq_true rfl⟩) [0, 1, 2, 3, 4, 5, 6, 7, 8, 9, 10, 11, 12, 13, 14, 15, 16, 17, 18, 19] [] [0, 1, 2, 3, 4, 5, 6, 7, 8, 9, 10, 11, 12, 13, 14, 15, 16, 17, 18, 19] rfl rfl rfl rfl (by decide) rfl rfl rfl rfl rfl rfl (Nat.le_of_ble_eq_true rfl) dX8_burn_33 ⟨Nat.zero_le _, Nat.zero_le _⟩ (fun H locs hh => ?_)
      exact hr2 36 ls H locs u7.1 u7.2 hf dX8_burn_36 hh
  unfold fX8_burn at hf
  refine (fun (hmain : ∀ (H : Heap) (locs : List Loc), zW K A s H locs (cMd K a0 a1 a2 a3 a4 a5 a6 a7 a8 a9 a10 a11 a12 a13 a14 a15 a16 a17 a18 a19 S) → W p l e ({ frames := 3, cells := 0, slots := 0, locals := 65 } : Room) s m ([.ref a0, .int p1] : List Value).toArray below meth c H locs 0 0 Q (F0 m 0 ls [])) => hmain s.heap [] hh) (fun H locs hh => ?_)
  refine lv_aload_n hx hb dX8_burn_0 rfl (lv_at hl 0 rfl) ?_
  refine lv_iload_n hx hb dX8_burn_1 rfl (lv_at hl 1 rfl) ?_
  obtain ⟨u8, hu8, hf⟩ := ob_bind hf
  refine zcallV (ci := 7) (q0 := 0) (As := [.int p1]) (rest := []) (wr := []) (ws' := cMd K a0 a1 a2 a3 a4 a5 a6 a7 a8 a9 a10 a11 a12 a13 a14 a15 a16 a17 a18 a19 S) (ov := some (.int u8)) X hh hl (kX8_isHouse l K a0 a1 a2 a3 a4 a5 a6 a7 a8 a9 a10 a11 a12 a13 a14 a15 a16 a17 a18 a19 S p1 u8 hu8) (fun ht => cwV 1 ht gX8_burn_X8_isHouse rfl rfl rfl ⟨rfl, hdX8_isHouse⟩ ⟨Nat.le_of_ble_eq_true rfl, Nat.le_of_ble_eq_true rfl⟩) [0, 1, 2, 3, 4, 5, 6, 7, 8, 9, 10, 11, 12, 13, 14, 15, 16, 17, 18, 19] [] [0, 1, 2, 3, 4, 5, 6, 7, 8, 9, 10, 11, 12, 13, 14, 15, 16, 17, 18, 19] rfl rfl rfl rfl (by decide) rfl rfl rfl rfl rfl rfl (Nat.le_of_ble_eq_true rfl) dX8_burn_2 ⟨Nat.zero_le _, Nat.zero_le _⟩ (fun H locs hh => ?_)
  refine lv_if_ne (tgt := 12) hx hb dX8_burn_5 (by decide) (fun c9 => ?_) (fun c9 => ?_)
  · replace hf := (if_neg c9).symm.trans hf
    refine lv_aload_n hx hb dX8_burn_12 rfl (lv_at hl 0 rfl) ?_
    refine lv_iload_n hx hb dX8_burn_13 rfl (lv_at hl 1 rfl) ?_
    obtain ⟨u10, hu10, hf⟩ := ob_bind hf
    refine zcallV (ci := 7) (q0 := 0) (As := [.int p1]) (rest := []) (wr := []) (ws' := cMd K a0 a1 a2 a3 a4 a5 a6 a7 a8 a9 a10 a11 a12 a13 a14 a15 a16 a17 a18 a19 S) (ov := some (.int u10)) X hh hl (kX8_doesStand l K a0 a1 a2 a3 a4 a5 a6 a7 a8 a9 a10 a11 a12 a13 a14 a15 a16 a17 a18 a19 S p1 u10 hu10) (fun ht => cwV 1 ht gX8_burn_X8_doesStand rfl rfl rfl ⟨rfl, hdX8_doesStand⟩ ⟨Nat.le_of_ble_eq_true rfl, Nat.le_of_ble_eq_true rfl⟩) [0, 1, 2, 3, 4, 5, 6, 7, 8, 9, 10, 11, 12, 13, 14, 15, 16, 17, 18, 19] [] [0, 1, 2, 3, 4, 5, 6, 7, 8, 9, 10, 11, 12, 13, 14, 15, 16, 17, 18, 19] rfl rfl rfl rfl (by decide) rfl rfl rfl rfl rfl rfl (Nat.le_of_ble_eq_true rfl) dX8_burn_14 ⟨Nat.zero_le _, Nat.zero_le _⟩ (fun H locs hh => ?_)
    refine lv_if_ne (tgt := 25) hx hb dX8_burn_17 (by decide) (fun c11 => ?_) (fun c11 => ?_)
    · replace hf := (if_neg c11).symm.trans hf
      refine lv_iconst (v := (0 : Int32)) hx hb dX8_burn_25 (by decide) ?_
      exact hJ26 p1 (0 : Int32) S H locs ls hf (lv_sub hl [0, 1] rfl) hh
    · replace hf := (if_pos c11).symm.trans hf
      refine lv_bipush (v := (-3 : Int32)) hx hb dX8_burn_20 (by decide) ?_
      refine lv_goto (tgt := 26) hx hb dX8_burn_22 (by decide) ?_
      exact hJ26 p1 (-3 : Int32) S H locs ls hf (lv_sub hl [0, 1] rfl) hh
  · replace hf := (if_pos c9).symm.trans hf
    refine lv_iconst (v := (-1 : Int32)) hx hb dX8_burn_8 (by decide) ?_
    refine lv_goto (tgt := 26) hx hb dX8_burn_9 (by decide) ?_
    exact hJ26 p1 (-1 : Int32) S H locs ls hf (lv_sub hl [0, 1] rfl) hh
def fX8_hangsOn (S : zMd) (p1 : Int32) : Option (Int32 × zMd) :=
  (fX8_standing S).bind fun u1 =>
  (fX8_passesAll S (2 : Int32) (1 : Int32)).bind fun u2 =>
  (fX8_burns u2 p1).bind fun u3 =>
  (fX8_standing u3).bind fun u4 =>
  (fX8_passesAll u3 (2 : Int32) (0 : Int32)).bind fun u5 =>
  some ((u1 &&& (u4 ^^^ (-1 : Int32))), u5)
theorem hdX8_hangsOn : yX8_hangsOn.cls ≠ "java/lang/invoke/MethodHandle" ∧ yX8_hangsOn.cls ≠ "java/lang/invoke/VarHandle" ∧ (parseMethodDescriptor yX8_hangsOn.desc).map (fun d => d.parameters.length) = some 1 := by decide +kernel
set_option maxHeartbeats 4000000 in
set_option maxRecDepth 100000 in
theorem kX8_hangsOn (l : Launch) (K : zK) (a0 a1 a2 a3 a4 a5 a6 a7 a8 a9 a10 a11 a12 a13 a14 a15 a16 a17 a18 a19 : Nat) (S : zMd) (p1 : Int32) (R : Int32 × zMd) (hf : fX8_hangsOn S p1 = some R) : zC l yX8_hangsOn wsX8_hangsOn ({ frames := 3, cells := 0, slots := 0, locals := 65 } : Room) K [.ref a0, .int p1] (cMd K a0 a1 a2 a3 a4 a5 a6 a7 a8 a9 a10 a11 a12 a13 a14 a15 a16 a17 a18 a19 S) (some (.int R.1)) (cMd K a0 a1 a2 a3 a4 a5 a6 a7 a8 a9 a10 a11 a12 a13 a14 a15 a16 a17 a18 a19 R.2) := by
  refine zC_i R.1 (cc := cX8_hangsOn) (maxL := 4) (by decide +kernel) rfl (Nat.le_of_ble_eq_true rfl) rfl rfl ?_
  intro p e s m below meth c Q A X hret ls hl hh
  have X : zX p m c cX8_hangsOn 4 s ([.ref a0, .int p1] : List Value).toArray wsX8_hangsOn RX8 K A := X
  have hx := X.1.1
  have hb := X.1.2.1
  have hr2 : ∀ (pc : Nat) (ls : Array Slot) (H : Heap) (locs : List Loc) (v : Int32) (S : zMd), some (v, S) = some R → decode cX8_hangsOn pc = .ok (.ireturn, 1) → zW K A s H locs (cMd K a0 a1 a2 a3 a4 a5 a6 a7 a8 a9 a10 a11 a12 a13 a14 a15 a16 a17 a18 a19 S) → W p l e ({ frames := 3, cells := 0, slots := 0, locals := 65 } : Room) s m ([.ref a0, .int p1] : List Value).toArray below meth c H locs 0 0 Q (F0 m pc ls [.int v]) := by
    intro pc ls H locs v S h hd hh
    cases h; exact hret pc ls H locs _ rfl hd hh
  have hl : lv_has ls 4 [(0, .ref a0), (1, .int p1)] := hl
  unfold fX8_hangsOn at hf
  refine (fun (hmain : ∀ (H : Heap) (locs : List Loc), zW K A s H locs (cMd K a0 a1 a2 a3 a4 a5 a6 a7 a8 a9 a10 a11 a12 a13 a14 a15 a16 a17 a18 a19 S) → W p l e ({ frames := 3, cells := 0, slots := 0, locals := 65 } : Room) s m ([.ref a0, .int p1] : List Value).toArray below meth c H locs 0 0 Q (F0 m 0 ls [])) => hmain s.heap [] hh) (fun H locs hh => ?_)
  refine lv_aload_n hx hb dX8_hangsOn_0 rfl (lv_at hl 0 rfl) ?_
  obtain ⟨u1, hu1, hf⟩ := ob_bind hf
  refine zcallV (ci := 7) (q0 := 0) (As := []) (rest := []) (wr := []) (ws' := cMd K a0 a1 a2 a3 a4 a5 a6 a7 a8 a9 a10 a11 a12 a13 a14 a15 a16 a17 a18 a19 S) (ov := some (.int u1)) X hh hl (kX8_standing l K a0 a1 a2 a3 a4 a5 a6 a7 a8 a9 a10 a11 a12 a13 a14 a15 a16 a17 a18 a19 S u1 hu1) (fun ht => cwV 0 ht gX8_hangsOn_X8_standing rfl rfl rfl ⟨rfl, hdX8_standing⟩ ⟨Nat.le_of_ble_eq_true rfl, Nat.le_of_ble_eq_true rfl⟩) [0, 1, 2, 3, 4, 5, 6, 7, 8, 9, 10, 11, 12, 13, 14, 15, 16, 17, 18, 19] [] [0, 1, 2, 3, 4, 5, 6, 7, 8, 9, 10, 11, 12, 13, 14, 15, 16, 17, 18, 19] rfl rfl rfl rfl (by decide) rfl rfl rfl rfl rfl rfl (Nat.le_of_ble_eq_true rfl) dX8_hangsOn_1 ⟨Nat.zero_le _, Nat.zero_le _⟩ (fun H locs hh => ?_)
  refine lv_istore_n (lv' := [(2, .int u1), (0, .ref a0), (1, .int p1)]) hx hb dX8_hangsOn_4 rfl hl (by decide) rfl (fun ls hl => ?_)
  refine lv_aload_n hx hb dX8_hangsOn_5 rfl (lv_at hl 1 rfl) ?_
  refine lv_iconst (v := (2 : Int32)) hx hb dX8_hangsOn_6 (by decide) ?_
  refine lv_iconst (v := (1 : Int32)) hx hb dX8_hangsOn_7 (by decide) ?_
  obtain ⟨u2, hu2, hf⟩ := ob_bind hf
  refine zcallV (ci := 7) (q0 := 0) (As := [.int (2 : Int32), .int (1 : Int32)]) (rest := []) (wr := []) (ws' := cMd K a0 a1 a2 a3 a4 a5 a6 a7 a8 a9 a10 a11 a12 a13 a14 a15 a16 a17 a18 a19 u2) (ov := none) X hh hl (kX8_passesAll l K a0 a1 a2 a3 a4 a5 a6 a7 a8 a9 a10 a11 a12 a13 a14 a15 a16 a17 a18 a19 S (2 : Int32) (1 : Int32) u2 hu2) (fun ht => cwV 2 ht gX8_hangsOn_X8_passesAll rfl rfl rfl ⟨rfl, hdX8_passesAll⟩ ⟨Nat.le_of_ble_eq_true rfl, Nat.le_of_ble_eq_true rfl⟩) [0, 1, 2, 3, 4, 5, 6, 7, 8, 9, 10, 11, 12, 13, 14, 15, 16, 17, 18, 19] [] [0, 1, 2, 3, 4, 5, 6, 7, 8, 9, 10, 11, 12, 13, 14, 15, 16, 17, 18, 19] rfl rfl rfl rfl (by decide) rfl rfl rfl rfl rfl rfl (Nat.le_of_ble_eq_true rfl) dX8_hangsOn_8 ⟨Nat.zero_le _, Nat.zero_le _⟩ (fun H locs hh => ?_)
  refine lv_aload_n hx hb dX8_hangsOn_11 rfl (lv_at hl 1 rfl) ?_
  refine lv_iload_n hx hb dX8_hangsOn_12 rfl (lv_at hl 2 rfl) ?_
  obtain ⟨u3, hu3, hf⟩ := ob_bind hf
  refine zcallV (ci := 7) (q0 := 0) (As := [.int p1]) (rest := []) (wr := []) (ws' := cMd K a0 a1 a2 a3 a4 a5 a6 a7 a8 a9 a10 a11 a12 a13 a14 a15 a16 a17 a18 a19 u3) (ov := none) X hh hl (kX8_burns l K a0 a1 a2 a3 a4 a5 a6 a7 a8 a9 a10 a11 a12 a13 a14 a15 a16 a17 a18 a19 u2 p1 u3 hu3) (fun ht => cwV 1 ht gX8_hangsOn_X8_burns rfl rfl rfl ⟨rfl, hdX8_burns⟩ ⟨Nat.le_of_ble_eq_true rfl, Nat.le_of_ble_eq_true rfl⟩) [0, 1, 2, 3, 4, 5, 6, 7, 8, 9, 10, 11, 12, 13, 14, 15, 16, 17, 18, 19] [] [0, 1, 2, 3, 4, 5, 6, 7, 8, 9, 10, 11, 12, 13, 14, 15, 16, 17, 18, 19] rfl rfl rfl rfl (by decide) rfl rfl rfl rfl rfl rfl (Nat.le_of_ble_eq_true rfl) dX8_hangsOn_13 ⟨Nat.zero_le _, Nat.zero_le _⟩ (fun H locs hh => ?_)
  refine lv_iload_n hx hb dX8_hangsOn_16 rfl (lv_at hl 0 rfl) ?_
  refine lv_aload_n hx hb dX8_hangsOn_17 rfl (lv_at hl 1 rfl) ?_
  obtain ⟨u4, hu4, hf⟩ := ob_bind hf
  refine zcallV (ci := 7) (q0 := 0) (As := []) (rest := [.int u1]) (wr := []) (ws' := cMd K a0 a1 a2 a3 a4 a5 a6 a7 a8 a9 a10 a11 a12 a13 a14 a15 a16 a17 a18 a19 u3) (ov := some (.int u4)) X hh hl (kX8_standing l K a0 a1 a2 a3 a4 a5 a6 a7 a8 a9 a10 a11 a12 a13 a14 a15 a16 a17 a18 a19 u3 u4 hu4) (fun ht => cwV 0 ht gX8_hangsOn_X8_standing rfl rfl rfl ⟨rfl, hdX8_standing⟩ ⟨Nat.le_of_ble_eq_true rfl, Nat.le_of_ble_eq_true rfl⟩) [0, 1, 2, 3, 4, 5, 6, 7, 8, 9, 10, 11, 12, 13, 14, 15, 16, 17, 18, 19] [] [0, 1, 2, 3, 4, 5, 6, 7, 8, 9, 10, 11, 12, 13, 14, 15, 16, 17, 18, 19] rfl rfl rfl rfl (by decide) rfl rfl rfl rfl rfl rfl (Nat.le_of_ble_eq_true rfl) dX8_hangsOn_18 ⟨Nat.zero_le _, Nat.zero_le _⟩ (fun H locs hh => ?_)
  refine lv_iconst (v := (-1 : Int32)) hx hb dX8_hangsOn_21 (by decide) ?_
  refine lv_ixor hx hb dX8_hangsOn_22 ?_
  refine lv_iand hx hb dX8_hangsOn_23 ?_
  refine lv_istore_n (lv' := [(3, .int (u1 &&& (u4 ^^^ (-1 : Int32)))), (2, .int u1), (0, .ref a0), (1, .int p1)]) hx hb dX8_hangsOn_24 rfl hl (by decide) rfl (fun ls hl => ?_)
  refine lv_aload_n hx hb dX8_hangsOn_25 rfl (lv_at hl 2 rfl) ?_
  refine lv_iconst (v := (2 : Int32)) hx hb dX8_hangsOn_26 (by decide) ?_
  refine lv_iconst (v := (0 : Int32)) hx hb dX8_hangsOn_27 (by decide) ?_
  obtain ⟨u5, hu5, hf⟩ := ob_bind hf
  refine zcallV (ci := 7) (q0 := 0) (As := [.int (2 : Int32), .int (0 : Int32)]) (rest := []) (wr := []) (ws' := cMd K a0 a1 a2 a3 a4 a5 a6 a7 a8 a9 a10 a11 a12 a13 a14 a15 a16 a17 a18 a19 u5) (ov := none) X hh hl (kX8_passesAll l K a0 a1 a2 a3 a4 a5 a6 a7 a8 a9 a10 a11 a12 a13 a14 a15 a16 a17 a18 a19 u3 (2 : Int32) (0 : Int32) u5 hu5) (fun ht => cwV 2 ht gX8_hangsOn_X8_passesAll rfl rfl rfl ⟨rfl, hdX8_passesAll⟩ ⟨Nat.le_of_ble_eq_true rfl, Nat.le_of_ble_eq_true rfl⟩) [0, 1, 2, 3, 4, 5, 6, 7, 8, 9, 10, 11, 12, 13, 14, 15, 16, 17, 18, 19] [] [0, 1, 2, 3, 4, 5, 6, 7, 8, 9, 10, 11, 12, 13, 14, 15, 16, 17, 18, 19] rfl rfl rfl rfl (by decide) rfl rfl rfl rfl rfl rfl (Nat.le_of_ble_eq_true rfl) dX8_hangsOn_28 ⟨Nat.zero_le _, Nat.zero_le _⟩ (fun H locs hh => ?_)
  refine lv_iload_n hx hb dX8_hangsOn_31 rfl (lv_at hl 0 rfl) ?_
  exact hr2 32 ls H locs (u1 &&& (u4 ^^^ (-1 : Int32))) u5 hf dX8_hangsOn_32 hh
def fX8_hangs_j26 (v1 : Int32) (t0 : Int32) (S : zMd) : Option (Int32 × zMd) :=
  if t0 = (0 : Int32) then
  ((fX8_hangsOn S v1).bind fun u2 =>
  some (u2.1, u2.2))
  else
  ((fX8_no S t0).bind fun u3 =>
  some (u3.1, u3.2))
def fX8_hangs (S : zMd) (p1 : Int32) : Option (Int32 × zMd) :=
  (fX8_isHouse S p1).bind fun u4 =>
  if u4 = (0 : Int32) then
  (fX8_hangs_j26 p1 (-1 : Int32) S)
  else
  ((fX8_doesStand S p1).bind fun u6 =>
  if u6 = (0 : Int32) then
  (fX8_hangs_j26 p1 (-3 : Int32) S)
  else
  (fX8_hangs_j26 p1 (0 : Int32) S))
theorem hdX8_hangs : yX8_hangs.cls ≠ "java/lang/invoke/MethodHandle" ∧ yX8_hangs.cls ≠ "java/lang/invoke/VarHandle" ∧ (parseMethodDescriptor yX8_hangs.desc).map (fun d => d.parameters.length) = some 1 := by decide +kernel
set_option maxHeartbeats 4000000 in
set_option maxRecDepth 100000 in
theorem kX8_hangs (l : Launch) (K : zK) (a0 a1 a2 a3 a4 a5 a6 a7 a8 a9 a10 a11 a12 a13 a14 a15 a16 a17 a18 a19 : Nat) (S : zMd) (p1 : Int32) (R : Int32 × zMd) (hf : fX8_hangs S p1 = some R) : zC l yX8_hangs wsX8_hangs ({ frames := 4, cells := 0, slots := 0, locals := 88 } : Room) K [.ref a0, .int p1] (cMd K a0 a1 a2 a3 a4 a5 a6 a7 a8 a9 a10 a11 a12 a13 a14 a15 a16 a17 a18 a19 S) (some (.int R.1)) (cMd K a0 a1 a2 a3 a4 a5 a6 a7 a8 a9 a10 a11 a12 a13 a14 a15 a16 a17 a18 a19 R.2) := by
  refine zC_i R.1 (cc := cX8_hangs) (maxL := 3) (by decide +kernel) rfl (Nat.le_of_ble_eq_true rfl) rfl rfl ?_
  intro p e s m below meth c Q A X hret ls hl hh
  have X : zX p m c cX8_hangs 3 s ([.ref a0, .int p1] : List Value).toArray wsX8_hangs RX8 K A := X
  have hx := X.1.1
  have hb := X.1.2.1
  have hr2 : ∀ (pc : Nat) (ls : Array Slot) (H : Heap) (locs : List Loc) (v : Int32) (S : zMd), some (v, S) = some R → decode cX8_hangs pc = .ok (.ireturn, 1) → zW K A s H locs (cMd K a0 a1 a2 a3 a4 a5 a6 a7 a8 a9 a10 a11 a12 a13 a14 a15 a16 a17 a18 a19 S) → W p l e ({ frames := 4, cells := 0, slots := 0, locals := 88 } : Room) s m ([.ref a0, .int p1] : List Value).toArray below meth c H locs 0 0 Q (F0 m pc ls [.int v]) := by
    intro pc ls H locs v S h hd hh
    cases h; exact hret pc ls H locs _ rfl hd hh
  have hl : lv_has ls 3 [(0, .ref a0), (1, .int p1)] := hl
  have hJ26 : ∀ (v1 : Int32) (t0 : Int32) (S : zMd), ∀ (H : Heap) (locs : List Loc) (ls : Array Slot), fX8_hangs_j26 v1 t0 S = some R → lv_has ls 3 [(0, .ref a0), (1, .int v1)] → zW K A s H locs (cMd K a0 a1 a2 a3 a4 a5 a6 a7 a8 a9 a10 a11 a12 a13 a14 a15 a16 a17 a18 a19 S) → W p l e ({ frames := 4, cells := 0, slots := 0, locals := 88 } : Room) s m ([.ref a0, .int p1] : List Value).toArray below meth c H locs 0 0 Q (F0 m 26 ls [.int t0]) := by
    intro v1 t0 S H locs ls hf hl hh
    unfold fX8_hangs_j26 at hf
    refine lv_istore_n (lv' := [(2, .int t0), (0, .ref a0), (1, .int v1)]) hx hb dX8_hangs_26 rfl hl (by decide) rfl (fun ls hl => ?_)
    refine lv_iload_n hx hb dX8_hangs_27 rfl (lv_at hl 0 rfl) ?_
    refine lv_if_eq (tgt := 39) hx hb dX8_hangs_28 (by decide) (fun c1 => ?_) (fun c1 => ?_)
    · replace hf := (if_pos c1).symm.trans hf
      refine lv_aload_n hx hb dX8_hangs_39 rfl (lv_at hl 1 rfl) ?_
      refine lv_iload_n hx hb dX8_hangs_40 rfl (lv_at hl 2 rfl) ?_
      obtain ⟨u2, hu2, hf⟩ := ob_bind hf
      refine zcallV (ci := 7) (q0 := 0) (As := [.int v1]) (rest := []) (wr := []) (ws' := cMd K a0 a1 a2 a3 a4 a5 a6 a7 a8 a9 a10 a11 a12 a13 a14 a15 a16 a17 a18 a19 u2.2) (ov := some (.int u2.1)) X hh hl (kX8_hangsOn l K a0 a1 a2 a3 a4 a5 a6 a7 a8 a9 a10 a11 a12 a13 a14 a15 a16 a17 a18 a19 S v1 u2 hu2) (fun ht => cwV 1 ht gX8_hangs_X8_hangsOn rfl rfl rfl ⟨rfl, hdX8_hangsOn⟩ ⟨Nat.le_of_ble_eq_true rfl, Nat.le_of_ble_eq_true rfl⟩) [0, 1, 2, 3, 4, 5, 6, 7, 8, 9, 10, 11, 12, 13, 14, 15, 16, 17, 18, 19] [] [0, 1, 2, 3, 4, 5, 6, 7, 8, 9, 10, 11, 12, 13, 14, 15, 16, 17, 18, 19] rfl rfl rfl rfl (by decide) rfl rfl rfl rfl rfl rfl (Nat.le_of_ble_eq_true rfl) dX8_hangs_41 ⟨Nat.zero_le _, Nat.zero_le _⟩ (fun H locs hh => ?_)
      exact hr2 44 ls H locs u2.1 u2.2 hf dX8_hangs_44 hh
    · replace hf := (if_neg c1).symm.trans hf
      refine lv_aload_n hx hb dX8_hangs_31 rfl (lv_at hl 1 rfl) ?_
      refine lv_iload_n hx hb dX8_hangs_32 rfl (lv_at hl 0 rfl) ?_
      obtain ⟨u3, hu3, hf⟩ := ob_bind hf
      refine zcallV (ci := 7) (q0 := 0) (As := [.int t0]) (rest := []) (wr := []) (ws' := cMd K a0 a1 a2 a3 a4 a5 a6 a7 a8 a9 a10 a11 a12 a13 a14 a15 a16 a17 a18 a19 u3.2) (ov := some (.int u3.1)) X hh hl (kX8_no l K a0 a1 a2 a3 a4 a5 a6 a7 a8 a9 a10 a11 a12 a13 a14 a15 a16 a17 a18 a19 S t0 u3 hu3) (fun ht => cwV 1 ht gX8_hangs_X8_no rfl rfl rfl ⟨rfl, hdX8_no⟩ ⟨Nat.le_of_ble_eq_true rfl, Nat.le_of_ble_eq_true rfl⟩) [0, 1, 2, 3, 4, 5, 6, 7, 8, 9, 10, 11, 12, 13, 14, 15, 16, 17, 18, 19] [] [0, 1, 2, 3, 4, 5, 6, 7, 8, 9, 10, 11, 12, 13, 14, 15, 16, 17, 18, 19] rfl rfl rfl rfl (by decide) rfl rfl rfl rfl rfl rfl (Nat.le_of_ble_eq_true rfl) dX8_hangs_33 ⟨Nat.zero_le _, Nat.zero_le _⟩ (fun H locs hh => ?_)
      refine lv_goto (tgt := 44) hx hb dX8_hangs_36 (by decide) ?_
      exact hr2 44 ls H locs u3.1 u3.2 hf dX8_hangs_44 hh
  unfold fX8_hangs at hf
  refine (fun (hmain : ∀ (H : Heap) (locs : List Loc), zW K A s H locs (cMd K a0 a1 a2 a3 a4 a5 a6 a7 a8 a9 a10 a11 a12 a13 a14 a15 a16 a17 a18 a19 S) → W p l e ({ frames := 4, cells := 0, slots := 0, locals := 88 } : Room) s m ([.ref a0, .int p1] : List Value).toArray below meth c H locs 0 0 Q (F0 m 0 ls [])) => hmain s.heap [] hh) (fun H locs hh => ?_)
  refine lv_aload_n hx hb dX8_hangs_0 rfl (lv_at hl 0 rfl) ?_
  refine lv_iload_n hx hb dX8_hangs_1 rfl (lv_at hl 1 rfl) ?_
  obtain ⟨u4, hu4, hf⟩ := ob_bind hf
  refine zcallV (ci := 7) (q0 := 0) (As := [.int p1]) (rest := []) (wr := []) (ws' := cMd K a0 a1 a2 a3 a4 a5 a6 a7 a8 a9 a10 a11 a12 a13 a14 a15 a16 a17 a18 a19 S) (ov := some (.int u4)) X hh hl (kX8_isHouse l K a0 a1 a2 a3 a4 a5 a6 a7 a8 a9 a10 a11 a12 a13 a14 a15 a16 a17 a18 a19 S p1 u4 hu4) (fun ht => cwV 1 ht gX8_hangs_X8_isHouse rfl rfl rfl ⟨rfl, hdX8_isHouse⟩ ⟨Nat.le_of_ble_eq_true rfl, Nat.le_of_ble_eq_true rfl⟩) [0, 1, 2, 3, 4, 5, 6, 7, 8, 9, 10, 11, 12, 13, 14, 15, 16, 17, 18, 19] [] [0, 1, 2, 3, 4, 5, 6, 7, 8, 9, 10, 11, 12, 13, 14, 15, 16, 17, 18, 19] rfl rfl rfl rfl (by decide) rfl rfl rfl rfl rfl rfl (Nat.le_of_ble_eq_true rfl) dX8_hangs_2 ⟨Nat.zero_le _, Nat.zero_le _⟩ (fun H locs hh => ?_)
  refine lv_if_ne (tgt := 12) hx hb dX8_hangs_5 (by decide) (fun c5 => ?_) (fun c5 => ?_)
  · replace hf := (if_neg c5).symm.trans hf
    refine lv_aload_n hx hb dX8_hangs_12 rfl (lv_at hl 0 rfl) ?_
    refine lv_iload_n hx hb dX8_hangs_13 rfl (lv_at hl 1 rfl) ?_
    obtain ⟨u6, hu6, hf⟩ := ob_bind hf
    refine zcallV (ci := 7) (q0 := 0) (As := [.int p1]) (rest := []) (wr := []) (ws' := cMd K a0 a1 a2 a3 a4 a5 a6 a7 a8 a9 a10 a11 a12 a13 a14 a15 a16 a17 a18 a19 S) (ov := some (.int u6)) X hh hl (kX8_doesStand l K a0 a1 a2 a3 a4 a5 a6 a7 a8 a9 a10 a11 a12 a13 a14 a15 a16 a17 a18 a19 S p1 u6 hu6) (fun ht => cwV 1 ht gX8_hangs_X8_doesStand rfl rfl rfl ⟨rfl, hdX8_doesStand⟩ ⟨Nat.le_of_ble_eq_true rfl, Nat.le_of_ble_eq_true rfl⟩) [0, 1, 2, 3, 4, 5, 6, 7, 8, 9, 10, 11, 12, 13, 14, 15, 16, 17, 18, 19] [] [0, 1, 2, 3, 4, 5, 6, 7, 8, 9, 10, 11, 12, 13, 14, 15, 16, 17, 18, 19] rfl rfl rfl rfl (by decide) rfl rfl rfl rfl rfl rfl (Nat.le_of_ble_eq_true rfl) dX8_hangs_14 ⟨Nat.zero_le _, Nat.zero_le _⟩ (fun H locs hh => ?_)
    refine lv_if_ne (tgt := 25) hx hb dX8_hangs_17 (by decide) (fun c7 => ?_) (fun c7 => ?_)
    · replace hf := (if_neg c7).symm.trans hf
      refine lv_iconst (v := (0 : Int32)) hx hb dX8_hangs_25 (by decide) ?_
      exact hJ26 p1 (0 : Int32) S H locs ls hf (lv_sub hl [0, 1] rfl) hh
    · replace hf := (if_pos c7).symm.trans hf
      refine lv_bipush (v := (-3 : Int32)) hx hb dX8_hangs_20 (by decide) ?_
      refine lv_goto (tgt := 26) hx hb dX8_hangs_22 (by decide) ?_
      exact hJ26 p1 (-3 : Int32) S H locs ls hf (lv_sub hl [0, 1] rfl) hh
  · replace hf := (if_pos c5).symm.trans hf
    refine lv_iconst (v := (-1 : Int32)) hx hb dX8_hangs_8 (by decide) ?_
    refine lv_goto (tgt := 26) hx hb dX8_hangs_9 (by decide) ?_
    exact hJ26 p1 (-1 : Int32) S H locs ls hf (lv_sub hl [0, 1] rfl) hh
def fX8_save_j53 (v1 : Int32) (v2 : Int32) (v3 : Int32) (S : zMd) (k7 : (Int32) → (Int32) → (Int32) → (zMd) → Option (Int32 × zMd)) : Option (Int32 × zMd) :=
  k7 v1 v2 (v3 + (1 : Int32)) S
def fX8_save_j37 (v1 : Int32) (v2 : Int32) (v3 : Int32) (t0 : Int32) (S : zMd) (k7 : (Int32) → (Int32) → (Int32) → (zMd) → Option (Int32 × zMd)) : Option (Int32 × zMd) :=
  if v2 < t0 then
  (fX8_save_j53 v3 t0 v3 S (k7))
  else
  (fX8_save_j53 v1 v2 v3 S (k7))
def fX8_save_l7  : Nat → (Int32) → (Int32) → (Int32) → (zMd) → Option (Int32 × zMd)
  | 0, _, _, _, _ => none
  | n + 1, v1, v2, v3, S =>
  if (md_houses S) ≤ v3 then
  (some (v1, S))
  else
  (ix 12 v3 (if ((md_stands S) v3.toNatClampNeg) = (1 : Int32) then
  ((fX8_hangsOn S v3).bind fun u5 =>
  (fX8_bits u5.1).bind fun u6 =>
  fX8_save_j37 v1 v2 v3 u6 u5.2 (fX8_save_l7  n))
  else
  (fX8_save_j37 v1 v2 v3 (0 : Int32) S (fX8_save_l7  n))))
def fX8_save (S : zMd) : Option (Int32 × zMd) :=
  fX8_save_l7 FU (-9 : Int32) (0 : Int32) (0 : Int32) S
theorem inX8_save_X8 : ∀ w ∈ wsX80, w ∈ wsX8_save := by decide +kernel
theorem mmX8_save_0 : Cond.fieldLink RX8 70 "SumOfTwoThatStandModel" "houses" "I" ∈ wsX8_save := by decide +kernel
theorem mmX8_save_1 : Cond.fieldLink RX8 28 "SumOfTwoThatStandModel" "stands" "[I" ∈ wsX8_save := by decide +kernel
theorem hdX8_save : yX8_save.cls ≠ "java/lang/invoke/MethodHandle" ∧ yX8_save.cls ≠ "java/lang/invoke/VarHandle" ∧ (parseMethodDescriptor yX8_save.desc).map (fun d => d.parameters.length) = some 0 := by decide +kernel
set_option maxHeartbeats 4000000 in
set_option maxRecDepth 100000 in
theorem kX8_save (l : Launch) (K : zK) (a0 a1 a2 a3 a4 a5 a6 a7 a8 a9 a10 a11 a12 a13 a14 a15 a16 a17 a18 a19 : Nat) (S : zMd) (R : Int32 × zMd) (hf : fX8_save S = some R) : zC l yX8_save wsX8_save ({ frames := 4, cells := 0, slots := 0, locals := 88 } : Room) K [.ref a0] (cMd K a0 a1 a2 a3 a4 a5 a6 a7 a8 a9 a10 a11 a12 a13 a14 a15 a16 a17 a18 a19 S) (some (.int R.1)) (cMd K a0 a1 a2 a3 a4 a5 a6 a7 a8 a9 a10 a11 a12 a13 a14 a15 a16 a17 a18 a19 R.2) := by
  refine zC_i R.1 (cc := cX8_save) (maxL := 5) (by decide +kernel) rfl (Nat.le_of_ble_eq_true rfl) rfl rfl ?_
  intro p e s m below meth c Q A X hret ls hl hh
  have X : zX p m c cX8_save 5 s ([.ref a0] : List Value).toArray wsX8_save RX8 K A := X
  have hx := X.1.1
  have hb := X.1.2.1
  have hr2 : ∀ (pc : Nat) (ls : Array Slot) (H : Heap) (locs : List Loc) (v : Int32) (S : zMd), some (v, S) = some R → decode cX8_save pc = .ok (.ireturn, 1) → zW K A s H locs (cMd K a0 a1 a2 a3 a4 a5 a6 a7 a8 a9 a10 a11 a12 a13 a14 a15 a16 a17 a18 a19 S) → W p l e ({ frames := 4, cells := 0, slots := 0, locals := 88 } : Room) s m ([.ref a0] : List Value).toArray below meth c H locs 0 0 Q (F0 m pc ls [.int v]) := by
    intro pc ls H locs v S h hd hh
    cases h; exact hret pc ls H locs _ rfl hd hh
  have hl : lv_has ls 5 [(0, .ref a0)] := hl
  have hJ53 : ∀ (v1 : Int32) (v2 : Int32) (v3 : Int32) (S : zMd) (k7 : (Int32) → (Int32) → (Int32) → (zMd) → Option (Int32 × zMd)), (∀ (v1 : Int32) (v2 : Int32) (v3 : Int32) (S : zMd) (H : Heap) (locs : List Loc) (ls : Array Slot), k7 v1 v2 v3 S = some R → lv_has ls 5 [(0, .ref a0), (1, .int v1), (2, .int v2), (3, .int v3)] → zW K A s H locs (cMd K a0 a1 a2 a3 a4 a5 a6 a7 a8 a9 a10 a11 a12 a13 a14 a15 a16 a17 a18 a19 S) → W p l e ({ frames := 4, cells := 0, slots := 0, locals := 88 } : Room) s m ([.ref a0] : List Value).toArray below meth c H locs 0 0 Q (F0 m 7 ls [])) → ∀ (H : Heap) (locs : List Loc) (ls : Array Slot), fX8_save_j53 v1 v2 v3 S k7 = some R → lv_has ls 5 [(0, .ref a0), (1, .int v1), (2, .int v2), (3, .int v3)] → zW K A s H locs (cMd K a0 a1 a2 a3 a4 a5 a6 a7 a8 a9 a10 a11 a12 a13 a14 a15 a16 a17 a18 a19 S) → W p l e ({ frames := 4, cells := 0, slots := 0, locals := 88 } : Room) s m ([.ref a0] : List Value).toArray below meth c H locs 0 0 Q (F0 m 53 ls []) := by
    intro v1 v2 v3 S k7 hk7 H locs ls hf hl hh
    unfold fX8_save_j53 at hf
    refine lv_iinc (v := (v3 + (1 : Int32))) (lv' := [(3, .int (v3 + (1 : Int32))), (0, .ref a0), (1, .int v1), (2, .int v2)]) hx hb dX8_save_53 hl (k := 3) rfl rfl (by decide) rfl (fun ls hl => ?_)
    refine lv_goto (tgt := 7) hx hb dX8_save_56 (by decide) ?_
    exact hk7 v1 v2 (v3 + (1 : Int32)) S H locs ls hf (lv_sub hl [1, 2, 3, 0] rfl) hh
  have hJ37 : ∀ (v1 : Int32) (v2 : Int32) (v3 : Int32) (t0 : Int32) (S : zMd) (k7 : (Int32) → (Int32) → (Int32) → (zMd) → Option (Int32 × zMd)), (∀ (v1 : Int32) (v2 : Int32) (v3 : Int32) (S : zMd) (H : Heap) (locs : List Loc) (ls : Array Slot), k7 v1 v2 v3 S = some R → lv_has ls 5 [(0, .ref a0), (1, .int v1), (2, .int v2), (3, .int v3)] → zW K A s H locs (cMd K a0 a1 a2 a3 a4 a5 a6 a7 a8 a9 a10 a11 a12 a13 a14 a15 a16 a17 a18 a19 S) → W p l e ({ frames := 4, cells := 0, slots := 0, locals := 88 } : Room) s m ([.ref a0] : List Value).toArray below meth c H locs 0 0 Q (F0 m 7 ls [])) → ∀ (H : Heap) (locs : List Loc) (ls : Array Slot), fX8_save_j37 v1 v2 v3 t0 S k7 = some R → lv_has ls 5 [(0, .ref a0), (1, .int v1), (2, .int v2), (3, .int v3)] → zW K A s H locs (cMd K a0 a1 a2 a3 a4 a5 a6 a7 a8 a9 a10 a11 a12 a13 a14 a15 a16 a17 a18 a19 S) → W p l e ({ frames := 4, cells := 0, slots := 0, locals := 88 } : Room) s m ([.ref a0] : List Value).toArray below meth c H locs 0 0 Q (F0 m 37 ls [.int t0]) := by
    intro v1 v2 v3 t0 S k7 hk7 H locs ls hf hl hh
    unfold fX8_save_j37 at hf
    refine lv_istore (lv' := [(4, .int t0), (0, .ref a0), (1, .int v1), (2, .int v2), (3, .int v3)]) hx hb dX8_save_37 hl (by decide) rfl (fun ls hl => ?_)
    refine lv_iload hx hb dX8_save_39 (lv_at hl 0 rfl) ?_
    refine lv_iload_n hx hb dX8_save_41 rfl (lv_at hl 3 rfl) ?_
    refine lv_icmp_gt (tgt := 48) hx hb dX8_save_42 (by decide) (fun c1 => ?_) (fun c1 => ?_)
    · replace hf := (if_pos c1).symm.trans hf
      refine lv_iload_n hx hb dX8_save_48 rfl (lv_at hl 4 rfl) ?_
      refine lv_istore_n (lv' := [(1, .int v3), (4, .int t0), (0, .ref a0), (2, .int v2), (3, .int v3)]) hx hb dX8_save_49 rfl hl (by decide) rfl (fun ls hl => ?_)
      refine lv_iload hx hb dX8_save_50 (lv_at hl 1 rfl) ?_
      refine lv_istore_n (lv' := [(2, .int t0), (1, .int v3), (4, .int t0), (0, .ref a0), (3, .int v3)]) hx hb dX8_save_52 rfl hl (by decide) rfl (fun ls hl => ?_)
      exact hJ53 v3 t0 v3 S (k7) (hk7) H locs ls hf (lv_sub hl [3, 1, 0, 4] rfl) hh
    · replace hf := (if_neg c1).symm.trans hf
      refine lv_goto (tgt := 53) hx hb dX8_save_45 (by decide) ?_
      exact hJ53 v1 v2 v3 S (k7) (hk7) H locs ls hf (lv_sub hl [1, 2, 3, 4] rfl) hh
  have hL7 : ∀ (n : Nat) (v1 : Int32) (v2 : Int32) (v3 : Int32) (S : zMd), ∀ (H : Heap) (locs : List Loc) (ls : Array Slot), fX8_save_l7 n v1 v2 v3 S = some R → lv_has ls 5 [(0, .ref a0), (1, .int v1), (2, .int v2), (3, .int v3)] → zW K A s H locs (cMd K a0 a1 a2 a3 a4 a5 a6 a7 a8 a9 a10 a11 a12 a13 a14 a15 a16 a17 a18 a19 S) → W p l e ({ frames := 4, cells := 0, slots := 0, locals := 88 } : Room) s m ([.ref a0] : List Value).toArray below meth c H locs 0 0 Q (F0 m 7 ls []) := by
    intro n
    induction n with
    | zero =>
      intro v1 v2 v3 S H locs ls hf hl hh
      rw [fX8_save_l7] at hf; cases hf
    | succ n ih =>
      intro v1 v2 v3 S H locs ls hf hl hh
      rw [fX8_save_l7] at hf
      refine lv_iload_n hx hb dX8_save_7 rfl (lv_at hl 3 rfl) ?_
      refine lv_aload_n hx hb dX8_save_8 rfl (lv_at hl 0 rfl) ?_
      refine zget (v := .int (md_houses S)) (ref := "SumOfTwoThatStandModel") (C := RX8) (T := TX8) (N := 33) (index := 70) X hh inX8_save_X8 0 rfl rfl 9 (by decide) mmX8_save_0 rfl rfl dX8_save_9 ?_
      refine lv_icmp_ge (tgt := 59) hx hb dX8_save_12 (by decide) (fun c2 => ?_) (fun c2 => ?_)
      · replace hf := (if_pos c2).symm.trans hf
        refine lv_iload_n hx hb dX8_save_59 rfl (lv_at hl 1 rfl) ?_
        exact hr2 60 ls H locs v1 S hf dX8_save_60 hh
      · replace hf := (if_neg c2).symm.trans hf
        refine lv_aload_n hx hb dX8_save_15 rfl (lv_at hl 0 rfl) ?_
        refine zget (v := .ref a7) (ref := "SumOfTwoThatStandModel") (C := RX8) (T := TX8) (N := 33) (index := 28) X hh inX8_save_X8 0 rfl rfl 6 (by decide) mmX8_save_1 rfl rfl dX8_save_16 ?_
        refine lv_iload_n hx hb dX8_save_19 rfl (lv_at hl 3 rfl) ?_
        obtain ⟨g3, hf⟩ := ob_ix hf
        refine ziald (f := (md_stands S)) X hh 7 rfl g3 dX8_save_20 ?_
        refine lv_iconst (v := (1 : Int32)) hx hb dX8_save_21 (by decide) ?_
        refine lv_icmp_ne (tgt := 36) hx hb dX8_save_22 (by decide) (fun c4 => ?_) (fun c4 => ?_)
        · replace hf := (if_neg c4).symm.trans hf
          refine lv_iconst (v := (0 : Int32)) hx hb dX8_save_36 (by decide) ?_
          exact hJ37 v1 v2 v3 (0 : Int32) S (fX8_save_l7  n) (ih) H locs ls hf (lv_sub hl [0, 1, 2, 3] rfl) hh
        · replace hf := (if_pos c4).symm.trans hf
          refine lv_aload_n hx hb dX8_save_25 rfl (lv_at hl 0 rfl) ?_
          refine lv_iload_n hx hb dX8_save_26 rfl (lv_at hl 3 rfl) ?_
          obtain ⟨u5, hu5, hf⟩ := ob_bind hf
          refine zcallV (ci := 7) (q0 := 0) (As := [.int v3]) (rest := []) (wr := []) (ws' := cMd K a0 a1 a2 a3 a4 a5 a6 a7 a8 a9 a10 a11 a12 a13 a14 a15 a16 a17 a18 a19 u5.2) (ov := some (.int u5.1)) X hh hl (kX8_hangsOn l K a0 a1 a2 a3 a4 a5 a6 a7 a8 a9 a10 a11 a12 a13 a14 a15 a16 a17 a18 a19 S v3 u5 hu5) (fun ht => cwV 1 ht gX8_save_X8_hangsOn rfl rfl rfl ⟨rfl, hdX8_hangsOn⟩ ⟨Nat.le_of_ble_eq_true rfl, Nat.le_of_ble_eq_true rfl⟩) [0, 1, 2, 3, 4, 5, 6, 7, 8, 9, 10, 11, 12, 13, 14, 15, 16, 17, 18, 19] [] [0, 1, 2, 3, 4, 5, 6, 7, 8, 9, 10, 11, 12, 13, 14, 15, 16, 17, 18, 19] rfl rfl rfl rfl (by decide) rfl rfl rfl rfl rfl rfl (Nat.le_of_ble_eq_true rfl) dX8_save_27 ⟨Nat.zero_le _, Nat.zero_le _⟩ (fun H locs hh => ?_)
          obtain ⟨u6, hu6, hf⟩ := ob_bind hf
          refine zcallS (As := [.int u5.1]) (rest := []) (wr := cMd K a0 a1 a2 a3 a4 a5 a6 a7 a8 a9 a10 a11 a12 a13 a14 a15 a16 a17 a18 a19 u5.2) (ws' := cMd K a0 a1 a2 a3 a4 a5 a6 a7 a8 a9 a10 a11 a12 a13 a14 a15 a16 a17 a18 a19 u5.2) (ov := some (.int u6)) X hh hl (kX8_bits l K u5.1 u6 hu6) (fun ht => va_cwS 1 ht gX8_save_X8_bits rfl rfl rfl hdX8_bits ⟨Nat.le_of_ble_eq_true rfl, Nat.le_of_ble_eq_true rfl⟩) [] [0, 1, 2, 3, 4, 5, 6, 7, 8, 9, 10, 11, 12, 13, 14, 15, 16, 17, 18, 19] [0, 1, 2, 3, 4, 5, 6, 7, 8, 9, 10, 11, 12, 13, 14, 15, 16, 17, 18, 19] rfl rfl rfl rfl (by decide) rfl rfl rfl rfl (Nat.le_of_ble_eq_true rfl) dX8_save_30 ⟨Nat.zero_le _, Nat.zero_le _⟩ (fun H locs hh => ?_)
          refine lv_goto (tgt := 37) hx hb dX8_save_33 (by decide) ?_
          exact hJ37 v1 v2 v3 u6 u5.2 (fX8_save_l7  n) (ih) H locs ls hf (lv_sub hl [0, 1, 2, 3] rfl) hh
  unfold fX8_save at hf
  refine (fun (hmain : ∀ (H : Heap) (locs : List Loc), zW K A s H locs (cMd K a0 a1 a2 a3 a4 a5 a6 a7 a8 a9 a10 a11 a12 a13 a14 a15 a16 a17 a18 a19 S) → W p l e ({ frames := 4, cells := 0, slots := 0, locals := 88 } : Room) s m ([.ref a0] : List Value).toArray below meth c H locs 0 0 Q (F0 m 0 ls [])) => hmain s.heap [] hh) (fun H locs hh => ?_)
  refine lv_bipush (v := (-9 : Int32)) hx hb dX8_save_0 (by decide) ?_
  refine lv_istore_n (lv' := [(1, .int (-9 : Int32)), (0, .ref a0)]) hx hb dX8_save_2 rfl hl (by decide) rfl (fun ls hl => ?_)
  refine lv_iconst (v := (0 : Int32)) hx hb dX8_save_3 (by decide) ?_
  refine lv_istore_n (lv' := [(2, .int (0 : Int32)), (1, .int (-9 : Int32)), (0, .ref a0)]) hx hb dX8_save_4 rfl hl (by decide) rfl (fun ls hl => ?_)
  refine lv_iconst (v := (0 : Int32)) hx hb dX8_save_5 (by decide) ?_
  refine lv_istore_n (lv' := [(3, .int (0 : Int32)), (2, .int (0 : Int32)), (1, .int (-9 : Int32)), (0, .ref a0)]) hx hb dX8_save_6 rfl hl (by decide) rfl (fun ls hl => ?_)
  exact hL7 FU (-9 : Int32) (0 : Int32) (0 : Int32) S H locs ls hf (lv_sub hl [3, 2, 1, 0] rfl) hh
def fX8_isSum_l10 (S : zMd) (v1 : Int32) (v2 : Int32) (v3 : Int32) (k2 : (Int32) → Option (Int32)) : Nat → (Int32) → Option (Int32)
  | 0, _ => none
  | n + 1, v4 =>
  if v2 ≤ v4 then
  (k2 (v3 + (1 : Int32)))
  else
  (ix 16 v3 (ix 16 v4 (if (((md_tried S) v3.toNatClampNeg) + ((md_tried S) v4.toNatClampNeg)) = v1 then
  (some (1 : Int32))
  else
  (fX8_isSum_l10 S v1 v2 v3 k2 n (v4 + (1 : Int32))))))
def fX8_isSum_l2 (S : zMd) (v1 : Int32) (v2 : Int32) : Nat → (Int32) → Option (Int32)
  | 0, _ => none
  | n + 1, v3 =>
  if v2 ≤ v3 then
  (some (0 : Int32))
  else
  (fX8_isSum_l10 S v1 v2 v3 (fX8_isSum_l2 S v1 v2 n) FU v3)
def fX8_isSum (S : zMd) (p1 : Int32) (p2 : Int32) : Option (Int32) :=
  fX8_isSum_l2 S p1 p2 FU (0 : Int32)
theorem inX8_isSum_X8 : ∀ w ∈ wsX80, w ∈ wsX8_isSum := by decide +kernel
theorem mmX8_isSum_0 : Cond.fieldLink RX8 52 "SumOfTwoThatStandModel" "tried" "[I" ∈ wsX8_isSum := by decide +kernel
theorem hdX8_isSum : yX8_isSum.cls ≠ "java/lang/invoke/MethodHandle" ∧ yX8_isSum.cls ≠ "java/lang/invoke/VarHandle" ∧ (parseMethodDescriptor yX8_isSum.desc).map (fun d => d.parameters.length) = some 2 := by decide +kernel
set_option maxHeartbeats 4000000 in
set_option maxRecDepth 100000 in
theorem kX8_isSum (l : Launch) (K : zK) (a0 a1 a2 a3 a4 a5 a6 a7 a8 a9 a10 a11 a12 a13 a14 a15 a16 a17 a18 a19 : Nat) (S : zMd) (p1 : Int32) (p2 : Int32) (R : Int32) (hf : fX8_isSum S p1 p2 = some R) : zC l yX8_isSum wsX8_isSum ({ frames := 0, cells := 0, slots := 0, locals := 0 } : Room) K [.ref a0, .int p1, .int p2] (cMd K a0 a1 a2 a3 a4 a5 a6 a7 a8 a9 a10 a11 a12 a13 a14 a15 a16 a17 a18 a19 S) (some (.int R)) (cMd K a0 a1 a2 a3 a4 a5 a6 a7 a8 a9 a10 a11 a12 a13 a14 a15 a16 a17 a18 a19 S) := by
  refine zC_z .boolean R (cc := cX8_isSum) (maxL := 5) (by decide +kernel) rfl (Nat.le_of_ble_eq_true rfl) rfl rfl ?_
  intro p e s m below meth c Q A X hret ls hl hh
  have X : zX p m c cX8_isSum 5 s ([.ref a0, .int p1, .int p2] : List Value).toArray wsX8_isSum RX8 K A := X
  have hx := X.1.1
  have hb := X.1.2.1
  have hr2 : ∀ (pc : Nat) (ls : Array Slot) (H : Heap) (locs : List Loc) (v : Int32), some v = some R → narrow .boolean (.int v) = .int v → decode cX8_isSum pc = .ok (.ireturn, 1) → zW K A s H locs (cMd K a0 a1 a2 a3 a4 a5 a6 a7 a8 a9 a10 a11 a12 a13 a14 a15 a16 a17 a18 a19 S) → W p l e ({ frames := 0, cells := 0, slots := 0, locals := 0 } : Room) s m ([.ref a0, .int p1, .int p2] : List Value).toArray below meth c H locs 0 0 Q (F0 m pc ls [.int v]) := by
    intro pc ls H locs v h hn hd hh
    cases h; exact hret pc ls H locs _ rfl hn hd hh
  have hl : lv_has ls 5 [(0, .ref a0), (1, .int p1), (2, .int p2)] := hl
  have hL10 : ∀ (v1 : Int32) (v2 : Int32) (v3 : Int32) (k2 : (Int32) → Option (Int32)), (∀ (v3 : Int32) (H : Heap) (locs : List Loc) (ls : Array Slot), k2 v3 = some R → lv_has ls 5 [(0, .ref a0), (1, .int v1), (2, .int v2), (3, .int v3)] → zW K A s H locs (cMd K a0 a1 a2 a3 a4 a5 a6 a7 a8 a9 a10 a11 a12 a13 a14 a15 a16 a17 a18 a19 S) → W p l e ({ frames := 0, cells := 0, slots := 0, locals := 0 } : Room) s m ([.ref a0, .int p1, .int p2] : List Value).toArray below meth c H locs 0 0 Q (F0 m 2 ls [])) → ∀ (n : Nat) (v4 : Int32), ∀ (H : Heap) (locs : List Loc) (ls : Array Slot), fX8_isSum_l10 S v1 v2 v3 k2 n v4 = some R → lv_has ls 5 [(0, .ref a0), (1, .int v1), (2, .int v2), (3, .int v3), (4, .int v4)] → zW K A s H locs (cMd K a0 a1 a2 a3 a4 a5 a6 a7 a8 a9 a10 a11 a12 a13 a14 a15 a16 a17 a18 a19 S) → W p l e ({ frames := 0, cells := 0, slots := 0, locals := 0 } : Room) s m ([.ref a0, .int p1, .int p2] : List Value).toArray below meth c H locs 0 0 Q (F0 m 10 ls []) := by
    intro v1 v2 v3 k2 hk2 n
    induction n with
    | zero =>
      intro v4 H locs ls hf hl hh
      rw [fX8_isSum_l10] at hf; cases hf
    | succ n ih =>
      intro v4 H locs ls hf hl hh
      rw [fX8_isSum_l10] at hf
      refine lv_iload hx hb dX8_isSum_10 (lv_at hl 4 rfl) ?_
      refine lv_iload_n hx hb dX8_isSum_12 rfl (lv_at hl 2 rfl) ?_
      refine lv_icmp_ge (tgt := 42) hx hb dX8_isSum_13 (by decide) (fun c1 => ?_) (fun c1 => ?_)
      · replace hf := (if_pos c1).symm.trans hf
        refine lv_iinc (v := (v3 + (1 : Int32))) (lv' := [(3, .int (v3 + (1 : Int32))), (0, .ref a0), (1, .int v1), (2, .int v2), (4, .int v4)]) hx hb dX8_isSum_42 hl (k := 3) rfl rfl (by decide) rfl (fun ls hl => ?_)
        refine lv_goto (tgt := 2) hx hb dX8_isSum_45 (by decide) ?_
        exact hk2 (v3 + (1 : Int32)) H locs ls hf (lv_sub hl [1, 2, 3, 0] rfl) hh
      · replace hf := (if_neg c1).symm.trans hf
        refine lv_aload_n hx hb dX8_isSum_16 rfl (lv_at hl 0 rfl) ?_
        refine zget (v := .ref a15) (ref := "SumOfTwoThatStandModel") (C := RX8) (T := TX8) (N := 33) (index := 52) X hh inX8_isSum_X8 0 rfl rfl 24 (by decide) mmX8_isSum_0 rfl rfl dX8_isSum_17 ?_
        refine lv_iload_n hx hb dX8_isSum_20 rfl (lv_at hl 3 rfl) ?_
        obtain ⟨g2, hf⟩ := ob_ix hf
        refine ziald (f := (md_tried S)) X hh 15 rfl g2 dX8_isSum_21 ?_
        refine lv_aload_n hx hb dX8_isSum_22 rfl (lv_at hl 0 rfl) ?_
        refine zget (v := .ref a15) (ref := "SumOfTwoThatStandModel") (C := RX8) (T := TX8) (N := 33) (index := 52) X hh inX8_isSum_X8 0 rfl rfl 24 (by decide) mmX8_isSum_0 rfl rfl dX8_isSum_23 ?_
        refine lv_iload hx hb dX8_isSum_26 (lv_at hl 4 rfl) ?_
        obtain ⟨g3, hf⟩ := ob_ix hf
        refine ziald (f := (md_tried S)) X hh 15 rfl g3 dX8_isSum_28 ?_
        refine lv_iadd hx hb dX8_isSum_29 ?_
        refine lv_iload_n hx hb dX8_isSum_30 rfl (lv_at hl 1 rfl) ?_
        refine lv_icmp_ne (tgt := 36) hx hb dX8_isSum_31 (by decide) (fun c4 => ?_) (fun c4 => ?_)
        · replace hf := (if_neg c4).symm.trans hf
          refine lv_iinc (v := (v4 + (1 : Int32))) (lv' := [(4, .int (v4 + (1 : Int32))), (0, .ref a0), (1, .int v1), (2, .int v2), (3, .int v3)]) hx hb dX8_isSum_36 hl (k := 4) rfl rfl (by decide) rfl (fun ls hl => ?_)
          refine lv_goto (tgt := 10) hx hb dX8_isSum_39 (by decide) ?_
          exact ih (v4 + (1 : Int32)) H locs ls hf (lv_sub hl [1, 2, 3, 4, 0] rfl) hh
        · replace hf := (if_pos c4).symm.trans hf
          refine lv_iconst (v := (1 : Int32)) hx hb dX8_isSum_34 (by decide) ?_
          exact hr2 35 ls H locs (1 : Int32) hf rfl dX8_isSum_35 hh
  have hL2 : ∀ (v1 : Int32) (v2 : Int32), ∀ (n : Nat) (v3 : Int32), ∀ (H : Heap) (locs : List Loc) (ls : Array Slot), fX8_isSum_l2 S v1 v2 n v3 = some R → lv_has ls 5 [(0, .ref a0), (1, .int v1), (2, .int v2), (3, .int v3)] → zW K A s H locs (cMd K a0 a1 a2 a3 a4 a5 a6 a7 a8 a9 a10 a11 a12 a13 a14 a15 a16 a17 a18 a19 S) → W p l e ({ frames := 0, cells := 0, slots := 0, locals := 0 } : Room) s m ([.ref a0, .int p1, .int p2] : List Value).toArray below meth c H locs 0 0 Q (F0 m 2 ls []) := by
    intro v1 v2 n
    induction n with
    | zero =>
      intro v3 H locs ls hf hl hh
      rw [fX8_isSum_l2] at hf; cases hf
    | succ n ih =>
      intro v3 H locs ls hf hl hh
      rw [fX8_isSum_l2] at hf
      refine lv_iload_n hx hb dX8_isSum_2 rfl (lv_at hl 3 rfl) ?_
      refine lv_iload_n hx hb dX8_isSum_3 rfl (lv_at hl 2 rfl) ?_
      refine lv_icmp_ge (tgt := 48) hx hb dX8_isSum_4 (by decide) (fun c5 => ?_) (fun c5 => ?_)
      · replace hf := (if_pos c5).symm.trans hf
        refine lv_iconst (v := (0 : Int32)) hx hb dX8_isSum_48 (by decide) ?_
        exact hr2 49 ls H locs (0 : Int32) hf rfl dX8_isSum_49 hh
      · replace hf := (if_neg c5).symm.trans hf
        refine lv_iload_n hx hb dX8_isSum_7 rfl (lv_at hl 3 rfl) ?_
        refine lv_istore (lv' := [(4, .int v3), (0, .ref a0), (1, .int v1), (2, .int v2), (3, .int v3)]) hx hb dX8_isSum_8 hl (by decide) rfl (fun ls hl => ?_)
        exact hL10 v1 v2 v3 (fX8_isSum_l2 S v1 v2 n) (ih) FU v3 H locs ls hf (lv_sub hl [1, 2, 3, 4, 0] rfl) hh
  unfold fX8_isSum at hf
  refine (fun (hmain : ∀ (H : Heap) (locs : List Loc), zW K A s H locs (cMd K a0 a1 a2 a3 a4 a5 a6 a7 a8 a9 a10 a11 a12 a13 a14 a15 a16 a17 a18 a19 S) → W p l e ({ frames := 0, cells := 0, slots := 0, locals := 0 } : Room) s m ([.ref a0, .int p1, .int p2] : List Value).toArray below meth c H locs 0 0 Q (F0 m 0 ls [])) => hmain s.heap [] hh) (fun H locs hh => ?_)
  refine lv_iconst (v := (0 : Int32)) hx hb dX8_isSum_0 (by decide) ?_
  refine lv_istore_n (lv' := [(3, .int (0 : Int32)), (0, .ref a0), (1, .int p1), (2, .int p2)]) hx hb dX8_isSum_1 rfl hl (by decide) rfl (fun ls hl => ?_)
  exact hL2 p1 p2 FU (0 : Int32) H locs ls hf (lv_sub hl [1, 2, 3, 0] rfl) hh
def fX8_canReach_j29 (S : zMd) (v3 : Int32) : Option (Int32) :=
  if v3 < (md_goal S) then
  (some (0 : Int32))
  else
  (some (1 : Int32))
def fX8_canReach_l5 (S : zMd) (v2 : Int32) : Nat → (Int32) → (Int32) → Option (Int32)
  | 0, _, _ => none
  | n + 1, v3, v4 =>
  if v2 ≤ v4 then
  (fX8_canReach_j29 S v3)
  else
  (if (md_goal S) ≤ v3 then
  (fX8_canReach_j29 S v3)
  else
  (fX8_canReach_l5 S v2 n (v3 * (2 : Int32)) (v4 + (1 : Int32))))
def fX8_canReach (S : zMd) (p1 : Int32) (p2 : Int32) : Option (Int32) :=
  fX8_canReach_l5 S p2 FU p1 (0 : Int32)
theorem inX8_canReach_X8 : ∀ w ∈ wsX80, w ∈ wsX8_canReach := by decide +kernel
theorem mmX8_canReach_0 : Cond.fieldLink RX8 213 "SumOfTwoThatStandModel" "goal" "I" ∈ wsX8_canReach := by decide +kernel
theorem hdX8_canReach : yX8_canReach.cls ≠ "java/lang/invoke/MethodHandle" ∧ yX8_canReach.cls ≠ "java/lang/invoke/VarHandle" ∧ (parseMethodDescriptor yX8_canReach.desc).map (fun d => d.parameters.length) = some 2 := by decide +kernel
set_option maxHeartbeats 4000000 in
set_option maxRecDepth 100000 in
theorem kX8_canReach (l : Launch) (K : zK) (a0 a1 a2 a3 a4 a5 a6 a7 a8 a9 a10 a11 a12 a13 a14 a15 a16 a17 a18 a19 : Nat) (S : zMd) (p1 : Int32) (p2 : Int32) (R : Int32) (hf : fX8_canReach S p1 p2 = some R) : zC l yX8_canReach wsX8_canReach ({ frames := 0, cells := 0, slots := 0, locals := 0 } : Room) K [.ref a0, .int p1, .int p2] (cMd K a0 a1 a2 a3 a4 a5 a6 a7 a8 a9 a10 a11 a12 a13 a14 a15 a16 a17 a18 a19 S) (some (.int R)) (cMd K a0 a1 a2 a3 a4 a5 a6 a7 a8 a9 a10 a11 a12 a13 a14 a15 a16 a17 a18 a19 S) := by
  refine zC_z .boolean R (cc := cX8_canReach) (maxL := 5) (by decide +kernel) rfl (Nat.le_of_ble_eq_true rfl) rfl rfl ?_
  intro p e s m below meth c Q A X hret ls hl hh
  have X : zX p m c cX8_canReach 5 s ([.ref a0, .int p1, .int p2] : List Value).toArray wsX8_canReach RX8 K A := X
  have hx := X.1.1
  have hb := X.1.2.1
  have hr2 : ∀ (pc : Nat) (ls : Array Slot) (H : Heap) (locs : List Loc) (v : Int32), some v = some R → narrow .boolean (.int v) = .int v → decode cX8_canReach pc = .ok (.ireturn, 1) → zW K A s H locs (cMd K a0 a1 a2 a3 a4 a5 a6 a7 a8 a9 a10 a11 a12 a13 a14 a15 a16 a17 a18 a19 S) → W p l e ({ frames := 0, cells := 0, slots := 0, locals := 0 } : Room) s m ([.ref a0, .int p1, .int p2] : List Value).toArray below meth c H locs 0 0 Q (F0 m pc ls [.int v]) := by
    intro pc ls H locs v h hn hd hh
    cases h; exact hret pc ls H locs _ rfl hn hd hh
  have hl : lv_has ls 5 [(0, .ref a0), (1, .int p1), (2, .int p2)] := hl
  have hJ29 : ∀ (v3 : Int32), ∀ (H : Heap) (locs : List Loc) (ls : Array Slot), fX8_canReach_j29 S v3 = some R → lv_has ls 5 [(0, .ref a0), (3, .int v3)] → zW K A s H locs (cMd K a0 a1 a2 a3 a4 a5 a6 a7 a8 a9 a10 a11 a12 a13 a14 a15 a16 a17 a18 a19 S) → W p l e ({ frames := 0, cells := 0, slots := 0, locals := 0 } : Room) s m ([.ref a0, .int p1, .int p2] : List Value).toArray below meth c H locs 0 0 Q (F0 m 29 ls []) := by
    intro v3 H locs ls hf hl hh
    unfold fX8_canReach_j29 at hf
    refine lv_iload_n hx hb dX8_canReach_29 rfl (lv_at hl 1 rfl) ?_
    refine lv_aload_n hx hb dX8_canReach_30 rfl (lv_at hl 0 rfl) ?_
    refine zget (v := .int (md_goal S)) (ref := "SumOfTwoThatStandModel") (C := RX8) (T := TX8) (N := 33) (index := 213) X hh inX8_canReach_X8 0 rfl rfl 26 (by decide) mmX8_canReach_0 rfl rfl dX8_canReach_31 ?_
    refine lv_icmp_lt (tgt := 41) hx hb dX8_canReach_34 (by decide) (fun c1 => ?_) (fun c1 => ?_)
    · replace hf := (if_pos c1).symm.trans hf
      refine lv_iconst (v := (0 : Int32)) hx hb dX8_canReach_41 (by decide) ?_
      exact hr2 42 ls H locs (0 : Int32) hf rfl dX8_canReach_42 hh
    · replace hf := (if_neg c1).symm.trans hf
      refine lv_iconst (v := (1 : Int32)) hx hb dX8_canReach_37 (by decide) ?_
      refine lv_goto (tgt := 42) hx hb dX8_canReach_38 (by decide) ?_
      exact hr2 42 ls H locs (1 : Int32) hf rfl dX8_canReach_42 hh
  have hL5 : ∀ (v2 : Int32), ∀ (n : Nat) (v3 : Int32) (v4 : Int32), ∀ (H : Heap) (locs : List Loc) (ls : Array Slot), fX8_canReach_l5 S v2 n v3 v4 = some R → lv_has ls 5 [(0, .ref a0), (2, .int v2), (3, .int v3), (4, .int v4)] → zW K A s H locs (cMd K a0 a1 a2 a3 a4 a5 a6 a7 a8 a9 a10 a11 a12 a13 a14 a15 a16 a17 a18 a19 S) → W p l e ({ frames := 0, cells := 0, slots := 0, locals := 0 } : Room) s m ([.ref a0, .int p1, .int p2] : List Value).toArray below meth c H locs 0 0 Q (F0 m 5 ls []) := by
    intro v2 n
    induction n with
    | zero =>
      intro v3 v4 H locs ls hf hl hh
      rw [fX8_canReach_l5] at hf; cases hf
    | succ n ih =>
      intro v3 v4 H locs ls hf hl hh
      rw [fX8_canReach_l5] at hf
      refine lv_iload hx hb dX8_canReach_5 (lv_at hl 3 rfl) ?_
      refine lv_iload_n hx hb dX8_canReach_7 rfl (lv_at hl 1 rfl) ?_
      refine lv_icmp_ge (tgt := 29) hx hb dX8_canReach_8 (by decide) (fun c2 => ?_) (fun c2 => ?_)
      · replace hf := (if_pos c2).symm.trans hf
        exact hJ29 v3 H locs ls hf (lv_sub hl [0, 2] rfl) hh
      · replace hf := (if_neg c2).symm.trans hf
        refine lv_iload_n hx hb dX8_canReach_11 rfl (lv_at hl 2 rfl) ?_
        refine lv_aload_n hx hb dX8_canReach_12 rfl (lv_at hl 0 rfl) ?_
        refine zget (v := .int (md_goal S)) (ref := "SumOfTwoThatStandModel") (C := RX8) (T := TX8) (N := 33) (index := 213) X hh inX8_canReach_X8 0 rfl rfl 26 (by decide) mmX8_canReach_0 rfl rfl dX8_canReach_13 ?_
        refine lv_icmp_ge (tgt := 29) hx hb dX8_canReach_16 (by decide) (fun c3 => ?_) (fun c3 => ?_)
        · replace hf := (if_pos c3).symm.trans hf
          exact hJ29 v3 H locs ls hf (lv_sub hl [0, 2] rfl) hh
        · replace hf := (if_neg c3).symm.trans hf
          refine lv_iload_n hx hb dX8_canReach_19 rfl (lv_at hl 2 rfl) ?_
          refine lv_iconst (v := (2 : Int32)) hx hb dX8_canReach_20 (by decide) ?_
          refine lv_imul hx hb dX8_canReach_21 ?_
          refine lv_istore_n (lv' := [(3, .int (v3 * (2 : Int32))), (0, .ref a0), (2, .int v2), (4, .int v4)]) hx hb dX8_canReach_22 rfl hl (by decide) rfl (fun ls hl => ?_)
          refine lv_iinc (v := (v4 + (1 : Int32))) (lv' := [(4, .int (v4 + (1 : Int32))), (3, .int (v3 * (2 : Int32))), (0, .ref a0), (2, .int v2)]) hx hb dX8_canReach_23 hl (k := 3) rfl rfl (by decide) rfl (fun ls hl => ?_)
          refine lv_goto (tgt := 5) hx hb dX8_canReach_26 (by decide) ?_
          exact ih (v3 * (2 : Int32)) (v4 + (1 : Int32)) H locs ls hf (lv_sub hl [2, 3, 1, 0] rfl) hh
  unfold fX8_canReach at hf
  refine (fun (hmain : ∀ (H : Heap) (locs : List Loc), zW K A s H locs (cMd K a0 a1 a2 a3 a4 a5 a6 a7 a8 a9 a10 a11 a12 a13 a14 a15 a16 a17 a18 a19 S) → W p l e ({ frames := 0, cells := 0, slots := 0, locals := 0 } : Room) s m ([.ref a0, .int p1, .int p2] : List Value).toArray below meth c H locs 0 0 Q (F0 m 0 ls [])) => hmain s.heap [] hh) (fun H locs hh => ?_)
  refine lv_iload_n hx hb dX8_canReach_0 rfl (lv_at hl 1 rfl) ?_
  refine lv_istore_n (lv' := [(3, .int p1), (0, .ref a0), (1, .int p1), (2, .int p2)]) hx hb dX8_canReach_1 rfl hl (by decide) rfl (fun ls hl => ?_)
  refine lv_iconst (v := (0 : Int32)) hx hb dX8_canReach_2 (by decide) ?_
  refine lv_istore (lv' := [(4, .int (0 : Int32)), (3, .int p1), (0, .ref a0), (1, .int p1), (2, .int p2)]) hx hb dX8_canReach_3 hl (by decide) rfl (fun ls hl => ?_)
  exact hL5 p2 FU p1 (0 : Int32) H locs ls hf (lv_sub hl [2, 4, 1, 0] rfl) hh
def fX8_goesOn (S : zMd) (p1 : Int32) (p2 : Int32) (p3 : Int32) : Option (Int32) :=
  (fX8_isSum S p1 p2).bind fun u1 =>
  if u1 = (0 : Int32) then
  (some (0 : Int32))
  else
  ((fX8_canReach S p1 ((p3 - (1 : Int32)) - p2)).bind fun u3 =>
  if u3 = (0 : Int32) then
  (some (0 : Int32))
  else
  (ix 16 (p2 - (1 : Int32)) (if (md_wanted S) ≤ ((md_tried S) (p2 - (1 : Int32)).toNatClampNeg) then
  (some (1 : Int32))
  else
  (if (md_wanted S) < p1 then
  (some (0 : Int32))
  else
  (some (1 : Int32))))))
theorem inX8_goesOn_X8 : ∀ w ∈ wsX80, w ∈ wsX8_goesOn := by decide +kernel
theorem mmX8_goesOn_0 : Cond.fieldLink RX8 52 "SumOfTwoThatStandModel" "tried" "[I" ∈ wsX8_goesOn := by decide +kernel
theorem mmX8_goesOn_1 : Cond.fieldLink RX8 222 "SumOfTwoThatStandModel" "wanted" "I" ∈ wsX8_goesOn := by decide +kernel
theorem hdX8_goesOn : yX8_goesOn.cls ≠ "java/lang/invoke/MethodHandle" ∧ yX8_goesOn.cls ≠ "java/lang/invoke/VarHandle" ∧ (parseMethodDescriptor yX8_goesOn.desc).map (fun d => d.parameters.length) = some 3 := by decide +kernel
set_option maxHeartbeats 4000000 in
set_option maxRecDepth 100000 in
theorem kX8_goesOn (l : Launch) (K : zK) (a0 a1 a2 a3 a4 a5 a6 a7 a8 a9 a10 a11 a12 a13 a14 a15 a16 a17 a18 a19 : Nat) (S : zMd) (p1 : Int32) (p2 : Int32) (p3 : Int32) (R : Int32) (hf : fX8_goesOn S p1 p2 p3 = some R) : zC l yX8_goesOn wsX8_goesOn ({ frames := 1, cells := 0, slots := 0, locals := 24 } : Room) K [.ref a0, .int p1, .int p2, .int p3] (cMd K a0 a1 a2 a3 a4 a5 a6 a7 a8 a9 a10 a11 a12 a13 a14 a15 a16 a17 a18 a19 S) (some (.int R)) (cMd K a0 a1 a2 a3 a4 a5 a6 a7 a8 a9 a10 a11 a12 a13 a14 a15 a16 a17 a18 a19 S) := by
  refine zC_z .boolean R (cc := cX8_goesOn) (maxL := 4) (by decide +kernel) rfl (Nat.le_of_ble_eq_true rfl) rfl rfl ?_
  intro p e s m below meth c Q A X hret ls hl hh
  have X : zX p m c cX8_goesOn 4 s ([.ref a0, .int p1, .int p2, .int p3] : List Value).toArray wsX8_goesOn RX8 K A := X
  have hx := X.1.1
  have hb := X.1.2.1
  have hr2 : ∀ (pc : Nat) (ls : Array Slot) (H : Heap) (locs : List Loc) (v : Int32), some v = some R → narrow .boolean (.int v) = .int v → decode cX8_goesOn pc = .ok (.ireturn, 1) → zW K A s H locs (cMd K a0 a1 a2 a3 a4 a5 a6 a7 a8 a9 a10 a11 a12 a13 a14 a15 a16 a17 a18 a19 S) → W p l e ({ frames := 1, cells := 0, slots := 0, locals := 24 } : Room) s m ([.ref a0, .int p1, .int p2, .int p3] : List Value).toArray below meth c H locs 0 0 Q (F0 m pc ls [.int v]) := by
    intro pc ls H locs v h hn hd hh
    cases h; exact hret pc ls H locs _ rfl hn hd hh
  have hl : lv_has ls 4 [(0, .ref a0), (1, .int p1), (2, .int p2), (3, .int p3)] := hl
  unfold fX8_goesOn at hf
  refine (fun (hmain : ∀ (H : Heap) (locs : List Loc), zW K A s H locs (cMd K a0 a1 a2 a3 a4 a5 a6 a7 a8 a9 a10 a11 a12 a13 a14 a15 a16 a17 a18 a19 S) → W p l e ({ frames := 1, cells := 0, slots := 0, locals := 24 } : Room) s m ([.ref a0, .int p1, .int p2, .int p3] : List Value).toArray below meth c H locs 0 0 Q (F0 m 0 ls [])) => hmain s.heap [] hh) (fun H locs hh => ?_)
  refine lv_aload_n hx hb dX8_goesOn_0 rfl (lv_at hl 0 rfl) ?_
  refine lv_iload_n hx hb dX8_goesOn_1 rfl (lv_at hl 1 rfl) ?_
  refine lv_iload_n hx hb dX8_goesOn_2 rfl (lv_at hl 2 rfl) ?_
  obtain ⟨u1, hu1, hf⟩ := ob_bind hf
  refine zcallV (ci := 7) (q0 := 0) (As := [.int p1, .int p2]) (rest := []) (wr := []) (ws' := cMd K a0 a1 a2 a3 a4 a5 a6 a7 a8 a9 a10 a11 a12 a13 a14 a15 a16 a17 a18 a19 S) (ov := some (.int u1)) X hh hl (kX8_isSum l K a0 a1 a2 a3 a4 a5 a6 a7 a8 a9 a10 a11 a12 a13 a14 a15 a16 a17 a18 a19 S p1 p2 u1 hu1) (fun ht => cwV 2 ht gX8_goesOn_X8_isSum rfl rfl rfl ⟨rfl, hdX8_isSum⟩ ⟨Nat.le_of_ble_eq_true rfl, Nat.le_of_ble_eq_true rfl⟩) [0, 1, 2, 3, 4, 5, 6, 7, 8, 9, 10, 11, 12, 13, 14, 15, 16, 17, 18, 19] [] [0, 1, 2, 3, 4, 5, 6, 7, 8, 9, 10, 11, 12, 13, 14, 15, 16, 17, 18, 19] rfl rfl rfl rfl (by decide) rfl rfl rfl rfl rfl rfl (Nat.le_of_ble_eq_true rfl) dX8_goesOn_3 ⟨Nat.zero_le _, Nat.zero_le _⟩ (fun H locs hh => ?_)
  refine lv_if_eq (tgt := 22) hx hb dX8_goesOn_6 (by decide) (fun c2 => ?_) (fun c2 => ?_)
  · replace hf := (if_pos c2).symm.trans hf
    refine lv_iconst (v := (0 : Int32)) hx hb dX8_goesOn_22 (by decide) ?_
    exact hr2 23 ls H locs (0 : Int32) hf rfl dX8_goesOn_23 hh
  · replace hf := (if_neg c2).symm.trans hf
    refine lv_aload_n hx hb dX8_goesOn_9 rfl (lv_at hl 0 rfl) ?_
    refine lv_iload_n hx hb dX8_goesOn_10 rfl (lv_at hl 1 rfl) ?_
    refine lv_iload_n hx hb dX8_goesOn_11 rfl (lv_at hl 3 rfl) ?_
    refine lv_iconst (v := (1 : Int32)) hx hb dX8_goesOn_12 (by decide) ?_
    refine lv_isub hx hb dX8_goesOn_13 ?_
    refine lv_iload_n hx hb dX8_goesOn_14 rfl (lv_at hl 2 rfl) ?_
    refine lv_isub hx hb dX8_goesOn_15 ?_
    obtain ⟨u3, hu3, hf⟩ := ob_bind hf
    refine zcallV (ci := 7) (q0 := 0) (As := [.int p1, .int ((p3 - (1 : Int32)) - p2)]) (rest := []) (wr := []) (ws' := cMd K a0 a1 a2 a3 a4 a5 a6 a7 a8 a9 a10 a11 a12 a13 a14 a15 a16 a17 a18 a19 S) (ov := some (.int u3)) X hh hl (kX8_canReach l K a0 a1 a2 a3 a4 a5 a6 a7 a8 a9 a10 a11 a12 a13 a14 a15 a16 a17 a18 a19 S p1 ((p3 - (1 : Int32)) - p2) u3 hu3) (fun ht => cwV 2 ht gX8_goesOn_X8_canReach rfl rfl rfl ⟨rfl, hdX8_canReach⟩ ⟨Nat.le_of_ble_eq_true rfl, Nat.le_of_ble_eq_true rfl⟩) [0, 1, 2, 3, 4, 5, 6, 7, 8, 9, 10, 11, 12, 13, 14, 15, 16, 17, 18, 19] [] [0, 1, 2, 3, 4, 5, 6, 7, 8, 9, 10, 11, 12, 13, 14, 15, 16, 17, 18, 19] rfl rfl rfl rfl (by decide) rfl rfl rfl rfl rfl rfl (Nat.le_of_ble_eq_true rfl) dX8_goesOn_16 ⟨Nat.zero_le _, Nat.zero_le _⟩ (fun H locs hh => ?_)
    refine lv_if_ne (tgt := 24) hx hb dX8_goesOn_19 (by decide) (fun c4 => ?_) (fun c4 => ?_)
    · replace hf := (if_neg c4).symm.trans hf
      refine lv_aload_n hx hb dX8_goesOn_24 rfl (lv_at hl 0 rfl) ?_
      refine zget (v := .ref a15) (ref := "SumOfTwoThatStandModel") (C := RX8) (T := TX8) (N := 33) (index := 52) X hh inX8_goesOn_X8 0 rfl rfl 24 (by decide) mmX8_goesOn_0 rfl rfl dX8_goesOn_25 ?_
      refine lv_iload_n hx hb dX8_goesOn_28 rfl (lv_at hl 2 rfl) ?_
      refine lv_iconst (v := (1 : Int32)) hx hb dX8_goesOn_29 (by decide) ?_
      refine lv_isub hx hb dX8_goesOn_30 ?_
      obtain ⟨g5, hf⟩ := ob_ix hf
      refine ziald (f := (md_tried S)) X hh 15 rfl g5 dX8_goesOn_31 ?_
      refine lv_aload_n hx hb dX8_goesOn_32 rfl (lv_at hl 0 rfl) ?_
      refine zget (v := .int (md_wanted S)) (ref := "SumOfTwoThatStandModel") (C := RX8) (T := TX8) (N := 33) (index := 222) X hh inX8_goesOn_X8 0 rfl rfl 25 (by decide) mmX8_goesOn_1 rfl rfl dX8_goesOn_33 ?_
      refine lv_icmp_ge (tgt := 47) hx hb dX8_goesOn_36 (by decide) (fun c6 => ?_) (fun c6 => ?_)
      · replace hf := (if_pos c6).symm.trans hf
        refine lv_iconst (v := (1 : Int32)) hx hb dX8_goesOn_47 (by decide) ?_
        refine lv_goto (tgt := 52) hx hb dX8_goesOn_48 (by decide) ?_
        exact hr2 52 ls H locs (1 : Int32) hf rfl dX8_goesOn_52 hh
      · replace hf := (if_neg c6).symm.trans hf
        refine lv_iload_n hx hb dX8_goesOn_39 rfl (lv_at hl 1 rfl) ?_
        refine lv_aload_n hx hb dX8_goesOn_40 rfl (lv_at hl 0 rfl) ?_
        refine zget (v := .int (md_wanted S)) (ref := "SumOfTwoThatStandModel") (C := RX8) (T := TX8) (N := 33) (index := 222) X hh inX8_goesOn_X8 0 rfl rfl 25 (by decide) mmX8_goesOn_1 rfl rfl dX8_goesOn_41 ?_
        refine lv_icmp_gt (tgt := 51) hx hb dX8_goesOn_44 (by decide) (fun c7 => ?_) (fun c7 => ?_)
        · replace hf := (if_pos c7).symm.trans hf
          refine lv_iconst (v := (0 : Int32)) hx hb dX8_goesOn_51 (by decide) ?_
          exact hr2 52 ls H locs (0 : Int32) hf rfl dX8_goesOn_52 hh
        · replace hf := (if_neg c7).symm.trans hf
          refine lv_iconst (v := (1 : Int32)) hx hb dX8_goesOn_47 (by decide) ?_
          refine lv_goto (tgt := 52) hx hb dX8_goesOn_48 (by decide) ?_
          exact hr2 52 ls H locs (1 : Int32) hf rfl dX8_goesOn_52 hh
    · replace hf := (if_pos c4).symm.trans hf
      refine lv_iconst (v := (0 : Int32)) hx hb dX8_goesOn_22 (by decide) ?_
      exact hr2 23 ls H locs (0 : Int32) hf rfl dX8_goesOn_23 hh
def fX8_nextTry_j65 (S : zMd) (v4 : Int32) (v5 : Int32) : Option (Int32) :=
  if v5 < v4 then
  (some ((md_goal S) + (1 : Int32)))
  else
  (some v4)
def fX8_nextTry_l41 (S : zMd) (v2 : Int32) (v3 : Int32) (v5 : Int32) : Nat → (Int32) → Option (Int32)
  | 0, _ => none
  | n + 1, v4 =>
  if v5 < v4 then
  (fX8_nextTry_j65 S v4 v5)
  else
  ((fX8_goesOn S v4 v2 v3).bind fun u3 =>
  if u3 = (0 : Int32) then
  (fX8_nextTry_l41 S v2 v3 v5 n (v4 + (1 : Int32)))
  else
  (fX8_nextTry_j65 S v4 v5))
def fX8_nextTry_j39 (S : zMd) (v2 : Int32) (v3 : Int32) (v4 : Int32) (t0 : Int32) : Option (Int32) :=
  fX8_nextTry_l41 S v2 v3 t0 FU v4
def fX8_nextTry (S : zMd) (p1 : Int32) (p2 : Int32) (p3 : Int32) : Option (Int32) :=
  ix 16 (p2 - (1 : Int32)) (if (md_goal S) ≤ ((2 : Int32) * ((md_tried S) (p2 - (1 : Int32)).toNatClampNeg)) then
  (fX8_nextTry_j39 S p2 p3 (p1 + (1 : Int32)) (md_goal S))
  else
  (fX8_nextTry_j39 S p2 p3 (p1 + (1 : Int32)) ((2 : Int32) * ((md_tried S) (p2 - (1 : Int32)).toNatClampNeg))))
theorem inX8_nextTry_X8 : ∀ w ∈ wsX80, w ∈ wsX8_nextTry := by decide +kernel
theorem mmX8_nextTry_0 : Cond.fieldLink RX8 213 "SumOfTwoThatStandModel" "goal" "I" ∈ wsX8_nextTry := by decide +kernel
theorem mmX8_nextTry_1 : Cond.fieldLink RX8 52 "SumOfTwoThatStandModel" "tried" "[I" ∈ wsX8_nextTry := by decide +kernel
theorem hdX8_nextTry : yX8_nextTry.cls ≠ "java/lang/invoke/MethodHandle" ∧ yX8_nextTry.cls ≠ "java/lang/invoke/VarHandle" ∧ (parseMethodDescriptor yX8_nextTry.desc).map (fun d => d.parameters.length) = some 3 := by decide +kernel
set_option maxHeartbeats 4000000 in
set_option maxRecDepth 100000 in
theorem kX8_nextTry (l : Launch) (K : zK) (a0 a1 a2 a3 a4 a5 a6 a7 a8 a9 a10 a11 a12 a13 a14 a15 a16 a17 a18 a19 : Nat) (S : zMd) (p1 : Int32) (p2 : Int32) (p3 : Int32) (R : Int32) (hf : fX8_nextTry S p1 p2 p3 = some R) : zC l yX8_nextTry wsX8_nextTry ({ frames := 2, cells := 0, slots := 0, locals := 47 } : Room) K [.ref a0, .int p1, .int p2, .int p3] (cMd K a0 a1 a2 a3 a4 a5 a6 a7 a8 a9 a10 a11 a12 a13 a14 a15 a16 a17 a18 a19 S) (some (.int R)) (cMd K a0 a1 a2 a3 a4 a5 a6 a7 a8 a9 a10 a11 a12 a13 a14 a15 a16 a17 a18 a19 S) := by
  refine zC_i R (cc := cX8_nextTry) (maxL := 6) (by decide +kernel) rfl (Nat.le_of_ble_eq_true rfl) rfl rfl ?_
  intro p e s m below meth c Q A X hret ls hl hh
  have X : zX p m c cX8_nextTry 6 s ([.ref a0, .int p1, .int p2, .int p3] : List Value).toArray wsX8_nextTry RX8 K A := X
  have hx := X.1.1
  have hb := X.1.2.1
  have hr2 : ∀ (pc : Nat) (ls : Array Slot) (H : Heap) (locs : List Loc) (v : Int32), some v = some R → decode cX8_nextTry pc = .ok (.ireturn, 1) → zW K A s H locs (cMd K a0 a1 a2 a3 a4 a5 a6 a7 a8 a9 a10 a11 a12 a13 a14 a15 a16 a17 a18 a19 S) → W p l e ({ frames := 2, cells := 0, slots := 0, locals := 47 } : Room) s m ([.ref a0, .int p1, .int p2, .int p3] : List Value).toArray below meth c H locs 0 0 Q (F0 m pc ls [.int v]) := by
    intro pc ls H locs v h hd hh
    cases h; exact hret pc ls H locs _ rfl hd hh
  have hl : lv_has ls 6 [(0, .ref a0), (1, .int p1), (2, .int p2), (3, .int p3)] := hl
  have hJ65 : ∀ (v4 : Int32) (v5 : Int32), ∀ (H : Heap) (locs : List Loc) (ls : Array Slot), fX8_nextTry_j65 S v4 v5 = some R → lv_has ls 6 [(0, .ref a0), (4, .int v4), (5, .int v5)] → zW K A s H locs (cMd K a0 a1 a2 a3 a4 a5 a6 a7 a8 a9 a10 a11 a12 a13 a14 a15 a16 a17 a18 a19 S) → W p l e ({ frames := 2, cells := 0, slots := 0, locals := 47 } : Room) s m ([.ref a0, .int p1, .int p2, .int p3] : List Value).toArray below meth c H locs 0 0 Q (F0 m 65 ls []) := by
    intro v4 v5 H locs ls hf hl hh
    unfold fX8_nextTry_j65 at hf
    refine lv_iload hx hb dX8_nextTry_65 (lv_at hl 1 rfl) ?_
    refine lv_iload hx hb dX8_nextTry_67 (lv_at hl 2 rfl) ?_
    refine lv_icmp_gt (tgt := 77) hx hb dX8_nextTry_69 (by decide) (fun c1 => ?_) (fun c1 => ?_)
    · replace hf := (if_pos c1).symm.trans hf
      refine lv_aload_n hx hb dX8_nextTry_77 rfl (lv_at hl 0 rfl) ?_
      refine zget (v := .int (md_goal S)) (ref := "SumOfTwoThatStandModel") (C := RX8) (T := TX8) (N := 33) (index := 213) X hh inX8_nextTry_X8 0 rfl rfl 26 (by decide) mmX8_nextTry_0 rfl rfl dX8_nextTry_78 ?_
      refine lv_iconst (v := (1 : Int32)) hx hb dX8_nextTry_81 (by decide) ?_
      refine lv_iadd hx hb dX8_nextTry_82 ?_
      exact hr2 83 ls H locs ((md_goal S) + (1 : Int32)) hf dX8_nextTry_83 hh
    · replace hf := (if_neg c1).symm.trans hf
      refine lv_iload hx hb dX8_nextTry_72 (lv_at hl 1 rfl) ?_
      refine lv_goto (tgt := 83) hx hb dX8_nextTry_74 (by decide) ?_
      exact hr2 83 ls H locs v4 hf dX8_nextTry_83 hh
  have hL41 : ∀ (v2 : Int32) (v3 : Int32) (v5 : Int32), ∀ (n : Nat) (v4 : Int32), ∀ (H : Heap) (locs : List Loc) (ls : Array Slot), fX8_nextTry_l41 S v2 v3 v5 n v4 = some R → lv_has ls 6 [(0, .ref a0), (2, .int v2), (3, .int v3), (4, .int v4), (5, .int v5)] → zW K A s H locs (cMd K a0 a1 a2 a3 a4 a5 a6 a7 a8 a9 a10 a11 a12 a13 a14 a15 a16 a17 a18 a19 S) → W p l e ({ frames := 2, cells := 0, slots := 0, locals := 47 } : Room) s m ([.ref a0, .int p1, .int p2, .int p3] : List Value).toArray below meth c H locs 0 0 Q (F0 m 41 ls []) := by
    intro v2 v3 v5 n
    induction n with
    | zero =>
      intro v4 H locs ls hf hl hh
      rw [fX8_nextTry_l41] at hf; cases hf
    | succ n ih =>
      intro v4 H locs ls hf hl hh
      rw [fX8_nextTry_l41] at hf
      refine lv_iload hx hb dX8_nextTry_41 (lv_at hl 3 rfl) ?_
      refine lv_iload hx hb dX8_nextTry_43 (lv_at hl 4 rfl) ?_
      refine lv_icmp_gt (tgt := 65) hx hb dX8_nextTry_45 (by decide) (fun c2 => ?_) (fun c2 => ?_)
      · replace hf := (if_pos c2).symm.trans hf
        exact hJ65 v4 v5 H locs ls hf (lv_sub hl [0, 3, 4] rfl) hh
      · replace hf := (if_neg c2).symm.trans hf
        refine lv_aload_n hx hb dX8_nextTry_48 rfl (lv_at hl 0 rfl) ?_
        refine lv_iload hx hb dX8_nextTry_49 (lv_at hl 3 rfl) ?_
        refine lv_iload_n hx hb dX8_nextTry_51 rfl (lv_at hl 1 rfl) ?_
        refine lv_iload_n hx hb dX8_nextTry_52 rfl (lv_at hl 2 rfl) ?_
        obtain ⟨u3, hu3, hf⟩ := ob_bind hf
        refine zcallV (ci := 7) (q0 := 0) (As := [.int v4, .int v2, .int v3]) (rest := []) (wr := []) (ws' := cMd K a0 a1 a2 a3 a4 a5 a6 a7 a8 a9 a10 a11 a12 a13 a14 a15 a16 a17 a18 a19 S) (ov := some (.int u3)) X hh hl (kX8_goesOn l K a0 a1 a2 a3 a4 a5 a6 a7 a8 a9 a10 a11 a12 a13 a14 a15 a16 a17 a18 a19 S v4 v2 v3 u3 hu3) (fun ht => cwV 3 ht gX8_nextTry_X8_goesOn rfl rfl rfl ⟨rfl, hdX8_goesOn⟩ ⟨Nat.le_of_ble_eq_true rfl, Nat.le_of_ble_eq_true rfl⟩) [0, 1, 2, 3, 4, 5, 6, 7, 8, 9, 10, 11, 12, 13, 14, 15, 16, 17, 18, 19] [] [0, 1, 2, 3, 4, 5, 6, 7, 8, 9, 10, 11, 12, 13, 14, 15, 16, 17, 18, 19] rfl rfl rfl rfl (by decide) rfl rfl rfl rfl rfl rfl (Nat.le_of_ble_eq_true rfl) dX8_nextTry_53 ⟨Nat.zero_le _, Nat.zero_le _⟩ (fun H locs hh => ?_)
        refine lv_if_ne (tgt := 65) hx hb dX8_nextTry_56 (by decide) (fun c4 => ?_) (fun c4 => ?_)
        · replace hf := (if_neg c4).symm.trans hf
          exact hJ65 v4 v5 H locs ls hf (lv_sub hl [0, 3, 4] rfl) hh
        · replace hf := (if_pos c4).symm.trans hf
          refine lv_iinc (v := (v4 + (1 : Int32))) (lv' := [(4, .int (v4 + (1 : Int32))), (0, .ref a0), (2, .int v2), (3, .int v3), (5, .int v5)]) hx hb dX8_nextTry_59 hl (k := 3) rfl rfl (by decide) rfl (fun ls hl => ?_)
          refine lv_goto (tgt := 41) hx hb dX8_nextTry_62 (by decide) ?_
          exact ih (v4 + (1 : Int32)) H locs ls hf (lv_sub hl [1, 2, 3, 0, 4] rfl) hh
  have hJ39 : ∀ (v2 : Int32) (v3 : Int32) (v4 : Int32) (t0 : Int32), ∀ (H : Heap) (locs : List Loc) (ls : Array Slot), fX8_nextTry_j39 S v2 v3 v4 t0 = some R → lv_has ls 6 [(0, .ref a0), (2, .int v2), (3, .int v3), (4, .int v4)] → zW K A s H locs (cMd K a0 a1 a2 a3 a4 a5 a6 a7 a8 a9 a10 a11 a12 a13 a14 a15 a16 a17 a18 a19 S) → W p l e ({ frames := 2, cells := 0, slots := 0, locals := 47 } : Room) s m ([.ref a0, .int p1, .int p2, .int p3] : List Value).toArray below meth c H locs 0 0 Q (F0 m 39 ls [.int t0]) := by
    intro v2 v3 v4 t0 H locs ls hf hl hh
    unfold fX8_nextTry_j39 at hf
    refine lv_istore (lv' := [(5, .int t0), (0, .ref a0), (2, .int v2), (3, .int v3), (4, .int v4)]) hx hb dX8_nextTry_39 hl (by decide) rfl (fun ls hl => ?_)
    exact hL41 v2 v3 t0 FU v4 H locs ls hf (lv_sub hl [1, 2, 3, 4, 0] rfl) hh
  unfold fX8_nextTry at hf
  refine (fun (hmain : ∀ (H : Heap) (locs : List Loc), zW K A s H locs (cMd K a0 a1 a2 a3 a4 a5 a6 a7 a8 a9 a10 a11 a12 a13 a14 a15 a16 a17 a18 a19 S) → W p l e ({ frames := 2, cells := 0, slots := 0, locals := 47 } : Room) s m ([.ref a0, .int p1, .int p2, .int p3] : List Value).toArray below meth c H locs 0 0 Q (F0 m 0 ls [])) => hmain s.heap [] hh) (fun H locs hh => ?_)
  refine lv_iload_n hx hb dX8_nextTry_0 rfl (lv_at hl 1 rfl) ?_
  refine lv_iconst (v := (1 : Int32)) hx hb dX8_nextTry_1 (by decide) ?_
  refine lv_iadd hx hb dX8_nextTry_2 ?_
  refine lv_istore (lv' := [(4, .int (p1 + (1 : Int32))), (0, .ref a0), (1, .int p1), (2, .int p2), (3, .int p3)]) hx hb dX8_nextTry_3 hl (by decide) rfl (fun ls hl => ?_)
  refine lv_iconst (v := (2 : Int32)) hx hb dX8_nextTry_5 (by decide) ?_
  refine lv_aload_n hx hb dX8_nextTry_6 rfl (lv_at hl 1 rfl) ?_
  refine zget (v := .ref a15) (ref := "SumOfTwoThatStandModel") (C := RX8) (T := TX8) (N := 33) (index := 52) X hh inX8_nextTry_X8 0 rfl rfl 24 (by decide) mmX8_nextTry_1 rfl rfl dX8_nextTry_7 ?_
  refine lv_iload_n hx hb dX8_nextTry_10 rfl (lv_at hl 3 rfl) ?_
  refine lv_iconst (v := (1 : Int32)) hx hb dX8_nextTry_11 (by decide) ?_
  refine lv_isub hx hb dX8_nextTry_12 ?_
  obtain ⟨g5, hf⟩ := ob_ix hf
  refine ziald (f := (md_tried S)) X hh 15 rfl g5 dX8_nextTry_13 ?_
  refine lv_imul hx hb dX8_nextTry_14 ?_
  refine lv_aload_n hx hb dX8_nextTry_15 rfl (lv_at hl 1 rfl) ?_
  refine zget (v := .int (md_goal S)) (ref := "SumOfTwoThatStandModel") (C := RX8) (T := TX8) (N := 33) (index := 213) X hh inX8_nextTry_X8 0 rfl rfl 26 (by decide) mmX8_nextTry_0 rfl rfl dX8_nextTry_16 ?_
  refine lv_icmp_ge (tgt := 35) hx hb dX8_nextTry_19 (by decide) (fun c6 => ?_) (fun c6 => ?_)
  · replace hf := (if_pos c6).symm.trans hf
    refine lv_aload_n hx hb dX8_nextTry_35 rfl (lv_at hl 1 rfl) ?_
    refine zget (v := .int (md_goal S)) (ref := "SumOfTwoThatStandModel") (C := RX8) (T := TX8) (N := 33) (index := 213) X hh inX8_nextTry_X8 0 rfl rfl 26 (by decide) mmX8_nextTry_0 rfl rfl dX8_nextTry_36 ?_
    exact hJ39 p2 p3 (p1 + (1 : Int32)) (md_goal S) H locs ls hf (lv_sub hl [1, 3, 4, 0] rfl) hh
  · replace hf := (if_neg c6).symm.trans hf
    refine lv_iconst (v := (2 : Int32)) hx hb dX8_nextTry_22 (by decide) ?_
    refine lv_aload_n hx hb dX8_nextTry_23 rfl (lv_at hl 1 rfl) ?_
    refine zget (v := .ref a15) (ref := "SumOfTwoThatStandModel") (C := RX8) (T := TX8) (N := 33) (index := 52) X hh inX8_nextTry_X8 0 rfl rfl 24 (by decide) mmX8_nextTry_1 rfl rfl dX8_nextTry_24 ?_
    refine lv_iload_n hx hb dX8_nextTry_27 rfl (lv_at hl 3 rfl) ?_
    refine lv_iconst (v := (1 : Int32)) hx hb dX8_nextTry_28 (by decide) ?_
    refine lv_isub hx hb dX8_nextTry_29 ?_
    refine ziald (f := (md_tried S)) X hh 15 rfl g5 dX8_nextTry_30 ?_
    refine lv_imul hx hb dX8_nextTry_31 ?_
    refine lv_goto (tgt := 39) hx hb dX8_nextTry_32 (by decide) ?_
    exact hJ39 p2 p3 (p1 + (1 : Int32)) ((2 : Int32) * ((md_tried S) (p2 - (1 : Int32)).toNatClampNeg)) H locs ls hf (lv_sub hl [1, 3, 4, 0] rfl) hh
def fX8_findsChain_l35 (v1 : Int32) : Nat → (Int32) → (zMd) → Option (Int32 × zMd)
  | 0, _, _ => none
  | n + 1, v2, S =>
  if v2 ≤ (0 : Int32) then
  (some ((0 : Int32), S))
  else
  (ix 16 v2 ((fX8_nextTry S ((md_tried S) v2.toNatClampNeg) v2 v1).bind fun u3 =>
  if ((upd (md_tried S) v2.toNatClampNeg u3) v2.toNatClampNeg) ≤ (md_goal S) then
  (if v2 = (v1 - (1 : Int32)) then
  (if ((upd (md_tried S) v2.toNatClampNeg u3) v2.toNatClampNeg) = (md_goal S) then
  (some ((1 : Int32), (md_set_tried S (upd (md_tried S) v2.toNatClampNeg u3))))
  else
  (fX8_findsChain_l35 v1 n v2 (md_set_tried S (upd (md_tried S) v2.toNatClampNeg u3))))
  else
  (ix 16 ((v2 + (1 : Int32)) - (1 : Int32)) (ix 16 (v2 + (1 : Int32)) (fX8_findsChain_l35 v1 n (v2 + (1 : Int32)) (md_set_tried S (upd (upd (md_tried S) v2.toNatClampNeg u3) (v2 + (1 : Int32)).toNatClampNeg ((upd (md_tried S) v2.toNatClampNeg u3) ((v2 + (1 : Int32)) - (1 : Int32)).toNatClampNeg)))))))
  else
  (fX8_findsChain_l35 v1 n (v2 + (-1 : Int32)) (md_set_tried S (upd (md_tried S) v2.toNatClampNeg u3)))))
def fX8_findsChain (S : zMd) (p1 : Int32) : Option (Int32 × zMd) :=
  ix 16 (0 : Int32) (if p1 = (1 : Int32) then
  (if (md_goal S) = (1 : Int32) then
  (some ((1 : Int32), (md_set_tried S (upd (md_tried S) (0 : Int32).toNatClampNeg (1 : Int32)))))
  else
  (some ((0 : Int32), (md_set_tried S (upd (md_tried S) (0 : Int32).toNatClampNeg (1 : Int32))))))
  else
  (ix 16 (1 : Int32) (fX8_findsChain_l35 p1 FU (1 : Int32) (md_set_tried S (upd (upd (md_tried S) (0 : Int32).toNatClampNeg (1 : Int32)) (1 : Int32).toNatClampNeg (1 : Int32))))))
theorem inX8_findsChain_X8 : ∀ w ∈ wsX80, w ∈ wsX8_findsChain := by decide +kernel
theorem mmX8_findsChain_0 : Cond.fieldLink RX8 52 "SumOfTwoThatStandModel" "tried" "[I" ∈ wsX8_findsChain := by decide +kernel
theorem mmX8_findsChain_1 : Cond.fieldLink RX8 213 "SumOfTwoThatStandModel" "goal" "I" ∈ wsX8_findsChain := by decide +kernel
theorem hdX8_findsChain : yX8_findsChain.cls ≠ "java/lang/invoke/MethodHandle" ∧ yX8_findsChain.cls ≠ "java/lang/invoke/VarHandle" ∧ (parseMethodDescriptor yX8_findsChain.desc).map (fun d => d.parameters.length) = some 1 := by decide +kernel
set_option maxHeartbeats 4000000 in
set_option maxRecDepth 100000 in
theorem kX8_findsChain (l : Launch) (K : zK) (a0 a1 a2 a3 a4 a5 a6 a7 a8 a9 a10 a11 a12 a13 a14 a15 a16 a17 a18 a19 : Nat) (S : zMd) (p1 : Int32) (R : Int32 × zMd) (hf : fX8_findsChain S p1 = some R) : zC l yX8_findsChain wsX8_findsChain ({ frames := 3, cells := 0, slots := 0, locals := 72 } : Room) K [.ref a0, .int p1] (cMd K a0 a1 a2 a3 a4 a5 a6 a7 a8 a9 a10 a11 a12 a13 a14 a15 a16 a17 a18 a19 S) (some (.int R.1)) (cMd K a0 a1 a2 a3 a4 a5 a6 a7 a8 a9 a10 a11 a12 a13 a14 a15 a16 a17 a18 a19 R.2) := by
  refine zC_z .boolean R.1 (cc := cX8_findsChain) (maxL := 3) (by decide +kernel) rfl (Nat.le_of_ble_eq_true rfl) rfl rfl ?_
  intro p e s m below meth c Q A X hret ls hl hh
  have X : zX p m c cX8_findsChain 3 s ([.ref a0, .int p1] : List Value).toArray wsX8_findsChain RX8 K A := X
  have hx := X.1.1
  have hb := X.1.2.1
  have hr2 : ∀ (pc : Nat) (ls : Array Slot) (H : Heap) (locs : List Loc) (v : Int32) (S : zMd), some (v, S) = some R → narrow .boolean (.int v) = .int v → decode cX8_findsChain pc = .ok (.ireturn, 1) → zW K A s H locs (cMd K a0 a1 a2 a3 a4 a5 a6 a7 a8 a9 a10 a11 a12 a13 a14 a15 a16 a17 a18 a19 S) → W p l e ({ frames := 3, cells := 0, slots := 0, locals := 72 } : Room) s m ([.ref a0, .int p1] : List Value).toArray below meth c H locs 0 0 Q (F0 m pc ls [.int v]) := by
    intro pc ls H locs v S h hn hd hh
    cases h; exact hret pc ls H locs _ rfl hn hd hh
  have hl : lv_has ls 3 [(0, .ref a0), (1, .int p1)] := hl
  have hL35 : ∀ (v1 : Int32), ∀ (n : Nat) (v2 : Int32) (S : zMd), ∀ (H : Heap) (locs : List Loc) (ls : Array Slot), fX8_findsChain_l35 v1 n v2 S = some R → lv_has ls 3 [(0, .ref a0), (1, .int v1), (2, .int v2)] → zW K A s H locs (cMd K a0 a1 a2 a3 a4 a5 a6 a7 a8 a9 a10 a11 a12 a13 a14 a15 a16 a17 a18 a19 S) → W p l e ({ frames := 3, cells := 0, slots := 0, locals := 72 } : Room) s m ([.ref a0, .int p1] : List Value).toArray below meth c H locs 0 0 Q (F0 m 35 ls []) := by
    intro v1 n
    induction n with
    | zero =>
      intro v2 S H locs ls hf hl hh
      rw [fX8_findsChain_l35] at hf; cases hf
    | succ n ih =>
      intro v2 S H locs ls hf hl hh
      rw [fX8_findsChain_l35] at hf
      refine lv_iload_n hx hb dX8_findsChain_35 rfl (lv_at hl 2 rfl) ?_
      refine lv_if_le (tgt := 118) hx hb dX8_findsChain_36 (by decide) (fun c1 => ?_) (fun c1 => ?_)
      · replace hf := (if_pos c1).symm.trans hf
        refine lv_iconst (v := (0 : Int32)) hx hb dX8_findsChain_118 (by decide) ?_
        exact hr2 119 ls H locs (0 : Int32) S hf rfl dX8_findsChain_119 hh
      · replace hf := (if_neg c1).symm.trans hf
        refine lv_aload_n hx hb dX8_findsChain_39 rfl (lv_at hl 0 rfl) ?_
        refine zget (v := .ref a15) (ref := "SumOfTwoThatStandModel") (C := RX8) (T := TX8) (N := 33) (index := 52) X hh inX8_findsChain_X8 0 rfl rfl 24 (by decide) mmX8_findsChain_0 rfl rfl dX8_findsChain_40 ?_
        refine lv_iload_n hx hb dX8_findsChain_43 rfl (lv_at hl 2 rfl) ?_
        refine lv_aload_n hx hb dX8_findsChain_44 rfl (lv_at hl 0 rfl) ?_
        refine lv_aload_n hx hb dX8_findsChain_45 rfl (lv_at hl 0 rfl) ?_
        refine zget (v := .ref a15) (ref := "SumOfTwoThatStandModel") (C := RX8) (T := TX8) (N := 33) (index := 52) X hh inX8_findsChain_X8 0 rfl rfl 24 (by decide) mmX8_findsChain_0 rfl rfl dX8_findsChain_46 ?_
        refine lv_iload_n hx hb dX8_findsChain_49 rfl (lv_at hl 2 rfl) ?_
        obtain ⟨g2, hf⟩ := ob_ix hf
        refine ziald (f := (md_tried S)) X hh 15 rfl g2 dX8_findsChain_50 ?_
        refine lv_iload_n hx hb dX8_findsChain_51 rfl (lv_at hl 2 rfl) ?_
        refine lv_iload_n hx hb dX8_findsChain_52 rfl (lv_at hl 1 rfl) ?_
        obtain ⟨u3, hu3, hf⟩ := ob_bind hf
        refine zcallV (ci := 7) (q0 := 0) (As := [.int ((md_tried S) v2.toNatClampNeg), .int v2, .int v1]) (rest := [.int v2, .ref a15]) (wr := []) (ws' := cMd K a0 a1 a2 a3 a4 a5 a6 a7 a8 a9 a10 a11 a12 a13 a14 a15 a16 a17 a18 a19 S) (ov := some (.int u3)) X hh hl (kX8_nextTry l K a0 a1 a2 a3 a4 a5 a6 a7 a8 a9 a10 a11 a12 a13 a14 a15 a16 a17 a18 a19 S ((md_tried S) v2.toNatClampNeg) v2 v1 u3 hu3) (fun ht => cwV 3 ht gX8_findsChain_X8_nextTry rfl rfl rfl ⟨rfl, hdX8_nextTry⟩ ⟨Nat.le_of_ble_eq_true rfl, Nat.le_of_ble_eq_true rfl⟩) [0, 1, 2, 3, 4, 5, 6, 7, 8, 9, 10, 11, 12, 13, 14, 15, 16, 17, 18, 19] [] [0, 1, 2, 3, 4, 5, 6, 7, 8, 9, 10, 11, 12, 13, 14, 15, 16, 17, 18, 19] rfl rfl rfl rfl (by decide) rfl rfl rfl rfl rfl rfl (Nat.le_of_ble_eq_true rfl) dX8_findsChain_53 ⟨Nat.zero_le _, Nat.zero_le _⟩ (fun H locs hh => ?_)
        refine ziast (f := (md_tried S)) X hh 15 rfl g2 dX8_findsChain_56 (fun H locs hh => ?_)
        have hh : zW K A s H locs (cMd K a0 a1 a2 a3 a4 a5 a6 a7 a8 a9 a10 a11 a12 a13 a14 a15 a16 a17 a18 a19 (md_set_tried S (upd (md_tried S) v2.toNatClampNeg u3))) := hh
        refine lv_aload_n hx hb dX8_findsChain_57 rfl (lv_at hl 0 rfl) ?_
        refine zget (v := .ref a15) (ref := "SumOfTwoThatStandModel") (C := RX8) (T := TX8) (N := 33) (index := 52) X hh inX8_findsChain_X8 0 rfl rfl 24 (by decide) mmX8_findsChain_0 rfl rfl dX8_findsChain_58 ?_
        refine lv_iload_n hx hb dX8_findsChain_61 rfl (lv_at hl 2 rfl) ?_
        refine ziald (f := (upd (md_tried S) v2.toNatClampNeg u3)) X hh 15 rfl g2 dX8_findsChain_62 ?_
        refine lv_aload_n hx hb dX8_findsChain_63 rfl (lv_at hl 0 rfl) ?_
        refine zget (v := .int (md_goal S)) (ref := "SumOfTwoThatStandModel") (C := RX8) (T := TX8) (N := 33) (index := 213) X hh inX8_findsChain_X8 0 rfl rfl 26 (by decide) mmX8_findsChain_1 rfl rfl dX8_findsChain_64 ?_
        refine lv_icmp_le (tgt := 76) hx hb dX8_findsChain_67 (by decide) (fun c4 => ?_) (fun c4 => ?_)
        · replace hf := (if_pos c4).symm.trans hf
          refine lv_iload_n hx hb dX8_findsChain_76 rfl (lv_at hl 2 rfl) ?_
          refine lv_iload_n hx hb dX8_findsChain_77 rfl (lv_at hl 1 rfl) ?_
          refine lv_iconst (v := (1 : Int32)) hx hb dX8_findsChain_78 (by decide) ?_
          refine lv_isub hx hb dX8_findsChain_79 ?_
          refine lv_icmp_ne (tgt := 98) hx hb dX8_findsChain_80 (by decide) (fun c5 => ?_) (fun c5 => ?_)
          · replace hf := (if_neg c5).symm.trans hf
            refine lv_iinc (v := (v2 + (1 : Int32))) (lv' := [(2, .int (v2 + (1 : Int32))), (0, .ref a0), (1, .int v1)]) hx hb dX8_findsChain_98 hl (k := 2) rfl rfl (by decide) rfl (fun ls hl => ?_)
            refine lv_aload_n hx hb dX8_findsChain_101 rfl (lv_at hl 1 rfl) ?_
            refine zget (v := .ref a15) (ref := "SumOfTwoThatStandModel") (C := RX8) (T := TX8) (N := 33) (index := 52) X hh inX8_findsChain_X8 0 rfl rfl 24 (by decide) mmX8_findsChain_0 rfl rfl dX8_findsChain_102 ?_
            refine lv_iload_n hx hb dX8_findsChain_105 rfl (lv_at hl 0 rfl) ?_
            refine lv_aload_n hx hb dX8_findsChain_106 rfl (lv_at hl 1 rfl) ?_
            refine zget (v := .ref a15) (ref := "SumOfTwoThatStandModel") (C := RX8) (T := TX8) (N := 33) (index := 52) X hh inX8_findsChain_X8 0 rfl rfl 24 (by decide) mmX8_findsChain_0 rfl rfl dX8_findsChain_107 ?_
            refine lv_iload_n hx hb dX8_findsChain_110 rfl (lv_at hl 0 rfl) ?_
            refine lv_iconst (v := (1 : Int32)) hx hb dX8_findsChain_111 (by decide) ?_
            refine lv_isub hx hb dX8_findsChain_112 ?_
            obtain ⟨g6, hf⟩ := ob_ix hf
            refine ziald (f := (upd (md_tried S) v2.toNatClampNeg u3)) X hh 15 rfl g6 dX8_findsChain_113 ?_
            obtain ⟨g7, hf⟩ := ob_ix hf
            refine ziast (f := (upd (md_tried S) v2.toNatClampNeg u3)) X hh 15 rfl g7 dX8_findsChain_114 (fun H locs hh => ?_)
            have hh : zW K A s H locs (cMd K a0 a1 a2 a3 a4 a5 a6 a7 a8 a9 a10 a11 a12 a13 a14 a15 a16 a17 a18 a19 (md_set_tried S (upd (upd (md_tried S) v2.toNatClampNeg u3) (v2 + (1 : Int32)).toNatClampNeg ((upd (md_tried S) v2.toNatClampNeg u3) ((v2 + (1 : Int32)) - (1 : Int32)).toNatClampNeg)))) := hh
            refine lv_goto (tgt := 35) hx hb dX8_findsChain_115 (by decide) ?_
            exact ih (v2 + (1 : Int32)) (md_set_tried S (upd (upd (md_tried S) v2.toNatClampNeg u3) (v2 + (1 : Int32)).toNatClampNeg ((upd (md_tried S) v2.toNatClampNeg u3) ((v2 + (1 : Int32)) - (1 : Int32)).toNatClampNeg))) H locs ls hf (lv_sub hl [1, 2, 0] rfl) hh
          · replace hf := (if_pos c5).symm.trans hf
            refine lv_aload_n hx hb dX8_findsChain_83 rfl (lv_at hl 0 rfl) ?_
            refine zget (v := .ref a15) (ref := "SumOfTwoThatStandModel") (C := RX8) (T := TX8) (N := 33) (index := 52) X hh inX8_findsChain_X8 0 rfl rfl 24 (by decide) mmX8_findsChain_0 rfl rfl dX8_findsChain_84 ?_
            refine lv_iload_n hx hb dX8_findsChain_87 rfl (lv_at hl 2 rfl) ?_
            refine ziald (f := (upd (md_tried S) v2.toNatClampNeg u3)) X hh 15 rfl g2 dX8_findsChain_88 ?_
            refine lv_aload_n hx hb dX8_findsChain_89 rfl (lv_at hl 0 rfl) ?_
            refine zget (v := .int (md_goal S)) (ref := "SumOfTwoThatStandModel") (C := RX8) (T := TX8) (N := 33) (index := 213) X hh inX8_findsChain_X8 0 rfl rfl 26 (by decide) mmX8_findsChain_1 rfl rfl dX8_findsChain_90 ?_
            refine lv_icmp_ne (tgt := 35) hx hb dX8_findsChain_93 (by decide) (fun c8 => ?_) (fun c8 => ?_)
            · replace hf := (if_neg c8).symm.trans hf
              exact ih v2 (md_set_tried S (upd (md_tried S) v2.toNatClampNeg u3)) H locs ls hf (lv_sub hl [0, 1, 2] rfl) hh
            · replace hf := (if_pos c8).symm.trans hf
              refine lv_iconst (v := (1 : Int32)) hx hb dX8_findsChain_96 (by decide) ?_
              exact hr2 97 ls H locs (1 : Int32) (md_set_tried S (upd (md_tried S) v2.toNatClampNeg u3)) hf rfl dX8_findsChain_97 hh
        · replace hf := (if_neg c4).symm.trans hf
          refine lv_iinc (v := (v2 + (-1 : Int32))) (lv' := [(2, .int (v2 + (-1 : Int32))), (0, .ref a0), (1, .int v1)]) hx hb dX8_findsChain_70 hl (k := 2) rfl rfl (by decide) rfl (fun ls hl => ?_)
          refine lv_goto (tgt := 35) hx hb dX8_findsChain_73 (by decide) ?_
          exact ih (v2 + (-1 : Int32)) (md_set_tried S (upd (md_tried S) v2.toNatClampNeg u3)) H locs ls hf (lv_sub hl [1, 2, 0] rfl) hh
  unfold fX8_findsChain at hf
  refine (fun (hmain : ∀ (H : Heap) (locs : List Loc), zW K A s H locs (cMd K a0 a1 a2 a3 a4 a5 a6 a7 a8 a9 a10 a11 a12 a13 a14 a15 a16 a17 a18 a19 S) → W p l e ({ frames := 3, cells := 0, slots := 0, locals := 72 } : Room) s m ([.ref a0, .int p1] : List Value).toArray below meth c H locs 0 0 Q (F0 m 0 ls [])) => hmain s.heap [] hh) (fun H locs hh => ?_)
  refine lv_aload_n hx hb dX8_findsChain_0 rfl (lv_at hl 0 rfl) ?_
  refine zget (v := .ref a15) (ref := "SumOfTwoThatStandModel") (C := RX8) (T := TX8) (N := 33) (index := 52) X hh inX8_findsChain_X8 0 rfl rfl 24 (by decide) mmX8_findsChain_0 rfl rfl dX8_findsChain_1 ?_
  refine lv_iconst (v := (0 : Int32)) hx hb dX8_findsChain_4 (by decide) ?_
  refine lv_iconst (v := (1 : Int32)) hx hb dX8_findsChain_5 (by decide) ?_
  obtain ⟨g9, hf⟩ := ob_ix hf
  refine ziast (f := (md_tried S)) X hh 15 rfl g9 dX8_findsChain_6 (fun H locs hh => ?_)
  have hh : zW K A s H locs (cMd K a0 a1 a2 a3 a4 a5 a6 a7 a8 a9 a10 a11 a12 a13 a14 a15 a16 a17 a18 a19 (md_set_tried S (upd (md_tried S) (0 : Int32).toNatClampNeg (1 : Int32)))) := hh
  refine lv_iload_n hx hb dX8_findsChain_7 rfl (lv_at hl 1 rfl) ?_
  refine lv_iconst (v := (1 : Int32)) hx hb dX8_findsChain_8 (by decide) ?_
  refine lv_icmp_ne (tgt := 26) hx hb dX8_findsChain_9 (by decide) (fun c10 => ?_) (fun c10 => ?_)
  · replace hf := (if_neg c10).symm.trans hf
    refine lv_iconst (v := (1 : Int32)) hx hb dX8_findsChain_26 (by decide) ?_
    refine lv_istore_n (lv' := [(2, .int (1 : Int32)), (0, .ref a0), (1, .int p1)]) hx hb dX8_findsChain_27 rfl hl (by decide) rfl (fun ls hl => ?_)
    refine lv_aload_n hx hb dX8_findsChain_28 rfl (lv_at hl 1 rfl) ?_
    refine zget (v := .ref a15) (ref := "SumOfTwoThatStandModel") (C := RX8) (T := TX8) (N := 33) (index := 52) X hh inX8_findsChain_X8 0 rfl rfl 24 (by decide) mmX8_findsChain_0 rfl rfl dX8_findsChain_29 ?_
    refine lv_iconst (v := (1 : Int32)) hx hb dX8_findsChain_32 (by decide) ?_
    refine lv_iconst (v := (1 : Int32)) hx hb dX8_findsChain_33 (by decide) ?_
    obtain ⟨g11, hf⟩ := ob_ix hf
    refine ziast (f := (upd (md_tried S) (0 : Int32).toNatClampNeg (1 : Int32))) X hh 15 rfl g11 dX8_findsChain_34 (fun H locs hh => ?_)
    have hh : zW K A s H locs (cMd K a0 a1 a2 a3 a4 a5 a6 a7 a8 a9 a10 a11 a12 a13 a14 a15 a16 a17 a18 a19 (md_set_tried S (upd (upd (md_tried S) (0 : Int32).toNatClampNeg (1 : Int32)) (1 : Int32).toNatClampNeg (1 : Int32)))) := hh
    exact hL35 p1 FU (1 : Int32) (md_set_tried S (upd (upd (md_tried S) (0 : Int32).toNatClampNeg (1 : Int32)) (1 : Int32).toNatClampNeg (1 : Int32))) H locs ls hf (lv_sub hl [1, 2, 0] rfl) hh
  · replace hf := (if_pos c10).symm.trans hf
    refine lv_aload_n hx hb dX8_findsChain_12 rfl (lv_at hl 0 rfl) ?_
    refine zget (v := .int (md_goal S)) (ref := "SumOfTwoThatStandModel") (C := RX8) (T := TX8) (N := 33) (index := 213) X hh inX8_findsChain_X8 0 rfl rfl 26 (by decide) mmX8_findsChain_1 rfl rfl dX8_findsChain_13 ?_
    refine lv_iconst (v := (1 : Int32)) hx hb dX8_findsChain_16 (by decide) ?_
    refine lv_icmp_ne (tgt := 24) hx hb dX8_findsChain_17 (by decide) (fun c12 => ?_) (fun c12 => ?_)
    · replace hf := (if_neg c12).symm.trans hf
      refine lv_iconst (v := (0 : Int32)) hx hb dX8_findsChain_24 (by decide) ?_
      exact hr2 25 ls H locs (0 : Int32) (md_set_tried S (upd (md_tried S) (0 : Int32).toNatClampNeg (1 : Int32))) hf rfl dX8_findsChain_25 hh
    · replace hf := (if_pos c12).symm.trans hf
      refine lv_iconst (v := (1 : Int32)) hx hb dX8_findsChain_20 (by decide) ?_
      refine lv_goto (tgt := 25) hx hb dX8_findsChain_21 (by decide) ?_
      exact hr2 25 ls H locs (1 : Int32) (md_set_tried S (upd (md_tried S) (0 : Int32).toNatClampNeg (1 : Int32))) hf rfl dX8_findsChain_25 hh
def fX8_shortest_l12  : Nat → (Int32) → (zMd) → Option (Int32 × zMd)
  | 0, _, _ => none
  | n + 1, v3, S =>
  (fX8_findsChain S v3).bind fun u1 =>
  if u1.1 = (0 : Int32) then
  (fX8_shortest_l12  n (v3 + (1 : Int32)) u1.2)
  else
  (some (v3, u1.2))
def fX8_shortest (S : zMd) (p1 : Int32) (p2 : Int32) : Option (Int32 × zMd) :=
  fX8_shortest_l12 FU (1 : Int32) (md_set_goal (md_set_wanted S p1) p2)
theorem inX8_shortest_X8 : ∀ w ∈ wsX80, w ∈ wsX8_shortest := by decide +kernel
theorem mmX8_shortest_0 : Cond.fieldLink RX8 222 "SumOfTwoThatStandModel" "wanted" "I" ∈ wsX8_shortest := by decide +kernel
theorem mmX8_shortest_1 : Cond.fieldLink RX8 213 "SumOfTwoThatStandModel" "goal" "I" ∈ wsX8_shortest := by decide +kernel
theorem hdX8_shortest : yX8_shortest.cls ≠ "java/lang/invoke/MethodHandle" ∧ yX8_shortest.cls ≠ "java/lang/invoke/VarHandle" ∧ (parseMethodDescriptor yX8_shortest.desc).map (fun d => d.parameters.length) = some 2 := by decide +kernel
set_option maxHeartbeats 4000000 in
set_option maxRecDepth 100000 in
theorem kX8_shortest (l : Launch) (K : zK) (a0 a1 a2 a3 a4 a5 a6 a7 a8 a9 a10 a11 a12 a13 a14 a15 a16 a17 a18 a19 : Nat) (S : zMd) (p1 : Int32) (p2 : Int32) (R : Int32 × zMd) (hf : fX8_shortest S p1 p2 = some R) : zC l yX8_shortest wsX8_shortest ({ frames := 4, cells := 0, slots := 0, locals := 94 } : Room) K [.ref a0, .int p1, .int p2] (cMd K a0 a1 a2 a3 a4 a5 a6 a7 a8 a9 a10 a11 a12 a13 a14 a15 a16 a17 a18 a19 S) (some (.int R.1)) (cMd K a0 a1 a2 a3 a4 a5 a6 a7 a8 a9 a10 a11 a12 a13 a14 a15 a16 a17 a18 a19 R.2) := by
  refine zC_i R.1 (cc := cX8_shortest) (maxL := 4) (by decide +kernel) rfl (Nat.le_of_ble_eq_true rfl) rfl rfl ?_
  intro p e s m below meth c Q A X hret ls hl hh
  have X : zX p m c cX8_shortest 4 s ([.ref a0, .int p1, .int p2] : List Value).toArray wsX8_shortest RX8 K A := X
  have hx := X.1.1
  have hb := X.1.2.1
  have hr2 : ∀ (pc : Nat) (ls : Array Slot) (H : Heap) (locs : List Loc) (v : Int32) (S : zMd), some (v, S) = some R → decode cX8_shortest pc = .ok (.ireturn, 1) → zW K A s H locs (cMd K a0 a1 a2 a3 a4 a5 a6 a7 a8 a9 a10 a11 a12 a13 a14 a15 a16 a17 a18 a19 S) → W p l e ({ frames := 4, cells := 0, slots := 0, locals := 94 } : Room) s m ([.ref a0, .int p1, .int p2] : List Value).toArray below meth c H locs 0 0 Q (F0 m pc ls [.int v]) := by
    intro pc ls H locs v S h hd hh
    cases h; exact hret pc ls H locs _ rfl hd hh
  have hl : lv_has ls 4 [(0, .ref a0), (1, .int p1), (2, .int p2)] := hl
  have hL12 : ∀ (n : Nat) (v3 : Int32) (S : zMd), ∀ (H : Heap) (locs : List Loc) (ls : Array Slot), fX8_shortest_l12 n v3 S = some R → lv_has ls 4 [(0, .ref a0), (3, .int v3)] → zW K A s H locs (cMd K a0 a1 a2 a3 a4 a5 a6 a7 a8 a9 a10 a11 a12 a13 a14 a15 a16 a17 a18 a19 S) → W p l e ({ frames := 4, cells := 0, slots := 0, locals := 94 } : Room) s m ([.ref a0, .int p1, .int p2] : List Value).toArray below meth c H locs 0 0 Q (F0 m 12 ls []) := by
    intro n
    induction n with
    | zero =>
      intro v3 S H locs ls hf hl hh
      rw [fX8_shortest_l12] at hf; cases hf
    | succ n ih =>
      intro v3 S H locs ls hf hl hh
      rw [fX8_shortest_l12] at hf
      refine lv_aload_n hx hb dX8_shortest_12 rfl (lv_at hl 0 rfl) ?_
      refine lv_iload_n hx hb dX8_shortest_13 rfl (lv_at hl 1 rfl) ?_
      obtain ⟨u1, hu1, hf⟩ := ob_bind hf
      refine zcallV (ci := 7) (q0 := 0) (As := [.int v3]) (rest := []) (wr := []) (ws' := cMd K a0 a1 a2 a3 a4 a5 a6 a7 a8 a9 a10 a11 a12 a13 a14 a15 a16 a17 a18 a19 u1.2) (ov := some (.int u1.1)) X hh hl (kX8_findsChain l K a0 a1 a2 a3 a4 a5 a6 a7 a8 a9 a10 a11 a12 a13 a14 a15 a16 a17 a18 a19 S v3 u1 hu1) (fun ht => cwV 1 ht gX8_shortest_X8_findsChain rfl rfl rfl ⟨rfl, hdX8_findsChain⟩ ⟨Nat.le_of_ble_eq_true rfl, Nat.le_of_ble_eq_true rfl⟩) [0, 1, 2, 3, 4, 5, 6, 7, 8, 9, 10, 11, 12, 13, 14, 15, 16, 17, 18, 19] [] [0, 1, 2, 3, 4, 5, 6, 7, 8, 9, 10, 11, 12, 13, 14, 15, 16, 17, 18, 19] rfl rfl rfl rfl (by decide) rfl rfl rfl rfl rfl rfl (Nat.le_of_ble_eq_true rfl) dX8_shortest_14 ⟨Nat.zero_le _, Nat.zero_le _⟩ (fun H locs hh => ?_)
      refine lv_if_ne (tgt := 26) hx hb dX8_shortest_17 (by decide) (fun c2 => ?_) (fun c2 => ?_)
      · replace hf := (if_neg c2).symm.trans hf
        refine lv_iload_n hx hb dX8_shortest_26 rfl (lv_at hl 1 rfl) ?_
        exact hr2 27 ls H locs v3 u1.2 hf dX8_shortest_27 hh
      · replace hf := (if_pos c2).symm.trans hf
        refine lv_iinc (v := (v3 + (1 : Int32))) (lv' := [(3, .int (v3 + (1 : Int32))), (0, .ref a0)]) hx hb dX8_shortest_20 hl (k := 1) rfl rfl (by decide) rfl (fun ls hl => ?_)
        refine lv_goto (tgt := 12) hx hb dX8_shortest_23 (by decide) ?_
        exact ih (v3 + (1 : Int32)) u1.2 H locs ls hf (lv_sub hl [1, 0] rfl) hh
  unfold fX8_shortest at hf
  refine (fun (hmain : ∀ (H : Heap) (locs : List Loc), zW K A s H locs (cMd K a0 a1 a2 a3 a4 a5 a6 a7 a8 a9 a10 a11 a12 a13 a14 a15 a16 a17 a18 a19 S) → W p l e ({ frames := 4, cells := 0, slots := 0, locals := 94 } : Room) s m ([.ref a0, .int p1, .int p2] : List Value).toArray below meth c H locs 0 0 Q (F0 m 0 ls [])) => hmain s.heap [] hh) (fun H locs hh => ?_)
  refine lv_aload_n hx hb dX8_shortest_0 rfl (lv_at hl 0 rfl) ?_
  refine lv_iload_n hx hb dX8_shortest_1 rfl (lv_at hl 1 rfl) ?_
  refine zput (v := .int p1) (ty := .int) (ref := "SumOfTwoThatStandModel") (C := RX8) (T := TX8) (N := 33) (index := 222) X hh inX8_shortest_X8 tyX8 tyX8_ok nmX8 0 rfl rfl 25 (by decide) mmX8_shortest_0 rfl rfl (by decide +kernel) rfl rfl (Nat.le_of_ble_eq_true rfl) dX8_shortest_2 (fun H locs hh => ?_)
  have hh : zW K A s H locs (cMd K a0 a1 a2 a3 a4 a5 a6 a7 a8 a9 a10 a11 a12 a13 a14 a15 a16 a17 a18 a19 (md_set_wanted S p1)) := hh
  refine lv_aload_n hx hb dX8_shortest_5 rfl (lv_at hl 0 rfl) ?_
  refine lv_iload_n hx hb dX8_shortest_6 rfl (lv_at hl 2 rfl) ?_
  refine zput (v := .int p2) (ty := .int) (ref := "SumOfTwoThatStandModel") (C := RX8) (T := TX8) (N := 33) (index := 213) X hh inX8_shortest_X8 tyX8 tyX8_ok nmX8 0 rfl rfl 26 (by decide) mmX8_shortest_1 rfl rfl (by decide +kernel) rfl rfl (Nat.le_of_ble_eq_true rfl) dX8_shortest_7 (fun H locs hh => ?_)
  have hh : zW K A s H locs (cMd K a0 a1 a2 a3 a4 a5 a6 a7 a8 a9 a10 a11 a12 a13 a14 a15 a16 a17 a18 a19 (md_set_goal (md_set_wanted S p1) p2)) := hh
  refine lv_iconst (v := (1 : Int32)) hx hb dX8_shortest_10 (by decide) ?_
  refine lv_istore_n (lv' := [(3, .int (1 : Int32)), (0, .ref a0), (1, .int p1), (2, .int p2)]) hx hb dX8_shortest_11 rfl hl (by decide) rfl (fun ls hl => ?_)
  exact hL12 FU (1 : Int32) (md_set_goal (md_set_wanted S p1) p2) H locs ls hf (lv_sub hl [1, 0] rfl) hh
def fX8_fewest (S : zMd) (p1 : Int32) : Option (Int32 × zMd) :=
  if (fX8_bound p1 (1 : Int32) (100 : Int32)) = (0 : Int32) then
  ((fX8_shortest S p1 p1).bind fun u3 =>
  some (u3.1, u3.2))
  else
  ((fX8_no S (fX8_bound p1 (1 : Int32) (100 : Int32))).bind fun u4 =>
  some (u4.1, u4.2))
theorem hdX8_fewest : yX8_fewest.cls ≠ "java/lang/invoke/MethodHandle" ∧ yX8_fewest.cls ≠ "java/lang/invoke/VarHandle" ∧ (parseMethodDescriptor yX8_fewest.desc).map (fun d => d.parameters.length) = some 1 := by decide +kernel
set_option maxHeartbeats 4000000 in
set_option maxRecDepth 100000 in
theorem kX8_fewest (l : Launch) (K : zK) (a0 a1 a2 a3 a4 a5 a6 a7 a8 a9 a10 a11 a12 a13 a14 a15 a16 a17 a18 a19 : Nat) (S : zMd) (p1 : Int32) (R : Int32 × zMd) (hf : fX8_fewest S p1 = some R) : zC l yX8_fewest wsX8_fewest ({ frames := 5, cells := 0, slots := 0, locals := 117 } : Room) K [.ref a0, .int p1] (cMd K a0 a1 a2 a3 a4 a5 a6 a7 a8 a9 a10 a11 a12 a13 a14 a15 a16 a17 a18 a19 S) (some (.int R.1)) (cMd K a0 a1 a2 a3 a4 a5 a6 a7 a8 a9 a10 a11 a12 a13 a14 a15 a16 a17 a18 a19 R.2) := by
  refine zC_i R.1 (cc := cX8_fewest) (maxL := 3) (by decide +kernel) rfl (Nat.le_of_ble_eq_true rfl) rfl rfl ?_
  intro p e s m below meth c Q A X hret ls hl hh
  have X : zX p m c cX8_fewest 3 s ([.ref a0, .int p1] : List Value).toArray wsX8_fewest RX8 K A := X
  have hx := X.1.1
  have hb := X.1.2.1
  have hr2 : ∀ (pc : Nat) (ls : Array Slot) (H : Heap) (locs : List Loc) (v : Int32) (S : zMd), some (v, S) = some R → decode cX8_fewest pc = .ok (.ireturn, 1) → zW K A s H locs (cMd K a0 a1 a2 a3 a4 a5 a6 a7 a8 a9 a10 a11 a12 a13 a14 a15 a16 a17 a18 a19 S) → W p l e ({ frames := 5, cells := 0, slots := 0, locals := 117 } : Room) s m ([.ref a0, .int p1] : List Value).toArray below meth c H locs 0 0 Q (F0 m pc ls [.int v]) := by
    intro pc ls H locs v S h hd hh
    cases h; exact hret pc ls H locs _ rfl hd hh
  have hl : lv_has ls 3 [(0, .ref a0), (1, .int p1)] := hl
  unfold fX8_fewest at hf
  refine (fun (hmain : ∀ (H : Heap) (locs : List Loc), zW K A s H locs (cMd K a0 a1 a2 a3 a4 a5 a6 a7 a8 a9 a10 a11 a12 a13 a14 a15 a16 a17 a18 a19 S) → W p l e ({ frames := 5, cells := 0, slots := 0, locals := 117 } : Room) s m ([.ref a0, .int p1] : List Value).toArray below meth c H locs 0 0 Q (F0 m 0 ls [])) => hmain s.heap [] hh) (fun H locs hh => ?_)
  refine lv_iload_n hx hb dX8_fewest_0 rfl (lv_at hl 1 rfl) ?_
  refine lv_iconst (v := (1 : Int32)) hx hb dX8_fewest_1 (by decide) ?_
  refine lv_bipush (v := (100 : Int32)) hx hb dX8_fewest_2 (by decide) ?_
  refine zcallS (As := [.int p1, .int (1 : Int32), .int (100 : Int32)]) (rest := []) (wr := cMd K a0 a1 a2 a3 a4 a5 a6 a7 a8 a9 a10 a11 a12 a13 a14 a15 a16 a17 a18 a19 S) (ws' := cMd K a0 a1 a2 a3 a4 a5 a6 a7 a8 a9 a10 a11 a12 a13 a14 a15 a16 a17 a18 a19 S) (ov := some (.int (fX8_bound p1 (1 : Int32) (100 : Int32)))) X hh hl (kX8_bound l K p1 (1 : Int32) (100 : Int32) (fX8_bound p1 (1 : Int32) (100 : Int32)) rfl) (fun ht => va_cwS 3 ht gX8_fewest_X8_bound rfl rfl rfl hdX8_bound ⟨Nat.le_of_ble_eq_true rfl, Nat.le_of_ble_eq_true rfl⟩) [] [0, 1, 2, 3, 4, 5, 6, 7, 8, 9, 10, 11, 12, 13, 14, 15, 16, 17, 18, 19] [0, 1, 2, 3, 4, 5, 6, 7, 8, 9, 10, 11, 12, 13, 14, 15, 16, 17, 18, 19] rfl rfl rfl rfl (by decide) rfl rfl rfl rfl (Nat.le_of_ble_eq_true rfl) dX8_fewest_4 ⟨Nat.zero_le _, Nat.zero_le _⟩ (fun H locs hh => ?_)
  refine lv_istore_n (lv' := [(2, .int (fX8_bound p1 (1 : Int32) (100 : Int32))), (0, .ref a0), (1, .int p1)]) hx hb dX8_fewest_7 rfl hl (by decide) rfl (fun ls hl => ?_)
  refine lv_iload_n hx hb dX8_fewest_8 rfl (lv_at hl 0 rfl) ?_
  refine lv_if_eq (tgt := 20) hx hb dX8_fewest_9 (by decide) (fun c2 => ?_) (fun c2 => ?_)
  · replace hf := (if_pos c2).symm.trans hf
    refine lv_aload_n hx hb dX8_fewest_20 rfl (lv_at hl 1 rfl) ?_
    refine lv_iload_n hx hb dX8_fewest_21 rfl (lv_at hl 2 rfl) ?_
    refine lv_iload_n hx hb dX8_fewest_22 rfl (lv_at hl 2 rfl) ?_
    obtain ⟨u3, hu3, hf⟩ := ob_bind hf
    refine zcallV (ci := 7) (q0 := 0) (As := [.int p1, .int p1]) (rest := []) (wr := []) (ws' := cMd K a0 a1 a2 a3 a4 a5 a6 a7 a8 a9 a10 a11 a12 a13 a14 a15 a16 a17 a18 a19 u3.2) (ov := some (.int u3.1)) X hh hl (kX8_shortest l K a0 a1 a2 a3 a4 a5 a6 a7 a8 a9 a10 a11 a12 a13 a14 a15 a16 a17 a18 a19 S p1 p1 u3 hu3) (fun ht => cwV 2 ht gX8_fewest_X8_shortest rfl rfl rfl ⟨rfl, hdX8_shortest⟩ ⟨Nat.le_of_ble_eq_true rfl, Nat.le_of_ble_eq_true rfl⟩) [0, 1, 2, 3, 4, 5, 6, 7, 8, 9, 10, 11, 12, 13, 14, 15, 16, 17, 18, 19] [] [0, 1, 2, 3, 4, 5, 6, 7, 8, 9, 10, 11, 12, 13, 14, 15, 16, 17, 18, 19] rfl rfl rfl rfl (by decide) rfl rfl rfl rfl rfl rfl (Nat.le_of_ble_eq_true rfl) dX8_fewest_23 ⟨Nat.zero_le _, Nat.zero_le _⟩ (fun H locs hh => ?_)
    exact hr2 26 ls H locs u3.1 u3.2 hf dX8_fewest_26 hh
  · replace hf := (if_neg c2).symm.trans hf
    refine lv_aload_n hx hb dX8_fewest_12 rfl (lv_at hl 1 rfl) ?_
    refine lv_iload_n hx hb dX8_fewest_13 rfl (lv_at hl 0 rfl) ?_
    obtain ⟨u4, hu4, hf⟩ := ob_bind hf
    refine zcallV (ci := 7) (q0 := 0) (As := [.int (fX8_bound p1 (1 : Int32) (100 : Int32))]) (rest := []) (wr := []) (ws' := cMd K a0 a1 a2 a3 a4 a5 a6 a7 a8 a9 a10 a11 a12 a13 a14 a15 a16 a17 a18 a19 u4.2) (ov := some (.int u4.1)) X hh hl (kX8_no l K a0 a1 a2 a3 a4 a5 a6 a7 a8 a9 a10 a11 a12 a13 a14 a15 a16 a17 a18 a19 S (fX8_bound p1 (1 : Int32) (100 : Int32)) u4 hu4) (fun ht => cwV 1 ht gX8_fewest_X8_no rfl rfl rfl ⟨rfl, hdX8_no⟩ ⟨Nat.le_of_ble_eq_true rfl, Nat.le_of_ble_eq_true rfl⟩) [0, 1, 2, 3, 4, 5, 6, 7, 8, 9, 10, 11, 12, 13, 14, 15, 16, 17, 18, 19] [] [0, 1, 2, 3, 4, 5, 6, 7, 8, 9, 10, 11, 12, 13, 14, 15, 16, 17, 18, 19] rfl rfl rfl rfl (by decide) rfl rfl rfl rfl rfl rfl (Nat.le_of_ble_eq_true rfl) dX8_fewest_14 ⟨Nat.zero_le _, Nat.zero_le _⟩ (fun H locs hh => ?_)
    refine lv_goto (tgt := 26) hx hb dX8_fewest_17 (by decide) ?_
    exact hr2 26 ls H locs u4.1 u4.2 hf dX8_fewest_26 hh
def fX8_chain_j26 (v1 : Int32) (v2 : Int32) (t0 : Int32) (S : zMd) : Option (Int32 × zMd) :=
  if t0 = (0 : Int32) then
  ((fX8_shortest S v1 v1).bind fun u2 =>
  if u2.1 ≤ v2 then
  (some ((-9 : Int32), u2.2))
  else
  (ix 16 v2 (some (((md_tried u2.2) v2.toNatClampNeg), u2.2))))
  else
  ((fX8_no S t0).bind fun u5 =>
  some (u5.1, u5.2))
def fX8_chain_j9 (v1 : Int32) (v2 : Int32) (S : zMd) : Option (Int32 × zMd) :=
  fX8_chain_j26 v1 v2 (-4 : Int32) S
def fX8_chain (S : zMd) (p1 : Int32) (p2 : Int32) : Option (Int32 × zMd) :=
  if p1 < (1 : Int32) then
  (fX8_chain_j9 p1 p2 S)
  else
  (if (0 : Int32) ≤ p2 then
  (if p1 ≤ (100 : Int32) then
  (fX8_chain_j26 p1 p2 (0 : Int32) S)
  else
  (fX8_chain_j26 p1 p2 (-6 : Int32) S))
  else
  (fX8_chain_j9 p1 p2 S))
theorem inX8_chain_X8 : ∀ w ∈ wsX80, w ∈ wsX8_chain := by decide +kernel
theorem mmX8_chain_0 : Cond.fieldLink RX8 52 "SumOfTwoThatStandModel" "tried" "[I" ∈ wsX8_chain := by decide +kernel
theorem hdX8_chain : yX8_chain.cls ≠ "java/lang/invoke/MethodHandle" ∧ yX8_chain.cls ≠ "java/lang/invoke/VarHandle" ∧ (parseMethodDescriptor yX8_chain.desc).map (fun d => d.parameters.length) = some 2 := by decide +kernel
set_option maxHeartbeats 4000000 in
set_option maxRecDepth 100000 in
theorem kX8_chain (l : Launch) (K : zK) (a0 a1 a2 a3 a4 a5 a6 a7 a8 a9 a10 a11 a12 a13 a14 a15 a16 a17 a18 a19 : Nat) (S : zMd) (p1 : Int32) (p2 : Int32) (R : Int32 × zMd) (hf : fX8_chain S p1 p2 = some R) : zC l yX8_chain wsX8_chain ({ frames := 5, cells := 0, slots := 0, locals := 117 } : Room) K [.ref a0, .int p1, .int p2] (cMd K a0 a1 a2 a3 a4 a5 a6 a7 a8 a9 a10 a11 a12 a13 a14 a15 a16 a17 a18 a19 S) (some (.int R.1)) (cMd K a0 a1 a2 a3 a4 a5 a6 a7 a8 a9 a10 a11 a12 a13 a14 a15 a16 a17 a18 a19 R.2) := by
  refine zC_i R.1 (cc := cX8_chain) (maxL := 5) (by decide +kernel) rfl (Nat.le_of_ble_eq_true rfl) rfl rfl ?_
  intro p e s m below meth c Q A X hret ls hl hh
  have X : zX p m c cX8_chain 5 s ([.ref a0, .int p1, .int p2] : List Value).toArray wsX8_chain RX8 K A := X
  have hx := X.1.1
  have hb := X.1.2.1
  have hr2 : ∀ (pc : Nat) (ls : Array Slot) (H : Heap) (locs : List Loc) (v : Int32) (S : zMd), some (v, S) = some R → decode cX8_chain pc = .ok (.ireturn, 1) → zW K A s H locs (cMd K a0 a1 a2 a3 a4 a5 a6 a7 a8 a9 a10 a11 a12 a13 a14 a15 a16 a17 a18 a19 S) → W p l e ({ frames := 5, cells := 0, slots := 0, locals := 117 } : Room) s m ([.ref a0, .int p1, .int p2] : List Value).toArray below meth c H locs 0 0 Q (F0 m pc ls [.int v]) := by
    intro pc ls H locs v S h hd hh
    cases h; exact hret pc ls H locs _ rfl hd hh
  have hl : lv_has ls 5 [(0, .ref a0), (1, .int p1), (2, .int p2)] := hl
  have hJ26 : ∀ (v1 : Int32) (v2 : Int32) (t0 : Int32) (S : zMd), ∀ (H : Heap) (locs : List Loc) (ls : Array Slot), fX8_chain_j26 v1 v2 t0 S = some R → lv_has ls 5 [(0, .ref a0), (1, .int v1), (2, .int v2)] → zW K A s H locs (cMd K a0 a1 a2 a3 a4 a5 a6 a7 a8 a9 a10 a11 a12 a13 a14 a15 a16 a17 a18 a19 S) → W p l e ({ frames := 5, cells := 0, slots := 0, locals := 117 } : Room) s m ([.ref a0, .int p1, .int p2] : List Value).toArray below meth c H locs 0 0 Q (F0 m 26 ls [.int t0]) := by
    intro v1 v2 t0 S H locs ls hf hl hh
    unfold fX8_chain_j26 at hf
    refine lv_istore_n (lv' := [(3, .int t0), (0, .ref a0), (1, .int v1), (2, .int v2)]) hx hb dX8_chain_26 rfl hl (by decide) rfl (fun ls hl => ?_)
    refine lv_iload_n hx hb dX8_chain_27 rfl (lv_at hl 0 rfl) ?_
    refine lv_if_eq (tgt := 37) hx hb dX8_chain_28 (by decide) (fun c1 => ?_) (fun c1 => ?_)
    · replace hf := (if_pos c1).symm.trans hf
      refine lv_aload_n hx hb dX8_chain_37 rfl (lv_at hl 1 rfl) ?_
      refine lv_iload_n hx hb dX8_chain_38 rfl (lv_at hl 2 rfl) ?_
      refine lv_iload_n hx hb dX8_chain_39 rfl (lv_at hl 2 rfl) ?_
      obtain ⟨u2, hu2, hf⟩ := ob_bind hf
      refine zcallV (ci := 7) (q0 := 0) (As := [.int v1, .int v1]) (rest := []) (wr := []) (ws' := cMd K a0 a1 a2 a3 a4 a5 a6 a7 a8 a9 a10 a11 a12 a13 a14 a15 a16 a17 a18 a19 u2.2) (ov := some (.int u2.1)) X hh hl (kX8_shortest l K a0 a1 a2 a3 a4 a5 a6 a7 a8 a9 a10 a11 a12 a13 a14 a15 a16 a17 a18 a19 S v1 v1 u2 hu2) (fun ht => cwV 2 ht gX8_chain_X8_shortest rfl rfl rfl ⟨rfl, hdX8_shortest⟩ ⟨Nat.le_of_ble_eq_true rfl, Nat.le_of_ble_eq_true rfl⟩) [0, 1, 2, 3, 4, 5, 6, 7, 8, 9, 10, 11, 12, 13, 14, 15, 16, 17, 18, 19] [] [0, 1, 2, 3, 4, 5, 6, 7, 8, 9, 10, 11, 12, 13, 14, 15, 16, 17, 18, 19] rfl rfl rfl rfl (by decide) rfl rfl rfl rfl rfl rfl (Nat.le_of_ble_eq_true rfl) dX8_chain_40 ⟨Nat.zero_le _, Nat.zero_le _⟩ (fun H locs hh => ?_)
      refine lv_istore (lv' := [(4, .int u2.1), (3, .int t0), (0, .ref a0), (1, .int v1), (2, .int v2)]) hx hb dX8_chain_43 hl (by decide) rfl (fun ls hl => ?_)
      refine lv_iload_n hx hb dX8_chain_45 rfl (lv_at hl 4 rfl) ?_
      refine lv_iload hx hb dX8_chain_46 (lv_at hl 0 rfl) ?_
      refine lv_icmp_ge (tgt := 60) hx hb dX8_chain_48 (by decide) (fun c3 => ?_) (fun c3 => ?_)
      · replace hf := (if_pos c3).symm.trans hf
        refine lv_bipush (v := (-9 : Int32)) hx hb dX8_chain_60 (by decide) ?_
        exact hr2 62 ls H locs (-9 : Int32) u2.2 hf dX8_chain_62 hh
      · replace hf := (if_neg c3).symm.trans hf
        refine lv_aload_n hx hb dX8_chain_51 rfl (lv_at hl 2 rfl) ?_
        refine zget (v := .ref a15) (ref := "SumOfTwoThatStandModel") (C := RX8) (T := TX8) (N := 33) (index := 52) X hh inX8_chain_X8 0 rfl rfl 24 (by decide) mmX8_chain_0 rfl rfl dX8_chain_52 ?_
        refine lv_iload_n hx hb dX8_chain_55 rfl (lv_at hl 4 rfl) ?_
        obtain ⟨g4, hf⟩ := ob_ix hf
        refine ziald (f := (md_tried u2.2)) X hh 15 rfl g4 dX8_chain_56 ?_
        refine lv_goto (tgt := 62) hx hb dX8_chain_57 (by decide) ?_
        exact hr2 62 ls H locs ((md_tried u2.2) v2.toNatClampNeg) u2.2 hf dX8_chain_62 hh
    · replace hf := (if_neg c1).symm.trans hf
      refine lv_aload_n hx hb dX8_chain_31 rfl (lv_at hl 1 rfl) ?_
      refine lv_iload_n hx hb dX8_chain_32 rfl (lv_at hl 0 rfl) ?_
      obtain ⟨u5, hu5, hf⟩ := ob_bind hf
      refine zcallV (ci := 7) (q0 := 0) (As := [.int t0]) (rest := []) (wr := []) (ws' := cMd K a0 a1 a2 a3 a4 a5 a6 a7 a8 a9 a10 a11 a12 a13 a14 a15 a16 a17 a18 a19 u5.2) (ov := some (.int u5.1)) X hh hl (kX8_no l K a0 a1 a2 a3 a4 a5 a6 a7 a8 a9 a10 a11 a12 a13 a14 a15 a16 a17 a18 a19 S t0 u5 hu5) (fun ht => cwV 1 ht gX8_chain_X8_no rfl rfl rfl ⟨rfl, hdX8_no⟩ ⟨Nat.le_of_ble_eq_true rfl, Nat.le_of_ble_eq_true rfl⟩) [0, 1, 2, 3, 4, 5, 6, 7, 8, 9, 10, 11, 12, 13, 14, 15, 16, 17, 18, 19] [] [0, 1, 2, 3, 4, 5, 6, 7, 8, 9, 10, 11, 12, 13, 14, 15, 16, 17, 18, 19] rfl rfl rfl rfl (by decide) rfl rfl rfl rfl rfl rfl (Nat.le_of_ble_eq_true rfl) dX8_chain_33 ⟨Nat.zero_le _, Nat.zero_le _⟩ (fun H locs hh => ?_)
      exact hr2 36 ls H locs u5.1 u5.2 hf dX8_chain_36 hh
  have hJ9 : ∀ (v1 : Int32) (v2 : Int32) (S : zMd), ∀ (H : Heap) (locs : List Loc) (ls : Array Slot), fX8_chain_j9 v1 v2 S = some R → lv_has ls 5 [(0, .ref a0), (1, .int v1), (2, .int v2)] → zW K A s H locs (cMd K a0 a1 a2 a3 a4 a5 a6 a7 a8 a9 a10 a11 a12 a13 a14 a15 a16 a17 a18 a19 S) → W p l e ({ frames := 5, cells := 0, slots := 0, locals := 117 } : Room) s m ([.ref a0, .int p1, .int p2] : List Value).toArray below meth c H locs 0 0 Q (F0 m 9 ls []) := by
    intro v1 v2 S H locs ls hf hl hh
    unfold fX8_chain_j9 at hf
    refine lv_bipush (v := (-4 : Int32)) hx hb dX8_chain_9 (by decide) ?_
    refine lv_goto (tgt := 26) hx hb dX8_chain_11 (by decide) ?_
    exact hJ26 v1 v2 (-4 : Int32) S H locs ls hf (lv_sub hl [0, 1, 2] rfl) hh
  unfold fX8_chain at hf
  refine (fun (hmain : ∀ (H : Heap) (locs : List Loc), zW K A s H locs (cMd K a0 a1 a2 a3 a4 a5 a6 a7 a8 a9 a10 a11 a12 a13 a14 a15 a16 a17 a18 a19 S) → W p l e ({ frames := 5, cells := 0, slots := 0, locals := 117 } : Room) s m ([.ref a0, .int p1, .int p2] : List Value).toArray below meth c H locs 0 0 Q (F0 m 0 ls [])) => hmain s.heap [] hh) (fun H locs hh => ?_)
  refine lv_iload_n hx hb dX8_chain_0 rfl (lv_at hl 1 rfl) ?_
  refine lv_iconst (v := (1 : Int32)) hx hb dX8_chain_1 (by decide) ?_
  refine lv_icmp_lt (tgt := 9) hx hb dX8_chain_2 (by decide) (fun c6 => ?_) (fun c6 => ?_)
  · replace hf := (if_pos c6).symm.trans hf
    exact hJ9 p1 p2 S H locs ls hf (lv_sub hl [0, 1, 2] rfl) hh
  · replace hf := (if_neg c6).symm.trans hf
    refine lv_iload_n hx hb dX8_chain_5 rfl (lv_at hl 2 rfl) ?_
    refine lv_if_ge (tgt := 14) hx hb dX8_chain_6 (by decide) (fun c7 => ?_) (fun c7 => ?_)
    · replace hf := (if_pos c7).symm.trans hf
      refine lv_iload_n hx hb dX8_chain_14 rfl (lv_at hl 1 rfl) ?_
      refine lv_bipush (v := (100 : Int32)) hx hb dX8_chain_15 (by decide) ?_
      refine lv_icmp_le (tgt := 25) hx hb dX8_chain_17 (by decide) (fun c8 => ?_) (fun c8 => ?_)
      · replace hf := (if_pos c8).symm.trans hf
        refine lv_iconst (v := (0 : Int32)) hx hb dX8_chain_25 (by decide) ?_
        exact hJ26 p1 p2 (0 : Int32) S H locs ls hf (lv_sub hl [0, 1, 2] rfl) hh
      · replace hf := (if_neg c8).symm.trans hf
        refine lv_bipush (v := (-6 : Int32)) hx hb dX8_chain_20 (by decide) ?_
        refine lv_goto (tgt := 26) hx hb dX8_chain_22 (by decide) ?_
        exact hJ26 p1 p2 (-6 : Int32) S H locs ls hf (lv_sub hl [0, 1, 2] rfl) hh
    · replace hf := (if_neg c7).symm.trans hf
      exact hJ9 p1 p2 S H locs ls hf (lv_sub hl [0, 1, 2] rfl) hh
def fX8_factors_j59 (v1 : Int32) (v2 : Int32) (t1 : Int32) (t2 : Int32) (S : zMd) (k9 : (Int32) → (zMd) → Option (Int32 × zMd)) : Option (Int32 × zMd) :=
  ix 301 t1 (k9 (v2 + (1 : Int32)) (md_set_byFactors S (upd (md_byFactors S) t1.toNatClampNeg t2)))
def fX8_factors_l9 (v1 : Int32) : Nat → (Int32) → (zMd) → Option (Int32 × zMd)
  | 0, _, _ => none
  | n + 1, v2, S =>
  if v1 < v2 then
  (ix 301 v1 (some (((md_byFactors S) v1.toNatClampNeg), S)))
  else
  ((fX8_leastFactor v2).bind fun u4 =>
  if u4 = v2 then
  (ix 301 (v2 - (1 : Int32)) (fX8_factors_j59 v1 v2 v2 (((md_byFactors S) (v2 - (1 : Int32)).toNatClampNeg) + (1 : Int32)) S (fX8_factors_l9 v1 n)))
  else
  (ix 301 u4 (if u4 = 0 then none else ix 301 (v2 / u4) (fX8_factors_j59 v1 v2 v2 ((((md_byFactors S) u4.toNatClampNeg) + ((md_byFactors S) (v2 / u4).toNatClampNeg)) - (1 : Int32)) S (fX8_factors_l9 v1 n)))))
def fX8_factors (S : zMd) (p1 : Int32) : Option (Int32 × zMd) :=
  ix 301 (1 : Int32) (fX8_factors_l9 p1 FU (2 : Int32) (md_set_byFactors S (upd (md_byFactors S) (1 : Int32).toNatClampNeg (1 : Int32))))
theorem inX8_factors_X8 : ∀ w ∈ wsX80, w ∈ wsX8_factors := by decide +kernel
theorem mmX8_factors_0 : Cond.fieldLink RX8 55 "SumOfTwoThatStandModel" "byFactors" "[I" ∈ wsX8_factors := by decide +kernel
theorem hdX8_factors : yX8_factors.cls ≠ "java/lang/invoke/MethodHandle" ∧ yX8_factors.cls ≠ "java/lang/invoke/VarHandle" ∧ (parseMethodDescriptor yX8_factors.desc).map (fun d => d.parameters.length) = some 1 := by decide +kernel
set_option maxHeartbeats 4000000 in
set_option maxRecDepth 100000 in
theorem kX8_factors (l : Launch) (K : zK) (a0 a1 a2 a3 a4 a5 a6 a7 a8 a9 a10 a11 a12 a13 a14 a15 a16 a17 a18 a19 : Nat) (S : zMd) (p1 : Int32) (R : Int32 × zMd) (hf : fX8_factors S p1 = some R) : zC l yX8_factors wsX8_factors ({ frames := 1, cells := 0, slots := 0, locals := 21 } : Room) K [.ref a0, .int p1] (cMd K a0 a1 a2 a3 a4 a5 a6 a7 a8 a9 a10 a11 a12 a13 a14 a15 a16 a17 a18 a19 S) (some (.int R.1)) (cMd K a0 a1 a2 a3 a4 a5 a6 a7 a8 a9 a10 a11 a12 a13 a14 a15 a16 a17 a18 a19 R.2) := by
  refine zC_i R.1 (cc := cX8_factors) (maxL := 4) (by decide +kernel) rfl (Nat.le_of_ble_eq_true rfl) rfl rfl ?_
  intro p e s m below meth c Q A X hret ls hl hh
  have X : zX p m c cX8_factors 4 s ([.ref a0, .int p1] : List Value).toArray wsX8_factors RX8 K A := X
  have hx := X.1.1
  have hb := X.1.2.1
  have hr2 : ∀ (pc : Nat) (ls : Array Slot) (H : Heap) (locs : List Loc) (v : Int32) (S : zMd), some (v, S) = some R → decode cX8_factors pc = .ok (.ireturn, 1) → zW K A s H locs (cMd K a0 a1 a2 a3 a4 a5 a6 a7 a8 a9 a10 a11 a12 a13 a14 a15 a16 a17 a18 a19 S) → W p l e ({ frames := 1, cells := 0, slots := 0, locals := 21 } : Room) s m ([.ref a0, .int p1] : List Value).toArray below meth c H locs 0 0 Q (F0 m pc ls [.int v]) := by
    intro pc ls H locs v S h hd hh
    cases h; exact hret pc ls H locs _ rfl hd hh
  have hl : lv_has ls 4 [(0, .ref a0), (1, .int p1)] := hl
  have hJ59 : ∀ (v1 : Int32) (v2 : Int32) (t1 : Int32) (t2 : Int32) (S : zMd) (k9 : (Int32) → (zMd) → Option (Int32 × zMd)), (∀ (v2 : Int32) (S : zMd) (H : Heap) (locs : List Loc) (ls : Array Slot), k9 v2 S = some R → lv_has ls 4 [(0, .ref a0), (1, .int v1), (2, .int v2)] → zW K A s H locs (cMd K a0 a1 a2 a3 a4 a5 a6 a7 a8 a9 a10 a11 a12 a13 a14 a15 a16 a17 a18 a19 S) → W p l e ({ frames := 1, cells := 0, slots := 0, locals := 21 } : Room) s m ([.ref a0, .int p1] : List Value).toArray below meth c H locs 0 0 Q (F0 m 9 ls [])) → ∀ (H : Heap) (locs : List Loc) (ls : Array Slot), fX8_factors_j59 v1 v2 t1 t2 S k9 = some R → lv_has ls 4 [(0, .ref a0), (1, .int v1), (2, .int v2)] → zW K A s H locs (cMd K a0 a1 a2 a3 a4 a5 a6 a7 a8 a9 a10 a11 a12 a13 a14 a15 a16 a17 a18 a19 S) → W p l e ({ frames := 1, cells := 0, slots := 0, locals := 21 } : Room) s m ([.ref a0, .int p1] : List Value).toArray below meth c H locs 0 0 Q (F0 m 59 ls [.int t2, .int t1, .ref a16]) := by
    intro v1 v2 t1 t2 S k9 hk9 H locs ls hf hl hh
    unfold fX8_factors_j59 at hf
    obtain ⟨g1, hf⟩ := ob_ix hf
    refine ziast (f := (md_byFactors S)) X hh 16 rfl g1 dX8_factors_59 (fun H locs hh => ?_)
    have hh : zW K A s H locs (cMd K a0 a1 a2 a3 a4 a5 a6 a7 a8 a9 a10 a11 a12 a13 a14 a15 a16 a17 a18 a19 (md_set_byFactors S (upd (md_byFactors S) t1.toNatClampNeg t2))) := hh
    refine lv_iinc (v := (v2 + (1 : Int32))) (lv' := [(2, .int (v2 + (1 : Int32))), (0, .ref a0), (1, .int v1)]) hx hb dX8_factors_60 hl (k := 2) rfl rfl (by decide) rfl (fun ls hl => ?_)
    refine lv_goto (tgt := 9) hx hb dX8_factors_63 (by decide) ?_
    exact hk9 (v2 + (1 : Int32)) (md_set_byFactors S (upd (md_byFactors S) t1.toNatClampNeg t2)) H locs ls hf (lv_sub hl [1, 2, 0] rfl) hh
  have hL9 : ∀ (v1 : Int32), ∀ (n : Nat) (v2 : Int32) (S : zMd), ∀ (H : Heap) (locs : List Loc) (ls : Array Slot), fX8_factors_l9 v1 n v2 S = some R → lv_has ls 4 [(0, .ref a0), (1, .int v1), (2, .int v2)] → zW K A s H locs (cMd K a0 a1 a2 a3 a4 a5 a6 a7 a8 a9 a10 a11 a12 a13 a14 a15 a16 a17 a18 a19 S) → W p l e ({ frames := 1, cells := 0, slots := 0, locals := 21 } : Room) s m ([.ref a0, .int p1] : List Value).toArray below meth c H locs 0 0 Q (F0 m 9 ls []) := by
    intro v1 n
    induction n with
    | zero =>
      intro v2 S H locs ls hf hl hh
      rw [fX8_factors_l9] at hf; cases hf
    | succ n ih =>
      intro v2 S H locs ls hf hl hh
      rw [fX8_factors_l9] at hf
      refine lv_iload_n hx hb dX8_factors_9 rfl (lv_at hl 2 rfl) ?_
      refine lv_iload_n hx hb dX8_factors_10 rfl (lv_at hl 1 rfl) ?_
      refine lv_icmp_gt (tgt := 66) hx hb dX8_factors_11 (by decide) (fun c2 => ?_) (fun c2 => ?_)
      · replace hf := (if_pos c2).symm.trans hf
        refine lv_aload_n hx hb dX8_factors_66 rfl (lv_at hl 0 rfl) ?_
        refine zget (v := .ref a16) (ref := "SumOfTwoThatStandModel") (C := RX8) (T := TX8) (N := 33) (index := 55) X hh inX8_factors_X8 0 rfl rfl 27 (by decide) mmX8_factors_0 rfl rfl dX8_factors_67 ?_
        refine lv_iload_n hx hb dX8_factors_70 rfl (lv_at hl 1 rfl) ?_
        obtain ⟨g3, hf⟩ := ob_ix hf
        refine ziald (f := (md_byFactors S)) X hh 16 rfl g3 dX8_factors_71 ?_
        exact hr2 72 ls H locs ((md_byFactors S) v1.toNatClampNeg) S hf dX8_factors_72 hh
      · replace hf := (if_neg c2).symm.trans hf
        refine lv_iload_n hx hb dX8_factors_14 rfl (lv_at hl 2 rfl) ?_
        obtain ⟨u4, hu4, hf⟩ := ob_bind hf
        refine zcallS (As := [.int v2]) (rest := []) (wr := cMd K a0 a1 a2 a3 a4 a5 a6 a7 a8 a9 a10 a11 a12 a13 a14 a15 a16 a17 a18 a19 S) (ws' := cMd K a0 a1 a2 a3 a4 a5 a6 a7 a8 a9 a10 a11 a12 a13 a14 a15 a16 a17 a18 a19 S) (ov := some (.int u4)) X hh hl (kX8_leastFactor l K v2 u4 hu4) (fun ht => va_cwS 1 ht gX8_factors_X8_leastFactor rfl rfl rfl hdX8_leastFactor ⟨Nat.le_of_ble_eq_true rfl, Nat.le_of_ble_eq_true rfl⟩) [] [0, 1, 2, 3, 4, 5, 6, 7, 8, 9, 10, 11, 12, 13, 14, 15, 16, 17, 18, 19] [0, 1, 2, 3, 4, 5, 6, 7, 8, 9, 10, 11, 12, 13, 14, 15, 16, 17, 18, 19] rfl rfl rfl rfl (by decide) rfl rfl rfl rfl (Nat.le_of_ble_eq_true rfl) dX8_factors_15 ⟨Nat.zero_le _, Nat.zero_le _⟩ (fun H locs hh => ?_)
        refine lv_istore_n (lv' := [(3, .int u4), (0, .ref a0), (1, .int v1), (2, .int v2)]) hx hb dX8_factors_18 rfl hl (by decide) rfl (fun ls hl => ?_)
        refine lv_aload_n hx hb dX8_factors_19 rfl (lv_at hl 1 rfl) ?_
        refine zget (v := .ref a16) (ref := "SumOfTwoThatStandModel") (C := RX8) (T := TX8) (N := 33) (index := 55) X hh inX8_factors_X8 0 rfl rfl 27 (by decide) mmX8_factors_0 rfl rfl dX8_factors_20 ?_
        refine lv_iload_n hx hb dX8_factors_23 rfl (lv_at hl 3 rfl) ?_
        refine lv_iload_n hx hb dX8_factors_24 rfl (lv_at hl 0 rfl) ?_
        refine lv_iload_n hx hb dX8_factors_25 rfl (lv_at hl 3 rfl) ?_
        refine lv_icmp_ne (tgt := 42) hx hb dX8_factors_26 (by decide) (fun c5 => ?_) (fun c5 => ?_)
        · replace hf := (if_neg c5).symm.trans hf
          refine lv_aload_n hx hb dX8_factors_42 rfl (lv_at hl 1 rfl) ?_
          refine zget (v := .ref a16) (ref := "SumOfTwoThatStandModel") (C := RX8) (T := TX8) (N := 33) (index := 55) X hh inX8_factors_X8 0 rfl rfl 27 (by decide) mmX8_factors_0 rfl rfl dX8_factors_43 ?_
          refine lv_iload_n hx hb dX8_factors_46 rfl (lv_at hl 0 rfl) ?_
          obtain ⟨g6, hf⟩ := ob_ix hf
          refine ziald (f := (md_byFactors S)) X hh 16 rfl g6 dX8_factors_47 ?_
          refine lv_aload_n hx hb dX8_factors_48 rfl (lv_at hl 1 rfl) ?_
          refine zget (v := .ref a16) (ref := "SumOfTwoThatStandModel") (C := RX8) (T := TX8) (N := 33) (index := 55) X hh inX8_factors_X8 0 rfl rfl 27 (by decide) mmX8_factors_0 rfl rfl dX8_factors_49 ?_
          refine lv_iload_n hx hb dX8_factors_52 rfl (lv_at hl 3 rfl) ?_
          refine lv_iload_n hx hb dX8_factors_53 rfl (lv_at hl 0 rfl) ?_
          obtain ⟨g7, hf⟩ := ob_gd hf
          refine lv_idiv hx hb dX8_factors_54 g7 ?_
          obtain ⟨g8, hf⟩ := ob_ix hf
          refine ziald (f := (md_byFactors S)) X hh 16 rfl g8 dX8_factors_55 ?_
          refine lv_iadd hx hb dX8_factors_56 ?_
          refine lv_iconst (v := (1 : Int32)) hx hb dX8_factors_57 (by decide) ?_
          refine lv_isub hx hb dX8_factors_58 ?_
          exact hJ59 v1 v2 v2 ((((md_byFactors S) u4.toNatClampNeg) + ((md_byFactors S) (v2 / u4).toNatClampNeg)) - (1 : Int32)) S (fX8_factors_l9 v1 n) (ih) H locs ls hf (lv_sub hl [1, 2, 3] rfl) hh
        · replace hf := (if_pos c5).symm.trans hf
          refine lv_aload_n hx hb dX8_factors_29 rfl (lv_at hl 1 rfl) ?_
          refine zget (v := .ref a16) (ref := "SumOfTwoThatStandModel") (C := RX8) (T := TX8) (N := 33) (index := 55) X hh inX8_factors_X8 0 rfl rfl 27 (by decide) mmX8_factors_0 rfl rfl dX8_factors_30 ?_
          refine lv_iload_n hx hb dX8_factors_33 rfl (lv_at hl 3 rfl) ?_
          refine lv_iconst (v := (1 : Int32)) hx hb dX8_factors_34 (by decide) ?_
          refine lv_isub hx hb dX8_factors_35 ?_
          obtain ⟨g9, hf⟩ := ob_ix hf
          refine ziald (f := (md_byFactors S)) X hh 16 rfl g9 dX8_factors_36 ?_
          refine lv_iconst (v := (1 : Int32)) hx hb dX8_factors_37 (by decide) ?_
          refine lv_iadd hx hb dX8_factors_38 ?_
          refine lv_goto (tgt := 59) hx hb dX8_factors_39 (by decide) ?_
          exact hJ59 v1 v2 v2 (((md_byFactors S) (v2 - (1 : Int32)).toNatClampNeg) + (1 : Int32)) S (fX8_factors_l9 v1 n) (ih) H locs ls hf (lv_sub hl [1, 2, 3] rfl) hh
  unfold fX8_factors at hf
  refine (fun (hmain : ∀ (H : Heap) (locs : List Loc), zW K A s H locs (cMd K a0 a1 a2 a3 a4 a5 a6 a7 a8 a9 a10 a11 a12 a13 a14 a15 a16 a17 a18 a19 S) → W p l e ({ frames := 1, cells := 0, slots := 0, locals := 21 } : Room) s m ([.ref a0, .int p1] : List Value).toArray below meth c H locs 0 0 Q (F0 m 0 ls [])) => hmain s.heap [] hh) (fun H locs hh => ?_)
  refine lv_aload_n hx hb dX8_factors_0 rfl (lv_at hl 0 rfl) ?_
  refine zget (v := .ref a16) (ref := "SumOfTwoThatStandModel") (C := RX8) (T := TX8) (N := 33) (index := 55) X hh inX8_factors_X8 0 rfl rfl 27 (by decide) mmX8_factors_0 rfl rfl dX8_factors_1 ?_
  refine lv_iconst (v := (1 : Int32)) hx hb dX8_factors_4 (by decide) ?_
  refine lv_iconst (v := (1 : Int32)) hx hb dX8_factors_5 (by decide) ?_
  obtain ⟨g10, hf⟩ := ob_ix hf
  refine ziast (f := (md_byFactors S)) X hh 16 rfl g10 dX8_factors_6 (fun H locs hh => ?_)
  have hh : zW K A s H locs (cMd K a0 a1 a2 a3 a4 a5 a6 a7 a8 a9 a10 a11 a12 a13 a14 a15 a16 a17 a18 a19 (md_set_byFactors S (upd (md_byFactors S) (1 : Int32).toNatClampNeg (1 : Int32)))) := hh
  refine lv_iconst (v := (2 : Int32)) hx hb dX8_factors_7 (by decide) ?_
  refine lv_istore_n (lv' := [(2, .int (2 : Int32)), (0, .ref a0), (1, .int p1)]) hx hb dX8_factors_8 rfl hl (by decide) rfl (fun ls hl => ?_)
  exact hL9 p1 FU (2 : Int32) (md_set_byFactors S (upd (md_byFactors S) (1 : Int32).toNatClampNeg (1 : Int32))) H locs ls hf (lv_sub hl [1, 2, 0] rfl) hh
def fX8_way_j22 (v1 : Int32) (v2 : Int32) (t0 : Int32) (S : zMd) : Option (Int32 × zMd) :=
  if t0 = (0 : Int32) then
  (if v2 = (0 : Int32) then
  ((fX8_halves v1).bind fun u4 =>
  some (u4, S))
  else
  ((fX8_factors S v1).bind fun u3 =>
  some (u3.1, u3.2)))
  else
  ((fX8_no S t0).bind fun u5 =>
  some (u5.1, u5.2))
def fX8_way (S : zMd) (p1 : Int32) (p2 : Int32) : Option (Int32 × zMd) :=
  if (fX8_isIn p2 (0 : Int32) (1 : Int32)) = (0 : Int32) then
  (fX8_way_j22 p1 p2 (-2 : Int32) S)
  else
  (fX8_way_j22 p1 p2 (fX8_bound p1 (1 : Int32) (300 : Int32)) S)
theorem hdX8_way : yX8_way.cls ≠ "java/lang/invoke/MethodHandle" ∧ yX8_way.cls ≠ "java/lang/invoke/VarHandle" ∧ (parseMethodDescriptor yX8_way.desc).map (fun d => d.parameters.length) = some 2 := by decide +kernel
set_option maxHeartbeats 4000000 in
set_option maxRecDepth 100000 in
theorem kX8_way (l : Launch) (K : zK) (a0 a1 a2 a3 a4 a5 a6 a7 a8 a9 a10 a11 a12 a13 a14 a15 a16 a17 a18 a19 : Nat) (S : zMd) (p1 : Int32) (p2 : Int32) (R : Int32 × zMd) (hf : fX8_way S p1 p2 = some R) : zC l yX8_way wsX8_way ({ frames := 2, cells := 0, slots := 0, locals := 44 } : Room) K [.ref a0, .int p1, .int p2] (cMd K a0 a1 a2 a3 a4 a5 a6 a7 a8 a9 a10 a11 a12 a13 a14 a15 a16 a17 a18 a19 S) (some (.int R.1)) (cMd K a0 a1 a2 a3 a4 a5 a6 a7 a8 a9 a10 a11 a12 a13 a14 a15 a16 a17 a18 a19 R.2) := by
  refine zC_i R.1 (cc := cX8_way) (maxL := 4) (by decide +kernel) rfl (Nat.le_of_ble_eq_true rfl) rfl rfl ?_
  intro p e s m below meth c Q A X hret ls hl hh
  have X : zX p m c cX8_way 4 s ([.ref a0, .int p1, .int p2] : List Value).toArray wsX8_way RX8 K A := X
  have hx := X.1.1
  have hb := X.1.2.1
  have hr2 : ∀ (pc : Nat) (ls : Array Slot) (H : Heap) (locs : List Loc) (v : Int32) (S : zMd), some (v, S) = some R → decode cX8_way pc = .ok (.ireturn, 1) → zW K A s H locs (cMd K a0 a1 a2 a3 a4 a5 a6 a7 a8 a9 a10 a11 a12 a13 a14 a15 a16 a17 a18 a19 S) → W p l e ({ frames := 2, cells := 0, slots := 0, locals := 44 } : Room) s m ([.ref a0, .int p1, .int p2] : List Value).toArray below meth c H locs 0 0 Q (F0 m pc ls [.int v]) := by
    intro pc ls H locs v S h hd hh
    cases h; exact hret pc ls H locs _ rfl hd hh
  have hl : lv_has ls 4 [(0, .ref a0), (1, .int p1), (2, .int p2)] := hl
  have hJ22 : ∀ (v1 : Int32) (v2 : Int32) (t0 : Int32) (S : zMd), ∀ (H : Heap) (locs : List Loc) (ls : Array Slot), fX8_way_j22 v1 v2 t0 S = some R → lv_has ls 4 [(0, .ref a0), (1, .int v1), (2, .int v2)] → zW K A s H locs (cMd K a0 a1 a2 a3 a4 a5 a6 a7 a8 a9 a10 a11 a12 a13 a14 a15 a16 a17 a18 a19 S) → W p l e ({ frames := 2, cells := 0, slots := 0, locals := 44 } : Room) s m ([.ref a0, .int p1, .int p2] : List Value).toArray below meth c H locs 0 0 Q (F0 m 22 ls [.int t0]) := by
    intro v1 v2 t0 S H locs ls hf hl hh
    unfold fX8_way_j22 at hf
    refine lv_istore_n (lv' := [(3, .int t0), (0, .ref a0), (1, .int v1), (2, .int v2)]) hx hb dX8_way_22 rfl hl (by decide) rfl (fun ls hl => ?_)
    refine lv_iload_n hx hb dX8_way_23 rfl (lv_at hl 0 rfl) ?_
    refine lv_if_eq (tgt := 35) hx hb dX8_way_24 (by decide) (fun c1 => ?_) (fun c1 => ?_)
    · replace hf := (if_pos c1).symm.trans hf
      refine lv_iload_n hx hb dX8_way_35 rfl (lv_at hl 3 rfl) ?_
      refine lv_if_ne (tgt := 46) hx hb dX8_way_36 (by decide) (fun c2 => ?_) (fun c2 => ?_)
      · replace hf := (if_neg c2).symm.trans hf
        refine lv_aload_n hx hb dX8_way_46 rfl (lv_at hl 1 rfl) ?_
        refine lv_iload_n hx hb dX8_way_47 rfl (lv_at hl 2 rfl) ?_
        obtain ⟨u3, hu3, hf⟩ := ob_bind hf
        refine zcallV (ci := 7) (q0 := 0) (As := [.int v1]) (rest := []) (wr := []) (ws' := cMd K a0 a1 a2 a3 a4 a5 a6 a7 a8 a9 a10 a11 a12 a13 a14 a15 a16 a17 a18 a19 u3.2) (ov := some (.int u3.1)) X hh hl (kX8_factors l K a0 a1 a2 a3 a4 a5 a6 a7 a8 a9 a10 a11 a12 a13 a14 a15 a16 a17 a18 a19 S v1 u3 hu3) (fun ht => cwV 1 ht gX8_way_X8_factors rfl rfl rfl ⟨rfl, hdX8_factors⟩ ⟨Nat.le_of_ble_eq_true rfl, Nat.le_of_ble_eq_true rfl⟩) [0, 1, 2, 3, 4, 5, 6, 7, 8, 9, 10, 11, 12, 13, 14, 15, 16, 17, 18, 19] [] [0, 1, 2, 3, 4, 5, 6, 7, 8, 9, 10, 11, 12, 13, 14, 15, 16, 17, 18, 19] rfl rfl rfl rfl (by decide) rfl rfl rfl rfl rfl rfl (Nat.le_of_ble_eq_true rfl) dX8_way_48 ⟨Nat.zero_le _, Nat.zero_le _⟩ (fun H locs hh => ?_)
        exact hr2 51 ls H locs u3.1 u3.2 hf dX8_way_51 hh
      · replace hf := (if_pos c2).symm.trans hf
        refine lv_iload_n hx hb dX8_way_39 rfl (lv_at hl 2 rfl) ?_
        obtain ⟨u4, hu4, hf⟩ := ob_bind hf
        refine zcallS (As := [.int v1]) (rest := []) (wr := cMd K a0 a1 a2 a3 a4 a5 a6 a7 a8 a9 a10 a11 a12 a13 a14 a15 a16 a17 a18 a19 S) (ws' := cMd K a0 a1 a2 a3 a4 a5 a6 a7 a8 a9 a10 a11 a12 a13 a14 a15 a16 a17 a18 a19 S) (ov := some (.int u4)) X hh hl (kX8_halves l K v1 u4 hu4) (fun ht => va_cwS 1 ht gX8_way_X8_halves rfl rfl rfl hdX8_halves ⟨Nat.le_of_ble_eq_true rfl, Nat.le_of_ble_eq_true rfl⟩) [] [0, 1, 2, 3, 4, 5, 6, 7, 8, 9, 10, 11, 12, 13, 14, 15, 16, 17, 18, 19] [0, 1, 2, 3, 4, 5, 6, 7, 8, 9, 10, 11, 12, 13, 14, 15, 16, 17, 18, 19] rfl rfl rfl rfl (by decide) rfl rfl rfl rfl (Nat.le_of_ble_eq_true rfl) dX8_way_40 ⟨Nat.zero_le _, Nat.zero_le _⟩ (fun H locs hh => ?_)
        refine lv_goto (tgt := 51) hx hb dX8_way_43 (by decide) ?_
        exact hr2 51 ls H locs u4 S hf dX8_way_51 hh
    · replace hf := (if_neg c1).symm.trans hf
      refine lv_aload_n hx hb dX8_way_27 rfl (lv_at hl 1 rfl) ?_
      refine lv_iload_n hx hb dX8_way_28 rfl (lv_at hl 0 rfl) ?_
      obtain ⟨u5, hu5, hf⟩ := ob_bind hf
      refine zcallV (ci := 7) (q0 := 0) (As := [.int t0]) (rest := []) (wr := []) (ws' := cMd K a0 a1 a2 a3 a4 a5 a6 a7 a8 a9 a10 a11 a12 a13 a14 a15 a16 a17 a18 a19 u5.2) (ov := some (.int u5.1)) X hh hl (kX8_no l K a0 a1 a2 a3 a4 a5 a6 a7 a8 a9 a10 a11 a12 a13 a14 a15 a16 a17 a18 a19 S t0 u5 hu5) (fun ht => cwV 1 ht gX8_way_X8_no rfl rfl rfl ⟨rfl, hdX8_no⟩ ⟨Nat.le_of_ble_eq_true rfl, Nat.le_of_ble_eq_true rfl⟩) [0, 1, 2, 3, 4, 5, 6, 7, 8, 9, 10, 11, 12, 13, 14, 15, 16, 17, 18, 19] [] [0, 1, 2, 3, 4, 5, 6, 7, 8, 9, 10, 11, 12, 13, 14, 15, 16, 17, 18, 19] rfl rfl rfl rfl (by decide) rfl rfl rfl rfl rfl rfl (Nat.le_of_ble_eq_true rfl) dX8_way_29 ⟨Nat.zero_le _, Nat.zero_le _⟩ (fun H locs hh => ?_)
      refine lv_goto (tgt := 51) hx hb dX8_way_32 (by decide) ?_
      exact hr2 51 ls H locs u5.1 u5.2 hf dX8_way_51 hh
  unfold fX8_way at hf
  refine (fun (hmain : ∀ (H : Heap) (locs : List Loc), zW K A s H locs (cMd K a0 a1 a2 a3 a4 a5 a6 a7 a8 a9 a10 a11 a12 a13 a14 a15 a16 a17 a18 a19 S) → W p l e ({ frames := 2, cells := 0, slots := 0, locals := 44 } : Room) s m ([.ref a0, .int p1, .int p2] : List Value).toArray below meth c H locs 0 0 Q (F0 m 0 ls [])) => hmain s.heap [] hh) (fun H locs hh => ?_)
  refine lv_iload_n hx hb dX8_way_0 rfl (lv_at hl 2 rfl) ?_
  refine lv_iconst (v := (0 : Int32)) hx hb dX8_way_1 (by decide) ?_
  refine lv_iconst (v := (1 : Int32)) hx hb dX8_way_2 (by decide) ?_
  refine zcallS (As := [.int p2, .int (0 : Int32), .int (1 : Int32)]) (rest := []) (wr := cMd K a0 a1 a2 a3 a4 a5 a6 a7 a8 a9 a10 a11 a12 a13 a14 a15 a16 a17 a18 a19 S) (ws' := cMd K a0 a1 a2 a3 a4 a5 a6 a7 a8 a9 a10 a11 a12 a13 a14 a15 a16 a17 a18 a19 S) (ov := some (.int (fX8_isIn p2 (0 : Int32) (1 : Int32)))) X hh hl (kX8_isIn l K p2 (0 : Int32) (1 : Int32) (fX8_isIn p2 (0 : Int32) (1 : Int32)) rfl) (fun ht => va_cwS 3 ht gX8_way_X8_isIn rfl rfl rfl hdX8_isIn ⟨Nat.le_of_ble_eq_true rfl, Nat.le_of_ble_eq_true rfl⟩) [] [0, 1, 2, 3, 4, 5, 6, 7, 8, 9, 10, 11, 12, 13, 14, 15, 16, 17, 18, 19] [0, 1, 2, 3, 4, 5, 6, 7, 8, 9, 10, 11, 12, 13, 14, 15, 16, 17, 18, 19] rfl rfl rfl rfl (by decide) rfl rfl rfl rfl (Nat.le_of_ble_eq_true rfl) dX8_way_3 ⟨Nat.zero_le _, Nat.zero_le _⟩ (fun H locs hh => ?_)
  refine lv_if_ne (tgt := 14) hx hb dX8_way_6 (by decide) (fun c7 => ?_) (fun c7 => ?_)
  · replace hf := (if_neg c7).symm.trans hf
    refine lv_iload_n hx hb dX8_way_14 rfl (lv_at hl 1 rfl) ?_
    refine lv_iconst (v := (1 : Int32)) hx hb dX8_way_15 (by decide) ?_
    refine lv_sipush (v := (300 : Int32)) hx hb dX8_way_16 (by decide) ?_
    refine zcallS (As := [.int p1, .int (1 : Int32), .int (300 : Int32)]) (rest := []) (wr := cMd K a0 a1 a2 a3 a4 a5 a6 a7 a8 a9 a10 a11 a12 a13 a14 a15 a16 a17 a18 a19 S) (ws' := cMd K a0 a1 a2 a3 a4 a5 a6 a7 a8 a9 a10 a11 a12 a13 a14 a15 a16 a17 a18 a19 S) (ov := some (.int (fX8_bound p1 (1 : Int32) (300 : Int32)))) X hh hl (kX8_bound l K p1 (1 : Int32) (300 : Int32) (fX8_bound p1 (1 : Int32) (300 : Int32)) rfl) (fun ht => va_cwS 3 ht gX8_way_X8_bound rfl rfl rfl hdX8_bound ⟨Nat.le_of_ble_eq_true rfl, Nat.le_of_ble_eq_true rfl⟩) [] [0, 1, 2, 3, 4, 5, 6, 7, 8, 9, 10, 11, 12, 13, 14, 15, 16, 17, 18, 19] [0, 1, 2, 3, 4, 5, 6, 7, 8, 9, 10, 11, 12, 13, 14, 15, 16, 17, 18, 19] rfl rfl rfl rfl (by decide) rfl rfl rfl rfl (Nat.le_of_ble_eq_true rfl) dX8_way_19 ⟨Nat.zero_le _, Nat.zero_le _⟩ (fun H locs hh => ?_)
    exact hJ22 p1 p2 (fX8_bound p1 (1 : Int32) (300 : Int32)) S H locs ls hf (lv_sub hl [0, 1, 2] rfl) hh
  · replace hf := (if_pos c7).symm.trans hf
    refine lv_bipush (v := (-2 : Int32)) hx hb dX8_way_9 (by decide) ?_
    refine lv_goto (tgt := 22) hx hb dX8_way_11 (by decide) ?_
    exact hJ22 p1 p2 (-2 : Int32) S H locs ls hf (lv_sub hl [0, 1, 2] rfl) hh
def fX8_both_j33 (v1 : Int32) (v2 : Int32) (t0 : Int32) (S : zMd) : Option (Int32 × zMd) :=
  if t0 = (0 : Int32) then
  (if v2 ≤ v1 then
  ((fX8_shortest S v2 v1).bind fun u3 =>
  some (u3.1, u3.2))
  else
  ((fX8_shortest S v1 v2).bind fun u4 =>
  some (u4.1, u4.2)))
  else
  ((fX8_no S t0).bind fun u5 =>
  some (u5.1, u5.2))
def fX8_both_j27 (v1 : Int32) (v2 : Int32) (S : zMd) : Option (Int32 × zMd) :=
  fX8_both_j33 v1 v2 (-6 : Int32) S
def fX8_both_j10 (v1 : Int32) (v2 : Int32) (S : zMd) : Option (Int32 × zMd) :=
  fX8_both_j33 v1 v2 (-4 : Int32) S
def fX8_both (S : zMd) (p1 : Int32) (p2 : Int32) : Option (Int32 × zMd) :=
  if p1 < (1 : Int32) then
  (fX8_both_j10 p1 p2 S)
  else
  (if (1 : Int32) ≤ p2 then
  (if (30 : Int32) < p1 then
  (fX8_both_j27 p1 p2 S)
  else
  (if p2 ≤ (30 : Int32) then
  (fX8_both_j33 p1 p2 (0 : Int32) S)
  else
  (fX8_both_j27 p1 p2 S)))
  else
  (fX8_both_j10 p1 p2 S))
theorem hdX8_both : yX8_both.cls ≠ "java/lang/invoke/MethodHandle" ∧ yX8_both.cls ≠ "java/lang/invoke/VarHandle" ∧ (parseMethodDescriptor yX8_both.desc).map (fun d => d.parameters.length) = some 2 := by decide +kernel
set_option maxHeartbeats 4000000 in
set_option maxRecDepth 100000 in
theorem kX8_both (l : Launch) (K : zK) (a0 a1 a2 a3 a4 a5 a6 a7 a8 a9 a10 a11 a12 a13 a14 a15 a16 a17 a18 a19 : Nat) (S : zMd) (p1 : Int32) (p2 : Int32) (R : Int32 × zMd) (hf : fX8_both S p1 p2 = some R) : zC l yX8_both wsX8_both ({ frames := 5, cells := 0, slots := 0, locals := 117 } : Room) K [.ref a0, .int p1, .int p2] (cMd K a0 a1 a2 a3 a4 a5 a6 a7 a8 a9 a10 a11 a12 a13 a14 a15 a16 a17 a18 a19 S) (some (.int R.1)) (cMd K a0 a1 a2 a3 a4 a5 a6 a7 a8 a9 a10 a11 a12 a13 a14 a15 a16 a17 a18 a19 R.2) := by
  refine zC_i R.1 (cc := cX8_both) (maxL := 4) (by decide +kernel) rfl (Nat.le_of_ble_eq_true rfl) rfl rfl ?_
  intro p e s m below meth c Q A X hret ls hl hh
  have X : zX p m c cX8_both 4 s ([.ref a0, .int p1, .int p2] : List Value).toArray wsX8_both RX8 K A := X
  have hx := X.1.1
  have hb := X.1.2.1
  have hr2 : ∀ (pc : Nat) (ls : Array Slot) (H : Heap) (locs : List Loc) (v : Int32) (S : zMd), some (v, S) = some R → decode cX8_both pc = .ok (.ireturn, 1) → zW K A s H locs (cMd K a0 a1 a2 a3 a4 a5 a6 a7 a8 a9 a10 a11 a12 a13 a14 a15 a16 a17 a18 a19 S) → W p l e ({ frames := 5, cells := 0, slots := 0, locals := 117 } : Room) s m ([.ref a0, .int p1, .int p2] : List Value).toArray below meth c H locs 0 0 Q (F0 m pc ls [.int v]) := by
    intro pc ls H locs v S h hd hh
    cases h; exact hret pc ls H locs _ rfl hd hh
  have hl : lv_has ls 4 [(0, .ref a0), (1, .int p1), (2, .int p2)] := hl
  have hJ33 : ∀ (v1 : Int32) (v2 : Int32) (t0 : Int32) (S : zMd), ∀ (H : Heap) (locs : List Loc) (ls : Array Slot), fX8_both_j33 v1 v2 t0 S = some R → lv_has ls 4 [(0, .ref a0), (1, .int v1), (2, .int v2)] → zW K A s H locs (cMd K a0 a1 a2 a3 a4 a5 a6 a7 a8 a9 a10 a11 a12 a13 a14 a15 a16 a17 a18 a19 S) → W p l e ({ frames := 5, cells := 0, slots := 0, locals := 117 } : Room) s m ([.ref a0, .int p1, .int p2] : List Value).toArray below meth c H locs 0 0 Q (F0 m 33 ls [.int t0]) := by
    intro v1 v2 t0 S H locs ls hf hl hh
    unfold fX8_both_j33 at hf
    refine lv_istore_n (lv' := [(3, .int t0), (0, .ref a0), (1, .int v1), (2, .int v2)]) hx hb dX8_both_33 rfl hl (by decide) rfl (fun ls hl => ?_)
    refine lv_iload_n hx hb dX8_both_34 rfl (lv_at hl 0 rfl) ?_
    refine lv_if_eq (tgt := 46) hx hb dX8_both_35 (by decide) (fun c1 => ?_) (fun c1 => ?_)
    · replace hf := (if_pos c1).symm.trans hf
      refine lv_iload_n hx hb dX8_both_46 rfl (lv_at hl 2 rfl) ?_
      refine lv_iload_n hx hb dX8_both_47 rfl (lv_at hl 3 rfl) ?_
      refine lv_icmp_ge (tgt := 60) hx hb dX8_both_48 (by decide) (fun c2 => ?_) (fun c2 => ?_)
      · replace hf := (if_pos c2).symm.trans hf
        refine lv_aload_n hx hb dX8_both_60 rfl (lv_at hl 1 rfl) ?_
        refine lv_iload_n hx hb dX8_both_61 rfl (lv_at hl 3 rfl) ?_
        refine lv_iload_n hx hb dX8_both_62 rfl (lv_at hl 2 rfl) ?_
        obtain ⟨u3, hu3, hf⟩ := ob_bind hf
        refine zcallV (ci := 7) (q0 := 0) (As := [.int v2, .int v1]) (rest := []) (wr := []) (ws' := cMd K a0 a1 a2 a3 a4 a5 a6 a7 a8 a9 a10 a11 a12 a13 a14 a15 a16 a17 a18 a19 u3.2) (ov := some (.int u3.1)) X hh hl (kX8_shortest l K a0 a1 a2 a3 a4 a5 a6 a7 a8 a9 a10 a11 a12 a13 a14 a15 a16 a17 a18 a19 S v2 v1 u3 hu3) (fun ht => cwV 2 ht gX8_both_X8_shortest rfl rfl rfl ⟨rfl, hdX8_shortest⟩ ⟨Nat.le_of_ble_eq_true rfl, Nat.le_of_ble_eq_true rfl⟩) [0, 1, 2, 3, 4, 5, 6, 7, 8, 9, 10, 11, 12, 13, 14, 15, 16, 17, 18, 19] [] [0, 1, 2, 3, 4, 5, 6, 7, 8, 9, 10, 11, 12, 13, 14, 15, 16, 17, 18, 19] rfl rfl rfl rfl (by decide) rfl rfl rfl rfl rfl rfl (Nat.le_of_ble_eq_true rfl) dX8_both_63 ⟨Nat.zero_le _, Nat.zero_le _⟩ (fun H locs hh => ?_)
        exact hr2 66 ls H locs u3.1 u3.2 hf dX8_both_66 hh
      · replace hf := (if_neg c2).symm.trans hf
        refine lv_aload_n hx hb dX8_both_51 rfl (lv_at hl 1 rfl) ?_
        refine lv_iload_n hx hb dX8_both_52 rfl (lv_at hl 2 rfl) ?_
        refine lv_iload_n hx hb dX8_both_53 rfl (lv_at hl 3 rfl) ?_
        obtain ⟨u4, hu4, hf⟩ := ob_bind hf
        refine zcallV (ci := 7) (q0 := 0) (As := [.int v1, .int v2]) (rest := []) (wr := []) (ws' := cMd K a0 a1 a2 a3 a4 a5 a6 a7 a8 a9 a10 a11 a12 a13 a14 a15 a16 a17 a18 a19 u4.2) (ov := some (.int u4.1)) X hh hl (kX8_shortest l K a0 a1 a2 a3 a4 a5 a6 a7 a8 a9 a10 a11 a12 a13 a14 a15 a16 a17 a18 a19 S v1 v2 u4 hu4) (fun ht => cwV 2 ht gX8_both_X8_shortest rfl rfl rfl ⟨rfl, hdX8_shortest⟩ ⟨Nat.le_of_ble_eq_true rfl, Nat.le_of_ble_eq_true rfl⟩) [0, 1, 2, 3, 4, 5, 6, 7, 8, 9, 10, 11, 12, 13, 14, 15, 16, 17, 18, 19] [] [0, 1, 2, 3, 4, 5, 6, 7, 8, 9, 10, 11, 12, 13, 14, 15, 16, 17, 18, 19] rfl rfl rfl rfl (by decide) rfl rfl rfl rfl rfl rfl (Nat.le_of_ble_eq_true rfl) dX8_both_54 ⟨Nat.zero_le _, Nat.zero_le _⟩ (fun H locs hh => ?_)
        refine lv_goto (tgt := 66) hx hb dX8_both_57 (by decide) ?_
        exact hr2 66 ls H locs u4.1 u4.2 hf dX8_both_66 hh
    · replace hf := (if_neg c1).symm.trans hf
      refine lv_aload_n hx hb dX8_both_38 rfl (lv_at hl 1 rfl) ?_
      refine lv_iload_n hx hb dX8_both_39 rfl (lv_at hl 0 rfl) ?_
      obtain ⟨u5, hu5, hf⟩ := ob_bind hf
      refine zcallV (ci := 7) (q0 := 0) (As := [.int t0]) (rest := []) (wr := []) (ws' := cMd K a0 a1 a2 a3 a4 a5 a6 a7 a8 a9 a10 a11 a12 a13 a14 a15 a16 a17 a18 a19 u5.2) (ov := some (.int u5.1)) X hh hl (kX8_no l K a0 a1 a2 a3 a4 a5 a6 a7 a8 a9 a10 a11 a12 a13 a14 a15 a16 a17 a18 a19 S t0 u5 hu5) (fun ht => cwV 1 ht gX8_both_X8_no rfl rfl rfl ⟨rfl, hdX8_no⟩ ⟨Nat.le_of_ble_eq_true rfl, Nat.le_of_ble_eq_true rfl⟩) [0, 1, 2, 3, 4, 5, 6, 7, 8, 9, 10, 11, 12, 13, 14, 15, 16, 17, 18, 19] [] [0, 1, 2, 3, 4, 5, 6, 7, 8, 9, 10, 11, 12, 13, 14, 15, 16, 17, 18, 19] rfl rfl rfl rfl (by decide) rfl rfl rfl rfl rfl rfl (Nat.le_of_ble_eq_true rfl) dX8_both_40 ⟨Nat.zero_le _, Nat.zero_le _⟩ (fun H locs hh => ?_)
      refine lv_goto (tgt := 66) hx hb dX8_both_43 (by decide) ?_
      exact hr2 66 ls H locs u5.1 u5.2 hf dX8_both_66 hh
  have hJ27 : ∀ (v1 : Int32) (v2 : Int32) (S : zMd), ∀ (H : Heap) (locs : List Loc) (ls : Array Slot), fX8_both_j27 v1 v2 S = some R → lv_has ls 4 [(0, .ref a0), (1, .int v1), (2, .int v2)] → zW K A s H locs (cMd K a0 a1 a2 a3 a4 a5 a6 a7 a8 a9 a10 a11 a12 a13 a14 a15 a16 a17 a18 a19 S) → W p l e ({ frames := 5, cells := 0, slots := 0, locals := 117 } : Room) s m ([.ref a0, .int p1, .int p2] : List Value).toArray below meth c H locs 0 0 Q (F0 m 27 ls []) := by
    intro v1 v2 S H locs ls hf hl hh
    unfold fX8_both_j27 at hf
    refine lv_bipush (v := (-6 : Int32)) hx hb dX8_both_27 (by decide) ?_
    refine lv_goto (tgt := 33) hx hb dX8_both_29 (by decide) ?_
    exact hJ33 v1 v2 (-6 : Int32) S H locs ls hf (lv_sub hl [0, 1, 2] rfl) hh
  have hJ10 : ∀ (v1 : Int32) (v2 : Int32) (S : zMd), ∀ (H : Heap) (locs : List Loc) (ls : Array Slot), fX8_both_j10 v1 v2 S = some R → lv_has ls 4 [(0, .ref a0), (1, .int v1), (2, .int v2)] → zW K A s H locs (cMd K a0 a1 a2 a3 a4 a5 a6 a7 a8 a9 a10 a11 a12 a13 a14 a15 a16 a17 a18 a19 S) → W p l e ({ frames := 5, cells := 0, slots := 0, locals := 117 } : Room) s m ([.ref a0, .int p1, .int p2] : List Value).toArray below meth c H locs 0 0 Q (F0 m 10 ls []) := by
    intro v1 v2 S H locs ls hf hl hh
    unfold fX8_both_j10 at hf
    refine lv_bipush (v := (-4 : Int32)) hx hb dX8_both_10 (by decide) ?_
    refine lv_goto (tgt := 33) hx hb dX8_both_12 (by decide) ?_
    exact hJ33 v1 v2 (-4 : Int32) S H locs ls hf (lv_sub hl [0, 1, 2] rfl) hh
  unfold fX8_both at hf
  refine (fun (hmain : ∀ (H : Heap) (locs : List Loc), zW K A s H locs (cMd K a0 a1 a2 a3 a4 a5 a6 a7 a8 a9 a10 a11 a12 a13 a14 a15 a16 a17 a18 a19 S) → W p l e ({ frames := 5, cells := 0, slots := 0, locals := 117 } : Room) s m ([.ref a0, .int p1, .int p2] : List Value).toArray below meth c H locs 0 0 Q (F0 m 0 ls [])) => hmain s.heap [] hh) (fun H locs hh => ?_)
  refine lv_iload_n hx hb dX8_both_0 rfl (lv_at hl 1 rfl) ?_
  refine lv_iconst (v := (1 : Int32)) hx hb dX8_both_1 (by decide) ?_
  refine lv_icmp_lt (tgt := 10) hx hb dX8_both_2 (by decide) (fun c6 => ?_) (fun c6 => ?_)
  · replace hf := (if_pos c6).symm.trans hf
    exact hJ10 p1 p2 S H locs ls hf (lv_sub hl [0, 1, 2] rfl) hh
  · replace hf := (if_neg c6).symm.trans hf
    refine lv_iload_n hx hb dX8_both_5 rfl (lv_at hl 2 rfl) ?_
    refine lv_iconst (v := (1 : Int32)) hx hb dX8_both_6 (by decide) ?_
    refine lv_icmp_ge (tgt := 15) hx hb dX8_both_7 (by decide) (fun c7 => ?_) (fun c7 => ?_)
    · replace hf := (if_pos c7).symm.trans hf
      refine lv_iload_n hx hb dX8_both_15 rfl (lv_at hl 1 rfl) ?_
      refine lv_bipush (v := (30 : Int32)) hx hb dX8_both_16 (by decide) ?_
      refine lv_icmp_gt (tgt := 27) hx hb dX8_both_18 (by decide) (fun c8 => ?_) (fun c8 => ?_)
      · replace hf := (if_pos c8).symm.trans hf
        exact hJ27 p1 p2 S H locs ls hf (lv_sub hl [0, 1, 2] rfl) hh
      · replace hf := (if_neg c8).symm.trans hf
        refine lv_iload_n hx hb dX8_both_21 rfl (lv_at hl 2 rfl) ?_
        refine lv_bipush (v := (30 : Int32)) hx hb dX8_both_22 (by decide) ?_
        refine lv_icmp_le (tgt := 32) hx hb dX8_both_24 (by decide) (fun c9 => ?_) (fun c9 => ?_)
        · replace hf := (if_pos c9).symm.trans hf
          refine lv_iconst (v := (0 : Int32)) hx hb dX8_both_32 (by decide) ?_
          exact hJ33 p1 p2 (0 : Int32) S H locs ls hf (lv_sub hl [0, 1, 2] rfl) hh
        · replace hf := (if_neg c9).symm.trans hf
          exact hJ27 p1 p2 S H locs ls hf (lv_sub hl [0, 1, 2] rfl) hh
    · replace hf := (if_neg c7).symm.trans hf
      exact hJ10 p1 p2 S H locs ls hf (lv_sub hl [0, 1, 2] rfl) hh
def fX8_far (S : zMd) (p1 : Int32) : Option (Int32 × zMd) :=
  if (fX8_bound p1 (1 : Int32) (12 : Int32)) = (0 : Int32) then
  (some (((1 : Int32) <<< ((p1 - (1 : Int32)) &&& 31)), S))
  else
  ((fX8_no S (fX8_bound p1 (1 : Int32) (12 : Int32))).bind fun u3 =>
  some (u3.1, u3.2))
theorem hdX8_far : yX8_far.cls ≠ "java/lang/invoke/MethodHandle" ∧ yX8_far.cls ≠ "java/lang/invoke/VarHandle" ∧ (parseMethodDescriptor yX8_far.desc).map (fun d => d.parameters.length) = some 1 := by decide +kernel
set_option maxHeartbeats 4000000 in
set_option maxRecDepth 100000 in
theorem kX8_far (l : Launch) (K : zK) (a0 a1 a2 a3 a4 a5 a6 a7 a8 a9 a10 a11 a12 a13 a14 a15 a16 a17 a18 a19 : Nat) (S : zMd) (p1 : Int32) (R : Int32 × zMd) (hf : fX8_far S p1 = some R) : zC l yX8_far wsX8_far ({ frames := 1, cells := 0, slots := 0, locals := 22 } : Room) K [.ref a0, .int p1] (cMd K a0 a1 a2 a3 a4 a5 a6 a7 a8 a9 a10 a11 a12 a13 a14 a15 a16 a17 a18 a19 S) (some (.int R.1)) (cMd K a0 a1 a2 a3 a4 a5 a6 a7 a8 a9 a10 a11 a12 a13 a14 a15 a16 a17 a18 a19 R.2) := by
  refine zC_i R.1 (cc := cX8_far) (maxL := 3) (by decide +kernel) rfl (Nat.le_of_ble_eq_true rfl) rfl rfl ?_
  intro p e s m below meth c Q A X hret ls hl hh
  have X : zX p m c cX8_far 3 s ([.ref a0, .int p1] : List Value).toArray wsX8_far RX8 K A := X
  have hx := X.1.1
  have hb := X.1.2.1
  have hr2 : ∀ (pc : Nat) (ls : Array Slot) (H : Heap) (locs : List Loc) (v : Int32) (S : zMd), some (v, S) = some R → decode cX8_far pc = .ok (.ireturn, 1) → zW K A s H locs (cMd K a0 a1 a2 a3 a4 a5 a6 a7 a8 a9 a10 a11 a12 a13 a14 a15 a16 a17 a18 a19 S) → W p l e ({ frames := 1, cells := 0, slots := 0, locals := 22 } : Room) s m ([.ref a0, .int p1] : List Value).toArray below meth c H locs 0 0 Q (F0 m pc ls [.int v]) := by
    intro pc ls H locs v S h hd hh
    cases h; exact hret pc ls H locs _ rfl hd hh
  have hl : lv_has ls 3 [(0, .ref a0), (1, .int p1)] := hl
  unfold fX8_far at hf
  refine (fun (hmain : ∀ (H : Heap) (locs : List Loc), zW K A s H locs (cMd K a0 a1 a2 a3 a4 a5 a6 a7 a8 a9 a10 a11 a12 a13 a14 a15 a16 a17 a18 a19 S) → W p l e ({ frames := 1, cells := 0, slots := 0, locals := 22 } : Room) s m ([.ref a0, .int p1] : List Value).toArray below meth c H locs 0 0 Q (F0 m 0 ls [])) => hmain s.heap [] hh) (fun H locs hh => ?_)
  refine lv_iload_n hx hb dX8_far_0 rfl (lv_at hl 1 rfl) ?_
  refine lv_iconst (v := (1 : Int32)) hx hb dX8_far_1 (by decide) ?_
  refine lv_bipush (v := (12 : Int32)) hx hb dX8_far_2 (by decide) ?_
  refine zcallS (As := [.int p1, .int (1 : Int32), .int (12 : Int32)]) (rest := []) (wr := cMd K a0 a1 a2 a3 a4 a5 a6 a7 a8 a9 a10 a11 a12 a13 a14 a15 a16 a17 a18 a19 S) (ws' := cMd K a0 a1 a2 a3 a4 a5 a6 a7 a8 a9 a10 a11 a12 a13 a14 a15 a16 a17 a18 a19 S) (ov := some (.int (fX8_bound p1 (1 : Int32) (12 : Int32)))) X hh hl (kX8_bound l K p1 (1 : Int32) (12 : Int32) (fX8_bound p1 (1 : Int32) (12 : Int32)) rfl) (fun ht => va_cwS 3 ht gX8_far_X8_bound rfl rfl rfl hdX8_bound ⟨Nat.le_of_ble_eq_true rfl, Nat.le_of_ble_eq_true rfl⟩) [] [0, 1, 2, 3, 4, 5, 6, 7, 8, 9, 10, 11, 12, 13, 14, 15, 16, 17, 18, 19] [0, 1, 2, 3, 4, 5, 6, 7, 8, 9, 10, 11, 12, 13, 14, 15, 16, 17, 18, 19] rfl rfl rfl rfl (by decide) rfl rfl rfl rfl (Nat.le_of_ble_eq_true rfl) dX8_far_4 ⟨Nat.zero_le _, Nat.zero_le _⟩ (fun H locs hh => ?_)
  refine lv_istore_n (lv' := [(2, .int (fX8_bound p1 (1 : Int32) (12 : Int32))), (0, .ref a0), (1, .int p1)]) hx hb dX8_far_7 rfl hl (by decide) rfl (fun ls hl => ?_)
  refine lv_iload_n hx hb dX8_far_8 rfl (lv_at hl 0 rfl) ?_
  refine lv_if_eq (tgt := 20) hx hb dX8_far_9 (by decide) (fun c2 => ?_) (fun c2 => ?_)
  · replace hf := (if_pos c2).symm.trans hf
    refine lv_iconst (v := (1 : Int32)) hx hb dX8_far_20 (by decide) ?_
    refine lv_iload_n hx hb dX8_far_21 rfl (lv_at hl 2 rfl) ?_
    refine lv_iconst (v := (1 : Int32)) hx hb dX8_far_22 (by decide) ?_
    refine lv_isub hx hb dX8_far_23 ?_
    refine lv_ishl hx hb dX8_far_24 ?_
    exact hr2 25 ls H locs ((1 : Int32) <<< ((p1 - (1 : Int32)) &&& 31)) S hf dX8_far_25 hh
  · replace hf := (if_neg c2).symm.trans hf
    refine lv_aload_n hx hb dX8_far_12 rfl (lv_at hl 1 rfl) ?_
    refine lv_iload_n hx hb dX8_far_13 rfl (lv_at hl 0 rfl) ?_
    obtain ⟨u3, hu3, hf⟩ := ob_bind hf
    refine zcallV (ci := 7) (q0 := 0) (As := [.int (fX8_bound p1 (1 : Int32) (12 : Int32))]) (rest := []) (wr := []) (ws' := cMd K a0 a1 a2 a3 a4 a5 a6 a7 a8 a9 a10 a11 a12 a13 a14 a15 a16 a17 a18 a19 u3.2) (ov := some (.int u3.1)) X hh hl (kX8_no l K a0 a1 a2 a3 a4 a5 a6 a7 a8 a9 a10 a11 a12 a13 a14 a15 a16 a17 a18 a19 S (fX8_bound p1 (1 : Int32) (12 : Int32)) u3 hu3) (fun ht => cwV 1 ht gX8_far_X8_no rfl rfl rfl ⟨rfl, hdX8_no⟩ ⟨Nat.le_of_ble_eq_true rfl, Nat.le_of_ble_eq_true rfl⟩) [0, 1, 2, 3, 4, 5, 6, 7, 8, 9, 10, 11, 12, 13, 14, 15, 16, 17, 18, 19] [] [0, 1, 2, 3, 4, 5, 6, 7, 8, 9, 10, 11, 12, 13, 14, 15, 16, 17, 18, 19] rfl rfl rfl rfl (by decide) rfl rfl rfl rfl rfl rfl (Nat.le_of_ble_eq_true rfl) dX8_far_14 ⟨Nat.zero_le _, Nat.zero_le _⟩ (fun H locs hh => ?_)
    refine lv_goto (tgt := 25) hx hb dX8_far_17 (by decide) ?_
    exact hr2 25 ls H locs u3.1 u3.2 hf dX8_far_25 hh
def fX8_isWithin_l12 (v2 : Int32) : Nat → (Int32) → (zMd) → Option (Int32 × zMd)
  | 0, _, _ => none
  | n + 1, v3, S =>
  if v2 < v3 then
  (some ((0 : Int32), S))
  else
  ((fX8_findsChain S v3).bind fun u2 =>
  if u2.1 = (0 : Int32) then
  (fX8_isWithin_l12 v2 n (v3 + (1 : Int32)) u2.2)
  else
  (some ((1 : Int32), u2.2)))
def fX8_isWithin (S : zMd) (p1 : Int32) (p2 : Int32) : Option (Int32 × zMd) :=
  fX8_isWithin_l12 p2 FU (1 : Int32) (md_set_goal (md_set_wanted S p1) p1)
theorem inX8_isWithin_X8 : ∀ w ∈ wsX80, w ∈ wsX8_isWithin := by decide +kernel
theorem mmX8_isWithin_0 : Cond.fieldLink RX8 222 "SumOfTwoThatStandModel" "wanted" "I" ∈ wsX8_isWithin := by decide +kernel
theorem mmX8_isWithin_1 : Cond.fieldLink RX8 213 "SumOfTwoThatStandModel" "goal" "I" ∈ wsX8_isWithin := by decide +kernel
theorem hdX8_isWithin : yX8_isWithin.cls ≠ "java/lang/invoke/MethodHandle" ∧ yX8_isWithin.cls ≠ "java/lang/invoke/VarHandle" ∧ (parseMethodDescriptor yX8_isWithin.desc).map (fun d => d.parameters.length) = some 2 := by decide +kernel
set_option maxHeartbeats 4000000 in
set_option maxRecDepth 100000 in
theorem kX8_isWithin (l : Launch) (K : zK) (a0 a1 a2 a3 a4 a5 a6 a7 a8 a9 a10 a11 a12 a13 a14 a15 a16 a17 a18 a19 : Nat) (S : zMd) (p1 : Int32) (p2 : Int32) (R : Int32 × zMd) (hf : fX8_isWithin S p1 p2 = some R) : zC l yX8_isWithin wsX8_isWithin ({ frames := 4, cells := 0, slots := 0, locals := 94 } : Room) K [.ref a0, .int p1, .int p2] (cMd K a0 a1 a2 a3 a4 a5 a6 a7 a8 a9 a10 a11 a12 a13 a14 a15 a16 a17 a18 a19 S) (some (.int R.1)) (cMd K a0 a1 a2 a3 a4 a5 a6 a7 a8 a9 a10 a11 a12 a13 a14 a15 a16 a17 a18 a19 R.2) := by
  refine zC_z .boolean R.1 (cc := cX8_isWithin) (maxL := 4) (by decide +kernel) rfl (Nat.le_of_ble_eq_true rfl) rfl rfl ?_
  intro p e s m below meth c Q A X hret ls hl hh
  have X : zX p m c cX8_isWithin 4 s ([.ref a0, .int p1, .int p2] : List Value).toArray wsX8_isWithin RX8 K A := X
  have hx := X.1.1
  have hb := X.1.2.1
  have hr2 : ∀ (pc : Nat) (ls : Array Slot) (H : Heap) (locs : List Loc) (v : Int32) (S : zMd), some (v, S) = some R → narrow .boolean (.int v) = .int v → decode cX8_isWithin pc = .ok (.ireturn, 1) → zW K A s H locs (cMd K a0 a1 a2 a3 a4 a5 a6 a7 a8 a9 a10 a11 a12 a13 a14 a15 a16 a17 a18 a19 S) → W p l e ({ frames := 4, cells := 0, slots := 0, locals := 94 } : Room) s m ([.ref a0, .int p1, .int p2] : List Value).toArray below meth c H locs 0 0 Q (F0 m pc ls [.int v]) := by
    intro pc ls H locs v S h hn hd hh
    cases h; exact hret pc ls H locs _ rfl hn hd hh
  have hl : lv_has ls 4 [(0, .ref a0), (1, .int p1), (2, .int p2)] := hl
  have hL12 : ∀ (v2 : Int32), ∀ (n : Nat) (v3 : Int32) (S : zMd), ∀ (H : Heap) (locs : List Loc) (ls : Array Slot), fX8_isWithin_l12 v2 n v3 S = some R → lv_has ls 4 [(0, .ref a0), (2, .int v2), (3, .int v3)] → zW K A s H locs (cMd K a0 a1 a2 a3 a4 a5 a6 a7 a8 a9 a10 a11 a12 a13 a14 a15 a16 a17 a18 a19 S) → W p l e ({ frames := 4, cells := 0, slots := 0, locals := 94 } : Room) s m ([.ref a0, .int p1, .int p2] : List Value).toArray below meth c H locs 0 0 Q (F0 m 12 ls []) := by
    intro v2 n
    induction n with
    | zero =>
      intro v3 S H locs ls hf hl hh
      rw [fX8_isWithin_l12] at hf; cases hf
    | succ n ih =>
      intro v3 S H locs ls hf hl hh
      rw [fX8_isWithin_l12] at hf
      refine lv_iload_n hx hb dX8_isWithin_12 rfl (lv_at hl 2 rfl) ?_
      refine lv_iload_n hx hb dX8_isWithin_13 rfl (lv_at hl 1 rfl) ?_
      refine lv_icmp_gt (tgt := 33) hx hb dX8_isWithin_14 (by decide) (fun c1 => ?_) (fun c1 => ?_)
      · replace hf := (if_pos c1).symm.trans hf
        refine lv_iconst (v := (0 : Int32)) hx hb dX8_isWithin_33 (by decide) ?_
        exact hr2 34 ls H locs (0 : Int32) S hf rfl dX8_isWithin_34 hh
      · replace hf := (if_neg c1).symm.trans hf
        refine lv_aload_n hx hb dX8_isWithin_17 rfl (lv_at hl 0 rfl) ?_
        refine lv_iload_n hx hb dX8_isWithin_18 rfl (lv_at hl 2 rfl) ?_
        obtain ⟨u2, hu2, hf⟩ := ob_bind hf
        refine zcallV (ci := 7) (q0 := 0) (As := [.int v3]) (rest := []) (wr := []) (ws' := cMd K a0 a1 a2 a3 a4 a5 a6 a7 a8 a9 a10 a11 a12 a13 a14 a15 a16 a17 a18 a19 u2.2) (ov := some (.int u2.1)) X hh hl (kX8_findsChain l K a0 a1 a2 a3 a4 a5 a6 a7 a8 a9 a10 a11 a12 a13 a14 a15 a16 a17 a18 a19 S v3 u2 hu2) (fun ht => cwV 1 ht gX8_isWithin_X8_findsChain rfl rfl rfl ⟨rfl, hdX8_findsChain⟩ ⟨Nat.le_of_ble_eq_true rfl, Nat.le_of_ble_eq_true rfl⟩) [0, 1, 2, 3, 4, 5, 6, 7, 8, 9, 10, 11, 12, 13, 14, 15, 16, 17, 18, 19] [] [0, 1, 2, 3, 4, 5, 6, 7, 8, 9, 10, 11, 12, 13, 14, 15, 16, 17, 18, 19] rfl rfl rfl rfl (by decide) rfl rfl rfl rfl rfl rfl (Nat.le_of_ble_eq_true rfl) dX8_isWithin_19 ⟨Nat.zero_le _, Nat.zero_le _⟩ (fun H locs hh => ?_)
        refine lv_if_eq (tgt := 27) hx hb dX8_isWithin_22 (by decide) (fun c3 => ?_) (fun c3 => ?_)
        · replace hf := (if_pos c3).symm.trans hf
          refine lv_iinc (v := (v3 + (1 : Int32))) (lv' := [(3, .int (v3 + (1 : Int32))), (0, .ref a0), (2, .int v2)]) hx hb dX8_isWithin_27 hl (k := 2) rfl rfl (by decide) rfl (fun ls hl => ?_)
          refine lv_goto (tgt := 12) hx hb dX8_isWithin_30 (by decide) ?_
          exact ih (v3 + (1 : Int32)) u2.2 H locs ls hf (lv_sub hl [1, 2, 0] rfl) hh
        · replace hf := (if_neg c3).symm.trans hf
          refine lv_iconst (v := (1 : Int32)) hx hb dX8_isWithin_25 (by decide) ?_
          exact hr2 26 ls H locs (1 : Int32) u2.2 hf rfl dX8_isWithin_26 hh
  unfold fX8_isWithin at hf
  refine (fun (hmain : ∀ (H : Heap) (locs : List Loc), zW K A s H locs (cMd K a0 a1 a2 a3 a4 a5 a6 a7 a8 a9 a10 a11 a12 a13 a14 a15 a16 a17 a18 a19 S) → W p l e ({ frames := 4, cells := 0, slots := 0, locals := 94 } : Room) s m ([.ref a0, .int p1, .int p2] : List Value).toArray below meth c H locs 0 0 Q (F0 m 0 ls [])) => hmain s.heap [] hh) (fun H locs hh => ?_)
  refine lv_aload_n hx hb dX8_isWithin_0 rfl (lv_at hl 0 rfl) ?_
  refine lv_iload_n hx hb dX8_isWithin_1 rfl (lv_at hl 1 rfl) ?_
  refine zput (v := .int p1) (ty := .int) (ref := "SumOfTwoThatStandModel") (C := RX8) (T := TX8) (N := 33) (index := 222) X hh inX8_isWithin_X8 tyX8 tyX8_ok nmX8 0 rfl rfl 25 (by decide) mmX8_isWithin_0 rfl rfl (by decide +kernel) rfl rfl (Nat.le_of_ble_eq_true rfl) dX8_isWithin_2 (fun H locs hh => ?_)
  have hh : zW K A s H locs (cMd K a0 a1 a2 a3 a4 a5 a6 a7 a8 a9 a10 a11 a12 a13 a14 a15 a16 a17 a18 a19 (md_set_wanted S p1)) := hh
  refine lv_aload_n hx hb dX8_isWithin_5 rfl (lv_at hl 0 rfl) ?_
  refine lv_iload_n hx hb dX8_isWithin_6 rfl (lv_at hl 1 rfl) ?_
  refine zput (v := .int p1) (ty := .int) (ref := "SumOfTwoThatStandModel") (C := RX8) (T := TX8) (N := 33) (index := 213) X hh inX8_isWithin_X8 tyX8 tyX8_ok nmX8 0 rfl rfl 26 (by decide) mmX8_isWithin_1 rfl rfl (by decide +kernel) rfl rfl (Nat.le_of_ble_eq_true rfl) dX8_isWithin_7 (fun H locs hh => ?_)
  have hh : zW K A s H locs (cMd K a0 a1 a2 a3 a4 a5 a6 a7 a8 a9 a10 a11 a12 a13 a14 a15 a16 a17 a18 a19 (md_set_goal (md_set_wanted S p1) p1)) := hh
  refine lv_iconst (v := (1 : Int32)) hx hb dX8_isWithin_10 (by decide) ?_
  refine lv_istore_n (lv' := [(3, .int (1 : Int32)), (0, .ref a0), (1, .int p1), (2, .int p2)]) hx hb dX8_isWithin_11 rfl hl (by decide) rfl (fun ls hl => ?_)
  exact hL12 p2 FU (1 : Int32) (md_set_goal (md_set_wanted S p1) p1) H locs ls hf (lv_sub hl [1, 3, 0] rfl) hh
def fX8_can_j86 (v1 : Int32) (v2 : Int32) (v4 : Int32) (v5 : Int32) (v6 : Int32) (S : zMd) (k41 : (Int32) → (Int32) → (Int32) → (zMd) → Option (Int32 × zMd)) : Option (Int32 × zMd) :=
  k41 v4 v5 (v6 + (1 : Int32)) S
def fX8_can_j69 (v1 : Int32) (v2 : Int32) (v5 : Int32) (v6 : Int32) (v7 : Int32) (t0 : Int32) (t1 : Int32) (S : zMd) (k41 : (Int32) → (Int32) → (Int32) → (zMd) → Option (Int32 × zMd)) : Option (Int32 × zMd) :=
  if v7 = (0 : Int32) then
  (if v5 = (0 : Int32) then
  (fX8_can_j86 v1 v2 (t0 + t1) v6 v6 S (k41))
  else
  (fX8_can_j86 v1 v2 (t0 + t1) v5 v6 S (k41)))
  else
  (fX8_can_j86 v1 v2 (t0 + t1) v5 v6 S (k41))
def fX8_can_l41 (v1 : Int32) (v2 : Int32) : Nat → (Int32) → (Int32) → (Int32) → (zMd) → Option (Int32 × zMd)
  | 0, _, _, _, _ => none
  | n + 1, v4, v5, v6, S =>
  if (65 : Int32) < v6 then
  (if v2 = (0 : Int32) then
  (some (v4, S))
  else
  (some (v5, S)))
  else
  ((fX8_isWithin S v6 v1).bind fun u5 =>
  if u5.1 = (0 : Int32) then
  (fX8_can_j69 v1 v2 v5 v6 u5.1 v4 (0 : Int32) u5.2 (fX8_can_l41 v1 v2 n))
  else
  (fX8_can_j69 v1 v2 v5 v6 u5.1 v4 (1 : Int32) u5.2 (fX8_can_l41 v1 v2 n)))
def fX8_can_j21 (v1 : Int32) (v2 : Int32) (t0 : Int32) (S : zMd) : Option (Int32 × zMd) :=
  if t0 = (0 : Int32) then
  (fX8_can_l41 v1 v2 FU (0 : Int32) (0 : Int32) (1 : Int32) S)
  else
  ((fX8_no S t0).bind fun u8 =>
  some (u8.1, u8.2))
def fX8_can (S : zMd) (p1 : Int32) (p2 : Int32) : Option (Int32 × zMd) :=
  if (fX8_isIn p2 (0 : Int32) (1 : Int32)) = (0 : Int32) then
  (fX8_can_j21 p1 p2 (-2 : Int32) S)
  else
  (fX8_can_j21 p1 p2 (fX8_bound p1 (1 : Int32) (7 : Int32)) S)
theorem hdX8_can : yX8_can.cls ≠ "java/lang/invoke/MethodHandle" ∧ yX8_can.cls ≠ "java/lang/invoke/VarHandle" ∧ (parseMethodDescriptor yX8_can.desc).map (fun d => d.parameters.length) = some 2 := by decide +kernel
set_option maxHeartbeats 4000000 in
set_option maxRecDepth 100000 in
theorem kX8_can (l : Launch) (K : zK) (a0 a1 a2 a3 a4 a5 a6 a7 a8 a9 a10 a11 a12 a13 a14 a15 a16 a17 a18 a19 : Nat) (S : zMd) (p1 : Int32) (p2 : Int32) (R : Int32 × zMd) (hf : fX8_can S p1 p2 = some R) : zC l yX8_can wsX8_can ({ frames := 5, cells := 0, slots := 0, locals := 117 } : Room) K [.ref a0, .int p1, .int p2] (cMd K a0 a1 a2 a3 a4 a5 a6 a7 a8 a9 a10 a11 a12 a13 a14 a15 a16 a17 a18 a19 S) (some (.int R.1)) (cMd K a0 a1 a2 a3 a4 a5 a6 a7 a8 a9 a10 a11 a12 a13 a14 a15 a16 a17 a18 a19 R.2) := by
  refine zC_i R.1 (cc := cX8_can) (maxL := 8) (by decide +kernel) rfl (Nat.le_of_ble_eq_true rfl) rfl rfl ?_
  intro p e s m below meth c Q A X hret ls hl hh
  have X : zX p m c cX8_can 8 s ([.ref a0, .int p1, .int p2] : List Value).toArray wsX8_can RX8 K A := X
  have hx := X.1.1
  have hb := X.1.2.1
  have hr2 : ∀ (pc : Nat) (ls : Array Slot) (H : Heap) (locs : List Loc) (v : Int32) (S : zMd), some (v, S) = some R → decode cX8_can pc = .ok (.ireturn, 1) → zW K A s H locs (cMd K a0 a1 a2 a3 a4 a5 a6 a7 a8 a9 a10 a11 a12 a13 a14 a15 a16 a17 a18 a19 S) → W p l e ({ frames := 5, cells := 0, slots := 0, locals := 117 } : Room) s m ([.ref a0, .int p1, .int p2] : List Value).toArray below meth c H locs 0 0 Q (F0 m pc ls [.int v]) := by
    intro pc ls H locs v S h hd hh
    cases h; exact hret pc ls H locs _ rfl hd hh
  have hl : lv_has ls 8 [(0, .ref a0), (1, .int p1), (2, .int p2)] := hl
  have hJ86 : ∀ (v1 : Int32) (v2 : Int32) (v4 : Int32) (v5 : Int32) (v6 : Int32) (S : zMd) (k41 : (Int32) → (Int32) → (Int32) → (zMd) → Option (Int32 × zMd)), (∀ (v4 : Int32) (v5 : Int32) (v6 : Int32) (S : zMd) (H : Heap) (locs : List Loc) (ls : Array Slot), k41 v4 v5 v6 S = some R → lv_has ls 8 [(0, .ref a0), (1, .int v1), (2, .int v2), (4, .int v4), (5, .int v5), (6, .int v6)] → zW K A s H locs (cMd K a0 a1 a2 a3 a4 a5 a6 a7 a8 a9 a10 a11 a12 a13 a14 a15 a16 a17 a18 a19 S) → W p l e ({ frames := 5, cells := 0, slots := 0, locals := 117 } : Room) s m ([.ref a0, .int p1, .int p2] : List Value).toArray below meth c H locs 0 0 Q (F0 m 41 ls [])) → ∀ (H : Heap) (locs : List Loc) (ls : Array Slot), fX8_can_j86 v1 v2 v4 v5 v6 S k41 = some R → lv_has ls 8 [(0, .ref a0), (1, .int v1), (2, .int v2), (4, .int v4), (5, .int v5), (6, .int v6)] → zW K A s H locs (cMd K a0 a1 a2 a3 a4 a5 a6 a7 a8 a9 a10 a11 a12 a13 a14 a15 a16 a17 a18 a19 S) → W p l e ({ frames := 5, cells := 0, slots := 0, locals := 117 } : Room) s m ([.ref a0, .int p1, .int p2] : List Value).toArray below meth c H locs 0 0 Q (F0 m 86 ls []) := by
    intro v1 v2 v4 v5 v6 S k41 hk41 H locs ls hf hl hh
    unfold fX8_can_j86 at hf
    refine lv_iinc (v := (v6 + (1 : Int32))) (lv' := [(6, .int (v6 + (1 : Int32))), (0, .ref a0), (1, .int v1), (2, .int v2), (4, .int v4), (5, .int v5)]) hx hb dX8_can_86 hl (k := 5) rfl rfl (by decide) rfl (fun ls hl => ?_)
    refine lv_goto (tgt := 41) hx hb dX8_can_89 (by decide) ?_
    exact hk41 v4 v5 (v6 + (1 : Int32)) S H locs ls hf (lv_sub hl [1, 2, 3, 4, 5, 0] rfl) hh
  have hJ69 : ∀ (v1 : Int32) (v2 : Int32) (v5 : Int32) (v6 : Int32) (v7 : Int32) (t0 : Int32) (t1 : Int32) (S : zMd) (k41 : (Int32) → (Int32) → (Int32) → (zMd) → Option (Int32 × zMd)), (∀ (v4 : Int32) (v5 : Int32) (v6 : Int32) (S : zMd) (H : Heap) (locs : List Loc) (ls : Array Slot), k41 v4 v5 v6 S = some R → lv_has ls 8 [(0, .ref a0), (1, .int v1), (2, .int v2), (4, .int v4), (5, .int v5), (6, .int v6)] → zW K A s H locs (cMd K a0 a1 a2 a3 a4 a5 a6 a7 a8 a9 a10 a11 a12 a13 a14 a15 a16 a17 a18 a19 S) → W p l e ({ frames := 5, cells := 0, slots := 0, locals := 117 } : Room) s m ([.ref a0, .int p1, .int p2] : List Value).toArray below meth c H locs 0 0 Q (F0 m 41 ls [])) → ∀ (H : Heap) (locs : List Loc) (ls : Array Slot), fX8_can_j69 v1 v2 v5 v6 v7 t0 t1 S k41 = some R → lv_has ls 8 [(0, .ref a0), (1, .int v1), (2, .int v2), (5, .int v5), (6, .int v6), (7, .int v7)] → zW K A s H locs (cMd K a0 a1 a2 a3 a4 a5 a6 a7 a8 a9 a10 a11 a12 a13 a14 a15 a16 a17 a18 a19 S) → W p l e ({ frames := 5, cells := 0, slots := 0, locals := 117 } : Room) s m ([.ref a0, .int p1, .int p2] : List Value).toArray below meth c H locs 0 0 Q (F0 m 69 ls [.int t1, .int t0]) := by
    intro v1 v2 v5 v6 v7 t0 t1 S k41 hk41 H locs ls hf hl hh
    unfold fX8_can_j69 at hf
    refine lv_iadd hx hb dX8_can_69 ?_
    refine lv_istore (lv' := [(4, .int (t0 + t1)), (0, .ref a0), (1, .int v1), (2, .int v2), (5, .int v5), (6, .int v6), (7, .int v7)]) hx hb dX8_can_70 hl (by decide) rfl (fun ls hl => ?_)
    refine lv_iload hx hb dX8_can_72 (lv_at hl 6 rfl) ?_
    refine lv_if_ne (tgt := 86) hx hb dX8_can_74 (by decide) (fun c1 => ?_) (fun c1 => ?_)
    · replace hf := (if_neg c1).symm.trans hf
      exact hJ86 v1 v2 (t0 + t1) v5 v6 S (k41) (hk41) H locs ls hf (lv_sub hl [1, 2, 3, 0, 4, 5] rfl) hh
    · replace hf := (if_pos c1).symm.trans hf
      refine lv_iload hx hb dX8_can_77 (lv_at hl 4 rfl) ?_
      refine lv_if_ne (tgt := 86) hx hb dX8_can_79 (by decide) (fun c2 => ?_) (fun c2 => ?_)
      · replace hf := (if_neg c2).symm.trans hf
        exact hJ86 v1 v2 (t0 + t1) v5 v6 S (k41) (hk41) H locs ls hf (lv_sub hl [1, 2, 3, 0, 4, 5] rfl) hh
      · replace hf := (if_pos c2).symm.trans hf
        refine lv_iload hx hb dX8_can_82 (lv_at hl 5 rfl) ?_
        refine lv_istore (lv' := [(5, .int v6), (4, .int (t0 + t1)), (0, .ref a0), (1, .int v1), (2, .int v2), (6, .int v6), (7, .int v7)]) hx hb dX8_can_84 hl (by decide) rfl (fun ls hl => ?_)
        exact hJ86 v1 v2 (t0 + t1) v6 v6 S (k41) (hk41) H locs ls hf (lv_sub hl [2, 3, 4, 1, 0, 5] rfl) hh
  have hL41 : ∀ (v1 : Int32) (v2 : Int32), ∀ (n : Nat) (v4 : Int32) (v5 : Int32) (v6 : Int32) (S : zMd), ∀ (H : Heap) (locs : List Loc) (ls : Array Slot), fX8_can_l41 v1 v2 n v4 v5 v6 S = some R → lv_has ls 8 [(0, .ref a0), (1, .int v1), (2, .int v2), (4, .int v4), (5, .int v5), (6, .int v6)] → zW K A s H locs (cMd K a0 a1 a2 a3 a4 a5 a6 a7 a8 a9 a10 a11 a12 a13 a14 a15 a16 a17 a18 a19 S) → W p l e ({ frames := 5, cells := 0, slots := 0, locals := 117 } : Room) s m ([.ref a0, .int p1, .int p2] : List Value).toArray below meth c H locs 0 0 Q (F0 m 41 ls []) := by
    intro v1 v2 n
    induction n with
    | zero =>
      intro v4 v5 v6 S H locs ls hf hl hh
      rw [fX8_can_l41] at hf; cases hf
    | succ n ih =>
      intro v4 v5 v6 S H locs ls hf hl hh
      rw [fX8_can_l41] at hf
      refine lv_iload hx hb dX8_can_41 (lv_at hl 5 rfl) ?_
      refine lv_bipush (v := (65 : Int32)) hx hb dX8_can_43 (by decide) ?_
      refine lv_icmp_gt (tgt := 92) hx hb dX8_can_45 (by decide) (fun c3 => ?_) (fun c3 => ?_)
      · replace hf := (if_pos c3).symm.trans hf
        refine lv_iload_n hx hb dX8_can_92 rfl (lv_at hl 2 rfl) ?_
        refine lv_if_ne (tgt := 101) hx hb dX8_can_93 (by decide) (fun c4 => ?_) (fun c4 => ?_)
        · replace hf := (if_neg c4).symm.trans hf
          refine lv_iload hx hb dX8_can_101 (lv_at hl 4 rfl) ?_
          exact hr2 103 ls H locs v5 S hf dX8_can_103 hh
        · replace hf := (if_pos c4).symm.trans hf
          refine lv_iload hx hb dX8_can_96 (lv_at hl 3 rfl) ?_
          refine lv_goto (tgt := 103) hx hb dX8_can_98 (by decide) ?_
          exact hr2 103 ls H locs v4 S hf dX8_can_103 hh
      · replace hf := (if_neg c3).symm.trans hf
        refine lv_aload_n hx hb dX8_can_48 rfl (lv_at hl 0 rfl) ?_
        refine lv_iload hx hb dX8_can_49 (lv_at hl 5 rfl) ?_
        refine lv_iload_n hx hb dX8_can_51 rfl (lv_at hl 1 rfl) ?_
        obtain ⟨u5, hu5, hf⟩ := ob_bind hf
        refine zcallV (ci := 7) (q0 := 0) (As := [.int v6, .int v1]) (rest := []) (wr := []) (ws' := cMd K a0 a1 a2 a3 a4 a5 a6 a7 a8 a9 a10 a11 a12 a13 a14 a15 a16 a17 a18 a19 u5.2) (ov := some (.int u5.1)) X hh hl (kX8_isWithin l K a0 a1 a2 a3 a4 a5 a6 a7 a8 a9 a10 a11 a12 a13 a14 a15 a16 a17 a18 a19 S v6 v1 u5 hu5) (fun ht => cwV 2 ht gX8_can_X8_isWithin rfl rfl rfl ⟨rfl, hdX8_isWithin⟩ ⟨Nat.le_of_ble_eq_true rfl, Nat.le_of_ble_eq_true rfl⟩) [0, 1, 2, 3, 4, 5, 6, 7, 8, 9, 10, 11, 12, 13, 14, 15, 16, 17, 18, 19] [] [0, 1, 2, 3, 4, 5, 6, 7, 8, 9, 10, 11, 12, 13, 14, 15, 16, 17, 18, 19] rfl rfl rfl rfl (by decide) rfl rfl rfl rfl rfl rfl (Nat.le_of_ble_eq_true rfl) dX8_can_52 ⟨Nat.zero_le _, Nat.zero_le _⟩ (fun H locs hh => ?_)
        refine lv_istore (lv' := [(7, .int u5.1), (0, .ref a0), (1, .int v1), (2, .int v2), (4, .int v4), (5, .int v5), (6, .int v6)]) hx hb dX8_can_55 hl (by decide) rfl (fun ls hl => ?_)
        refine lv_iload hx hb dX8_can_57 (lv_at hl 4 rfl) ?_
        refine lv_iload hx hb dX8_can_59 (lv_at hl 0 rfl) ?_
        refine lv_if_eq (tgt := 68) hx hb dX8_can_61 (by decide) (fun c6 => ?_) (fun c6 => ?_)
        · replace hf := (if_pos c6).symm.trans hf
          refine lv_iconst (v := (0 : Int32)) hx hb dX8_can_68 (by decide) ?_
          exact hJ69 v1 v2 v5 v6 u5.1 v4 (0 : Int32) u5.2 (fX8_can_l41 v1 v2 n) (ih) H locs ls hf (lv_sub hl [1, 2, 3, 5, 6, 0] rfl) hh
        · replace hf := (if_neg c6).symm.trans hf
          refine lv_iconst (v := (1 : Int32)) hx hb dX8_can_64 (by decide) ?_
          refine lv_goto (tgt := 69) hx hb dX8_can_65 (by decide) ?_
          exact hJ69 v1 v2 v5 v6 u5.1 v4 (1 : Int32) u5.2 (fX8_can_l41 v1 v2 n) (ih) H locs ls hf (lv_sub hl [1, 2, 3, 5, 6, 0] rfl) hh
  have hJ21 : ∀ (v1 : Int32) (v2 : Int32) (t0 : Int32) (S : zMd), ∀ (H : Heap) (locs : List Loc) (ls : Array Slot), fX8_can_j21 v1 v2 t0 S = some R → lv_has ls 8 [(0, .ref a0), (1, .int v1), (2, .int v2)] → zW K A s H locs (cMd K a0 a1 a2 a3 a4 a5 a6 a7 a8 a9 a10 a11 a12 a13 a14 a15 a16 a17 a18 a19 S) → W p l e ({ frames := 5, cells := 0, slots := 0, locals := 117 } : Room) s m ([.ref a0, .int p1, .int p2] : List Value).toArray below meth c H locs 0 0 Q (F0 m 21 ls [.int t0]) := by
    intro v1 v2 t0 S H locs ls hf hl hh
    unfold fX8_can_j21 at hf
    refine lv_istore_n (lv' := [(3, .int t0), (0, .ref a0), (1, .int v1), (2, .int v2)]) hx hb dX8_can_21 rfl hl (by decide) rfl (fun ls hl => ?_)
    refine lv_iload_n hx hb dX8_can_22 rfl (lv_at hl 0 rfl) ?_
    refine lv_if_eq (tgt := 32) hx hb dX8_can_23 (by decide) (fun c7 => ?_) (fun c7 => ?_)
    · replace hf := (if_pos c7).symm.trans hf
      refine lv_iconst (v := (0 : Int32)) hx hb dX8_can_32 (by decide) ?_
      refine lv_istore (lv' := [(4, .int (0 : Int32)), (3, .int t0), (0, .ref a0), (1, .int v1), (2, .int v2)]) hx hb dX8_can_33 hl (by decide) rfl (fun ls hl => ?_)
      refine lv_iconst (v := (0 : Int32)) hx hb dX8_can_35 (by decide) ?_
      refine lv_istore (lv' := [(5, .int (0 : Int32)), (4, .int (0 : Int32)), (3, .int t0), (0, .ref a0), (1, .int v1), (2, .int v2)]) hx hb dX8_can_36 hl (by decide) rfl (fun ls hl => ?_)
      refine lv_iconst (v := (1 : Int32)) hx hb dX8_can_38 (by decide) ?_
      refine lv_istore (lv' := [(6, .int (1 : Int32)), (5, .int (0 : Int32)), (4, .int (0 : Int32)), (3, .int t0), (0, .ref a0), (1, .int v1), (2, .int v2)]) hx hb dX8_can_39 hl (by decide) rfl (fun ls hl => ?_)
      exact hL41 v1 v2 FU (0 : Int32) (0 : Int32) (1 : Int32) S H locs ls hf (lv_sub hl [4, 5, 6, 2, 1, 0] rfl) hh
    · replace hf := (if_neg c7).symm.trans hf
      refine lv_aload_n hx hb dX8_can_26 rfl (lv_at hl 1 rfl) ?_
      refine lv_iload_n hx hb dX8_can_27 rfl (lv_at hl 0 rfl) ?_
      obtain ⟨u8, hu8, hf⟩ := ob_bind hf
      refine zcallV (ci := 7) (q0 := 0) (As := [.int t0]) (rest := []) (wr := []) (ws' := cMd K a0 a1 a2 a3 a4 a5 a6 a7 a8 a9 a10 a11 a12 a13 a14 a15 a16 a17 a18 a19 u8.2) (ov := some (.int u8.1)) X hh hl (kX8_no l K a0 a1 a2 a3 a4 a5 a6 a7 a8 a9 a10 a11 a12 a13 a14 a15 a16 a17 a18 a19 S t0 u8 hu8) (fun ht => cwV 1 ht gX8_can_X8_no rfl rfl rfl ⟨rfl, hdX8_no⟩ ⟨Nat.le_of_ble_eq_true rfl, Nat.le_of_ble_eq_true rfl⟩) [0, 1, 2, 3, 4, 5, 6, 7, 8, 9, 10, 11, 12, 13, 14, 15, 16, 17, 18, 19] [] [0, 1, 2, 3, 4, 5, 6, 7, 8, 9, 10, 11, 12, 13, 14, 15, 16, 17, 18, 19] rfl rfl rfl rfl (by decide) rfl rfl rfl rfl rfl rfl (Nat.le_of_ble_eq_true rfl) dX8_can_28 ⟨Nat.zero_le _, Nat.zero_le _⟩ (fun H locs hh => ?_)
      exact hr2 31 ls H locs u8.1 u8.2 hf dX8_can_31 hh
  unfold fX8_can at hf
  refine (fun (hmain : ∀ (H : Heap) (locs : List Loc), zW K A s H locs (cMd K a0 a1 a2 a3 a4 a5 a6 a7 a8 a9 a10 a11 a12 a13 a14 a15 a16 a17 a18 a19 S) → W p l e ({ frames := 5, cells := 0, slots := 0, locals := 117 } : Room) s m ([.ref a0, .int p1, .int p2] : List Value).toArray below meth c H locs 0 0 Q (F0 m 0 ls [])) => hmain s.heap [] hh) (fun H locs hh => ?_)
  refine lv_iload_n hx hb dX8_can_0 rfl (lv_at hl 2 rfl) ?_
  refine lv_iconst (v := (0 : Int32)) hx hb dX8_can_1 (by decide) ?_
  refine lv_iconst (v := (1 : Int32)) hx hb dX8_can_2 (by decide) ?_
  refine zcallS (As := [.int p2, .int (0 : Int32), .int (1 : Int32)]) (rest := []) (wr := cMd K a0 a1 a2 a3 a4 a5 a6 a7 a8 a9 a10 a11 a12 a13 a14 a15 a16 a17 a18 a19 S) (ws' := cMd K a0 a1 a2 a3 a4 a5 a6 a7 a8 a9 a10 a11 a12 a13 a14 a15 a16 a17 a18 a19 S) (ov := some (.int (fX8_isIn p2 (0 : Int32) (1 : Int32)))) X hh hl (kX8_isIn l K p2 (0 : Int32) (1 : Int32) (fX8_isIn p2 (0 : Int32) (1 : Int32)) rfl) (fun ht => va_cwS 3 ht gX8_can_X8_isIn rfl rfl rfl hdX8_isIn ⟨Nat.le_of_ble_eq_true rfl, Nat.le_of_ble_eq_true rfl⟩) [] [0, 1, 2, 3, 4, 5, 6, 7, 8, 9, 10, 11, 12, 13, 14, 15, 16, 17, 18, 19] [0, 1, 2, 3, 4, 5, 6, 7, 8, 9, 10, 11, 12, 13, 14, 15, 16, 17, 18, 19] rfl rfl rfl rfl (by decide) rfl rfl rfl rfl (Nat.le_of_ble_eq_true rfl) dX8_can_3 ⟨Nat.zero_le _, Nat.zero_le _⟩ (fun H locs hh => ?_)
  refine lv_if_ne (tgt := 14) hx hb dX8_can_6 (by decide) (fun c10 => ?_) (fun c10 => ?_)
  · replace hf := (if_neg c10).symm.trans hf
    refine lv_iload_n hx hb dX8_can_14 rfl (lv_at hl 1 rfl) ?_
    refine lv_iconst (v := (1 : Int32)) hx hb dX8_can_15 (by decide) ?_
    refine lv_bipush (v := (7 : Int32)) hx hb dX8_can_16 (by decide) ?_
    refine zcallS (As := [.int p1, .int (1 : Int32), .int (7 : Int32)]) (rest := []) (wr := cMd K a0 a1 a2 a3 a4 a5 a6 a7 a8 a9 a10 a11 a12 a13 a14 a15 a16 a17 a18 a19 S) (ws' := cMd K a0 a1 a2 a3 a4 a5 a6 a7 a8 a9 a10 a11 a12 a13 a14 a15 a16 a17 a18 a19 S) (ov := some (.int (fX8_bound p1 (1 : Int32) (7 : Int32)))) X hh hl (kX8_bound l K p1 (1 : Int32) (7 : Int32) (fX8_bound p1 (1 : Int32) (7 : Int32)) rfl) (fun ht => va_cwS 3 ht gX8_can_X8_bound rfl rfl rfl hdX8_bound ⟨Nat.le_of_ble_eq_true rfl, Nat.le_of_ble_eq_true rfl⟩) [] [0, 1, 2, 3, 4, 5, 6, 7, 8, 9, 10, 11, 12, 13, 14, 15, 16, 17, 18, 19] [0, 1, 2, 3, 4, 5, 6, 7, 8, 9, 10, 11, 12, 13, 14, 15, 16, 17, 18, 19] rfl rfl rfl rfl (by decide) rfl rfl rfl rfl (Nat.le_of_ble_eq_true rfl) dX8_can_18 ⟨Nat.zero_le _, Nat.zero_le _⟩ (fun H locs hh => ?_)
    exact hJ21 p1 p2 (fX8_bound p1 (1 : Int32) (7 : Int32)) S H locs ls hf (lv_sub hl [0, 1, 2] rfl) hh
  · replace hf := (if_pos c10).symm.trans hf
    refine lv_bipush (v := (-2 : Int32)) hx hb dX8_can_9 (by decide) ?_
    refine lv_goto (tgt := 21) hx hb dX8_can_11 (by decide) ?_
    exact hJ21 p1 p2 (-2 : Int32) S H locs ls hf (lv_sub hl [0, 1, 2] rfl) hh
def fX8_comesToIn1_j57 (S : zMd) (v1 : Int32) (v2 : Int32) (v3 : Int32) (k21 : (Int32) → Option (Int32)) : Option (Int32) :=
  k21 (v3 + (1 : Int32))
def fX8_comesToIn1_l21 (S : zMd) (v1 : Int32) (v2 : Int32) (k2 : (Int32) → Option (Int32)) : Nat → (Int32) → Option (Int32)
  | 0, _ => none
  | n + 1, v3 =>
  if (md_houses S) ≤ v3 then
  (k2 (v2 + (1 : Int32)))
  else
  (ix 12 v2 (ix 12 v3 (if (((md_number S) v2.toNatClampNeg) + ((md_number S) v3.toNatClampNeg)) = v1 then
  ((fX8_canBe S v2 v3).bind fun u5 =>
  if u5 = (0 : Int32) then
  (fX8_comesToIn1_j57 S v1 v2 v3 (fX8_comesToIn1_l21 S v1 v2 k2 n))
  else
  (some (1 : Int32)))
  else
  (fX8_comesToIn1_j57 S v1 v2 v3 (fX8_comesToIn1_l21 S v1 v2 k2 n)))))
def fX8_comesToIn1_l2 (S : zMd) (v1 : Int32) : Nat → (Int32) → Option (Int32)
  | 0, _ => none
  | n + 1, v2 =>
  if (md_houses S) ≤ v2 then
  (some (0 : Int32))
  else
  (if (12 : Int32) ≤ (md_houses S) then
  (some (0 : Int32))
  else
  (fX8_comesToIn1_l21 S v1 v2 (fX8_comesToIn1_l2 S v1 n) FU v2))
def fX8_comesToIn1 (S : zMd) (p1 : Int32) : Option (Int32) :=
  fX8_comesToIn1_l2 S p1 FU (0 : Int32)
theorem inX8_comesToIn1_X8 : ∀ w ∈ wsX80, w ∈ wsX8_comesToIn1 := by decide +kernel
theorem mmX8_comesToIn1_0 : Cond.fieldLink RX8 70 "SumOfTwoThatStandModel" "houses" "I" ∈ wsX8_comesToIn1 := by decide +kernel
theorem mmX8_comesToIn1_1 : Cond.fieldLink RX8 13 "SumOfTwoThatStandModel" "number" "[I" ∈ wsX8_comesToIn1 := by decide +kernel
theorem hdX8_comesToIn1 : yX8_comesToIn1.cls ≠ "java/lang/invoke/MethodHandle" ∧ yX8_comesToIn1.cls ≠ "java/lang/invoke/VarHandle" ∧ (parseMethodDescriptor yX8_comesToIn1.desc).map (fun d => d.parameters.length) = some 1 := by decide +kernel
set_option maxHeartbeats 4000000 in
set_option maxRecDepth 100000 in
theorem kX8_comesToIn1 (l : Launch) (K : zK) (a0 a1 a2 a3 a4 a5 a6 a7 a8 a9 a10 a11 a12 a13 a14 a15 a16 a17 a18 a19 : Nat) (S : zMd) (p1 : Int32) (R : Int32) (hf : fX8_comesToIn1 S p1 = some R) : zC l yX8_comesToIn1 wsX8_comesToIn1 ({ frames := 4, cells := 0, slots := 0, locals := 89 } : Room) K [.ref a0, .int p1] (cMd K a0 a1 a2 a3 a4 a5 a6 a7 a8 a9 a10 a11 a12 a13 a14 a15 a16 a17 a18 a19 S) (some (.int R)) (cMd K a0 a1 a2 a3 a4 a5 a6 a7 a8 a9 a10 a11 a12 a13 a14 a15 a16 a17 a18 a19 S) := by
  refine zC_z .boolean R (cc := cX8_comesToIn1) (maxL := 4) (by decide +kernel) rfl (Nat.le_of_ble_eq_true rfl) rfl rfl ?_
  intro p e s m below meth c Q A X hret ls hl hh
  have X : zX p m c cX8_comesToIn1 4 s ([.ref a0, .int p1] : List Value).toArray wsX8_comesToIn1 RX8 K A := X
  have hx := X.1.1
  have hb := X.1.2.1
  have hr2 : ∀ (pc : Nat) (ls : Array Slot) (H : Heap) (locs : List Loc) (v : Int32), some v = some R → narrow .boolean (.int v) = .int v → decode cX8_comesToIn1 pc = .ok (.ireturn, 1) → zW K A s H locs (cMd K a0 a1 a2 a3 a4 a5 a6 a7 a8 a9 a10 a11 a12 a13 a14 a15 a16 a17 a18 a19 S) → W p l e ({ frames := 4, cells := 0, slots := 0, locals := 89 } : Room) s m ([.ref a0, .int p1] : List Value).toArray below meth c H locs 0 0 Q (F0 m pc ls [.int v]) := by
    intro pc ls H locs v h hn hd hh
    cases h; exact hret pc ls H locs _ rfl hn hd hh
  have hl : lv_has ls 4 [(0, .ref a0), (1, .int p1)] := hl
  have hJ57 : ∀ (v1 : Int32) (v2 : Int32) (v3 : Int32) (k21 : (Int32) → Option (Int32)), (∀ (v3 : Int32) (H : Heap) (locs : List Loc) (ls : Array Slot), k21 v3 = some R → lv_has ls 4 [(0, .ref a0), (1, .int v1), (2, .int v2), (3, .int v3)] → zW K A s H locs (cMd K a0 a1 a2 a3 a4 a5 a6 a7 a8 a9 a10 a11 a12 a13 a14 a15 a16 a17 a18 a19 S) → W p l e ({ frames := 4, cells := 0, slots := 0, locals := 89 } : Room) s m ([.ref a0, .int p1] : List Value).toArray below meth c H locs 0 0 Q (F0 m 21 ls [])) → ∀ (H : Heap) (locs : List Loc) (ls : Array Slot), fX8_comesToIn1_j57 S v1 v2 v3 k21 = some R → lv_has ls 4 [(0, .ref a0), (1, .int v1), (2, .int v2), (3, .int v3)] → zW K A s H locs (cMd K a0 a1 a2 a3 a4 a5 a6 a7 a8 a9 a10 a11 a12 a13 a14 a15 a16 a17 a18 a19 S) → W p l e ({ frames := 4, cells := 0, slots := 0, locals := 89 } : Room) s m ([.ref a0, .int p1] : List Value).toArray below meth c H locs 0 0 Q (F0 m 57 ls []) := by
    intro v1 v2 v3 k21 hk21 H locs ls hf hl hh
    unfold fX8_comesToIn1_j57 at hf
    refine lv_iinc (v := (v3 + (1 : Int32))) (lv' := [(3, .int (v3 + (1 : Int32))), (0, .ref a0), (1, .int v1), (2, .int v2)]) hx hb dX8_comesToIn1_57 hl (k := 3) rfl rfl (by decide) rfl (fun ls hl => ?_)
    refine lv_goto (tgt := 21) hx hb dX8_comesToIn1_60 (by decide) ?_
    exact hk21 (v3 + (1 : Int32)) H locs ls hf (lv_sub hl [1, 2, 3, 0] rfl) hh
  have hL21 : ∀ (v1 : Int32) (v2 : Int32) (k2 : (Int32) → Option (Int32)), (∀ (v2 : Int32) (H : Heap) (locs : List Loc) (ls : Array Slot), k2 v2 = some R → lv_has ls 4 [(0, .ref a0), (1, .int v1), (2, .int v2)] → zW K A s H locs (cMd K a0 a1 a2 a3 a4 a5 a6 a7 a8 a9 a10 a11 a12 a13 a14 a15 a16 a17 a18 a19 S) → W p l e ({ frames := 4, cells := 0, slots := 0, locals := 89 } : Room) s m ([.ref a0, .int p1] : List Value).toArray below meth c H locs 0 0 Q (F0 m 2 ls [])) → ∀ (n : Nat) (v3 : Int32), ∀ (H : Heap) (locs : List Loc) (ls : Array Slot), fX8_comesToIn1_l21 S v1 v2 k2 n v3 = some R → lv_has ls 4 [(0, .ref a0), (1, .int v1), (2, .int v2), (3, .int v3)] → zW K A s H locs (cMd K a0 a1 a2 a3 a4 a5 a6 a7 a8 a9 a10 a11 a12 a13 a14 a15 a16 a17 a18 a19 S) → W p l e ({ frames := 4, cells := 0, slots := 0, locals := 89 } : Room) s m ([.ref a0, .int p1] : List Value).toArray below meth c H locs 0 0 Q (F0 m 21 ls []) := by
    intro v1 v2 k2 hk2 n
    induction n with
    | zero =>
      intro v3 H locs ls hf hl hh
      rw [fX8_comesToIn1_l21] at hf; cases hf
    | succ n ih =>
      intro v3 H locs ls hf hl hh
      rw [fX8_comesToIn1_l21] at hf
      refine lv_iload_n hx hb dX8_comesToIn1_21 rfl (lv_at hl 3 rfl) ?_
      refine lv_aload_n hx hb dX8_comesToIn1_22 rfl (lv_at hl 0 rfl) ?_
      refine zget (v := .int (md_houses S)) (ref := "SumOfTwoThatStandModel") (C := RX8) (T := TX8) (N := 33) (index := 70) X hh inX8_comesToIn1_X8 0 rfl rfl 9 (by decide) mmX8_comesToIn1_0 rfl rfl dX8_comesToIn1_23 ?_
      refine lv_icmp_ge (tgt := 63) hx hb dX8_comesToIn1_26 (by decide) (fun c1 => ?_) (fun c1 => ?_)
      · replace hf := (if_pos c1).symm.trans hf
        refine lv_iinc (v := (v2 + (1 : Int32))) (lv' := [(2, .int (v2 + (1 : Int32))), (0, .ref a0), (1, .int v1), (3, .int v3)]) hx hb dX8_comesToIn1_63 hl (k := 2) rfl rfl (by decide) rfl (fun ls hl => ?_)
        refine lv_goto (tgt := 2) hx hb dX8_comesToIn1_66 (by decide) ?_
        exact hk2 (v2 + (1 : Int32)) H locs ls hf (lv_sub hl [1, 2, 0] rfl) hh
      · replace hf := (if_neg c1).symm.trans hf
        refine lv_aload_n hx hb dX8_comesToIn1_29 rfl (lv_at hl 0 rfl) ?_
        refine zget (v := .ref a2) (ref := "SumOfTwoThatStandModel") (C := RX8) (T := TX8) (N := 33) (index := 13) X hh inX8_comesToIn1_X8 0 rfl rfl 1 (by decide) mmX8_comesToIn1_1 rfl rfl dX8_comesToIn1_30 ?_
        refine lv_iload_n hx hb dX8_comesToIn1_33 rfl (lv_at hl 2 rfl) ?_
        obtain ⟨g2, hf⟩ := ob_ix hf
        refine ziald (f := (md_number S)) X hh 2 rfl g2 dX8_comesToIn1_34 ?_
        refine lv_aload_n hx hb dX8_comesToIn1_35 rfl (lv_at hl 0 rfl) ?_
        refine zget (v := .ref a2) (ref := "SumOfTwoThatStandModel") (C := RX8) (T := TX8) (N := 33) (index := 13) X hh inX8_comesToIn1_X8 0 rfl rfl 1 (by decide) mmX8_comesToIn1_1 rfl rfl dX8_comesToIn1_36 ?_
        refine lv_iload_n hx hb dX8_comesToIn1_39 rfl (lv_at hl 3 rfl) ?_
        obtain ⟨g3, hf⟩ := ob_ix hf
        refine ziald (f := (md_number S)) X hh 2 rfl g3 dX8_comesToIn1_40 ?_
        refine lv_iadd hx hb dX8_comesToIn1_41 ?_
        refine lv_iload_n hx hb dX8_comesToIn1_42 rfl (lv_at hl 1 rfl) ?_
        refine lv_icmp_ne (tgt := 57) hx hb dX8_comesToIn1_43 (by decide) (fun c4 => ?_) (fun c4 => ?_)
        · replace hf := (if_neg c4).symm.trans hf
          exact hJ57 v1 v2 v3 (fX8_comesToIn1_l21 S v1 v2 k2 n) (ih) H locs ls hf (lv_sub hl [0, 1, 2, 3] rfl) hh
        · replace hf := (if_pos c4).symm.trans hf
          refine lv_aload_n hx hb dX8_comesToIn1_46 rfl (lv_at hl 0 rfl) ?_
          refine lv_iload_n hx hb dX8_comesToIn1_47 rfl (lv_at hl 2 rfl) ?_
          refine lv_iload_n hx hb dX8_comesToIn1_48 rfl (lv_at hl 3 rfl) ?_
          obtain ⟨u5, hu5, hf⟩ := ob_bind hf
          refine zcallV (ci := 7) (q0 := 0) (As := [.int v2, .int v3]) (rest := []) (wr := []) (ws' := cMd K a0 a1 a2 a3 a4 a5 a6 a7 a8 a9 a10 a11 a12 a13 a14 a15 a16 a17 a18 a19 S) (ov := some (.int u5)) X hh hl (kX8_canBe l K a0 a1 a2 a3 a4 a5 a6 a7 a8 a9 a10 a11 a12 a13 a14 a15 a16 a17 a18 a19 S v2 v3 u5 hu5) (fun ht => cwV 2 ht gX8_comesToIn1_X8_canBe rfl rfl rfl ⟨rfl, hdX8_canBe⟩ ⟨Nat.le_of_ble_eq_true rfl, Nat.le_of_ble_eq_true rfl⟩) [0, 1, 2, 3, 4, 5, 6, 7, 8, 9, 10, 11, 12, 13, 14, 15, 16, 17, 18, 19] [] [0, 1, 2, 3, 4, 5, 6, 7, 8, 9, 10, 11, 12, 13, 14, 15, 16, 17, 18, 19] rfl rfl rfl rfl (by decide) rfl rfl rfl rfl rfl rfl (Nat.le_of_ble_eq_true rfl) dX8_comesToIn1_49 ⟨Nat.zero_le _, Nat.zero_le _⟩ (fun H locs hh => ?_)
          refine lv_if_eq (tgt := 57) hx hb dX8_comesToIn1_52 (by decide) (fun c6 => ?_) (fun c6 => ?_)
          · replace hf := (if_pos c6).symm.trans hf
            exact hJ57 v1 v2 v3 (fX8_comesToIn1_l21 S v1 v2 k2 n) (ih) H locs ls hf (lv_sub hl [0, 1, 2, 3] rfl) hh
          · replace hf := (if_neg c6).symm.trans hf
            refine lv_iconst (v := (1 : Int32)) hx hb dX8_comesToIn1_55 (by decide) ?_
            exact hr2 56 ls H locs (1 : Int32) hf rfl dX8_comesToIn1_56 hh
  have hL2 : ∀ (v1 : Int32), ∀ (n : Nat) (v2 : Int32), ∀ (H : Heap) (locs : List Loc) (ls : Array Slot), fX8_comesToIn1_l2 S v1 n v2 = some R → lv_has ls 4 [(0, .ref a0), (1, .int v1), (2, .int v2)] → zW K A s H locs (cMd K a0 a1 a2 a3 a4 a5 a6 a7 a8 a9 a10 a11 a12 a13 a14 a15 a16 a17 a18 a19 S) → W p l e ({ frames := 4, cells := 0, slots := 0, locals := 89 } : Room) s m ([.ref a0, .int p1] : List Value).toArray below meth c H locs 0 0 Q (F0 m 2 ls []) := by
    intro v1 n
    induction n with
    | zero =>
      intro v2 H locs ls hf hl hh
      rw [fX8_comesToIn1_l2] at hf; cases hf
    | succ n ih =>
      intro v2 H locs ls hf hl hh
      rw [fX8_comesToIn1_l2] at hf
      refine lv_iload_n hx hb dX8_comesToIn1_2 rfl (lv_at hl 2 rfl) ?_
      refine lv_aload_n hx hb dX8_comesToIn1_3 rfl (lv_at hl 0 rfl) ?_
      refine zget (v := .int (md_houses S)) (ref := "SumOfTwoThatStandModel") (C := RX8) (T := TX8) (N := 33) (index := 70) X hh inX8_comesToIn1_X8 0 rfl rfl 9 (by decide) mmX8_comesToIn1_0 rfl rfl dX8_comesToIn1_4 ?_
      refine lv_icmp_ge (tgt := 69) hx hb dX8_comesToIn1_7 (by decide) (fun c7 => ?_) (fun c7 => ?_)
      · replace hf := (if_pos c7).symm.trans hf
        refine lv_iconst (v := (0 : Int32)) hx hb dX8_comesToIn1_69 (by decide) ?_
        exact hr2 70 ls H locs (0 : Int32) hf rfl dX8_comesToIn1_70 hh
      · replace hf := (if_neg c7).symm.trans hf
        refine lv_aload_n hx hb dX8_comesToIn1_10 rfl (lv_at hl 0 rfl) ?_
        refine zget (v := .int (md_houses S)) (ref := "SumOfTwoThatStandModel") (C := RX8) (T := TX8) (N := 33) (index := 70) X hh inX8_comesToIn1_X8 0 rfl rfl 9 (by decide) mmX8_comesToIn1_0 rfl rfl dX8_comesToIn1_11 ?_
        refine lv_bipush (v := (12 : Int32)) hx hb dX8_comesToIn1_14 (by decide) ?_
        refine lv_icmp_ge (tgt := 69) hx hb dX8_comesToIn1_16 (by decide) (fun c8 => ?_) (fun c8 => ?_)
        · replace hf := (if_pos c8).symm.trans hf
          refine lv_iconst (v := (0 : Int32)) hx hb dX8_comesToIn1_69 (by decide) ?_
          exact hr2 70 ls H locs (0 : Int32) hf rfl dX8_comesToIn1_70 hh
        · replace hf := (if_neg c8).symm.trans hf
          refine lv_iload_n hx hb dX8_comesToIn1_19 rfl (lv_at hl 2 rfl) ?_
          refine lv_istore_n (lv' := [(3, .int v2), (0, .ref a0), (1, .int v1), (2, .int v2)]) hx hb dX8_comesToIn1_20 rfl hl (by decide) rfl (fun ls hl => ?_)
          exact hL21 v1 v2 (fX8_comesToIn1_l2 S v1 n) (ih) FU v2 H locs ls hf (lv_sub hl [1, 2, 3, 0] rfl) hh
  unfold fX8_comesToIn1 at hf
  refine (fun (hmain : ∀ (H : Heap) (locs : List Loc), zW K A s H locs (cMd K a0 a1 a2 a3 a4 a5 a6 a7 a8 a9 a10 a11 a12 a13 a14 a15 a16 a17 a18 a19 S) → W p l e ({ frames := 4, cells := 0, slots := 0, locals := 89 } : Room) s m ([.ref a0, .int p1] : List Value).toArray below meth c H locs 0 0 Q (F0 m 0 ls [])) => hmain s.heap [] hh) (fun H locs hh => ?_)
  refine lv_iconst (v := (0 : Int32)) hx hb dX8_comesToIn1_0 (by decide) ?_
  refine lv_istore_n (lv' := [(2, .int (0 : Int32)), (0, .ref a0), (1, .int p1)]) hx hb dX8_comesToIn1_1 rfl hl (by decide) rfl (fun ls hl => ?_)
  exact hL2 p1 FU (0 : Int32) H locs ls hf (lv_sub hl [1, 2, 0] rfl) hh
def fX8_comesToIn2_j88 (v1 : Int32) (v2 : Int32) (v3 : Int32) (v4 : Int32) (S : zMd) (k10 : (Int32) → (Int32) → (zMd) → Option (Int32 × zMd)) : Option (Int32 × zMd) :=
  k10 v2 (v4 + (1 : Int32)) S
def fX8_comesToIn2_j82 (v1 : Int32) (v2 : Int32) (v3 : Int32) (v4 : Int32) (v5 : Int32) (S : zMd) (k30 : (Int32) → (Int32) → (zMd) → Option (Int32 × zMd)) : Option (Int32 × zMd) :=
  k30 v2 (v5 + (1 : Int32)) S
def fX8_comesToIn2_l30 (v1 : Int32) (v3 : Int32) (v4 : Int32) (k10 : (Int32) → (Int32) → (zMd) → Option (Int32 × zMd)) : Nat → (Int32) → (Int32) → (zMd) → Option (Int32 × zMd)
  | 0, _, _, _ => none
  | n + 1, v2, v5, S =>
  if v3 ≤ v5 then
  (fX8_comesToIn2_j88 v1 v2 v3 v4 S (k10))
  else
  (if v2 = (0 : Int32) then
  ((fX8_canBe S v4 v5).bind fun u3 =>
  if u3 = (0 : Int32) then
  (fX8_comesToIn2_j82 v1 v2 v3 v4 v5 S (fX8_comesToIn2_l30 v1 v3 v4 k10 n))
  else
  ((fX8_passesAll S (2 : Int32) (1 : Int32)).bind fun u5 =>
  (fX8_builds u5 v4 v5 (0 : Int32) (0 : Int32)).bind fun u6 =>
  (fX8_comesToIn1 u6 v1).bind fun u7 =>
  (fX8_passesAll u6 (2 : Int32) (0 : Int32)).bind fun u8 =>
  fX8_comesToIn2_j82 v1 u7 v3 v4 v5 u8 (fX8_comesToIn2_l30 v1 v3 v4 k10 n)))
  else
  (fX8_comesToIn2_j88 v1 v2 v3 v4 S (k10)))
def fX8_comesToIn2_l10 (v1 : Int32) (v3 : Int32) : Nat → (Int32) → (Int32) → (zMd) → Option (Int32 × zMd)
  | 0, _, _, _ => none
  | n + 1, v2, v4, S =>
  if v3 ≤ v4 then
  (if v2 &&& 1 = v2 then some (v2, S) else none)
  else
  (if (12 : Int32) ≤ v3 then
  (if v2 &&& 1 = v2 then some (v2, S) else none)
  else
  (if v2 = (0 : Int32) then
  (fX8_comesToIn2_l30 v1 v3 v4 (fX8_comesToIn2_l10 v1 v3 n) FU v2 v4 S)
  else
  (if v2 &&& 1 = v2 then some (v2, S) else none)))
def fX8_comesToIn2 (S : zMd) (p1 : Int32) : Option (Int32 × zMd) :=
  fX8_comesToIn2_l10 p1 (md_houses S) FU (0 : Int32) (0 : Int32) S
theorem inX8_comesToIn2_X8 : ∀ w ∈ wsX80, w ∈ wsX8_comesToIn2 := by decide +kernel
theorem mmX8_comesToIn2_0 : Cond.fieldLink RX8 70 "SumOfTwoThatStandModel" "houses" "I" ∈ wsX8_comesToIn2 := by decide +kernel
theorem hdX8_comesToIn2 : yX8_comesToIn2.cls ≠ "java/lang/invoke/MethodHandle" ∧ yX8_comesToIn2.cls ≠ "java/lang/invoke/VarHandle" ∧ (parseMethodDescriptor yX8_comesToIn2.desc).map (fun d => d.parameters.length) = some 1 := by decide +kernel
set_option maxHeartbeats 4000000 in
set_option maxRecDepth 100000 in
theorem kX8_comesToIn2 (l : Launch) (K : zK) (a0 a1 a2 a3 a4 a5 a6 a7 a8 a9 a10 a11 a12 a13 a14 a15 a16 a17 a18 a19 : Nat) (S : zMd) (p1 : Int32) (R : Int32 × zMd) (hf : fX8_comesToIn2 S p1 = some R) : zC l yX8_comesToIn2 wsX8_comesToIn2 ({ frames := 5, cells := 0, slots := 0, locals := 112 } : Room) K [.ref a0, .int p1] (cMd K a0 a1 a2 a3 a4 a5 a6 a7 a8 a9 a10 a11 a12 a13 a14 a15 a16 a17 a18 a19 S) (some (.int R.1)) (cMd K a0 a1 a2 a3 a4 a5 a6 a7 a8 a9 a10 a11 a12 a13 a14 a15 a16 a17 a18 a19 R.2) := by
  refine zC_z .boolean R.1 (cc := cX8_comesToIn2) (maxL := 6) (by decide +kernel) rfl (Nat.le_of_ble_eq_true rfl) rfl rfl ?_
  intro p e s m below meth c Q A X hret ls hl hh
  have X : zX p m c cX8_comesToIn2 6 s ([.ref a0, .int p1] : List Value).toArray wsX8_comesToIn2 RX8 K A := X
  have hx := X.1.1
  have hb := X.1.2.1
  have hr2 : ∀ (pc : Nat) (ls : Array Slot) (H : Heap) (locs : List Loc) (v : Int32) (S : zMd), some (v, S) = some R → narrow .boolean (.int v) = .int v → decode cX8_comesToIn2 pc = .ok (.ireturn, 1) → zW K A s H locs (cMd K a0 a1 a2 a3 a4 a5 a6 a7 a8 a9 a10 a11 a12 a13 a14 a15 a16 a17 a18 a19 S) → W p l e ({ frames := 5, cells := 0, slots := 0, locals := 112 } : Room) s m ([.ref a0, .int p1] : List Value).toArray below meth c H locs 0 0 Q (F0 m pc ls [.int v]) := by
    intro pc ls H locs v S h hn hd hh
    cases h; exact hret pc ls H locs _ rfl hn hd hh
  have hl : lv_has ls 6 [(0, .ref a0), (1, .int p1)] := hl
  have hJ88 : ∀ (v1 : Int32) (v2 : Int32) (v3 : Int32) (v4 : Int32) (S : zMd) (k10 : (Int32) → (Int32) → (zMd) → Option (Int32 × zMd)), (∀ (v2 : Int32) (v4 : Int32) (S : zMd) (H : Heap) (locs : List Loc) (ls : Array Slot), k10 v2 v4 S = some R → lv_has ls 6 [(0, .ref a0), (1, .int v1), (2, .int v2), (3, .int v3), (4, .int v4)] → zW K A s H locs (cMd K a0 a1 a2 a3 a4 a5 a6 a7 a8 a9 a10 a11 a12 a13 a14 a15 a16 a17 a18 a19 S) → W p l e ({ frames := 5, cells := 0, slots := 0, locals := 112 } : Room) s m ([.ref a0, .int p1] : List Value).toArray below meth c H locs 0 0 Q (F0 m 10 ls [])) → ∀ (H : Heap) (locs : List Loc) (ls : Array Slot), fX8_comesToIn2_j88 v1 v2 v3 v4 S k10 = some R → lv_has ls 6 [(0, .ref a0), (1, .int v1), (2, .int v2), (3, .int v3), (4, .int v4)] → zW K A s H locs (cMd K a0 a1 a2 a3 a4 a5 a6 a7 a8 a9 a10 a11 a12 a13 a14 a15 a16 a17 a18 a19 S) → W p l e ({ frames := 5, cells := 0, slots := 0, locals := 112 } : Room) s m ([.ref a0, .int p1] : List Value).toArray below meth c H locs 0 0 Q (F0 m 88 ls []) := by
    intro v1 v2 v3 v4 S k10 hk10 H locs ls hf hl hh
    unfold fX8_comesToIn2_j88 at hf
    refine lv_iinc (v := (v4 + (1 : Int32))) (lv' := [(4, .int (v4 + (1 : Int32))), (0, .ref a0), (1, .int v1), (2, .int v2), (3, .int v3)]) hx hb dX8_comesToIn2_88 hl (k := 4) rfl rfl (by decide) rfl (fun ls hl => ?_)
    refine lv_goto (tgt := 10) hx hb dX8_comesToIn2_91 (by decide) ?_
    exact hk10 v2 (v4 + (1 : Int32)) S H locs ls hf (lv_sub hl [1, 2, 3, 4, 0] rfl) hh
  have hJ82 : ∀ (v1 : Int32) (v2 : Int32) (v3 : Int32) (v4 : Int32) (v5 : Int32) (S : zMd) (k30 : (Int32) → (Int32) → (zMd) → Option (Int32 × zMd)), (∀ (v2 : Int32) (v5 : Int32) (S : zMd) (H : Heap) (locs : List Loc) (ls : Array Slot), k30 v2 v5 S = some R → lv_has ls 6 [(0, .ref a0), (1, .int v1), (2, .int v2), (3, .int v3), (4, .int v4), (5, .int v5)] → zW K A s H locs (cMd K a0 a1 a2 a3 a4 a5 a6 a7 a8 a9 a10 a11 a12 a13 a14 a15 a16 a17 a18 a19 S) → W p l e ({ frames := 5, cells := 0, slots := 0, locals := 112 } : Room) s m ([.ref a0, .int p1] : List Value).toArray below meth c H locs 0 0 Q (F0 m 30 ls [])) → ∀ (H : Heap) (locs : List Loc) (ls : Array Slot), fX8_comesToIn2_j82 v1 v2 v3 v4 v5 S k30 = some R → lv_has ls 6 [(0, .ref a0), (1, .int v1), (2, .int v2), (3, .int v3), (4, .int v4), (5, .int v5)] → zW K A s H locs (cMd K a0 a1 a2 a3 a4 a5 a6 a7 a8 a9 a10 a11 a12 a13 a14 a15 a16 a17 a18 a19 S) → W p l e ({ frames := 5, cells := 0, slots := 0, locals := 112 } : Room) s m ([.ref a0, .int p1] : List Value).toArray below meth c H locs 0 0 Q (F0 m 82 ls []) := by
    intro v1 v2 v3 v4 v5 S k30 hk30 H locs ls hf hl hh
    unfold fX8_comesToIn2_j82 at hf
    refine lv_iinc (v := (v5 + (1 : Int32))) (lv' := [(5, .int (v5 + (1 : Int32))), (0, .ref a0), (1, .int v1), (2, .int v2), (3, .int v3), (4, .int v4)]) hx hb dX8_comesToIn2_82 hl (k := 5) rfl rfl (by decide) rfl (fun ls hl => ?_)
    refine lv_goto (tgt := 30) hx hb dX8_comesToIn2_85 (by decide) ?_
    exact hk30 v2 (v5 + (1 : Int32)) S H locs ls hf (lv_sub hl [1, 2, 3, 4, 5, 0] rfl) hh
  have hL30 : ∀ (v1 : Int32) (v3 : Int32) (v4 : Int32) (k10 : (Int32) → (Int32) → (zMd) → Option (Int32 × zMd)), (∀ (v2 : Int32) (v4 : Int32) (S : zMd) (H : Heap) (locs : List Loc) (ls : Array Slot), k10 v2 v4 S = some R → lv_has ls 6 [(0, .ref a0), (1, .int v1), (2, .int v2), (3, .int v3), (4, .int v4)] → zW K A s H locs (cMd K a0 a1 a2 a3 a4 a5 a6 a7 a8 a9 a10 a11 a12 a13 a14 a15 a16 a17 a18 a19 S) → W p l e ({ frames := 5, cells := 0, slots := 0, locals := 112 } : Room) s m ([.ref a0, .int p1] : List Value).toArray below meth c H locs 0 0 Q (F0 m 10 ls [])) → ∀ (n : Nat) (v2 : Int32) (v5 : Int32) (S : zMd), ∀ (H : Heap) (locs : List Loc) (ls : Array Slot), fX8_comesToIn2_l30 v1 v3 v4 k10 n v2 v5 S = some R → lv_has ls 6 [(0, .ref a0), (1, .int v1), (2, .int v2), (3, .int v3), (4, .int v4), (5, .int v5)] → zW K A s H locs (cMd K a0 a1 a2 a3 a4 a5 a6 a7 a8 a9 a10 a11 a12 a13 a14 a15 a16 a17 a18 a19 S) → W p l e ({ frames := 5, cells := 0, slots := 0, locals := 112 } : Room) s m ([.ref a0, .int p1] : List Value).toArray below meth c H locs 0 0 Q (F0 m 30 ls []) := by
    intro v1 v3 v4 k10 hk10 n
    induction n with
    | zero =>
      intro v2 v5 S H locs ls hf hl hh
      rw [fX8_comesToIn2_l30] at hf; cases hf
    | succ n ih =>
      intro v2 v5 S H locs ls hf hl hh
      rw [fX8_comesToIn2_l30] at hf
      refine lv_iload hx hb dX8_comesToIn2_30 (lv_at hl 5 rfl) ?_
      refine lv_iload_n hx hb dX8_comesToIn2_32 rfl (lv_at hl 3 rfl) ?_
      refine lv_icmp_ge (tgt := 88) hx hb dX8_comesToIn2_33 (by decide) (fun c1 => ?_) (fun c1 => ?_)
      · replace hf := (if_pos c1).symm.trans hf
        exact hJ88 v1 v2 v3 v4 S (k10) (hk10) H locs ls hf (lv_sub hl [0, 1, 2, 3, 4] rfl) hh
      · replace hf := (if_neg c1).symm.trans hf
        refine lv_iload_n hx hb dX8_comesToIn2_36 rfl (lv_at hl 2 rfl) ?_
        refine lv_if_ne (tgt := 88) hx hb dX8_comesToIn2_37 (by decide) (fun c2 => ?_) (fun c2 => ?_)
        · replace hf := (if_neg c2).symm.trans hf
          exact hJ88 v1 v2 v3 v4 S (k10) (hk10) H locs ls hf (lv_sub hl [0, 1, 2, 3, 4] rfl) hh
        · replace hf := (if_pos c2).symm.trans hf
          refine lv_aload_n hx hb dX8_comesToIn2_40 rfl (lv_at hl 0 rfl) ?_
          refine lv_iload hx hb dX8_comesToIn2_41 (lv_at hl 4 rfl) ?_
          refine lv_iload hx hb dX8_comesToIn2_43 (lv_at hl 5 rfl) ?_
          obtain ⟨u3, hu3, hf⟩ := ob_bind hf
          refine zcallV (ci := 7) (q0 := 0) (As := [.int v4, .int v5]) (rest := []) (wr := []) (ws' := cMd K a0 a1 a2 a3 a4 a5 a6 a7 a8 a9 a10 a11 a12 a13 a14 a15 a16 a17 a18 a19 S) (ov := some (.int u3)) X hh hl (kX8_canBe l K a0 a1 a2 a3 a4 a5 a6 a7 a8 a9 a10 a11 a12 a13 a14 a15 a16 a17 a18 a19 S v4 v5 u3 hu3) (fun ht => cwV 2 ht gX8_comesToIn2_X8_canBe rfl rfl rfl ⟨rfl, hdX8_canBe⟩ ⟨Nat.le_of_ble_eq_true rfl, Nat.le_of_ble_eq_true rfl⟩) [0, 1, 2, 3, 4, 5, 6, 7, 8, 9, 10, 11, 12, 13, 14, 15, 16, 17, 18, 19] [] [0, 1, 2, 3, 4, 5, 6, 7, 8, 9, 10, 11, 12, 13, 14, 15, 16, 17, 18, 19] rfl rfl rfl rfl (by decide) rfl rfl rfl rfl rfl rfl (Nat.le_of_ble_eq_true rfl) dX8_comesToIn2_45 ⟨Nat.zero_le _, Nat.zero_le _⟩ (fun H locs hh => ?_)
          refine lv_if_ne (tgt := 54) hx hb dX8_comesToIn2_48 (by decide) (fun c4 => ?_) (fun c4 => ?_)
          · replace hf := (if_neg c4).symm.trans hf
            refine lv_aload_n hx hb dX8_comesToIn2_54 rfl (lv_at hl 0 rfl) ?_
            refine lv_iconst (v := (2 : Int32)) hx hb dX8_comesToIn2_55 (by decide) ?_
            refine lv_iconst (v := (1 : Int32)) hx hb dX8_comesToIn2_56 (by decide) ?_
            obtain ⟨u5, hu5, hf⟩ := ob_bind hf
            refine zcallV (ci := 7) (q0 := 0) (As := [.int (2 : Int32), .int (1 : Int32)]) (rest := []) (wr := []) (ws' := cMd K a0 a1 a2 a3 a4 a5 a6 a7 a8 a9 a10 a11 a12 a13 a14 a15 a16 a17 a18 a19 u5) (ov := none) X hh hl (kX8_passesAll l K a0 a1 a2 a3 a4 a5 a6 a7 a8 a9 a10 a11 a12 a13 a14 a15 a16 a17 a18 a19 S (2 : Int32) (1 : Int32) u5 hu5) (fun ht => cwV 2 ht gX8_comesToIn2_X8_passesAll rfl rfl rfl ⟨rfl, hdX8_passesAll⟩ ⟨Nat.le_of_ble_eq_true rfl, Nat.le_of_ble_eq_true rfl⟩) [0, 1, 2, 3, 4, 5, 6, 7, 8, 9, 10, 11, 12, 13, 14, 15, 16, 17, 18, 19] [] [0, 1, 2, 3, 4, 5, 6, 7, 8, 9, 10, 11, 12, 13, 14, 15, 16, 17, 18, 19] rfl rfl rfl rfl (by decide) rfl rfl rfl rfl rfl rfl (Nat.le_of_ble_eq_true rfl) dX8_comesToIn2_57 ⟨Nat.zero_le _, Nat.zero_le _⟩ (fun H locs hh => ?_)
            refine lv_aload_n hx hb dX8_comesToIn2_60 rfl (lv_at hl 0 rfl) ?_
            refine lv_iload hx hb dX8_comesToIn2_61 (lv_at hl 4 rfl) ?_
            refine lv_iload hx hb dX8_comesToIn2_63 (lv_at hl 5 rfl) ?_
            refine lv_iconst (v := (0 : Int32)) hx hb dX8_comesToIn2_65 (by decide) ?_
            refine lv_iconst (v := (0 : Int32)) hx hb dX8_comesToIn2_66 (by decide) ?_
            obtain ⟨u6, hu6, hf⟩ := ob_bind hf
            refine zcallV (ci := 7) (q0 := 0) (As := [.int v4, .int v5, .int (0 : Int32), .int (0 : Int32)]) (rest := []) (wr := []) (ws' := cMd K a0 a1 a2 a3 a4 a5 a6 a7 a8 a9 a10 a11 a12 a13 a14 a15 a16 a17 a18 a19 u6) (ov := none) X hh hl (kX8_builds l K a0 a1 a2 a3 a4 a5 a6 a7 a8 a9 a10 a11 a12 a13 a14 a15 a16 a17 a18 a19 u5 v4 v5 (0 : Int32) (0 : Int32) u6 hu6) (fun ht => cwV 4 ht gX8_comesToIn2_X8_builds rfl rfl rfl ⟨rfl, hdX8_builds⟩ ⟨Nat.le_of_ble_eq_true rfl, Nat.le_of_ble_eq_true rfl⟩) [0, 1, 2, 3, 4, 5, 6, 7, 8, 9, 10, 11, 12, 13, 14, 15, 16, 17, 18, 19] [] [0, 1, 2, 3, 4, 5, 6, 7, 8, 9, 10, 11, 12, 13, 14, 15, 16, 17, 18, 19] rfl rfl rfl rfl (by decide) rfl rfl rfl rfl rfl rfl (Nat.le_of_ble_eq_true rfl) dX8_comesToIn2_67 ⟨Nat.zero_le _, Nat.zero_le _⟩ (fun H locs hh => ?_)
            refine lv_aload_n hx hb dX8_comesToIn2_70 rfl (lv_at hl 0 rfl) ?_
            refine lv_iload_n hx hb dX8_comesToIn2_71 rfl (lv_at hl 1 rfl) ?_
            obtain ⟨u7, hu7, hf⟩ := ob_bind hf
            refine zcallV (ci := 7) (q0 := 0) (As := [.int v1]) (rest := []) (wr := []) (ws' := cMd K a0 a1 a2 a3 a4 a5 a6 a7 a8 a9 a10 a11 a12 a13 a14 a15 a16 a17 a18 a19 u6) (ov := some (.int u7)) X hh hl (kX8_comesToIn1 l K a0 a1 a2 a3 a4 a5 a6 a7 a8 a9 a10 a11 a12 a13 a14 a15 a16 a17 a18 a19 u6 v1 u7 hu7) (fun ht => cwV 1 ht gX8_comesToIn2_X8_comesToIn1 rfl rfl rfl ⟨rfl, hdX8_comesToIn1⟩ ⟨Nat.le_of_ble_eq_true rfl, Nat.le_of_ble_eq_true rfl⟩) [0, 1, 2, 3, 4, 5, 6, 7, 8, 9, 10, 11, 12, 13, 14, 15, 16, 17, 18, 19] [] [0, 1, 2, 3, 4, 5, 6, 7, 8, 9, 10, 11, 12, 13, 14, 15, 16, 17, 18, 19] rfl rfl rfl rfl (by decide) rfl rfl rfl rfl rfl rfl (Nat.le_of_ble_eq_true rfl) dX8_comesToIn2_72 ⟨Nat.zero_le _, Nat.zero_le _⟩ (fun H locs hh => ?_)
            refine lv_istore_n (lv' := [(2, .int u7), (0, .ref a0), (1, .int v1), (3, .int v3), (4, .int v4), (5, .int v5)]) hx hb dX8_comesToIn2_75 rfl hl (by decide) rfl (fun ls hl => ?_)
            refine lv_aload_n hx hb dX8_comesToIn2_76 rfl (lv_at hl 1 rfl) ?_
            refine lv_iconst (v := (2 : Int32)) hx hb dX8_comesToIn2_77 (by decide) ?_
            refine lv_iconst (v := (0 : Int32)) hx hb dX8_comesToIn2_78 (by decide) ?_
            obtain ⟨u8, hu8, hf⟩ := ob_bind hf
            refine zcallV (ci := 7) (q0 := 0) (As := [.int (2 : Int32), .int (0 : Int32)]) (rest := []) (wr := []) (ws' := cMd K a0 a1 a2 a3 a4 a5 a6 a7 a8 a9 a10 a11 a12 a13 a14 a15 a16 a17 a18 a19 u8) (ov := none) X hh hl (kX8_passesAll l K a0 a1 a2 a3 a4 a5 a6 a7 a8 a9 a10 a11 a12 a13 a14 a15 a16 a17 a18 a19 u6 (2 : Int32) (0 : Int32) u8 hu8) (fun ht => cwV 2 ht gX8_comesToIn2_X8_passesAll rfl rfl rfl ⟨rfl, hdX8_passesAll⟩ ⟨Nat.le_of_ble_eq_true rfl, Nat.le_of_ble_eq_true rfl⟩) [0, 1, 2, 3, 4, 5, 6, 7, 8, 9, 10, 11, 12, 13, 14, 15, 16, 17, 18, 19] [] [0, 1, 2, 3, 4, 5, 6, 7, 8, 9, 10, 11, 12, 13, 14, 15, 16, 17, 18, 19] rfl rfl rfl rfl (by decide) rfl rfl rfl rfl rfl rfl (Nat.le_of_ble_eq_true rfl) dX8_comesToIn2_79 ⟨Nat.zero_le _, Nat.zero_le _⟩ (fun H locs hh => ?_)
            exact hJ82 v1 u7 v3 v4 v5 u8 (fX8_comesToIn2_l30 v1 v3 v4 k10 n) (ih) H locs ls hf (lv_sub hl [1, 2, 0, 3, 4, 5] rfl) hh
          · replace hf := (if_pos c4).symm.trans hf
            refine lv_goto (tgt := 82) hx hb dX8_comesToIn2_51 (by decide) ?_
            exact hJ82 v1 v2 v3 v4 v5 S (fX8_comesToIn2_l30 v1 v3 v4 k10 n) (ih) H locs ls hf (lv_sub hl [0, 1, 2, 3, 4, 5] rfl) hh
  have hL10 : ∀ (v1 : Int32) (v3 : Int32), ∀ (n : Nat) (v2 : Int32) (v4 : Int32) (S : zMd), ∀ (H : Heap) (locs : List Loc) (ls : Array Slot), fX8_comesToIn2_l10 v1 v3 n v2 v4 S = some R → lv_has ls 6 [(0, .ref a0), (1, .int v1), (2, .int v2), (3, .int v3), (4, .int v4)] → zW K A s H locs (cMd K a0 a1 a2 a3 a4 a5 a6 a7 a8 a9 a10 a11 a12 a13 a14 a15 a16 a17 a18 a19 S) → W p l e ({ frames := 5, cells := 0, slots := 0, locals := 112 } : Room) s m ([.ref a0, .int p1] : List Value).toArray below meth c H locs 0 0 Q (F0 m 10 ls []) := by
    intro v1 v3 n
    induction n with
    | zero =>
      intro v2 v4 S H locs ls hf hl hh
      rw [fX8_comesToIn2_l10] at hf; cases hf
    | succ n ih =>
      intro v2 v4 S H locs ls hf hl hh
      rw [fX8_comesToIn2_l10] at hf
      refine lv_iload hx hb dX8_comesToIn2_10 (lv_at hl 4 rfl) ?_
      refine lv_iload_n hx hb dX8_comesToIn2_12 rfl (lv_at hl 3 rfl) ?_
      refine lv_icmp_ge (tgt := 94) hx hb dX8_comesToIn2_13 (by decide) (fun c9 => ?_) (fun c9 => ?_)
      · replace hf := (if_pos c9).symm.trans hf
        refine lv_iload_n hx hb dX8_comesToIn2_94 rfl (lv_at hl 2 rfl) ?_
        obtain ⟨g10, hf⟩ := ob_ck hf
        exact hr2 95 ls H locs v2 S hf (nar_ok g10) dX8_comesToIn2_95 hh
      · replace hf := (if_neg c9).symm.trans hf
        refine lv_iload_n hx hb dX8_comesToIn2_16 rfl (lv_at hl 3 rfl) ?_
        refine lv_bipush (v := (12 : Int32)) hx hb dX8_comesToIn2_17 (by decide) ?_
        refine lv_icmp_ge (tgt := 94) hx hb dX8_comesToIn2_19 (by decide) (fun c11 => ?_) (fun c11 => ?_)
        · replace hf := (if_pos c11).symm.trans hf
          refine lv_iload_n hx hb dX8_comesToIn2_94 rfl (lv_at hl 2 rfl) ?_
          obtain ⟨g12, hf⟩ := ob_ck hf
          exact hr2 95 ls H locs v2 S hf (nar_ok g12) dX8_comesToIn2_95 hh
        · replace hf := (if_neg c11).symm.trans hf
          refine lv_iload_n hx hb dX8_comesToIn2_22 rfl (lv_at hl 2 rfl) ?_
          refine lv_if_ne (tgt := 94) hx hb dX8_comesToIn2_23 (by decide) (fun c13 => ?_) (fun c13 => ?_)
          · replace hf := (if_neg c13).symm.trans hf
            refine lv_iload_n hx hb dX8_comesToIn2_94 rfl (lv_at hl 2 rfl) ?_
            obtain ⟨g14, hf⟩ := ob_ck hf
            exact hr2 95 ls H locs v2 S hf (nar_ok g14) dX8_comesToIn2_95 hh
          · replace hf := (if_pos c13).symm.trans hf
            refine lv_iload hx hb dX8_comesToIn2_26 (lv_at hl 4 rfl) ?_
            refine lv_istore (lv' := [(5, .int v4), (0, .ref a0), (1, .int v1), (2, .int v2), (3, .int v3), (4, .int v4)]) hx hb dX8_comesToIn2_28 hl (by decide) rfl (fun ls hl => ?_)
            exact hL30 v1 v3 v4 (fX8_comesToIn2_l10 v1 v3 n) (ih) FU v2 v4 S H locs ls hf (lv_sub hl [1, 2, 3, 4, 5, 0] rfl) hh
  unfold fX8_comesToIn2 at hf
  refine (fun (hmain : ∀ (H : Heap) (locs : List Loc), zW K A s H locs (cMd K a0 a1 a2 a3 a4 a5 a6 a7 a8 a9 a10 a11 a12 a13 a14 a15 a16 a17 a18 a19 S) → W p l e ({ frames := 5, cells := 0, slots := 0, locals := 112 } : Room) s m ([.ref a0, .int p1] : List Value).toArray below meth c H locs 0 0 Q (F0 m 0 ls [])) => hmain s.heap [] hh) (fun H locs hh => ?_)
  refine lv_iconst (v := (0 : Int32)) hx hb dX8_comesToIn2_0 (by decide) ?_
  refine lv_istore_n (lv' := [(2, .int (0 : Int32)), (0, .ref a0), (1, .int p1)]) hx hb dX8_comesToIn2_1 rfl hl (by decide) rfl (fun ls hl => ?_)
  refine lv_aload_n hx hb dX8_comesToIn2_2 rfl (lv_at hl 1 rfl) ?_
  refine zget (v := .int (md_houses S)) (ref := "SumOfTwoThatStandModel") (C := RX8) (T := TX8) (N := 33) (index := 70) X hh inX8_comesToIn2_X8 0 rfl rfl 9 (by decide) mmX8_comesToIn2_0 rfl rfl dX8_comesToIn2_3 ?_
  refine lv_istore_n (lv' := [(3, .int (md_houses S)), (2, .int (0 : Int32)), (0, .ref a0), (1, .int p1)]) hx hb dX8_comesToIn2_6 rfl hl (by decide) rfl (fun ls hl => ?_)
  refine lv_iconst (v := (0 : Int32)) hx hb dX8_comesToIn2_7 (by decide) ?_
  refine lv_istore (lv' := [(4, .int (0 : Int32)), (3, .int (md_houses S)), (2, .int (0 : Int32)), (0, .ref a0), (1, .int p1)]) hx hb dX8_comesToIn2_8 hl (by decide) rfl (fun ls hl => ?_)
  exact hL10 p1 (md_houses S) FU (0 : Int32) (0 : Int32) S H locs ls hf (lv_sub hl [3, 4, 2, 1, 0] rfl) hh
def fX8_more (S : zMd) (p1 : Int32) : Option (Int32 × zMd) :=
  if (fX8_bound p1 (1 : Int32) (300 : Int32)) = (0 : Int32) then
  ((fX8_isThere S p1).bind fun u3 =>
  if u3 = (0 : Int32) then
  ((fX8_comesToIn1 S p1).bind fun u5 =>
  if u5 = (0 : Int32) then
  ((fX8_comesToIn2 S p1).bind fun u7 =>
  if u7.1 = (0 : Int32) then
  (some ((-9 : Int32), u7.2))
  else
  (some ((2 : Int32), u7.2)))
  else
  (some ((1 : Int32), S)))
  else
  (some ((0 : Int32), S)))
  else
  ((fX8_no S (fX8_bound p1 (1 : Int32) (300 : Int32))).bind fun u9 =>
  some (u9.1, u9.2))
theorem hdX8_more : yX8_more.cls ≠ "java/lang/invoke/MethodHandle" ∧ yX8_more.cls ≠ "java/lang/invoke/VarHandle" ∧ (parseMethodDescriptor yX8_more.desc).map (fun d => d.parameters.length) = some 1 := by decide +kernel
set_option maxHeartbeats 4000000 in
set_option maxRecDepth 100000 in
theorem kX8_more (l : Launch) (K : zK) (a0 a1 a2 a3 a4 a5 a6 a7 a8 a9 a10 a11 a12 a13 a14 a15 a16 a17 a18 a19 : Nat) (S : zMd) (p1 : Int32) (R : Int32 × zMd) (hf : fX8_more S p1 = some R) : zC l yX8_more wsX8_more ({ frames := 6, cells := 0, slots := 0, locals := 137 } : Room) K [.ref a0, .int p1] (cMd K a0 a1 a2 a3 a4 a5 a6 a7 a8 a9 a10 a11 a12 a13 a14 a15 a16 a17 a18 a19 S) (some (.int R.1)) (cMd K a0 a1 a2 a3 a4 a5 a6 a7 a8 a9 a10 a11 a12 a13 a14 a15 a16 a17 a18 a19 R.2) := by
  refine zC_i R.1 (cc := cX8_more) (maxL := 3) (by decide +kernel) rfl (Nat.le_of_ble_eq_true rfl) rfl rfl ?_
  intro p e s m below meth c Q A X hret ls hl hh
  have X : zX p m c cX8_more 3 s ([.ref a0, .int p1] : List Value).toArray wsX8_more RX8 K A := X
  have hx := X.1.1
  have hb := X.1.2.1
  have hr2 : ∀ (pc : Nat) (ls : Array Slot) (H : Heap) (locs : List Loc) (v : Int32) (S : zMd), some (v, S) = some R → decode cX8_more pc = .ok (.ireturn, 1) → zW K A s H locs (cMd K a0 a1 a2 a3 a4 a5 a6 a7 a8 a9 a10 a11 a12 a13 a14 a15 a16 a17 a18 a19 S) → W p l e ({ frames := 6, cells := 0, slots := 0, locals := 137 } : Room) s m ([.ref a0, .int p1] : List Value).toArray below meth c H locs 0 0 Q (F0 m pc ls [.int v]) := by
    intro pc ls H locs v S h hd hh
    cases h; exact hret pc ls H locs _ rfl hd hh
  have hl : lv_has ls 3 [(0, .ref a0), (1, .int p1)] := hl
  unfold fX8_more at hf
  refine (fun (hmain : ∀ (H : Heap) (locs : List Loc), zW K A s H locs (cMd K a0 a1 a2 a3 a4 a5 a6 a7 a8 a9 a10 a11 a12 a13 a14 a15 a16 a17 a18 a19 S) → W p l e ({ frames := 6, cells := 0, slots := 0, locals := 137 } : Room) s m ([.ref a0, .int p1] : List Value).toArray below meth c H locs 0 0 Q (F0 m 0 ls [])) => hmain s.heap [] hh) (fun H locs hh => ?_)
  refine lv_iload_n hx hb dX8_more_0 rfl (lv_at hl 1 rfl) ?_
  refine lv_iconst (v := (1 : Int32)) hx hb dX8_more_1 (by decide) ?_
  refine lv_sipush (v := (300 : Int32)) hx hb dX8_more_2 (by decide) ?_
  refine zcallS (As := [.int p1, .int (1 : Int32), .int (300 : Int32)]) (rest := []) (wr := cMd K a0 a1 a2 a3 a4 a5 a6 a7 a8 a9 a10 a11 a12 a13 a14 a15 a16 a17 a18 a19 S) (ws' := cMd K a0 a1 a2 a3 a4 a5 a6 a7 a8 a9 a10 a11 a12 a13 a14 a15 a16 a17 a18 a19 S) (ov := some (.int (fX8_bound p1 (1 : Int32) (300 : Int32)))) X hh hl (kX8_bound l K p1 (1 : Int32) (300 : Int32) (fX8_bound p1 (1 : Int32) (300 : Int32)) rfl) (fun ht => va_cwS 3 ht gX8_more_X8_bound rfl rfl rfl hdX8_bound ⟨Nat.le_of_ble_eq_true rfl, Nat.le_of_ble_eq_true rfl⟩) [] [0, 1, 2, 3, 4, 5, 6, 7, 8, 9, 10, 11, 12, 13, 14, 15, 16, 17, 18, 19] [0, 1, 2, 3, 4, 5, 6, 7, 8, 9, 10, 11, 12, 13, 14, 15, 16, 17, 18, 19] rfl rfl rfl rfl (by decide) rfl rfl rfl rfl (Nat.le_of_ble_eq_true rfl) dX8_more_5 ⟨Nat.zero_le _, Nat.zero_le _⟩ (fun H locs hh => ?_)
  refine lv_istore_n (lv' := [(2, .int (fX8_bound p1 (1 : Int32) (300 : Int32))), (0, .ref a0), (1, .int p1)]) hx hb dX8_more_8 rfl hl (by decide) rfl (fun ls hl => ?_)
  refine lv_iload_n hx hb dX8_more_9 rfl (lv_at hl 0 rfl) ?_
  refine lv_if_eq (tgt := 19) hx hb dX8_more_10 (by decide) (fun c2 => ?_) (fun c2 => ?_)
  · replace hf := (if_pos c2).symm.trans hf
    refine lv_aload_n hx hb dX8_more_19 rfl (lv_at hl 1 rfl) ?_
    refine lv_iload_n hx hb dX8_more_20 rfl (lv_at hl 2 rfl) ?_
    obtain ⟨u3, hu3, hf⟩ := ob_bind hf
    refine zcallV (ci := 7) (q0 := 0) (As := [.int p1]) (rest := []) (wr := []) (ws' := cMd K a0 a1 a2 a3 a4 a5 a6 a7 a8 a9 a10 a11 a12 a13 a14 a15 a16 a17 a18 a19 S) (ov := some (.int u3)) X hh hl (kX8_isThere l K a0 a1 a2 a3 a4 a5 a6 a7 a8 a9 a10 a11 a12 a13 a14 a15 a16 a17 a18 a19 S p1 u3 hu3) (fun ht => cwV 1 ht gX8_more_X8_isThere rfl rfl rfl ⟨rfl, hdX8_isThere⟩ ⟨Nat.le_of_ble_eq_true rfl, Nat.le_of_ble_eq_true rfl⟩) [0, 1, 2, 3, 4, 5, 6, 7, 8, 9, 10, 11, 12, 13, 14, 15, 16, 17, 18, 19] [] [0, 1, 2, 3, 4, 5, 6, 7, 8, 9, 10, 11, 12, 13, 14, 15, 16, 17, 18, 19] rfl rfl rfl rfl (by decide) rfl rfl rfl rfl rfl rfl (Nat.le_of_ble_eq_true rfl) dX8_more_21 ⟨Nat.zero_le _, Nat.zero_le _⟩ (fun H locs hh => ?_)
    refine lv_if_eq (tgt := 29) hx hb dX8_more_24 (by decide) (fun c4 => ?_) (fun c4 => ?_)
    · replace hf := (if_pos c4).symm.trans hf
      refine lv_aload_n hx hb dX8_more_29 rfl (lv_at hl 1 rfl) ?_
      refine lv_iload_n hx hb dX8_more_30 rfl (lv_at hl 2 rfl) ?_
      obtain ⟨u5, hu5, hf⟩ := ob_bind hf
      refine zcallV (ci := 7) (q0 := 0) (As := [.int p1]) (rest := []) (wr := []) (ws' := cMd K a0 a1 a2 a3 a4 a5 a6 a7 a8 a9 a10 a11 a12 a13 a14 a15 a16 a17 a18 a19 S) (ov := some (.int u5)) X hh hl (kX8_comesToIn1 l K a0 a1 a2 a3 a4 a5 a6 a7 a8 a9 a10 a11 a12 a13 a14 a15 a16 a17 a18 a19 S p1 u5 hu5) (fun ht => cwV 1 ht gX8_more_X8_comesToIn1 rfl rfl rfl ⟨rfl, hdX8_comesToIn1⟩ ⟨Nat.le_of_ble_eq_true rfl, Nat.le_of_ble_eq_true rfl⟩) [0, 1, 2, 3, 4, 5, 6, 7, 8, 9, 10, 11, 12, 13, 14, 15, 16, 17, 18, 19] [] [0, 1, 2, 3, 4, 5, 6, 7, 8, 9, 10, 11, 12, 13, 14, 15, 16, 17, 18, 19] rfl rfl rfl rfl (by decide) rfl rfl rfl rfl rfl rfl (Nat.le_of_ble_eq_true rfl) dX8_more_31 ⟨Nat.zero_le _, Nat.zero_le _⟩ (fun H locs hh => ?_)
      refine lv_if_eq (tgt := 41) hx hb dX8_more_34 (by decide) (fun c6 => ?_) (fun c6 => ?_)
      · replace hf := (if_pos c6).symm.trans hf
        refine lv_aload_n hx hb dX8_more_41 rfl (lv_at hl 1 rfl) ?_
        refine lv_iload_n hx hb dX8_more_42 rfl (lv_at hl 2 rfl) ?_
        obtain ⟨u7, hu7, hf⟩ := ob_bind hf
        refine zcallV (ci := 7) (q0 := 0) (As := [.int p1]) (rest := []) (wr := []) (ws' := cMd K a0 a1 a2 a3 a4 a5 a6 a7 a8 a9 a10 a11 a12 a13 a14 a15 a16 a17 a18 a19 u7.2) (ov := some (.int u7.1)) X hh hl (kX8_comesToIn2 l K a0 a1 a2 a3 a4 a5 a6 a7 a8 a9 a10 a11 a12 a13 a14 a15 a16 a17 a18 a19 S p1 u7 hu7) (fun ht => cwV 1 ht gX8_more_X8_comesToIn2 rfl rfl rfl ⟨rfl, hdX8_comesToIn2⟩ ⟨Nat.le_of_ble_eq_true rfl, Nat.le_of_ble_eq_true rfl⟩) [0, 1, 2, 3, 4, 5, 6, 7, 8, 9, 10, 11, 12, 13, 14, 15, 16, 17, 18, 19] [] [0, 1, 2, 3, 4, 5, 6, 7, 8, 9, 10, 11, 12, 13, 14, 15, 16, 17, 18, 19] rfl rfl rfl rfl (by decide) rfl rfl rfl rfl rfl rfl (Nat.le_of_ble_eq_true rfl) dX8_more_43 ⟨Nat.zero_le _, Nat.zero_le _⟩ (fun H locs hh => ?_)
        refine lv_if_eq (tgt := 53) hx hb dX8_more_46 (by decide) (fun c8 => ?_) (fun c8 => ?_)
        · replace hf := (if_pos c8).symm.trans hf
          refine lv_bipush (v := (-9 : Int32)) hx hb dX8_more_53 (by decide) ?_
          exact hr2 55 ls H locs (-9 : Int32) u7.2 hf dX8_more_55 hh
        · replace hf := (if_neg c8).symm.trans hf
          refine lv_iconst (v := (2 : Int32)) hx hb dX8_more_49 (by decide) ?_
          refine lv_goto (tgt := 55) hx hb dX8_more_50 (by decide) ?_
          exact hr2 55 ls H locs (2 : Int32) u7.2 hf dX8_more_55 hh
      · replace hf := (if_neg c6).symm.trans hf
        refine lv_iconst (v := (1 : Int32)) hx hb dX8_more_37 (by decide) ?_
        refine lv_goto (tgt := 55) hx hb dX8_more_38 (by decide) ?_
        exact hr2 55 ls H locs (1 : Int32) S hf dX8_more_55 hh
    · replace hf := (if_neg c4).symm.trans hf
      refine lv_iconst (v := (0 : Int32)) hx hb dX8_more_27 (by decide) ?_
      exact hr2 28 ls H locs (0 : Int32) S hf dX8_more_28 hh
  · replace hf := (if_neg c2).symm.trans hf
    refine lv_aload_n hx hb dX8_more_13 rfl (lv_at hl 1 rfl) ?_
    refine lv_iload_n hx hb dX8_more_14 rfl (lv_at hl 0 rfl) ?_
    obtain ⟨u9, hu9, hf⟩ := ob_bind hf
    refine zcallV (ci := 7) (q0 := 0) (As := [.int (fX8_bound p1 (1 : Int32) (300 : Int32))]) (rest := []) (wr := []) (ws' := cMd K a0 a1 a2 a3 a4 a5 a6 a7 a8 a9 a10 a11 a12 a13 a14 a15 a16 a17 a18 a19 u9.2) (ov := some (.int u9.1)) X hh hl (kX8_no l K a0 a1 a2 a3 a4 a5 a6 a7 a8 a9 a10 a11 a12 a13 a14 a15 a16 a17 a18 a19 S (fX8_bound p1 (1 : Int32) (300 : Int32)) u9 hu9) (fun ht => cwV 1 ht gX8_more_X8_no rfl rfl rfl ⟨rfl, hdX8_no⟩ ⟨Nat.le_of_ble_eq_true rfl, Nat.le_of_ble_eq_true rfl⟩) [0, 1, 2, 3, 4, 5, 6, 7, 8, 9, 10, 11, 12, 13, 14, 15, 16, 17, 18, 19] [] [0, 1, 2, 3, 4, 5, 6, 7, 8, 9, 10, 11, 12, 13, 14, 15, 16, 17, 18, 19] rfl rfl rfl rfl (by decide) rfl rfl rfl rfl rfl rfl (Nat.le_of_ble_eq_true rfl) dX8_more_15 ⟨Nat.zero_le _, Nat.zero_le _⟩ (fun H locs hh => ?_)
    exact hr2 18 ls H locs u9.1 u9.2 hf dX8_more_18 hh
def fX8_needs_j31 (S : zMd) (v2 : Int32) : Option (Int32) :=
  (fX8_standing S).bind fun u1 =>
  some (v2 &&& u1)
def fX8_needs (S : zMd) (p1 : Int32) : Option (Int32) :=
  ix 12 p1 (if ((md_one S) p1.toNatClampNeg) < (0 : Int32) then
  (fX8_needs_j31 S (0 : Int32))
  else
  (fX8_needs_j31 S ((0 : Int32) ||| (((1 : Int32) <<< (((md_one S) p1.toNatClampNeg) &&& 31)) ||| ((1 : Int32) <<< (((md_other S) p1.toNatClampNeg) &&& 31))))))
theorem inX8_needs_X8 : ∀ w ∈ wsX80, w ∈ wsX8_needs := by decide +kernel
theorem mmX8_needs_0 : Cond.fieldLink RX8 22 "SumOfTwoThatStandModel" "one" "[I" ∈ wsX8_needs := by decide +kernel
theorem mmX8_needs_1 : Cond.fieldLink RX8 25 "SumOfTwoThatStandModel" "other" "[I" ∈ wsX8_needs := by decide +kernel
theorem hdX8_needs : yX8_needs.cls ≠ "java/lang/invoke/MethodHandle" ∧ yX8_needs.cls ≠ "java/lang/invoke/VarHandle" ∧ (parseMethodDescriptor yX8_needs.desc).map (fun d => d.parameters.length) = some 1 := by decide +kernel
set_option maxHeartbeats 4000000 in
set_option maxRecDepth 100000 in
theorem kX8_needs (l : Launch) (K : zK) (a0 a1 a2 a3 a4 a5 a6 a7 a8 a9 a10 a11 a12 a13 a14 a15 a16 a17 a18 a19 : Nat) (S : zMd) (p1 : Int32) (R : Int32) (hf : fX8_needs S p1 = some R) : zC l yX8_needs wsX8_needs ({ frames := 1, cells := 0, slots := 0, locals := 22 } : Room) K [.ref a0, .int p1] (cMd K a0 a1 a2 a3 a4 a5 a6 a7 a8 a9 a10 a11 a12 a13 a14 a15 a16 a17 a18 a19 S) (some (.int R)) (cMd K a0 a1 a2 a3 a4 a5 a6 a7 a8 a9 a10 a11 a12 a13 a14 a15 a16 a17 a18 a19 S) := by
  refine zC_i R (cc := cX8_needs) (maxL := 3) (by decide +kernel) rfl (Nat.le_of_ble_eq_true rfl) rfl rfl ?_
  intro p e s m below meth c Q A X hret ls hl hh
  have X : zX p m c cX8_needs 3 s ([.ref a0, .int p1] : List Value).toArray wsX8_needs RX8 K A := X
  have hx := X.1.1
  have hb := X.1.2.1
  have hr2 : ∀ (pc : Nat) (ls : Array Slot) (H : Heap) (locs : List Loc) (v : Int32), some v = some R → decode cX8_needs pc = .ok (.ireturn, 1) → zW K A s H locs (cMd K a0 a1 a2 a3 a4 a5 a6 a7 a8 a9 a10 a11 a12 a13 a14 a15 a16 a17 a18 a19 S) → W p l e ({ frames := 1, cells := 0, slots := 0, locals := 22 } : Room) s m ([.ref a0, .int p1] : List Value).toArray below meth c H locs 0 0 Q (F0 m pc ls [.int v]) := by
    intro pc ls H locs v h hd hh
    cases h; exact hret pc ls H locs _ rfl hd hh
  have hl : lv_has ls 3 [(0, .ref a0), (1, .int p1)] := hl
  have hJ31 : ∀ (v2 : Int32), ∀ (H : Heap) (locs : List Loc) (ls : Array Slot), fX8_needs_j31 S v2 = some R → lv_has ls 3 [(0, .ref a0), (2, .int v2)] → zW K A s H locs (cMd K a0 a1 a2 a3 a4 a5 a6 a7 a8 a9 a10 a11 a12 a13 a14 a15 a16 a17 a18 a19 S) → W p l e ({ frames := 1, cells := 0, slots := 0, locals := 22 } : Room) s m ([.ref a0, .int p1] : List Value).toArray below meth c H locs 0 0 Q (F0 m 31 ls []) := by
    intro v2 H locs ls hf hl hh
    unfold fX8_needs_j31 at hf
    refine lv_iload_n hx hb dX8_needs_31 rfl (lv_at hl 1 rfl) ?_
    refine lv_aload_n hx hb dX8_needs_32 rfl (lv_at hl 0 rfl) ?_
    obtain ⟨u1, hu1, hf⟩ := ob_bind hf
    refine zcallV (ci := 7) (q0 := 0) (As := []) (rest := [.int v2]) (wr := []) (ws' := cMd K a0 a1 a2 a3 a4 a5 a6 a7 a8 a9 a10 a11 a12 a13 a14 a15 a16 a17 a18 a19 S) (ov := some (.int u1)) X hh hl (kX8_standing l K a0 a1 a2 a3 a4 a5 a6 a7 a8 a9 a10 a11 a12 a13 a14 a15 a16 a17 a18 a19 S u1 hu1) (fun ht => cwV 0 ht gX8_needs_X8_standing rfl rfl rfl ⟨rfl, hdX8_standing⟩ ⟨Nat.le_of_ble_eq_true rfl, Nat.le_of_ble_eq_true rfl⟩) [0, 1, 2, 3, 4, 5, 6, 7, 8, 9, 10, 11, 12, 13, 14, 15, 16, 17, 18, 19] [] [0, 1, 2, 3, 4, 5, 6, 7, 8, 9, 10, 11, 12, 13, 14, 15, 16, 17, 18, 19] rfl rfl rfl rfl (by decide) rfl rfl rfl rfl rfl rfl (Nat.le_of_ble_eq_true rfl) dX8_needs_33 ⟨Nat.zero_le _, Nat.zero_le _⟩ (fun H locs hh => ?_)
    refine lv_iand hx hb dX8_needs_36 ?_
    exact hr2 37 ls H locs (v2 &&& u1) hf dX8_needs_37 hh
  unfold fX8_needs at hf
  refine (fun (hmain : ∀ (H : Heap) (locs : List Loc), zW K A s H locs (cMd K a0 a1 a2 a3 a4 a5 a6 a7 a8 a9 a10 a11 a12 a13 a14 a15 a16 a17 a18 a19 S) → W p l e ({ frames := 1, cells := 0, slots := 0, locals := 22 } : Room) s m ([.ref a0, .int p1] : List Value).toArray below meth c H locs 0 0 Q (F0 m 0 ls [])) => hmain s.heap [] hh) (fun H locs hh => ?_)
  refine lv_iconst (v := (0 : Int32)) hx hb dX8_needs_0 (by decide) ?_
  refine lv_istore_n (lv' := [(2, .int (0 : Int32)), (0, .ref a0), (1, .int p1)]) hx hb dX8_needs_1 rfl hl (by decide) rfl (fun ls hl => ?_)
  refine lv_aload_n hx hb dX8_needs_2 rfl (lv_at hl 1 rfl) ?_
  refine zget (v := .ref a5) (ref := "SumOfTwoThatStandModel") (C := RX8) (T := TX8) (N := 33) (index := 22) X hh inX8_needs_X8 0 rfl rfl 4 (by decide) mmX8_needs_0 rfl rfl dX8_needs_3 ?_
  refine lv_iload_n hx hb dX8_needs_6 rfl (lv_at hl 2 rfl) ?_
  obtain ⟨g2, hf⟩ := ob_ix hf
  refine ziald (f := (md_one S)) X hh 5 rfl g2 dX8_needs_7 ?_
  refine lv_if_lt (tgt := 31) hx hb dX8_needs_8 (by decide) (fun c3 => ?_) (fun c3 => ?_)
  · replace hf := (if_pos c3).symm.trans hf
    exact hJ31 (0 : Int32) H locs ls hf (lv_sub hl [1, 0] rfl) hh
  · replace hf := (if_neg c3).symm.trans hf
    refine lv_iload_n hx hb dX8_needs_11 rfl (lv_at hl 0 rfl) ?_
    refine lv_iconst (v := (1 : Int32)) hx hb dX8_needs_12 (by decide) ?_
    refine lv_aload_n hx hb dX8_needs_13 rfl (lv_at hl 1 rfl) ?_
    refine zget (v := .ref a5) (ref := "SumOfTwoThatStandModel") (C := RX8) (T := TX8) (N := 33) (index := 22) X hh inX8_needs_X8 0 rfl rfl 4 (by decide) mmX8_needs_0 rfl rfl dX8_needs_14 ?_
    refine lv_iload_n hx hb dX8_needs_17 rfl (lv_at hl 2 rfl) ?_
    refine ziald (f := (md_one S)) X hh 5 rfl g2 dX8_needs_18 ?_
    refine lv_ishl hx hb dX8_needs_19 ?_
    refine lv_iconst (v := (1 : Int32)) hx hb dX8_needs_20 (by decide) ?_
    refine lv_aload_n hx hb dX8_needs_21 rfl (lv_at hl 1 rfl) ?_
    refine zget (v := .ref a6) (ref := "SumOfTwoThatStandModel") (C := RX8) (T := TX8) (N := 33) (index := 25) X hh inX8_needs_X8 0 rfl rfl 5 (by decide) mmX8_needs_1 rfl rfl dX8_needs_22 ?_
    refine lv_iload_n hx hb dX8_needs_25 rfl (lv_at hl 2 rfl) ?_
    refine ziald (f := (md_other S)) X hh 6 rfl g2 dX8_needs_26 ?_
    refine lv_ishl hx hb dX8_needs_27 ?_
    refine lv_ior hx hb dX8_needs_28 ?_
    refine lv_ior hx hb dX8_needs_29 ?_
    refine lv_istore_n (lv' := [(2, .int ((0 : Int32) ||| (((1 : Int32) <<< (((md_one S) p1.toNatClampNeg) &&& 31)) ||| ((1 : Int32) <<< (((md_other S) p1.toNatClampNeg) &&& 31))))), (0, .ref a0), (1, .int p1)]) hx hb dX8_needs_30 rfl hl (by decide) rfl (fun ls hl => ?_)
    exact hJ31 ((0 : Int32) ||| (((1 : Int32) <<< (((md_one S) p1.toNatClampNeg) &&& 31)) ||| ((1 : Int32) <<< (((md_other S) p1.toNatClampNeg) &&& 31)))) H locs ls hf (lv_sub hl [1, 0] rfl) hh
def fX8_orders_j104 (v1 : Int32) (v2 : Int32) (S : zMd) (k14 : (Int32) → (zMd) → Option (Int32 × zMd)) : Option (Int32 × zMd) :=
  k14 (v2 + (1 : Int32)) S
def fX8_orders_j98 (v1 : Int32) (v2 : Int32) (v3 : Int32) (S : zMd) (k44 : (Int32) → (zMd) → Option (Int32 × zMd)) : Option (Int32 × zMd) :=
  k44 (v3 + (1 : Int32)) S
def fX8_orders_l44 (v1 : Int32) (v2 : Int32) (k14 : (Int32) → (zMd) → Option (Int32 × zMd)) : Nat → (Int32) → (zMd) → Option (Int32 × zMd)
  | 0, _, _ => none
  | n + 1, v3, S =>
  if (md_houses S) ≤ v3 then
  (fX8_orders_j104 v1 v2 S (k14))
  else
  (if (fX8_has v2 v3) = (0 : Int32) then
  (fX8_orders_j98 v1 v2 v3 S (fX8_orders_l44 v1 v2 k14 n))
  else
  ((fX8_needs S v3).bind fun u4 =>
  if (u4 &&& ((v2 &&& (((1 : Int32) <<< (v3 &&& 31)) ^^^ (-1 : Int32))) ^^^ (-1 : Int32))) = (0 : Int32) then
  (ix 4096 v2 (ix 4096 (v2 &&& (((1 : Int32) <<< (v3 &&& 31)) ^^^ (-1 : Int32))) (fX8_orders_j98 v1 v2 v3 (md_set_ways S (upd (md_ways S) v2.toNatClampNeg (((md_ways S) v2.toNatClampNeg) + ((md_ways S) (v2 &&& (((1 : Int32) <<< (v3 &&& 31)) ^^^ (-1 : Int32))).toNatClampNeg)))) (fX8_orders_l44 v1 v2 k14 n))))
  else
  (fX8_orders_j98 v1 v2 v3 S (fX8_orders_l44 v1 v2 k14 n))))
def fX8_orders_l14 (v1 : Int32) : Nat → (Int32) → (zMd) → Option (Int32 × zMd)
  | 0, _, _ => none
  | n + 1, v2, S =>
  if ((1 : Int32) <<< ((md_houses S) &&& 31)) ≤ v2 then
  (ix 4096 v1 (some (((md_ways S) v1.toNatClampNeg), S)))
  else
  (ix 4096 v2 (if (v2 &&& (v1 ^^^ (-1 : Int32))) = (0 : Int32) then
  (fX8_orders_l44 v1 v2 (fX8_orders_l14 v1 n) FU (0 : Int32) (md_set_ways S (upd (md_ways S) v2.toNatClampNeg (0 : Int32))))
  else
  (fX8_orders_j104 v1 v2 (md_set_ways S (upd (md_ways S) v2.toNatClampNeg (0 : Int32))) (fX8_orders_l14 v1 n))))
def fX8_orders (S : zMd) : Option (Int32 × zMd) :=
  (fX8_standing S).bind fun u12 =>
  ix 4096 (0 : Int32) (fX8_orders_l14 u12 FU (1 : Int32) (md_set_ways S (upd (md_ways S) (0 : Int32).toNatClampNeg (1 : Int32))))
theorem inX8_orders_X8 : ∀ w ∈ wsX80, w ∈ wsX8_orders := by decide +kernel
theorem mmX8_orders_0 : Cond.fieldLink RX8 70 "SumOfTwoThatStandModel" "houses" "I" ∈ wsX8_orders := by decide +kernel
theorem mmX8_orders_1 : Cond.fieldLink RX8 58 "SumOfTwoThatStandModel" "ways" "[I" ∈ wsX8_orders := by decide +kernel
theorem hdX8_orders : yX8_orders.cls ≠ "java/lang/invoke/MethodHandle" ∧ yX8_orders.cls ≠ "java/lang/invoke/VarHandle" ∧ (parseMethodDescriptor yX8_orders.desc).map (fun d => d.parameters.length) = some 0 := by decide +kernel
set_option maxHeartbeats 4000000 in
set_option maxRecDepth 100000 in
theorem kX8_orders (l : Launch) (K : zK) (a0 a1 a2 a3 a4 a5 a6 a7 a8 a9 a10 a11 a12 a13 a14 a15 a16 a17 a18 a19 : Nat) (S : zMd) (R : Int32 × zMd) (hf : fX8_orders S = some R) : zC l yX8_orders wsX8_orders ({ frames := 2, cells := 0, slots := 0, locals := 44 } : Room) K [.ref a0] (cMd K a0 a1 a2 a3 a4 a5 a6 a7 a8 a9 a10 a11 a12 a13 a14 a15 a16 a17 a18 a19 S) (some (.int R.1)) (cMd K a0 a1 a2 a3 a4 a5 a6 a7 a8 a9 a10 a11 a12 a13 a14 a15 a16 a17 a18 a19 R.2) := by
  refine zC_i R.1 (cc := cX8_orders) (maxL := 5) (by decide +kernel) rfl (Nat.le_of_ble_eq_true rfl) rfl rfl ?_
  intro p e s m below meth c Q A X hret ls hl hh
  have X : zX p m c cX8_orders 5 s ([.ref a0] : List Value).toArray wsX8_orders RX8 K A := X
  have hx := X.1.1
  have hb := X.1.2.1
  have hr2 : ∀ (pc : Nat) (ls : Array Slot) (H : Heap) (locs : List Loc) (v : Int32) (S : zMd), some (v, S) = some R → decode cX8_orders pc = .ok (.ireturn, 1) → zW K A s H locs (cMd K a0 a1 a2 a3 a4 a5 a6 a7 a8 a9 a10 a11 a12 a13 a14 a15 a16 a17 a18 a19 S) → W p l e ({ frames := 2, cells := 0, slots := 0, locals := 44 } : Room) s m ([.ref a0] : List Value).toArray below meth c H locs 0 0 Q (F0 m pc ls [.int v]) := by
    intro pc ls H locs v S h hd hh
    cases h; exact hret pc ls H locs _ rfl hd hh
  have hl : lv_has ls 5 [(0, .ref a0)] := hl
  have hJ104 : ∀ (v1 : Int32) (v2 : Int32) (S : zMd) (k14 : (Int32) → (zMd) → Option (Int32 × zMd)), (∀ (v2 : Int32) (S : zMd) (H : Heap) (locs : List Loc) (ls : Array Slot), k14 v2 S = some R → lv_has ls 5 [(0, .ref a0), (1, .int v1), (2, .int v2)] → zW K A s H locs (cMd K a0 a1 a2 a3 a4 a5 a6 a7 a8 a9 a10 a11 a12 a13 a14 a15 a16 a17 a18 a19 S) → W p l e ({ frames := 2, cells := 0, slots := 0, locals := 44 } : Room) s m ([.ref a0] : List Value).toArray below meth c H locs 0 0 Q (F0 m 14 ls [])) → ∀ (H : Heap) (locs : List Loc) (ls : Array Slot), fX8_orders_j104 v1 v2 S k14 = some R → lv_has ls 5 [(0, .ref a0), (1, .int v1), (2, .int v2)] → zW K A s H locs (cMd K a0 a1 a2 a3 a4 a5 a6 a7 a8 a9 a10 a11 a12 a13 a14 a15 a16 a17 a18 a19 S) → W p l e ({ frames := 2, cells := 0, slots := 0, locals := 44 } : Room) s m ([.ref a0] : List Value).toArray below meth c H locs 0 0 Q (F0 m 104 ls []) := by
    intro v1 v2 S k14 hk14 H locs ls hf hl hh
    unfold fX8_orders_j104 at hf
    refine lv_iinc (v := (v2 + (1 : Int32))) (lv' := [(2, .int (v2 + (1 : Int32))), (0, .ref a0), (1, .int v1)]) hx hb dX8_orders_104 hl (k := 2) rfl rfl (by decide) rfl (fun ls hl => ?_)
    refine lv_goto (tgt := 14) hx hb dX8_orders_107 (by decide) ?_
    exact hk14 (v2 + (1 : Int32)) S H locs ls hf (lv_sub hl [1, 2, 0] rfl) hh
  have hJ98 : ∀ (v1 : Int32) (v2 : Int32) (v3 : Int32) (S : zMd) (k44 : (Int32) → (zMd) → Option (Int32 × zMd)), (∀ (v3 : Int32) (S : zMd) (H : Heap) (locs : List Loc) (ls : Array Slot), k44 v3 S = some R → lv_has ls 5 [(0, .ref a0), (1, .int v1), (2, .int v2), (3, .int v3)] → zW K A s H locs (cMd K a0 a1 a2 a3 a4 a5 a6 a7 a8 a9 a10 a11 a12 a13 a14 a15 a16 a17 a18 a19 S) → W p l e ({ frames := 2, cells := 0, slots := 0, locals := 44 } : Room) s m ([.ref a0] : List Value).toArray below meth c H locs 0 0 Q (F0 m 44 ls [])) → ∀ (H : Heap) (locs : List Loc) (ls : Array Slot), fX8_orders_j98 v1 v2 v3 S k44 = some R → lv_has ls 5 [(0, .ref a0), (1, .int v1), (2, .int v2), (3, .int v3)] → zW K A s H locs (cMd K a0 a1 a2 a3 a4 a5 a6 a7 a8 a9 a10 a11 a12 a13 a14 a15 a16 a17 a18 a19 S) → W p l e ({ frames := 2, cells := 0, slots := 0, locals := 44 } : Room) s m ([.ref a0] : List Value).toArray below meth c H locs 0 0 Q (F0 m 98 ls []) := by
    intro v1 v2 v3 S k44 hk44 H locs ls hf hl hh
    unfold fX8_orders_j98 at hf
    refine lv_iinc (v := (v3 + (1 : Int32))) (lv' := [(3, .int (v3 + (1 : Int32))), (0, .ref a0), (1, .int v1), (2, .int v2)]) hx hb dX8_orders_98 hl (k := 3) rfl rfl (by decide) rfl (fun ls hl => ?_)
    refine lv_goto (tgt := 44) hx hb dX8_orders_101 (by decide) ?_
    exact hk44 (v3 + (1 : Int32)) S H locs ls hf (lv_sub hl [1, 2, 3, 0] rfl) hh
  have hL44 : ∀ (v1 : Int32) (v2 : Int32) (k14 : (Int32) → (zMd) → Option (Int32 × zMd)), (∀ (v2 : Int32) (S : zMd) (H : Heap) (locs : List Loc) (ls : Array Slot), k14 v2 S = some R → lv_has ls 5 [(0, .ref a0), (1, .int v1), (2, .int v2)] → zW K A s H locs (cMd K a0 a1 a2 a3 a4 a5 a6 a7 a8 a9 a10 a11 a12 a13 a14 a15 a16 a17 a18 a19 S) → W p l e ({ frames := 2, cells := 0, slots := 0, locals := 44 } : Room) s m ([.ref a0] : List Value).toArray below meth c H locs 0 0 Q (F0 m 14 ls [])) → ∀ (n : Nat) (v3 : Int32) (S : zMd), ∀ (H : Heap) (locs : List Loc) (ls : Array Slot), fX8_orders_l44 v1 v2 k14 n v3 S = some R → lv_has ls 5 [(0, .ref a0), (1, .int v1), (2, .int v2), (3, .int v3)] → zW K A s H locs (cMd K a0 a1 a2 a3 a4 a5 a6 a7 a8 a9 a10 a11 a12 a13 a14 a15 a16 a17 a18 a19 S) → W p l e ({ frames := 2, cells := 0, slots := 0, locals := 44 } : Room) s m ([.ref a0] : List Value).toArray below meth c H locs 0 0 Q (F0 m 44 ls []) := by
    intro v1 v2 k14 hk14 n
    induction n with
    | zero =>
      intro v3 S H locs ls hf hl hh
      rw [fX8_orders_l44] at hf; cases hf
    | succ n ih =>
      intro v3 S H locs ls hf hl hh
      rw [fX8_orders_l44] at hf
      refine lv_iload_n hx hb dX8_orders_44 rfl (lv_at hl 3 rfl) ?_
      refine lv_aload_n hx hb dX8_orders_45 rfl (lv_at hl 0 rfl) ?_
      refine zget (v := .int (md_houses S)) (ref := "SumOfTwoThatStandModel") (C := RX8) (T := TX8) (N := 33) (index := 70) X hh inX8_orders_X8 0 rfl rfl 9 (by decide) mmX8_orders_0 rfl rfl dX8_orders_46 ?_
      refine lv_icmp_ge (tgt := 104) hx hb dX8_orders_49 (by decide) (fun c1 => ?_) (fun c1 => ?_)
      · replace hf := (if_pos c1).symm.trans hf
        exact hJ104 v1 v2 S (k14) (hk14) H locs ls hf (lv_sub hl [0, 1, 2] rfl) hh
      · replace hf := (if_neg c1).symm.trans hf
        refine lv_iload_n hx hb dX8_orders_52 rfl (lv_at hl 2 rfl) ?_
        refine lv_iconst (v := (1 : Int32)) hx hb dX8_orders_53 (by decide) ?_
        refine lv_iload_n hx hb dX8_orders_54 rfl (lv_at hl 3 rfl) ?_
        refine lv_ishl hx hb dX8_orders_55 ?_
        refine lv_iconst (v := (-1 : Int32)) hx hb dX8_orders_56 (by decide) ?_
        refine lv_ixor hx hb dX8_orders_57 ?_
        refine lv_iand hx hb dX8_orders_58 ?_
        refine lv_istore (lv' := [(4, .int (v2 &&& (((1 : Int32) <<< (v3 &&& 31)) ^^^ (-1 : Int32)))), (0, .ref a0), (1, .int v1), (2, .int v2), (3, .int v3)]) hx hb dX8_orders_59 hl (by decide) rfl (fun ls hl => ?_)
        refine lv_iload_n hx hb dX8_orders_61 rfl (lv_at hl 3 rfl) ?_
        refine lv_iload_n hx hb dX8_orders_62 rfl (lv_at hl 4 rfl) ?_
        refine zcallS (As := [.int v2, .int v3]) (rest := []) (wr := cMd K a0 a1 a2 a3 a4 a5 a6 a7 a8 a9 a10 a11 a12 a13 a14 a15 a16 a17 a18 a19 S) (ws' := cMd K a0 a1 a2 a3 a4 a5 a6 a7 a8 a9 a10 a11 a12 a13 a14 a15 a16 a17 a18 a19 S) (ov := some (.int (fX8_has v2 v3))) X hh hl (kX8_has l K v2 v3 (fX8_has v2 v3) rfl) (fun ht => va_cwS 2 ht gX8_orders_X8_has rfl rfl rfl hdX8_has ⟨Nat.le_of_ble_eq_true rfl, Nat.le_of_ble_eq_true rfl⟩) [] [0, 1, 2, 3, 4, 5, 6, 7, 8, 9, 10, 11, 12, 13, 14, 15, 16, 17, 18, 19] [0, 1, 2, 3, 4, 5, 6, 7, 8, 9, 10, 11, 12, 13, 14, 15, 16, 17, 18, 19] rfl rfl rfl rfl (by decide) rfl rfl rfl rfl (Nat.le_of_ble_eq_true rfl) dX8_orders_63 ⟨Nat.zero_le _, Nat.zero_le _⟩ (fun H locs hh => ?_)
        refine lv_if_eq (tgt := 98) hx hb dX8_orders_66 (by decide) (fun c3 => ?_) (fun c3 => ?_)
        · replace hf := (if_pos c3).symm.trans hf
          exact hJ98 v1 v2 v3 S (fX8_orders_l44 v1 v2 k14 n) (ih) H locs ls hf (lv_sub hl [1, 2, 3, 4] rfl) hh
        · replace hf := (if_neg c3).symm.trans hf
          refine lv_aload_n hx hb dX8_orders_69 rfl (lv_at hl 1 rfl) ?_
          refine lv_iload_n hx hb dX8_orders_70 rfl (lv_at hl 4 rfl) ?_
          obtain ⟨u4, hu4, hf⟩ := ob_bind hf
          refine zcallV (ci := 7) (q0 := 0) (As := [.int v3]) (rest := []) (wr := []) (ws' := cMd K a0 a1 a2 a3 a4 a5 a6 a7 a8 a9 a10 a11 a12 a13 a14 a15 a16 a17 a18 a19 S) (ov := some (.int u4)) X hh hl (kX8_needs l K a0 a1 a2 a3 a4 a5 a6 a7 a8 a9 a10 a11 a12 a13 a14 a15 a16 a17 a18 a19 S v3 u4 hu4) (fun ht => cwV 1 ht gX8_orders_X8_needs rfl rfl rfl ⟨rfl, hdX8_needs⟩ ⟨Nat.le_of_ble_eq_true rfl, Nat.le_of_ble_eq_true rfl⟩) [0, 1, 2, 3, 4, 5, 6, 7, 8, 9, 10, 11, 12, 13, 14, 15, 16, 17, 18, 19] [] [0, 1, 2, 3, 4, 5, 6, 7, 8, 9, 10, 11, 12, 13, 14, 15, 16, 17, 18, 19] rfl rfl rfl rfl (by decide) rfl rfl rfl rfl rfl rfl (Nat.le_of_ble_eq_true rfl) dX8_orders_71 ⟨Nat.zero_le _, Nat.zero_le _⟩ (fun H locs hh => ?_)
          refine lv_iload hx hb dX8_orders_74 (lv_at hl 0 rfl) ?_
          refine lv_iconst (v := (-1 : Int32)) hx hb dX8_orders_76 (by decide) ?_
          refine lv_ixor hx hb dX8_orders_77 ?_
          refine lv_iand hx hb dX8_orders_78 ?_
          refine lv_if_ne (tgt := 98) hx hb dX8_orders_79 (by decide) (fun c5 => ?_) (fun c5 => ?_)
          · replace hf := (if_neg c5).symm.trans hf
            exact hJ98 v1 v2 v3 S (fX8_orders_l44 v1 v2 k14 n) (ih) H locs ls hf (lv_sub hl [1, 2, 3, 4] rfl) hh
          · replace hf := (if_pos c5).symm.trans hf
            refine lv_aload_n hx hb dX8_orders_82 rfl (lv_at hl 1 rfl) ?_
            refine zget (v := .ref a17) (ref := "SumOfTwoThatStandModel") (C := RX8) (T := TX8) (N := 33) (index := 58) X hh inX8_orders_X8 0 rfl rfl 28 (by decide) mmX8_orders_1 rfl rfl dX8_orders_83 ?_
            refine lv_iload_n hx hb dX8_orders_86 rfl (lv_at hl 3 rfl) ?_
            refine lv_dup2_11 hx hb dX8_orders_87 rfl rfl ?_
            obtain ⟨g6, hf⟩ := ob_ix hf
            refine ziald (f := (md_ways S)) X hh 17 rfl g6 dX8_orders_88 ?_
            refine lv_aload_n hx hb dX8_orders_89 rfl (lv_at hl 1 rfl) ?_
            refine zget (v := .ref a17) (ref := "SumOfTwoThatStandModel") (C := RX8) (T := TX8) (N := 33) (index := 58) X hh inX8_orders_X8 0 rfl rfl 28 (by decide) mmX8_orders_1 rfl rfl dX8_orders_90 ?_
            refine lv_iload hx hb dX8_orders_93 (lv_at hl 0 rfl) ?_
            obtain ⟨g7, hf⟩ := ob_ix hf
            refine ziald (f := (md_ways S)) X hh 17 rfl g7 dX8_orders_95 ?_
            refine lv_iadd hx hb dX8_orders_96 ?_
            refine ziast (f := (md_ways S)) X hh 17 rfl g6 dX8_orders_97 (fun H locs hh => ?_)
            have hh : zW K A s H locs (cMd K a0 a1 a2 a3 a4 a5 a6 a7 a8 a9 a10 a11 a12 a13 a14 a15 a16 a17 a18 a19 (md_set_ways S (upd (md_ways S) v2.toNatClampNeg (((md_ways S) v2.toNatClampNeg) + ((md_ways S) (v2 &&& (((1 : Int32) <<< (v3 &&& 31)) ^^^ (-1 : Int32))).toNatClampNeg))))) := hh
            exact hJ98 v1 v2 v3 (md_set_ways S (upd (md_ways S) v2.toNatClampNeg (((md_ways S) v2.toNatClampNeg) + ((md_ways S) (v2 &&& (((1 : Int32) <<< (v3 &&& 31)) ^^^ (-1 : Int32))).toNatClampNeg)))) (fX8_orders_l44 v1 v2 k14 n) (ih) H locs ls hf (lv_sub hl [1, 2, 3, 4] rfl) hh
  have hL14 : ∀ (v1 : Int32), ∀ (n : Nat) (v2 : Int32) (S : zMd), ∀ (H : Heap) (locs : List Loc) (ls : Array Slot), fX8_orders_l14 v1 n v2 S = some R → lv_has ls 5 [(0, .ref a0), (1, .int v1), (2, .int v2)] → zW K A s H locs (cMd K a0 a1 a2 a3 a4 a5 a6 a7 a8 a9 a10 a11 a12 a13 a14 a15 a16 a17 a18 a19 S) → W p l e ({ frames := 2, cells := 0, slots := 0, locals := 44 } : Room) s m ([.ref a0] : List Value).toArray below meth c H locs 0 0 Q (F0 m 14 ls []) := by
    intro v1 n
    induction n with
    | zero =>
      intro v2 S H locs ls hf hl hh
      rw [fX8_orders_l14] at hf; cases hf
    | succ n ih =>
      intro v2 S H locs ls hf hl hh
      rw [fX8_orders_l14] at hf
      refine lv_iload_n hx hb dX8_orders_14 rfl (lv_at hl 2 rfl) ?_
      refine lv_iconst (v := (1 : Int32)) hx hb dX8_orders_15 (by decide) ?_
      refine lv_aload_n hx hb dX8_orders_16 rfl (lv_at hl 0 rfl) ?_
      refine zget (v := .int (md_houses S)) (ref := "SumOfTwoThatStandModel") (C := RX8) (T := TX8) (N := 33) (index := 70) X hh inX8_orders_X8 0 rfl rfl 9 (by decide) mmX8_orders_0 rfl rfl dX8_orders_17 ?_
      refine lv_ishl hx hb dX8_orders_20 ?_
      refine lv_icmp_ge (tgt := 110) hx hb dX8_orders_21 (by decide) (fun c8 => ?_) (fun c8 => ?_)
      · replace hf := (if_pos c8).symm.trans hf
        refine lv_aload_n hx hb dX8_orders_110 rfl (lv_at hl 0 rfl) ?_
        refine zget (v := .ref a17) (ref := "SumOfTwoThatStandModel") (C := RX8) (T := TX8) (N := 33) (index := 58) X hh inX8_orders_X8 0 rfl rfl 28 (by decide) mmX8_orders_1 rfl rfl dX8_orders_111 ?_
        refine lv_iload_n hx hb dX8_orders_114 rfl (lv_at hl 1 rfl) ?_
        obtain ⟨g9, hf⟩ := ob_ix hf
        refine ziald (f := (md_ways S)) X hh 17 rfl g9 dX8_orders_115 ?_
        exact hr2 116 ls H locs ((md_ways S) v1.toNatClampNeg) S hf dX8_orders_116 hh
      · replace hf := (if_neg c8).symm.trans hf
        refine lv_aload_n hx hb dX8_orders_24 rfl (lv_at hl 0 rfl) ?_
        refine zget (v := .ref a17) (ref := "SumOfTwoThatStandModel") (C := RX8) (T := TX8) (N := 33) (index := 58) X hh inX8_orders_X8 0 rfl rfl 28 (by decide) mmX8_orders_1 rfl rfl dX8_orders_25 ?_
        refine lv_iload_n hx hb dX8_orders_28 rfl (lv_at hl 2 rfl) ?_
        refine lv_iconst (v := (0 : Int32)) hx hb dX8_orders_29 (by decide) ?_
        obtain ⟨g10, hf⟩ := ob_ix hf
        refine ziast (f := (md_ways S)) X hh 17 rfl g10 dX8_orders_30 (fun H locs hh => ?_)
        have hh : zW K A s H locs (cMd K a0 a1 a2 a3 a4 a5 a6 a7 a8 a9 a10 a11 a12 a13 a14 a15 a16 a17 a18 a19 (md_set_ways S (upd (md_ways S) v2.toNatClampNeg (0 : Int32)))) := hh
        refine lv_iload_n hx hb dX8_orders_31 rfl (lv_at hl 2 rfl) ?_
        refine lv_iload_n hx hb dX8_orders_32 rfl (lv_at hl 1 rfl) ?_
        refine lv_iconst (v := (-1 : Int32)) hx hb dX8_orders_33 (by decide) ?_
        refine lv_ixor hx hb dX8_orders_34 ?_
        refine lv_iand hx hb dX8_orders_35 ?_
        refine lv_if_eq (tgt := 42) hx hb dX8_orders_36 (by decide) (fun c11 => ?_) (fun c11 => ?_)
        · replace hf := (if_pos c11).symm.trans hf
          refine lv_iconst (v := (0 : Int32)) hx hb dX8_orders_42 (by decide) ?_
          refine lv_istore_n (lv' := [(3, .int (0 : Int32)), (0, .ref a0), (1, .int v1), (2, .int v2)]) hx hb dX8_orders_43 rfl hl (by decide) rfl (fun ls hl => ?_)
          exact hL44 v1 v2 (fX8_orders_l14 v1 n) (ih) FU (0 : Int32) (md_set_ways S (upd (md_ways S) v2.toNatClampNeg (0 : Int32))) H locs ls hf (lv_sub hl [1, 2, 3, 0] rfl) hh
        · replace hf := (if_neg c11).symm.trans hf
          refine lv_goto (tgt := 104) hx hb dX8_orders_39 (by decide) ?_
          exact hJ104 v1 v2 (md_set_ways S (upd (md_ways S) v2.toNatClampNeg (0 : Int32))) (fX8_orders_l14 v1 n) (ih) H locs ls hf (lv_sub hl [0, 1, 2] rfl) hh
  unfold fX8_orders at hf
  refine (fun (hmain : ∀ (H : Heap) (locs : List Loc), zW K A s H locs (cMd K a0 a1 a2 a3 a4 a5 a6 a7 a8 a9 a10 a11 a12 a13 a14 a15 a16 a17 a18 a19 S) → W p l e ({ frames := 2, cells := 0, slots := 0, locals := 44 } : Room) s m ([.ref a0] : List Value).toArray below meth c H locs 0 0 Q (F0 m 0 ls [])) => hmain s.heap [] hh) (fun H locs hh => ?_)
  refine lv_aload_n hx hb dX8_orders_0 rfl (lv_at hl 0 rfl) ?_
  obtain ⟨u12, hu12, hf⟩ := ob_bind hf
  refine zcallV (ci := 7) (q0 := 0) (As := []) (rest := []) (wr := []) (ws' := cMd K a0 a1 a2 a3 a4 a5 a6 a7 a8 a9 a10 a11 a12 a13 a14 a15 a16 a17 a18 a19 S) (ov := some (.int u12)) X hh hl (kX8_standing l K a0 a1 a2 a3 a4 a5 a6 a7 a8 a9 a10 a11 a12 a13 a14 a15 a16 a17 a18 a19 S u12 hu12) (fun ht => cwV 0 ht gX8_orders_X8_standing rfl rfl rfl ⟨rfl, hdX8_standing⟩ ⟨Nat.le_of_ble_eq_true rfl, Nat.le_of_ble_eq_true rfl⟩) [0, 1, 2, 3, 4, 5, 6, 7, 8, 9, 10, 11, 12, 13, 14, 15, 16, 17, 18, 19] [] [0, 1, 2, 3, 4, 5, 6, 7, 8, 9, 10, 11, 12, 13, 14, 15, 16, 17, 18, 19] rfl rfl rfl rfl (by decide) rfl rfl rfl rfl rfl rfl (Nat.le_of_ble_eq_true rfl) dX8_orders_1 ⟨Nat.zero_le _, Nat.zero_le _⟩ (fun H locs hh => ?_)
  refine lv_istore_n (lv' := [(1, .int u12), (0, .ref a0)]) hx hb dX8_orders_4 rfl hl (by decide) rfl (fun ls hl => ?_)
  refine lv_aload_n hx hb dX8_orders_5 rfl (lv_at hl 1 rfl) ?_
  refine zget (v := .ref a17) (ref := "SumOfTwoThatStandModel") (C := RX8) (T := TX8) (N := 33) (index := 58) X hh inX8_orders_X8 0 rfl rfl 28 (by decide) mmX8_orders_1 rfl rfl dX8_orders_6 ?_
  refine lv_iconst (v := (0 : Int32)) hx hb dX8_orders_9 (by decide) ?_
  refine lv_iconst (v := (1 : Int32)) hx hb dX8_orders_10 (by decide) ?_
  obtain ⟨g13, hf⟩ := ob_ix hf
  refine ziast (f := (md_ways S)) X hh 17 rfl g13 dX8_orders_11 (fun H locs hh => ?_)
  have hh : zW K A s H locs (cMd K a0 a1 a2 a3 a4 a5 a6 a7 a8 a9 a10 a11 a12 a13 a14 a15 a16 a17 a18 a19 (md_set_ways S (upd (md_ways S) (0 : Int32).toNatClampNeg (1 : Int32)))) := hh
  refine lv_iconst (v := (1 : Int32)) hx hb dX8_orders_12 (by decide) ?_
  refine lv_istore_n (lv' := [(2, .int (1 : Int32)), (1, .int u12), (0, .ref a0)]) hx hb dX8_orders_13 rfl hl (by decide) rfl (fun ls hl => ?_)
  exact hL14 u12 FU (1 : Int32) (md_set_ways S (upd (md_ways S) (0 : Int32).toNatClampNeg (1 : Int32))) H locs ls hf (lv_sub hl [2, 1, 0] rfl) hh
def fX8_isSumIn_j29 (S : zMd) (v1 : Int32) (v2 : Int32) (v3 : Int32) (k2 : (Int32) → Option (Int32)) : Option (Int32) :=
  k2 (v3 + (1 : Int32))
def fX8_isSumIn_l2 (S : zMd) (v1 : Int32) (v2 : Int32) : Nat → (Int32) → Option (Int32)
  | 0, _ => none
  | n + 1, v3 =>
  if v2 < ((2 : Int32) * v3) then
  (some (0 : Int32))
  else
  (if (fX8_has v1 v3) = (0 : Int32) then
  (fX8_isSumIn_j29 S v1 v2 v3 (fX8_isSumIn_l2 S v1 v2 n))
  else
  (if (fX8_has v1 (v2 - v3)) = (0 : Int32) then
  (fX8_isSumIn_j29 S v1 v2 v3 (fX8_isSumIn_l2 S v1 v2 n))
  else
  (some (1 : Int32))))
def fX8_isSumIn (S : zMd) (p1 : Int32) (p2 : Int32) : Option (Int32) :=
  fX8_isSumIn_l2 S p1 p2 FU (1 : Int32)
theorem hdX8_isSumIn : yX8_isSumIn.cls ≠ "java/lang/invoke/MethodHandle" ∧ yX8_isSumIn.cls ≠ "java/lang/invoke/VarHandle" ∧ (parseMethodDescriptor yX8_isSumIn.desc).map (fun d => d.parameters.length) = some 2 := by decide +kernel
set_option maxHeartbeats 4000000 in
set_option maxRecDepth 100000 in
theorem kX8_isSumIn (l : Launch) (K : zK) (a0 a1 a2 a3 a4 a5 a6 a7 a8 a9 a10 a11 a12 a13 a14 a15 a16 a17 a18 a19 : Nat) (S : zMd) (p1 : Int32) (p2 : Int32) (R : Int32) (hf : fX8_isSumIn S p1 p2 = some R) : zC l yX8_isSumIn wsX8_isSumIn ({ frames := 1, cells := 0, slots := 0, locals := 21 } : Room) K [.ref a0, .int p1, .int p2] (cMd K a0 a1 a2 a3 a4 a5 a6 a7 a8 a9 a10 a11 a12 a13 a14 a15 a16 a17 a18 a19 S) (some (.int R)) (cMd K a0 a1 a2 a3 a4 a5 a6 a7 a8 a9 a10 a11 a12 a13 a14 a15 a16 a17 a18 a19 S) := by
  refine zC_z .boolean R (cc := cX8_isSumIn) (maxL := 4) (by decide +kernel) rfl (Nat.le_of_ble_eq_true rfl) rfl rfl ?_
  intro p e s m below meth c Q A X hret ls hl hh
  have X : zX p m c cX8_isSumIn 4 s ([.ref a0, .int p1, .int p2] : List Value).toArray wsX8_isSumIn RX8 K A := X
  have hx := X.1.1
  have hb := X.1.2.1
  have hr2 : ∀ (pc : Nat) (ls : Array Slot) (H : Heap) (locs : List Loc) (v : Int32), some v = some R → narrow .boolean (.int v) = .int v → decode cX8_isSumIn pc = .ok (.ireturn, 1) → zW K A s H locs (cMd K a0 a1 a2 a3 a4 a5 a6 a7 a8 a9 a10 a11 a12 a13 a14 a15 a16 a17 a18 a19 S) → W p l e ({ frames := 1, cells := 0, slots := 0, locals := 21 } : Room) s m ([.ref a0, .int p1, .int p2] : List Value).toArray below meth c H locs 0 0 Q (F0 m pc ls [.int v]) := by
    intro pc ls H locs v h hn hd hh
    cases h; exact hret pc ls H locs _ rfl hn hd hh
  have hl : lv_has ls 4 [(0, .ref a0), (1, .int p1), (2, .int p2)] := hl
  have hJ29 : ∀ (v1 : Int32) (v2 : Int32) (v3 : Int32) (k2 : (Int32) → Option (Int32)), (∀ (v3 : Int32) (H : Heap) (locs : List Loc) (ls : Array Slot), k2 v3 = some R → lv_has ls 4 [(1, .int v1), (2, .int v2), (3, .int v3)] → zW K A s H locs (cMd K a0 a1 a2 a3 a4 a5 a6 a7 a8 a9 a10 a11 a12 a13 a14 a15 a16 a17 a18 a19 S) → W p l e ({ frames := 1, cells := 0, slots := 0, locals := 21 } : Room) s m ([.ref a0, .int p1, .int p2] : List Value).toArray below meth c H locs 0 0 Q (F0 m 2 ls [])) → ∀ (H : Heap) (locs : List Loc) (ls : Array Slot), fX8_isSumIn_j29 S v1 v2 v3 k2 = some R → lv_has ls 4 [(1, .int v1), (2, .int v2), (3, .int v3)] → zW K A s H locs (cMd K a0 a1 a2 a3 a4 a5 a6 a7 a8 a9 a10 a11 a12 a13 a14 a15 a16 a17 a18 a19 S) → W p l e ({ frames := 1, cells := 0, slots := 0, locals := 21 } : Room) s m ([.ref a0, .int p1, .int p2] : List Value).toArray below meth c H locs 0 0 Q (F0 m 29 ls []) := by
    intro v1 v2 v3 k2 hk2 H locs ls hf hl hh
    unfold fX8_isSumIn_j29 at hf
    refine lv_iinc (v := (v3 + (1 : Int32))) (lv' := [(3, .int (v3 + (1 : Int32))), (1, .int v1), (2, .int v2)]) hx hb dX8_isSumIn_29 hl (k := 2) rfl rfl (by decide) rfl (fun ls hl => ?_)
    refine lv_goto (tgt := 2) hx hb dX8_isSumIn_32 (by decide) ?_
    exact hk2 (v3 + (1 : Int32)) H locs ls hf (lv_sub hl [1, 2, 0] rfl) hh
  have hL2 : ∀ (v1 : Int32) (v2 : Int32), ∀ (n : Nat) (v3 : Int32), ∀ (H : Heap) (locs : List Loc) (ls : Array Slot), fX8_isSumIn_l2 S v1 v2 n v3 = some R → lv_has ls 4 [(1, .int v1), (2, .int v2), (3, .int v3)] → zW K A s H locs (cMd K a0 a1 a2 a3 a4 a5 a6 a7 a8 a9 a10 a11 a12 a13 a14 a15 a16 a17 a18 a19 S) → W p l e ({ frames := 1, cells := 0, slots := 0, locals := 21 } : Room) s m ([.ref a0, .int p1, .int p2] : List Value).toArray below meth c H locs 0 0 Q (F0 m 2 ls []) := by
    intro v1 v2 n
    induction n with
    | zero =>
      intro v3 H locs ls hf hl hh
      rw [fX8_isSumIn_l2] at hf; cases hf
    | succ n ih =>
      intro v3 H locs ls hf hl hh
      rw [fX8_isSumIn_l2] at hf
      refine lv_iconst (v := (2 : Int32)) hx hb dX8_isSumIn_2 (by decide) ?_
      refine lv_iload_n hx hb dX8_isSumIn_3 rfl (lv_at hl 2 rfl) ?_
      refine lv_imul hx hb dX8_isSumIn_4 ?_
      refine lv_iload_n hx hb dX8_isSumIn_5 rfl (lv_at hl 1 rfl) ?_
      refine lv_icmp_gt (tgt := 35) hx hb dX8_isSumIn_6 (by decide) (fun c1 => ?_) (fun c1 => ?_)
      · replace hf := (if_pos c1).symm.trans hf
        refine lv_iconst (v := (0 : Int32)) hx hb dX8_isSumIn_35 (by decide) ?_
        exact hr2 36 ls H locs (0 : Int32) hf rfl dX8_isSumIn_36 hh
      · replace hf := (if_neg c1).symm.trans hf
        refine lv_iload_n hx hb dX8_isSumIn_9 rfl (lv_at hl 0 rfl) ?_
        refine lv_iload_n hx hb dX8_isSumIn_10 rfl (lv_at hl 2 rfl) ?_
        refine zcallS (As := [.int v1, .int v3]) (rest := []) (wr := cMd K a0 a1 a2 a3 a4 a5 a6 a7 a8 a9 a10 a11 a12 a13 a14 a15 a16 a17 a18 a19 S) (ws' := cMd K a0 a1 a2 a3 a4 a5 a6 a7 a8 a9 a10 a11 a12 a13 a14 a15 a16 a17 a18 a19 S) (ov := some (.int (fX8_has v1 v3))) X hh hl (kX8_has l K v1 v3 (fX8_has v1 v3) rfl) (fun ht => va_cwS 2 ht gX8_isSumIn_X8_has rfl rfl rfl hdX8_has ⟨Nat.le_of_ble_eq_true rfl, Nat.le_of_ble_eq_true rfl⟩) [] [0, 1, 2, 3, 4, 5, 6, 7, 8, 9, 10, 11, 12, 13, 14, 15, 16, 17, 18, 19] [0, 1, 2, 3, 4, 5, 6, 7, 8, 9, 10, 11, 12, 13, 14, 15, 16, 17, 18, 19] rfl rfl rfl rfl (by decide) rfl rfl rfl rfl (Nat.le_of_ble_eq_true rfl) dX8_isSumIn_11 ⟨Nat.zero_le _, Nat.zero_le _⟩ (fun H locs hh => ?_)
        refine lv_if_eq (tgt := 29) hx hb dX8_isSumIn_14 (by decide) (fun c3 => ?_) (fun c3 => ?_)
        · replace hf := (if_pos c3).symm.trans hf
          exact hJ29 v1 v2 v3 (fX8_isSumIn_l2 S v1 v2 n) (ih) H locs ls hf (lv_sub hl [0, 1, 2] rfl) hh
        · replace hf := (if_neg c3).symm.trans hf
          refine lv_iload_n hx hb dX8_isSumIn_17 rfl (lv_at hl 0 rfl) ?_
          refine lv_iload_n hx hb dX8_isSumIn_18 rfl (lv_at hl 1 rfl) ?_
          refine lv_iload_n hx hb dX8_isSumIn_19 rfl (lv_at hl 2 rfl) ?_
          refine lv_isub hx hb dX8_isSumIn_20 ?_
          refine zcallS (As := [.int v1, .int (v2 - v3)]) (rest := []) (wr := cMd K a0 a1 a2 a3 a4 a5 a6 a7 a8 a9 a10 a11 a12 a13 a14 a15 a16 a17 a18 a19 S) (ws' := cMd K a0 a1 a2 a3 a4 a5 a6 a7 a8 a9 a10 a11 a12 a13 a14 a15 a16 a17 a18 a19 S) (ov := some (.int (fX8_has v1 (v2 - v3)))) X hh hl (kX8_has l K v1 (v2 - v3) (fX8_has v1 (v2 - v3)) rfl) (fun ht => va_cwS 2 ht gX8_isSumIn_X8_has rfl rfl rfl hdX8_has ⟨Nat.le_of_ble_eq_true rfl, Nat.le_of_ble_eq_true rfl⟩) [] [0, 1, 2, 3, 4, 5, 6, 7, 8, 9, 10, 11, 12, 13, 14, 15, 16, 17, 18, 19] [0, 1, 2, 3, 4, 5, 6, 7, 8, 9, 10, 11, 12, 13, 14, 15, 16, 17, 18, 19] rfl rfl rfl rfl (by decide) rfl rfl rfl rfl (Nat.le_of_ble_eq_true rfl) dX8_isSumIn_21 ⟨Nat.zero_le _, Nat.zero_le _⟩ (fun H locs hh => ?_)
          refine lv_if_eq (tgt := 29) hx hb dX8_isSumIn_24 (by decide) (fun c5 => ?_) (fun c5 => ?_)
          · replace hf := (if_pos c5).symm.trans hf
            exact hJ29 v1 v2 v3 (fX8_isSumIn_l2 S v1 v2 n) (ih) H locs ls hf (lv_sub hl [0, 1, 2] rfl) hh
          · replace hf := (if_neg c5).symm.trans hf
            refine lv_iconst (v := (1 : Int32)) hx hb dX8_isSumIn_27 (by decide) ?_
            exact hr2 28 ls H locs (1 : Int32) hf rfl dX8_isSumIn_28 hh
  unfold fX8_isSumIn at hf
  refine (fun (hmain : ∀ (H : Heap) (locs : List Loc), zW K A s H locs (cMd K a0 a1 a2 a3 a4 a5 a6 a7 a8 a9 a10 a11 a12 a13 a14 a15 a16 a17 a18 a19 S) → W p l e ({ frames := 1, cells := 0, slots := 0, locals := 21 } : Room) s m ([.ref a0, .int p1, .int p2] : List Value).toArray below meth c H locs 0 0 Q (F0 m 0 ls [])) => hmain s.heap [] hh) (fun H locs hh => ?_)
  refine lv_iconst (v := (1 : Int32)) hx hb dX8_isSumIn_0 (by decide) ?_
  refine lv_istore_n (lv' := [(3, .int (1 : Int32)), (0, .ref a0), (1, .int p1), (2, .int p2)]) hx hb dX8_isSumIn_1 rfl hl (by decide) rfl (fun ls hl => ?_)
  exact hL2 p1 p2 FU (1 : Int32) H locs ls hf (lv_sub hl [2, 3, 0] rfl) hh
def fX8_doesWin_j44 (S : zMd) (v1 : Int32) (v2 : Int32) (v3 : Int32) (k2 : (Int32) → Option (Int32)) : Option (Int32) :=
  k2 (v3 + (1 : Int32))
def fX8_doesWin_l2 (S : zMd) (v1 : Int32) (v2 : Int32) : Nat → (Int32) → Option (Int32)
  | 0, _ => none
  | n + 1, v3 =>
  if v2 < v3 then
  (some (0 : Int32))
  else
  (if (fX8_has v1 v3) = (0 : Int32) then
  ((fX8_isSumIn S v1 v3).bind fun u4 =>
  if u4 = (0 : Int32) then
  (fX8_doesWin_j44 S v1 v2 v3 (fX8_doesWin_l2 S v1 v2 n))
  else
  (if v3 = v2 then
  (some (1 : Int32))
  else
  (ix 8192 (v1 ||| ((1 : Int32) <<< (v3 &&& 31))) (if ((md_wins S) (v1 ||| ((1 : Int32) <<< (v3 &&& 31))).toNatClampNeg) = (0 : Int32) then
  (some (1 : Int32))
  else
  (fX8_doesWin_j44 S v1 v2 v3 (fX8_doesWin_l2 S v1 v2 n))))))
  else
  (fX8_doesWin_j44 S v1 v2 v3 (fX8_doesWin_l2 S v1 v2 n)))
def fX8_doesWin (S : zMd) (p1 : Int32) (p2 : Int32) : Option (Int32) :=
  fX8_doesWin_l2 S p1 p2 FU (2 : Int32)
theorem inX8_doesWin_X8 : ∀ w ∈ wsX80, w ∈ wsX8_doesWin := by decide +kernel
theorem mmX8_doesWin_0 : Cond.fieldLink RX8 61 "SumOfTwoThatStandModel" "wins" "[I" ∈ wsX8_doesWin := by decide +kernel
theorem hdX8_doesWin : yX8_doesWin.cls ≠ "java/lang/invoke/MethodHandle" ∧ yX8_doesWin.cls ≠ "java/lang/invoke/VarHandle" ∧ (parseMethodDescriptor yX8_doesWin.desc).map (fun d => d.parameters.length) = some 2 := by decide +kernel
set_option maxHeartbeats 4000000 in
set_option maxRecDepth 100000 in
theorem kX8_doesWin (l : Launch) (K : zK) (a0 a1 a2 a3 a4 a5 a6 a7 a8 a9 a10 a11 a12 a13 a14 a15 a16 a17 a18 a19 : Nat) (S : zMd) (p1 : Int32) (p2 : Int32) (R : Int32) (hf : fX8_doesWin S p1 p2 = some R) : zC l yX8_doesWin wsX8_doesWin ({ frames := 2, cells := 0, slots := 0, locals := 44 } : Room) K [.ref a0, .int p1, .int p2] (cMd K a0 a1 a2 a3 a4 a5 a6 a7 a8 a9 a10 a11 a12 a13 a14 a15 a16 a17 a18 a19 S) (some (.int R)) (cMd K a0 a1 a2 a3 a4 a5 a6 a7 a8 a9 a10 a11 a12 a13 a14 a15 a16 a17 a18 a19 S) := by
  refine zC_z .boolean R (cc := cX8_doesWin) (maxL := 4) (by decide +kernel) rfl (Nat.le_of_ble_eq_true rfl) rfl rfl ?_
  intro p e s m below meth c Q A X hret ls hl hh
  have X : zX p m c cX8_doesWin 4 s ([.ref a0, .int p1, .int p2] : List Value).toArray wsX8_doesWin RX8 K A := X
  have hx := X.1.1
  have hb := X.1.2.1
  have hr2 : ∀ (pc : Nat) (ls : Array Slot) (H : Heap) (locs : List Loc) (v : Int32), some v = some R → narrow .boolean (.int v) = .int v → decode cX8_doesWin pc = .ok (.ireturn, 1) → zW K A s H locs (cMd K a0 a1 a2 a3 a4 a5 a6 a7 a8 a9 a10 a11 a12 a13 a14 a15 a16 a17 a18 a19 S) → W p l e ({ frames := 2, cells := 0, slots := 0, locals := 44 } : Room) s m ([.ref a0, .int p1, .int p2] : List Value).toArray below meth c H locs 0 0 Q (F0 m pc ls [.int v]) := by
    intro pc ls H locs v h hn hd hh
    cases h; exact hret pc ls H locs _ rfl hn hd hh
  have hl : lv_has ls 4 [(0, .ref a0), (1, .int p1), (2, .int p2)] := hl
  have hJ44 : ∀ (v1 : Int32) (v2 : Int32) (v3 : Int32) (k2 : (Int32) → Option (Int32)), (∀ (v3 : Int32) (H : Heap) (locs : List Loc) (ls : Array Slot), k2 v3 = some R → lv_has ls 4 [(0, .ref a0), (1, .int v1), (2, .int v2), (3, .int v3)] → zW K A s H locs (cMd K a0 a1 a2 a3 a4 a5 a6 a7 a8 a9 a10 a11 a12 a13 a14 a15 a16 a17 a18 a19 S) → W p l e ({ frames := 2, cells := 0, slots := 0, locals := 44 } : Room) s m ([.ref a0, .int p1, .int p2] : List Value).toArray below meth c H locs 0 0 Q (F0 m 2 ls [])) → ∀ (H : Heap) (locs : List Loc) (ls : Array Slot), fX8_doesWin_j44 S v1 v2 v3 k2 = some R → lv_has ls 4 [(0, .ref a0), (1, .int v1), (2, .int v2), (3, .int v3)] → zW K A s H locs (cMd K a0 a1 a2 a3 a4 a5 a6 a7 a8 a9 a10 a11 a12 a13 a14 a15 a16 a17 a18 a19 S) → W p l e ({ frames := 2, cells := 0, slots := 0, locals := 44 } : Room) s m ([.ref a0, .int p1, .int p2] : List Value).toArray below meth c H locs 0 0 Q (F0 m 44 ls []) := by
    intro v1 v2 v3 k2 hk2 H locs ls hf hl hh
    unfold fX8_doesWin_j44 at hf
    refine lv_iinc (v := (v3 + (1 : Int32))) (lv' := [(3, .int (v3 + (1 : Int32))), (0, .ref a0), (1, .int v1), (2, .int v2)]) hx hb dX8_doesWin_44 hl (k := 3) rfl rfl (by decide) rfl (fun ls hl => ?_)
    refine lv_goto (tgt := 2) hx hb dX8_doesWin_47 (by decide) ?_
    exact hk2 (v3 + (1 : Int32)) H locs ls hf (lv_sub hl [1, 2, 3, 0] rfl) hh
  have hL2 : ∀ (v1 : Int32) (v2 : Int32), ∀ (n : Nat) (v3 : Int32), ∀ (H : Heap) (locs : List Loc) (ls : Array Slot), fX8_doesWin_l2 S v1 v2 n v3 = some R → lv_has ls 4 [(0, .ref a0), (1, .int v1), (2, .int v2), (3, .int v3)] → zW K A s H locs (cMd K a0 a1 a2 a3 a4 a5 a6 a7 a8 a9 a10 a11 a12 a13 a14 a15 a16 a17 a18 a19 S) → W p l e ({ frames := 2, cells := 0, slots := 0, locals := 44 } : Room) s m ([.ref a0, .int p1, .int p2] : List Value).toArray below meth c H locs 0 0 Q (F0 m 2 ls []) := by
    intro v1 v2 n
    induction n with
    | zero =>
      intro v3 H locs ls hf hl hh
      rw [fX8_doesWin_l2] at hf; cases hf
    | succ n ih =>
      intro v3 H locs ls hf hl hh
      rw [fX8_doesWin_l2] at hf
      refine lv_iload_n hx hb dX8_doesWin_2 rfl (lv_at hl 3 rfl) ?_
      refine lv_iload_n hx hb dX8_doesWin_3 rfl (lv_at hl 2 rfl) ?_
      refine lv_icmp_gt (tgt := 50) hx hb dX8_doesWin_4 (by decide) (fun c1 => ?_) (fun c1 => ?_)
      · replace hf := (if_pos c1).symm.trans hf
        refine lv_iconst (v := (0 : Int32)) hx hb dX8_doesWin_50 (by decide) ?_
        exact hr2 51 ls H locs (0 : Int32) hf rfl dX8_doesWin_51 hh
      · replace hf := (if_neg c1).symm.trans hf
        refine lv_iload_n hx hb dX8_doesWin_7 rfl (lv_at hl 1 rfl) ?_
        refine lv_iload_n hx hb dX8_doesWin_8 rfl (lv_at hl 3 rfl) ?_
        refine zcallS (As := [.int v1, .int v3]) (rest := []) (wr := cMd K a0 a1 a2 a3 a4 a5 a6 a7 a8 a9 a10 a11 a12 a13 a14 a15 a16 a17 a18 a19 S) (ws' := cMd K a0 a1 a2 a3 a4 a5 a6 a7 a8 a9 a10 a11 a12 a13 a14 a15 a16 a17 a18 a19 S) (ov := some (.int (fX8_has v1 v3))) X hh hl (kX8_has l K v1 v3 (fX8_has v1 v3) rfl) (fun ht => va_cwS 2 ht gX8_doesWin_X8_has rfl rfl rfl hdX8_has ⟨Nat.le_of_ble_eq_true rfl, Nat.le_of_ble_eq_true rfl⟩) [] [0, 1, 2, 3, 4, 5, 6, 7, 8, 9, 10, 11, 12, 13, 14, 15, 16, 17, 18, 19] [0, 1, 2, 3, 4, 5, 6, 7, 8, 9, 10, 11, 12, 13, 14, 15, 16, 17, 18, 19] rfl rfl rfl rfl (by decide) rfl rfl rfl rfl (Nat.le_of_ble_eq_true rfl) dX8_doesWin_9 ⟨Nat.zero_le _, Nat.zero_le _⟩ (fun H locs hh => ?_)
        refine lv_if_ne (tgt := 44) hx hb dX8_doesWin_12 (by decide) (fun c3 => ?_) (fun c3 => ?_)
        · replace hf := (if_neg c3).symm.trans hf
          exact hJ44 v1 v2 v3 (fX8_doesWin_l2 S v1 v2 n) (ih) H locs ls hf (lv_sub hl [0, 1, 2, 3] rfl) hh
        · replace hf := (if_pos c3).symm.trans hf
          refine lv_aload_n hx hb dX8_doesWin_15 rfl (lv_at hl 0 rfl) ?_
          refine lv_iload_n hx hb dX8_doesWin_16 rfl (lv_at hl 1 rfl) ?_
          refine lv_iload_n hx hb dX8_doesWin_17 rfl (lv_at hl 3 rfl) ?_
          obtain ⟨u4, hu4, hf⟩ := ob_bind hf
          refine zcallV (ci := 7) (q0 := 0) (As := [.int v1, .int v3]) (rest := []) (wr := []) (ws' := cMd K a0 a1 a2 a3 a4 a5 a6 a7 a8 a9 a10 a11 a12 a13 a14 a15 a16 a17 a18 a19 S) (ov := some (.int u4)) X hh hl (kX8_isSumIn l K a0 a1 a2 a3 a4 a5 a6 a7 a8 a9 a10 a11 a12 a13 a14 a15 a16 a17 a18 a19 S v1 v3 u4 hu4) (fun ht => cwV 2 ht gX8_doesWin_X8_isSumIn rfl rfl rfl ⟨rfl, hdX8_isSumIn⟩ ⟨Nat.le_of_ble_eq_true rfl, Nat.le_of_ble_eq_true rfl⟩) [0, 1, 2, 3, 4, 5, 6, 7, 8, 9, 10, 11, 12, 13, 14, 15, 16, 17, 18, 19] [] [0, 1, 2, 3, 4, 5, 6, 7, 8, 9, 10, 11, 12, 13, 14, 15, 16, 17, 18, 19] rfl rfl rfl rfl (by decide) rfl rfl rfl rfl rfl rfl (Nat.le_of_ble_eq_true rfl) dX8_doesWin_18 ⟨Nat.zero_le _, Nat.zero_le _⟩ (fun H locs hh => ?_)
          refine lv_if_eq (tgt := 44) hx hb dX8_doesWin_21 (by decide) (fun c5 => ?_) (fun c5 => ?_)
          · replace hf := (if_pos c5).symm.trans hf
            exact hJ44 v1 v2 v3 (fX8_doesWin_l2 S v1 v2 n) (ih) H locs ls hf (lv_sub hl [0, 1, 2, 3] rfl) hh
          · replace hf := (if_neg c5).symm.trans hf
            refine lv_iload_n hx hb dX8_doesWin_24 rfl (lv_at hl 3 rfl) ?_
            refine lv_iload_n hx hb dX8_doesWin_25 rfl (lv_at hl 2 rfl) ?_
            refine lv_icmp_eq (tgt := 42) hx hb dX8_doesWin_26 (by decide) (fun c6 => ?_) (fun c6 => ?_)
            · replace hf := (if_pos c6).symm.trans hf
              refine lv_iconst (v := (1 : Int32)) hx hb dX8_doesWin_42 (by decide) ?_
              exact hr2 43 ls H locs (1 : Int32) hf rfl dX8_doesWin_43 hh
            · replace hf := (if_neg c6).symm.trans hf
              refine lv_aload_n hx hb dX8_doesWin_29 rfl (lv_at hl 0 rfl) ?_
              refine zget (v := .ref a18) (ref := "SumOfTwoThatStandModel") (C := RX8) (T := TX8) (N := 33) (index := 61) X hh inX8_doesWin_X8 0 rfl rfl 29 (by decide) mmX8_doesWin_0 rfl rfl dX8_doesWin_30 ?_
              refine lv_iload_n hx hb dX8_doesWin_33 rfl (lv_at hl 1 rfl) ?_
              refine lv_iconst (v := (1 : Int32)) hx hb dX8_doesWin_34 (by decide) ?_
              refine lv_iload_n hx hb dX8_doesWin_35 rfl (lv_at hl 3 rfl) ?_
              refine lv_ishl hx hb dX8_doesWin_36 ?_
              refine lv_ior hx hb dX8_doesWin_37 ?_
              obtain ⟨g7, hf⟩ := ob_ix hf
              refine ziald (f := (md_wins S)) X hh 18 rfl g7 dX8_doesWin_38 ?_
              refine lv_if_ne (tgt := 44) hx hb dX8_doesWin_39 (by decide) (fun c8 => ?_) (fun c8 => ?_)
              · replace hf := (if_neg c8).symm.trans hf
                exact hJ44 v1 v2 v3 (fX8_doesWin_l2 S v1 v2 n) (ih) H locs ls hf (lv_sub hl [0, 1, 2, 3] rfl) hh
              · replace hf := (if_pos c8).symm.trans hf
                refine lv_iconst (v := (1 : Int32)) hx hb dX8_doesWin_42 (by decide) ?_
                exact hr2 43 ls H locs (1 : Int32) hf rfl dX8_doesWin_43 hh
  unfold fX8_doesWin at hf
  refine (fun (hmain : ∀ (H : Heap) (locs : List Loc), zW K A s H locs (cMd K a0 a1 a2 a3 a4 a5 a6 a7 a8 a9 a10 a11 a12 a13 a14 a15 a16 a17 a18 a19 S) → W p l e ({ frames := 2, cells := 0, slots := 0, locals := 44 } : Room) s m ([.ref a0, .int p1, .int p2] : List Value).toArray below meth c H locs 0 0 Q (F0 m 0 ls [])) => hmain s.heap [] hh) (fun H locs hh => ?_)
  refine lv_iconst (v := (2 : Int32)) hx hb dX8_doesWin_0 (by decide) ?_
  refine lv_istore_n (lv' := [(3, .int (2 : Int32)), (0, .ref a0), (1, .int p1), (2, .int p2)]) hx hb dX8_doesWin_1 rfl hl (by decide) rfl (fun ls hl => ?_)
  exact hL2 p1 p2 FU (2 : Int32) H locs ls hf (lv_sub hl [1, 2, 3, 0] rfl) hh
def fX8_game_j56 (v1 : Int32) (v3 : Int32) (t1 : Int32) (t2 : Int32) (S : zMd) (k24 : (Int32) → (zMd) → Option (Int32 × zMd)) : Option (Int32 × zMd) :=
  ix 8192 t1 (k24 (v3 + (-1 : Int32)) (md_set_wins S (upd (md_wins S) t1.toNatClampNeg t2)))
def fX8_game_j55 (v1 : Int32) (v3 : Int32) (t1 : Int32) (S : zMd) (k24 : (Int32) → (zMd) → Option (Int32 × zMd)) : Option (Int32 × zMd) :=
  fX8_game_j56 v1 v3 t1 (0 : Int32) S (k24)
def fX8_game_l24 (v1 : Int32) : Nat → (Int32) → (zMd) → Option (Int32 × zMd)
  | 0, _, _ => none
  | n + 1, v3, S =>
  if v3 < (2 : Int32) then
  (ix 8192 (2 : Int32) (some (((md_wins S) (2 : Int32).toNatClampNeg), S)))
  else
  (if (fX8_has v3 (1 : Int32)) = (0 : Int32) then
  (fX8_game_j55 v1 v3 v3 S (fX8_game_l24 v1 n))
  else
  ((fX8_doesWin S v3 v1).bind fun u6 =>
  if u6 = (0 : Int32) then
  (fX8_game_j55 v1 v3 v3 S (fX8_game_l24 v1 n))
  else
  (fX8_game_j56 v1 v3 v3 (1 : Int32) S (fX8_game_l24 v1 n))))
def fX8_game (S : zMd) (p1 : Int32) : Option (Int32 × zMd) :=
  if (fX8_bound p1 (2 : Int32) (12 : Int32)) = (0 : Int32) then
  (fX8_game_l24 p1 FU (((1 : Int32) <<< (p1 &&& 31)) - (1 : Int32)) S)
  else
  ((fX8_no S (fX8_bound p1 (2 : Int32) (12 : Int32))).bind fun u10 =>
  some (u10.1, u10.2))
theorem inX8_game_X8 : ∀ w ∈ wsX80, w ∈ wsX8_game := by decide +kernel
theorem mmX8_game_0 : Cond.fieldLink RX8 61 "SumOfTwoThatStandModel" "wins" "[I" ∈ wsX8_game := by decide +kernel
theorem hdX8_game : yX8_game.cls ≠ "java/lang/invoke/MethodHandle" ∧ yX8_game.cls ≠ "java/lang/invoke/VarHandle" ∧ (parseMethodDescriptor yX8_game.desc).map (fun d => d.parameters.length) = some 1 := by decide +kernel
set_option maxHeartbeats 4000000 in
set_option maxRecDepth 100000 in
theorem kX8_game (l : Launch) (K : zK) (a0 a1 a2 a3 a4 a5 a6 a7 a8 a9 a10 a11 a12 a13 a14 a15 a16 a17 a18 a19 : Nat) (S : zMd) (p1 : Int32) (R : Int32 × zMd) (hf : fX8_game S p1 = some R) : zC l yX8_game wsX8_game ({ frames := 3, cells := 0, slots := 0, locals := 67 } : Room) K [.ref a0, .int p1] (cMd K a0 a1 a2 a3 a4 a5 a6 a7 a8 a9 a10 a11 a12 a13 a14 a15 a16 a17 a18 a19 S) (some (.int R.1)) (cMd K a0 a1 a2 a3 a4 a5 a6 a7 a8 a9 a10 a11 a12 a13 a14 a15 a16 a17 a18 a19 R.2) := by
  refine zC_i R.1 (cc := cX8_game) (maxL := 4) (by decide +kernel) rfl (Nat.le_of_ble_eq_true rfl) rfl rfl ?_
  intro p e s m below meth c Q A X hret ls hl hh
  have X : zX p m c cX8_game 4 s ([.ref a0, .int p1] : List Value).toArray wsX8_game RX8 K A := X
  have hx := X.1.1
  have hb := X.1.2.1
  have hr2 : ∀ (pc : Nat) (ls : Array Slot) (H : Heap) (locs : List Loc) (v : Int32) (S : zMd), some (v, S) = some R → decode cX8_game pc = .ok (.ireturn, 1) → zW K A s H locs (cMd K a0 a1 a2 a3 a4 a5 a6 a7 a8 a9 a10 a11 a12 a13 a14 a15 a16 a17 a18 a19 S) → W p l e ({ frames := 3, cells := 0, slots := 0, locals := 67 } : Room) s m ([.ref a0, .int p1] : List Value).toArray below meth c H locs 0 0 Q (F0 m pc ls [.int v]) := by
    intro pc ls H locs v S h hd hh
    cases h; exact hret pc ls H locs _ rfl hd hh
  have hl : lv_has ls 4 [(0, .ref a0), (1, .int p1)] := hl
  have hJ56 : ∀ (v1 : Int32) (v3 : Int32) (t1 : Int32) (t2 : Int32) (S : zMd) (k24 : (Int32) → (zMd) → Option (Int32 × zMd)), (∀ (v3 : Int32) (S : zMd) (H : Heap) (locs : List Loc) (ls : Array Slot), k24 v3 S = some R → lv_has ls 4 [(0, .ref a0), (1, .int v1), (3, .int v3)] → zW K A s H locs (cMd K a0 a1 a2 a3 a4 a5 a6 a7 a8 a9 a10 a11 a12 a13 a14 a15 a16 a17 a18 a19 S) → W p l e ({ frames := 3, cells := 0, slots := 0, locals := 67 } : Room) s m ([.ref a0, .int p1] : List Value).toArray below meth c H locs 0 0 Q (F0 m 24 ls [])) → ∀ (H : Heap) (locs : List Loc) (ls : Array Slot), fX8_game_j56 v1 v3 t1 t2 S k24 = some R → lv_has ls 4 [(0, .ref a0), (1, .int v1), (3, .int v3)] → zW K A s H locs (cMd K a0 a1 a2 a3 a4 a5 a6 a7 a8 a9 a10 a11 a12 a13 a14 a15 a16 a17 a18 a19 S) → W p l e ({ frames := 3, cells := 0, slots := 0, locals := 67 } : Room) s m ([.ref a0, .int p1] : List Value).toArray below meth c H locs 0 0 Q (F0 m 56 ls [.int t2, .int t1, .ref a18]) := by
    intro v1 v3 t1 t2 S k24 hk24 H locs ls hf hl hh
    unfold fX8_game_j56 at hf
    obtain ⟨g1, hf⟩ := ob_ix hf
    refine ziast (f := (md_wins S)) X hh 18 rfl g1 dX8_game_56 (fun H locs hh => ?_)
    have hh : zW K A s H locs (cMd K a0 a1 a2 a3 a4 a5 a6 a7 a8 a9 a10 a11 a12 a13 a14 a15 a16 a17 a18 a19 (md_set_wins S (upd (md_wins S) t1.toNatClampNeg t2))) := hh
    refine lv_iinc (v := (v3 + (-1 : Int32))) (lv' := [(3, .int (v3 + (-1 : Int32))), (0, .ref a0), (1, .int v1)]) hx hb dX8_game_57 hl (k := 2) rfl rfl (by decide) rfl (fun ls hl => ?_)
    refine lv_goto (tgt := 24) hx hb dX8_game_60 (by decide) ?_
    exact hk24 (v3 + (-1 : Int32)) (md_set_wins S (upd (md_wins S) t1.toNatClampNeg t2)) H locs ls hf (lv_sub hl [1, 2, 0] rfl) hh
  have hJ55 : ∀ (v1 : Int32) (v3 : Int32) (t1 : Int32) (S : zMd) (k24 : (Int32) → (zMd) → Option (Int32 × zMd)), (∀ (v3 : Int32) (S : zMd) (H : Heap) (locs : List Loc) (ls : Array Slot), k24 v3 S = some R → lv_has ls 4 [(0, .ref a0), (1, .int v1), (3, .int v3)] → zW K A s H locs (cMd K a0 a1 a2 a3 a4 a5 a6 a7 a8 a9 a10 a11 a12 a13 a14 a15 a16 a17 a18 a19 S) → W p l e ({ frames := 3, cells := 0, slots := 0, locals := 67 } : Room) s m ([.ref a0, .int p1] : List Value).toArray below meth c H locs 0 0 Q (F0 m 24 ls [])) → ∀ (H : Heap) (locs : List Loc) (ls : Array Slot), fX8_game_j55 v1 v3 t1 S k24 = some R → lv_has ls 4 [(0, .ref a0), (1, .int v1), (3, .int v3)] → zW K A s H locs (cMd K a0 a1 a2 a3 a4 a5 a6 a7 a8 a9 a10 a11 a12 a13 a14 a15 a16 a17 a18 a19 S) → W p l e ({ frames := 3, cells := 0, slots := 0, locals := 67 } : Room) s m ([.ref a0, .int p1] : List Value).toArray below meth c H locs 0 0 Q (F0 m 55 ls [.int t1, .ref a18]) := by
    intro v1 v3 t1 S k24 hk24 H locs ls hf hl hh
    unfold fX8_game_j55 at hf
    refine lv_iconst (v := (0 : Int32)) hx hb dX8_game_55 (by decide) ?_
    exact hJ56 v1 v3 t1 (0 : Int32) S (k24) (hk24) H locs ls hf (lv_sub hl [0, 1, 2] rfl) hh
  have hL24 : ∀ (v1 : Int32), ∀ (n : Nat) (v3 : Int32) (S : zMd), ∀ (H : Heap) (locs : List Loc) (ls : Array Slot), fX8_game_l24 v1 n v3 S = some R → lv_has ls 4 [(0, .ref a0), (1, .int v1), (3, .int v3)] → zW K A s H locs (cMd K a0 a1 a2 a3 a4 a5 a6 a7 a8 a9 a10 a11 a12 a13 a14 a15 a16 a17 a18 a19 S) → W p l e ({ frames := 3, cells := 0, slots := 0, locals := 67 } : Room) s m ([.ref a0, .int p1] : List Value).toArray below meth c H locs 0 0 Q (F0 m 24 ls []) := by
    intro v1 n
    induction n with
    | zero =>
      intro v3 S H locs ls hf hl hh
      rw [fX8_game_l24] at hf; cases hf
    | succ n ih =>
      intro v3 S H locs ls hf hl hh
      rw [fX8_game_l24] at hf
      refine lv_iload_n hx hb dX8_game_24 rfl (lv_at hl 2 rfl) ?_
      refine lv_iconst (v := (2 : Int32)) hx hb dX8_game_25 (by decide) ?_
      refine lv_icmp_lt (tgt := 63) hx hb dX8_game_26 (by decide) (fun c2 => ?_) (fun c2 => ?_)
      · replace hf := (if_pos c2).symm.trans hf
        refine lv_aload_n hx hb dX8_game_63 rfl (lv_at hl 0 rfl) ?_
        refine zget (v := .ref a18) (ref := "SumOfTwoThatStandModel") (C := RX8) (T := TX8) (N := 33) (index := 61) X hh inX8_game_X8 0 rfl rfl 29 (by decide) mmX8_game_0 rfl rfl dX8_game_64 ?_
        refine lv_iconst (v := (2 : Int32)) hx hb dX8_game_67 (by decide) ?_
        obtain ⟨g3, hf⟩ := ob_ix hf
        refine ziald (f := (md_wins S)) X hh 18 rfl g3 dX8_game_68 ?_
        exact hr2 69 ls H locs ((md_wins S) (2 : Int32).toNatClampNeg) S hf dX8_game_69 hh
      · replace hf := (if_neg c2).symm.trans hf
        refine lv_aload_n hx hb dX8_game_29 rfl (lv_at hl 0 rfl) ?_
        refine zget (v := .ref a18) (ref := "SumOfTwoThatStandModel") (C := RX8) (T := TX8) (N := 33) (index := 61) X hh inX8_game_X8 0 rfl rfl 29 (by decide) mmX8_game_0 rfl rfl dX8_game_30 ?_
        refine lv_iload_n hx hb dX8_game_33 rfl (lv_at hl 2 rfl) ?_
        refine lv_iload_n hx hb dX8_game_34 rfl (lv_at hl 2 rfl) ?_
        refine lv_iconst (v := (1 : Int32)) hx hb dX8_game_35 (by decide) ?_
        refine zcallS (As := [.int v3, .int (1 : Int32)]) (rest := [.int v3, .ref a18]) (wr := cMd K a0 a1 a2 a3 a4 a5 a6 a7 a8 a9 a10 a11 a12 a13 a14 a15 a16 a17 a18 a19 S) (ws' := cMd K a0 a1 a2 a3 a4 a5 a6 a7 a8 a9 a10 a11 a12 a13 a14 a15 a16 a17 a18 a19 S) (ov := some (.int (fX8_has v3 (1 : Int32)))) X hh hl (kX8_has l K v3 (1 : Int32) (fX8_has v3 (1 : Int32)) rfl) (fun ht => va_cwS 2 ht gX8_game_X8_has rfl rfl rfl hdX8_has ⟨Nat.le_of_ble_eq_true rfl, Nat.le_of_ble_eq_true rfl⟩) [] [0, 1, 2, 3, 4, 5, 6, 7, 8, 9, 10, 11, 12, 13, 14, 15, 16, 17, 18, 19] [0, 1, 2, 3, 4, 5, 6, 7, 8, 9, 10, 11, 12, 13, 14, 15, 16, 17, 18, 19] rfl rfl rfl rfl (by decide) rfl rfl rfl rfl (Nat.le_of_ble_eq_true rfl) dX8_game_36 ⟨Nat.zero_le _, Nat.zero_le _⟩ (fun H locs hh => ?_)
        refine lv_if_eq (tgt := 55) hx hb dX8_game_39 (by decide) (fun c5 => ?_) (fun c5 => ?_)
        · replace hf := (if_pos c5).symm.trans hf
          exact hJ55 v1 v3 v3 S (fX8_game_l24 v1 n) (ih) H locs ls hf (lv_sub hl [0, 1, 2] rfl) hh
        · replace hf := (if_neg c5).symm.trans hf
          refine lv_aload_n hx hb dX8_game_42 rfl (lv_at hl 0 rfl) ?_
          refine lv_iload_n hx hb dX8_game_43 rfl (lv_at hl 2 rfl) ?_
          refine lv_iload_n hx hb dX8_game_44 rfl (lv_at hl 1 rfl) ?_
          obtain ⟨u6, hu6, hf⟩ := ob_bind hf
          refine zcallV (ci := 7) (q0 := 0) (As := [.int v3, .int v1]) (rest := [.int v3, .ref a18]) (wr := []) (ws' := cMd K a0 a1 a2 a3 a4 a5 a6 a7 a8 a9 a10 a11 a12 a13 a14 a15 a16 a17 a18 a19 S) (ov := some (.int u6)) X hh hl (kX8_doesWin l K a0 a1 a2 a3 a4 a5 a6 a7 a8 a9 a10 a11 a12 a13 a14 a15 a16 a17 a18 a19 S v3 v1 u6 hu6) (fun ht => cwV 2 ht gX8_game_X8_doesWin rfl rfl rfl ⟨rfl, hdX8_doesWin⟩ ⟨Nat.le_of_ble_eq_true rfl, Nat.le_of_ble_eq_true rfl⟩) [0, 1, 2, 3, 4, 5, 6, 7, 8, 9, 10, 11, 12, 13, 14, 15, 16, 17, 18, 19] [] [0, 1, 2, 3, 4, 5, 6, 7, 8, 9, 10, 11, 12, 13, 14, 15, 16, 17, 18, 19] rfl rfl rfl rfl (by decide) rfl rfl rfl rfl rfl rfl (Nat.le_of_ble_eq_true rfl) dX8_game_45 ⟨Nat.zero_le _, Nat.zero_le _⟩ (fun H locs hh => ?_)
          refine lv_if_eq (tgt := 55) hx hb dX8_game_48 (by decide) (fun c7 => ?_) (fun c7 => ?_)
          · replace hf := (if_pos c7).symm.trans hf
            exact hJ55 v1 v3 v3 S (fX8_game_l24 v1 n) (ih) H locs ls hf (lv_sub hl [0, 1, 2] rfl) hh
          · replace hf := (if_neg c7).symm.trans hf
            refine lv_iconst (v := (1 : Int32)) hx hb dX8_game_51 (by decide) ?_
            refine lv_goto (tgt := 56) hx hb dX8_game_52 (by decide) ?_
            exact hJ56 v1 v3 v3 (1 : Int32) S (fX8_game_l24 v1 n) (ih) H locs ls hf (lv_sub hl [0, 1, 2] rfl) hh
  unfold fX8_game at hf
  refine (fun (hmain : ∀ (H : Heap) (locs : List Loc), zW K A s H locs (cMd K a0 a1 a2 a3 a4 a5 a6 a7 a8 a9 a10 a11 a12 a13 a14 a15 a16 a17 a18 a19 S) → W p l e ({ frames := 3, cells := 0, slots := 0, locals := 67 } : Room) s m ([.ref a0, .int p1] : List Value).toArray below meth c H locs 0 0 Q (F0 m 0 ls [])) => hmain s.heap [] hh) (fun H locs hh => ?_)
  refine lv_iload_n hx hb dX8_game_0 rfl (lv_at hl 1 rfl) ?_
  refine lv_iconst (v := (2 : Int32)) hx hb dX8_game_1 (by decide) ?_
  refine lv_bipush (v := (12 : Int32)) hx hb dX8_game_2 (by decide) ?_
  refine zcallS (As := [.int p1, .int (2 : Int32), .int (12 : Int32)]) (rest := []) (wr := cMd K a0 a1 a2 a3 a4 a5 a6 a7 a8 a9 a10 a11 a12 a13 a14 a15 a16 a17 a18 a19 S) (ws' := cMd K a0 a1 a2 a3 a4 a5 a6 a7 a8 a9 a10 a11 a12 a13 a14 a15 a16 a17 a18 a19 S) (ov := some (.int (fX8_bound p1 (2 : Int32) (12 : Int32)))) X hh hl (kX8_bound l K p1 (2 : Int32) (12 : Int32) (fX8_bound p1 (2 : Int32) (12 : Int32)) rfl) (fun ht => va_cwS 3 ht gX8_game_X8_bound rfl rfl rfl hdX8_bound ⟨Nat.le_of_ble_eq_true rfl, Nat.le_of_ble_eq_true rfl⟩) [] [0, 1, 2, 3, 4, 5, 6, 7, 8, 9, 10, 11, 12, 13, 14, 15, 16, 17, 18, 19] [0, 1, 2, 3, 4, 5, 6, 7, 8, 9, 10, 11, 12, 13, 14, 15, 16, 17, 18, 19] rfl rfl rfl rfl (by decide) rfl rfl rfl rfl (Nat.le_of_ble_eq_true rfl) dX8_game_4 ⟨Nat.zero_le _, Nat.zero_le _⟩ (fun H locs hh => ?_)
  refine lv_istore_n (lv' := [(2, .int (fX8_bound p1 (2 : Int32) (12 : Int32))), (0, .ref a0), (1, .int p1)]) hx hb dX8_game_7 rfl hl (by decide) rfl (fun ls hl => ?_)
  refine lv_iload_n hx hb dX8_game_8 rfl (lv_at hl 0 rfl) ?_
  refine lv_if_eq (tgt := 18) hx hb dX8_game_9 (by decide) (fun c9 => ?_) (fun c9 => ?_)
  · replace hf := (if_pos c9).symm.trans hf
    refine lv_iconst (v := (1 : Int32)) hx hb dX8_game_18 (by decide) ?_
    refine lv_iload_n hx hb dX8_game_19 rfl (lv_at hl 2 rfl) ?_
    refine lv_ishl hx hb dX8_game_20 ?_
    refine lv_iconst (v := (1 : Int32)) hx hb dX8_game_21 (by decide) ?_
    refine lv_isub hx hb dX8_game_22 ?_
    refine lv_istore_n (lv' := [(3, .int (((1 : Int32) <<< (p1 &&& 31)) - (1 : Int32))), (2, .int (fX8_bound p1 (2 : Int32) (12 : Int32))), (0, .ref a0), (1, .int p1)]) hx hb dX8_game_23 rfl hl (by decide) rfl (fun ls hl => ?_)
    exact hL24 p1 FU (((1 : Int32) <<< (p1 &&& 31)) - (1 : Int32)) S H locs ls hf (lv_sub hl [2, 3, 0] rfl) hh
  · replace hf := (if_neg c9).symm.trans hf
    refine lv_aload_n hx hb dX8_game_12 rfl (lv_at hl 1 rfl) ?_
    refine lv_iload_n hx hb dX8_game_13 rfl (lv_at hl 0 rfl) ?_
    obtain ⟨u10, hu10, hf⟩ := ob_bind hf
    refine zcallV (ci := 7) (q0 := 0) (As := [.int (fX8_bound p1 (2 : Int32) (12 : Int32))]) (rest := []) (wr := []) (ws' := cMd K a0 a1 a2 a3 a4 a5 a6 a7 a8 a9 a10 a11 a12 a13 a14 a15 a16 a17 a18 a19 u10.2) (ov := some (.int u10.1)) X hh hl (kX8_no l K a0 a1 a2 a3 a4 a5 a6 a7 a8 a9 a10 a11 a12 a13 a14 a15 a16 a17 a18 a19 S (fX8_bound p1 (2 : Int32) (12 : Int32)) u10 hu10) (fun ht => cwV 1 ht gX8_game_X8_no rfl rfl rfl ⟨rfl, hdX8_no⟩ ⟨Nat.le_of_ble_eq_true rfl, Nat.le_of_ble_eq_true rfl⟩) [0, 1, 2, 3, 4, 5, 6, 7, 8, 9, 10, 11, 12, 13, 14, 15, 16, 17, 18, 19] [] [0, 1, 2, 3, 4, 5, 6, 7, 8, 9, 10, 11, 12, 13, 14, 15, 16, 17, 18, 19] rfl rfl rfl rfl (by decide) rfl rfl rfl rfl rfl rfl (Nat.le_of_ble_eq_true rfl) dX8_game_14 ⟨Nat.zero_le _, Nat.zero_le _⟩ (fun H locs hh => ?_)
    exact hr2 17 ls H locs u10.1 u10.2 hf dX8_game_17 hh
def fX8_row_j25 (v1 : Int32) (v2 : Int32) (S : zMd) : Option (Int32 × zMd) :=
  if v2 = (0 : Int32) then
  (ix 12 (md_rowMany S) (some (((md_rowMany S) + (1 : Int32)), (md_set_rowMany (md_set_row S (upd (md_row S) (md_rowMany S).toNatClampNeg v1)) ((md_rowMany S) + (1 : Int32))))))
  else
  ((fX8_no S v2).bind fun u3 =>
  some (u3.1, u3.2))
def fX8_row (S : zMd) (p1 : Int32) : Option (Int32 × zMd) :=
  if (fX8_bound p1 (1 : Int32) (9999 : Int32)) = (0 : Int32) then
  (if (md_rowMany S) = (12 : Int32) then
  (fX8_row_j25 p1 (-6 : Int32) S)
  else
  (fX8_row_j25 p1 (fX8_bound p1 (1 : Int32) (9999 : Int32)) S))
  else
  (fX8_row_j25 p1 (fX8_bound p1 (1 : Int32) (9999 : Int32)) S)
theorem inX8_row_X8 : ∀ w ∈ wsX80, w ∈ wsX8_row := by decide +kernel
theorem mmX8_row_0 : Cond.fieldLink RX8 64 "SumOfTwoThatStandModel" "row" "[I" ∈ wsX8_row := by decide +kernel
theorem mmX8_row_1 : Cond.fieldLink RX8 268 "SumOfTwoThatStandModel" "rowMany" "I" ∈ wsX8_row := by decide +kernel
theorem hdX8_row : yX8_row.cls ≠ "java/lang/invoke/MethodHandle" ∧ yX8_row.cls ≠ "java/lang/invoke/VarHandle" ∧ (parseMethodDescriptor yX8_row.desc).map (fun d => d.parameters.length) = some 1 := by decide +kernel
set_option maxHeartbeats 4000000 in
set_option maxRecDepth 100000 in
theorem kX8_row (l : Launch) (K : zK) (a0 a1 a2 a3 a4 a5 a6 a7 a8 a9 a10 a11 a12 a13 a14 a15 a16 a17 a18 a19 : Nat) (S : zMd) (p1 : Int32) (R : Int32 × zMd) (hf : fX8_row S p1 = some R) : zC l yX8_row wsX8_row ({ frames := 1, cells := 0, slots := 0, locals := 22 } : Room) K [.ref a0, .int p1] (cMd K a0 a1 a2 a3 a4 a5 a6 a7 a8 a9 a10 a11 a12 a13 a14 a15 a16 a17 a18 a19 S) (some (.int R.1)) (cMd K a0 a1 a2 a3 a4 a5 a6 a7 a8 a9 a10 a11 a12 a13 a14 a15 a16 a17 a18 a19 R.2) := by
  refine zC_i R.1 (cc := cX8_row) (maxL := 3) (by decide +kernel) rfl (Nat.le_of_ble_eq_true rfl) rfl rfl ?_
  intro p e s m below meth c Q A X hret ls hl hh
  have X : zX p m c cX8_row 3 s ([.ref a0, .int p1] : List Value).toArray wsX8_row RX8 K A := X
  have hx := X.1.1
  have hb := X.1.2.1
  have hr2 : ∀ (pc : Nat) (ls : Array Slot) (H : Heap) (locs : List Loc) (v : Int32) (S : zMd), some (v, S) = some R → decode cX8_row pc = .ok (.ireturn, 1) → zW K A s H locs (cMd K a0 a1 a2 a3 a4 a5 a6 a7 a8 a9 a10 a11 a12 a13 a14 a15 a16 a17 a18 a19 S) → W p l e ({ frames := 1, cells := 0, slots := 0, locals := 22 } : Room) s m ([.ref a0, .int p1] : List Value).toArray below meth c H locs 0 0 Q (F0 m pc ls [.int v]) := by
    intro pc ls H locs v S h hd hh
    cases h; exact hret pc ls H locs _ rfl hd hh
  have hl : lv_has ls 3 [(0, .ref a0), (1, .int p1)] := hl
  have hJ25 : ∀ (v1 : Int32) (v2 : Int32) (S : zMd), ∀ (H : Heap) (locs : List Loc) (ls : Array Slot), fX8_row_j25 v1 v2 S = some R → lv_has ls 3 [(0, .ref a0), (1, .int v1), (2, .int v2)] → zW K A s H locs (cMd K a0 a1 a2 a3 a4 a5 a6 a7 a8 a9 a10 a11 a12 a13 a14 a15 a16 a17 a18 a19 S) → W p l e ({ frames := 1, cells := 0, slots := 0, locals := 22 } : Room) s m ([.ref a0, .int p1] : List Value).toArray below meth c H locs 0 0 Q (F0 m 25 ls []) := by
    intro v1 v2 S H locs ls hf hl hh
    unfold fX8_row_j25 at hf
    refine lv_iload_n hx hb dX8_row_25 rfl (lv_at hl 2 rfl) ?_
    refine lv_if_eq (tgt := 35) hx hb dX8_row_26 (by decide) (fun c1 => ?_) (fun c1 => ?_)
    · replace hf := (if_pos c1).symm.trans hf
      refine lv_aload_n hx hb dX8_row_35 rfl (lv_at hl 0 rfl) ?_
      refine zget (v := .ref a19) (ref := "SumOfTwoThatStandModel") (C := RX8) (T := TX8) (N := 33) (index := 64) X hh inX8_row_X8 0 rfl rfl 30 (by decide) mmX8_row_0 rfl rfl dX8_row_36 ?_
      refine lv_aload_n hx hb dX8_row_39 rfl (lv_at hl 0 rfl) ?_
      refine zget (v := .int (md_rowMany S)) (ref := "SumOfTwoThatStandModel") (C := RX8) (T := TX8) (N := 33) (index := 268) X hh inX8_row_X8 0 rfl rfl 31 (by decide) mmX8_row_1 rfl rfl dX8_row_40 ?_
      refine lv_iload_n hx hb dX8_row_43 rfl (lv_at hl 1 rfl) ?_
      obtain ⟨g2, hf⟩ := ob_ix hf
      refine ziast (f := (md_row S)) X hh 19 rfl g2 dX8_row_44 (fun H locs hh => ?_)
      have hh : zW K A s H locs (cMd K a0 a1 a2 a3 a4 a5 a6 a7 a8 a9 a10 a11 a12 a13 a14 a15 a16 a17 a18 a19 (md_set_row S (upd (md_row S) (md_rowMany S).toNatClampNeg v1))) := hh
      refine lv_aload_n hx hb dX8_row_45 rfl (lv_at hl 0 rfl) ?_
      refine lv_dup hx hb dX8_row_46 rfl ?_
      refine zget (v := .int (md_rowMany S)) (ref := "SumOfTwoThatStandModel") (C := RX8) (T := TX8) (N := 33) (index := 268) X hh inX8_row_X8 0 rfl rfl 31 (by decide) mmX8_row_1 rfl rfl dX8_row_47 ?_
      refine lv_iconst (v := (1 : Int32)) hx hb dX8_row_50 (by decide) ?_
      refine lv_iadd hx hb dX8_row_51 ?_
      refine zput (v := .int ((md_rowMany S) + (1 : Int32))) (ty := .int) (ref := "SumOfTwoThatStandModel") (C := RX8) (T := TX8) (N := 33) (index := 268) X hh inX8_row_X8 tyX8 tyX8_ok nmX8 0 rfl rfl 31 (by decide) mmX8_row_1 rfl rfl (by decide +kernel) rfl rfl (Nat.le_of_ble_eq_true rfl) dX8_row_52 (fun H locs hh => ?_)
      have hh : zW K A s H locs (cMd K a0 a1 a2 a3 a4 a5 a6 a7 a8 a9 a10 a11 a12 a13 a14 a15 a16 a17 a18 a19 (md_set_rowMany (md_set_row S (upd (md_row S) (md_rowMany S).toNatClampNeg v1)) ((md_rowMany S) + (1 : Int32)))) := hh
      refine lv_aload_n hx hb dX8_row_55 rfl (lv_at hl 0 rfl) ?_
      refine zget (v := .int ((md_rowMany S) + (1 : Int32))) (ref := "SumOfTwoThatStandModel") (C := RX8) (T := TX8) (N := 33) (index := 268) X hh inX8_row_X8 0 rfl rfl 31 (by decide) mmX8_row_1 rfl rfl dX8_row_56 ?_
      exact hr2 59 ls H locs ((md_rowMany S) + (1 : Int32)) (md_set_rowMany (md_set_row S (upd (md_row S) (md_rowMany S).toNatClampNeg v1)) ((md_rowMany S) + (1 : Int32))) hf dX8_row_59 hh
    · replace hf := (if_neg c1).symm.trans hf
      refine lv_aload_n hx hb dX8_row_29 rfl (lv_at hl 0 rfl) ?_
      refine lv_iload_n hx hb dX8_row_30 rfl (lv_at hl 2 rfl) ?_
      obtain ⟨u3, hu3, hf⟩ := ob_bind hf
      refine zcallV (ci := 7) (q0 := 0) (As := [.int v2]) (rest := []) (wr := []) (ws' := cMd K a0 a1 a2 a3 a4 a5 a6 a7 a8 a9 a10 a11 a12 a13 a14 a15 a16 a17 a18 a19 u3.2) (ov := some (.int u3.1)) X hh hl (kX8_no l K a0 a1 a2 a3 a4 a5 a6 a7 a8 a9 a10 a11 a12 a13 a14 a15 a16 a17 a18 a19 S v2 u3 hu3) (fun ht => cwV 1 ht gX8_row_X8_no rfl rfl rfl ⟨rfl, hdX8_no⟩ ⟨Nat.le_of_ble_eq_true rfl, Nat.le_of_ble_eq_true rfl⟩) [0, 1, 2, 3, 4, 5, 6, 7, 8, 9, 10, 11, 12, 13, 14, 15, 16, 17, 18, 19] [] [0, 1, 2, 3, 4, 5, 6, 7, 8, 9, 10, 11, 12, 13, 14, 15, 16, 17, 18, 19] rfl rfl rfl rfl (by decide) rfl rfl rfl rfl rfl rfl (Nat.le_of_ble_eq_true rfl) dX8_row_31 ⟨Nat.zero_le _, Nat.zero_le _⟩ (fun H locs hh => ?_)
      exact hr2 34 ls H locs u3.1 u3.2 hf dX8_row_34 hh
  unfold fX8_row at hf
  refine (fun (hmain : ∀ (H : Heap) (locs : List Loc), zW K A s H locs (cMd K a0 a1 a2 a3 a4 a5 a6 a7 a8 a9 a10 a11 a12 a13 a14 a15 a16 a17 a18 a19 S) → W p l e ({ frames := 1, cells := 0, slots := 0, locals := 22 } : Room) s m ([.ref a0, .int p1] : List Value).toArray below meth c H locs 0 0 Q (F0 m 0 ls [])) => hmain s.heap [] hh) (fun H locs hh => ?_)
  refine lv_iload_n hx hb dX8_row_0 rfl (lv_at hl 1 rfl) ?_
  refine lv_iconst (v := (1 : Int32)) hx hb dX8_row_1 (by decide) ?_
  refine lv_sipush (v := (9999 : Int32)) hx hb dX8_row_2 (by decide) ?_
  refine zcallS (As := [.int p1, .int (1 : Int32), .int (9999 : Int32)]) (rest := []) (wr := cMd K a0 a1 a2 a3 a4 a5 a6 a7 a8 a9 a10 a11 a12 a13 a14 a15 a16 a17 a18 a19 S) (ws' := cMd K a0 a1 a2 a3 a4 a5 a6 a7 a8 a9 a10 a11 a12 a13 a14 a15 a16 a17 a18 a19 S) (ov := some (.int (fX8_bound p1 (1 : Int32) (9999 : Int32)))) X hh hl (kX8_bound l K p1 (1 : Int32) (9999 : Int32) (fX8_bound p1 (1 : Int32) (9999 : Int32)) rfl) (fun ht => va_cwS 3 ht gX8_row_X8_bound rfl rfl rfl hdX8_bound ⟨Nat.le_of_ble_eq_true rfl, Nat.le_of_ble_eq_true rfl⟩) [] [0, 1, 2, 3, 4, 5, 6, 7, 8, 9, 10, 11, 12, 13, 14, 15, 16, 17, 18, 19] [0, 1, 2, 3, 4, 5, 6, 7, 8, 9, 10, 11, 12, 13, 14, 15, 16, 17, 18, 19] rfl rfl rfl rfl (by decide) rfl rfl rfl rfl (Nat.le_of_ble_eq_true rfl) dX8_row_5 ⟨Nat.zero_le _, Nat.zero_le _⟩ (fun H locs hh => ?_)
  refine lv_istore_n (lv' := [(2, .int (fX8_bound p1 (1 : Int32) (9999 : Int32))), (0, .ref a0), (1, .int p1)]) hx hb dX8_row_8 rfl hl (by decide) rfl (fun ls hl => ?_)
  refine lv_iload_n hx hb dX8_row_9 rfl (lv_at hl 0 rfl) ?_
  refine lv_if_ne (tgt := 25) hx hb dX8_row_10 (by decide) (fun c5 => ?_) (fun c5 => ?_)
  · replace hf := (if_neg c5).symm.trans hf
    exact hJ25 p1 (fX8_bound p1 (1 : Int32) (9999 : Int32)) S H locs ls hf (lv_sub hl [1, 2, 0] rfl) hh
  · replace hf := (if_pos c5).symm.trans hf
    refine lv_aload_n hx hb dX8_row_13 rfl (lv_at hl 1 rfl) ?_
    refine zget (v := .int (md_rowMany S)) (ref := "SumOfTwoThatStandModel") (C := RX8) (T := TX8) (N := 33) (index := 268) X hh inX8_row_X8 0 rfl rfl 31 (by decide) mmX8_row_1 rfl rfl dX8_row_14 ?_
    refine lv_bipush (v := (12 : Int32)) hx hb dX8_row_17 (by decide) ?_
    refine lv_icmp_ne (tgt := 25) hx hb dX8_row_19 (by decide) (fun c6 => ?_) (fun c6 => ?_)
    · replace hf := (if_neg c6).symm.trans hf
      exact hJ25 p1 (fX8_bound p1 (1 : Int32) (9999 : Int32)) S H locs ls hf (lv_sub hl [1, 2, 0] rfl) hh
    · replace hf := (if_pos c6).symm.trans hf
      refine lv_bipush (v := (-6 : Int32)) hx hb dX8_row_22 (by decide) ?_
      refine lv_istore_n (lv' := [(2, .int (-6 : Int32)), (0, .ref a0), (1, .int p1)]) hx hb dX8_row_24 rfl hl (by decide) rfl (fun ls hl => ?_)
      exact hJ25 p1 (-6 : Int32) S H locs ls hf (lv_sub hl [1, 2, 0] rfl) hh
def fX8_isWell_j82 (S : zMd) (v1 : Int32) (v3 : Int32) (v4 : Int32) (t0 : Int32) (t1 : Int32) (k47 : (Int32) → (Int32) → Option (Int32)) : Option (Int32) :=
  k47 (t0 ||| t1) (v4 + (1 : Int32))
def fX8_isWell_l47 (S : zMd) (v1 : Int32) (v3 : Int32) (k22 : (Int32) → (Int32) → Option (Int32)) : Nat → (Int32) → (Int32) → Option (Int32)
  | 0, _, _ => none
  | n + 1, v2, v4 =>
  if v1 ≤ v4 then
  (k22 v2 (v3 + (1 : Int32)))
  else
  (ix 12 v3 (ix 12 v4 (ix 12 v1 (if (((md_row S) v3.toNatClampNeg) + ((md_row S) v4.toNatClampNeg)) = ((md_row S) v1.toNatClampNeg) then
  (fX8_isWell_j82 S v1 v3 v4 v2 (1 : Int32) (fX8_isWell_l47 S v1 v3 k22 n))
  else
  (fX8_isWell_j82 S v1 v3 v4 v2 (0 : Int32) (fX8_isWell_l47 S v1 v3 k22 n))))))
def fX8_isWell_l22 (S : zMd) (v1 : Int32) : Nat → (Int32) → (Int32) → Option (Int32)
  | 0, _, _ => none
  | n + 1, v2, v3 =>
  if v1 ≤ v3 then
  (if v2 &&& 1 = v2 then some v2 else none)
  else
  (ix 12 v3 (ix 12 v1 (if ((md_row S) v3.toNatClampNeg) = ((md_row S) v1.toNatClampNeg) then
  (some (0 : Int32))
  else
  (fX8_isWell_l47 S v1 v3 (fX8_isWell_l22 S v1 n) FU v2 v3))))
def fX8_isWell_j19 (S : zMd) (v1 : Int32) (t0 : Int32) : Option (Int32) :=
  fX8_isWell_l22 S v1 FU t0 (0 : Int32)
def fX8_isWell_j18 (S : zMd) (v1 : Int32) : Option (Int32) :=
  fX8_isWell_j19 S v1 (0 : Int32)
def fX8_isWell (S : zMd) (p1 : Int32) : Option (Int32) :=
  if p1 = (0 : Int32) then
  (ix 12 (0 : Int32) (if ((md_row S) (0 : Int32).toNatClampNeg) = (1 : Int32) then
  (fX8_isWell_j19 S p1 (1 : Int32))
  else
  (fX8_isWell_j18 S p1)))
  else
  (fX8_isWell_j18 S p1)
theorem inX8_isWell_X8 : ∀ w ∈ wsX80, w ∈ wsX8_isWell := by decide +kernel
theorem mmX8_isWell_0 : Cond.fieldLink RX8 64 "SumOfTwoThatStandModel" "row" "[I" ∈ wsX8_isWell := by decide +kernel
theorem hdX8_isWell : yX8_isWell.cls ≠ "java/lang/invoke/MethodHandle" ∧ yX8_isWell.cls ≠ "java/lang/invoke/VarHandle" ∧ (parseMethodDescriptor yX8_isWell.desc).map (fun d => d.parameters.length) = some 1 := by decide +kernel
set_option maxHeartbeats 4000000 in
set_option maxRecDepth 100000 in
theorem kX8_isWell (l : Launch) (K : zK) (a0 a1 a2 a3 a4 a5 a6 a7 a8 a9 a10 a11 a12 a13 a14 a15 a16 a17 a18 a19 : Nat) (S : zMd) (p1 : Int32) (R : Int32) (hf : fX8_isWell S p1 = some R) : zC l yX8_isWell wsX8_isWell ({ frames := 0, cells := 0, slots := 0, locals := 0 } : Room) K [.ref a0, .int p1] (cMd K a0 a1 a2 a3 a4 a5 a6 a7 a8 a9 a10 a11 a12 a13 a14 a15 a16 a17 a18 a19 S) (some (.int R)) (cMd K a0 a1 a2 a3 a4 a5 a6 a7 a8 a9 a10 a11 a12 a13 a14 a15 a16 a17 a18 a19 S) := by
  refine zC_z .boolean R (cc := cX8_isWell) (maxL := 5) (by decide +kernel) rfl (Nat.le_of_ble_eq_true rfl) rfl rfl ?_
  intro p e s m below meth c Q A X hret ls hl hh
  have X : zX p m c cX8_isWell 5 s ([.ref a0, .int p1] : List Value).toArray wsX8_isWell RX8 K A := X
  have hx := X.1.1
  have hb := X.1.2.1
  have hr2 : ∀ (pc : Nat) (ls : Array Slot) (H : Heap) (locs : List Loc) (v : Int32), some v = some R → narrow .boolean (.int v) = .int v → decode cX8_isWell pc = .ok (.ireturn, 1) → zW K A s H locs (cMd K a0 a1 a2 a3 a4 a5 a6 a7 a8 a9 a10 a11 a12 a13 a14 a15 a16 a17 a18 a19 S) → W p l e ({ frames := 0, cells := 0, slots := 0, locals := 0 } : Room) s m ([.ref a0, .int p1] : List Value).toArray below meth c H locs 0 0 Q (F0 m pc ls [.int v]) := by
    intro pc ls H locs v h hn hd hh
    cases h; exact hret pc ls H locs _ rfl hn hd hh
  have hl : lv_has ls 5 [(0, .ref a0), (1, .int p1)] := hl
  have hJ82 : ∀ (v1 : Int32) (v3 : Int32) (v4 : Int32) (t0 : Int32) (t1 : Int32) (k47 : (Int32) → (Int32) → Option (Int32)), (∀ (v2 : Int32) (v4 : Int32) (H : Heap) (locs : List Loc) (ls : Array Slot), k47 v2 v4 = some R → lv_has ls 5 [(0, .ref a0), (1, .int v1), (2, .int v2), (3, .int v3), (4, .int v4)] → zW K A s H locs (cMd K a0 a1 a2 a3 a4 a5 a6 a7 a8 a9 a10 a11 a12 a13 a14 a15 a16 a17 a18 a19 S) → W p l e ({ frames := 0, cells := 0, slots := 0, locals := 0 } : Room) s m ([.ref a0, .int p1] : List Value).toArray below meth c H locs 0 0 Q (F0 m 47 ls [])) → ∀ (H : Heap) (locs : List Loc) (ls : Array Slot), fX8_isWell_j82 S v1 v3 v4 t0 t1 k47 = some R → lv_has ls 5 [(0, .ref a0), (1, .int v1), (3, .int v3), (4, .int v4)] → zW K A s H locs (cMd K a0 a1 a2 a3 a4 a5 a6 a7 a8 a9 a10 a11 a12 a13 a14 a15 a16 a17 a18 a19 S) → W p l e ({ frames := 0, cells := 0, slots := 0, locals := 0 } : Room) s m ([.ref a0, .int p1] : List Value).toArray below meth c H locs 0 0 Q (F0 m 82 ls [.int t1, .int t0]) := by
    intro v1 v3 v4 t0 t1 k47 hk47 H locs ls hf hl hh
    unfold fX8_isWell_j82 at hf
    refine lv_ior hx hb dX8_isWell_82 ?_
    refine lv_istore_n (lv' := [(2, .int (t0 ||| t1)), (0, .ref a0), (1, .int v1), (3, .int v3), (4, .int v4)]) hx hb dX8_isWell_83 rfl hl (by decide) rfl (fun ls hl => ?_)
    refine lv_iinc (v := (v4 + (1 : Int32))) (lv' := [(4, .int (v4 + (1 : Int32))), (2, .int (t0 ||| t1)), (0, .ref a0), (1, .int v1), (3, .int v3)]) hx hb dX8_isWell_84 hl (k := 4) rfl rfl (by decide) rfl (fun ls hl => ?_)
    refine lv_goto (tgt := 47) hx hb dX8_isWell_87 (by decide) ?_
    exact hk47 (t0 ||| t1) (v4 + (1 : Int32)) H locs ls hf (lv_sub hl [2, 3, 1, 4, 0] rfl) hh
  have hL47 : ∀ (v1 : Int32) (v3 : Int32) (k22 : (Int32) → (Int32) → Option (Int32)), (∀ (v2 : Int32) (v3 : Int32) (H : Heap) (locs : List Loc) (ls : Array Slot), k22 v2 v3 = some R → lv_has ls 5 [(0, .ref a0), (1, .int v1), (2, .int v2), (3, .int v3)] → zW K A s H locs (cMd K a0 a1 a2 a3 a4 a5 a6 a7 a8 a9 a10 a11 a12 a13 a14 a15 a16 a17 a18 a19 S) → W p l e ({ frames := 0, cells := 0, slots := 0, locals := 0 } : Room) s m ([.ref a0, .int p1] : List Value).toArray below meth c H locs 0 0 Q (F0 m 22 ls [])) → ∀ (n : Nat) (v2 : Int32) (v4 : Int32), ∀ (H : Heap) (locs : List Loc) (ls : Array Slot), fX8_isWell_l47 S v1 v3 k22 n v2 v4 = some R → lv_has ls 5 [(0, .ref a0), (1, .int v1), (2, .int v2), (3, .int v3), (4, .int v4)] → zW K A s H locs (cMd K a0 a1 a2 a3 a4 a5 a6 a7 a8 a9 a10 a11 a12 a13 a14 a15 a16 a17 a18 a19 S) → W p l e ({ frames := 0, cells := 0, slots := 0, locals := 0 } : Room) s m ([.ref a0, .int p1] : List Value).toArray below meth c H locs 0 0 Q (F0 m 47 ls []) := by
    intro v1 v3 k22 hk22 n
    induction n with
    | zero =>
      intro v2 v4 H locs ls hf hl hh
      rw [fX8_isWell_l47] at hf; cases hf
    | succ n ih =>
      intro v2 v4 H locs ls hf hl hh
      rw [fX8_isWell_l47] at hf
      refine lv_iload hx hb dX8_isWell_47 (lv_at hl 4 rfl) ?_
      refine lv_iload_n hx hb dX8_isWell_49 rfl (lv_at hl 1 rfl) ?_
      refine lv_icmp_ge (tgt := 90) hx hb dX8_isWell_50 (by decide) (fun c1 => ?_) (fun c1 => ?_)
      · replace hf := (if_pos c1).symm.trans hf
        refine lv_iinc (v := (v3 + (1 : Int32))) (lv' := [(3, .int (v3 + (1 : Int32))), (0, .ref a0), (1, .int v1), (2, .int v2), (4, .int v4)]) hx hb dX8_isWell_90 hl (k := 3) rfl rfl (by decide) rfl (fun ls hl => ?_)
        refine lv_goto (tgt := 22) hx hb dX8_isWell_93 (by decide) ?_
        exact hk22 v2 (v3 + (1 : Int32)) H locs ls hf (lv_sub hl [1, 2, 3, 0] rfl) hh
      · replace hf := (if_neg c1).symm.trans hf
        refine lv_iload_n hx hb dX8_isWell_53 rfl (lv_at hl 2 rfl) ?_
        refine lv_aload_n hx hb dX8_isWell_54 rfl (lv_at hl 0 rfl) ?_
        refine zget (v := .ref a19) (ref := "SumOfTwoThatStandModel") (C := RX8) (T := TX8) (N := 33) (index := 64) X hh inX8_isWell_X8 0 rfl rfl 30 (by decide) mmX8_isWell_0 rfl rfl dX8_isWell_55 ?_
        refine lv_iload_n hx hb dX8_isWell_58 rfl (lv_at hl 3 rfl) ?_
        obtain ⟨g2, hf⟩ := ob_ix hf
        refine ziald (f := (md_row S)) X hh 19 rfl g2 dX8_isWell_59 ?_
        refine lv_aload_n hx hb dX8_isWell_60 rfl (lv_at hl 0 rfl) ?_
        refine zget (v := .ref a19) (ref := "SumOfTwoThatStandModel") (C := RX8) (T := TX8) (N := 33) (index := 64) X hh inX8_isWell_X8 0 rfl rfl 30 (by decide) mmX8_isWell_0 rfl rfl dX8_isWell_61 ?_
        refine lv_iload hx hb dX8_isWell_64 (lv_at hl 4 rfl) ?_
        obtain ⟨g3, hf⟩ := ob_ix hf
        refine ziald (f := (md_row S)) X hh 19 rfl g3 dX8_isWell_66 ?_
        refine lv_iadd hx hb dX8_isWell_67 ?_
        refine lv_aload_n hx hb dX8_isWell_68 rfl (lv_at hl 0 rfl) ?_
        refine zget (v := .ref a19) (ref := "SumOfTwoThatStandModel") (C := RX8) (T := TX8) (N := 33) (index := 64) X hh inX8_isWell_X8 0 rfl rfl 30 (by decide) mmX8_isWell_0 rfl rfl dX8_isWell_69 ?_
        refine lv_iload_n hx hb dX8_isWell_72 rfl (lv_at hl 1 rfl) ?_
        obtain ⟨g4, hf⟩ := ob_ix hf
        refine ziald (f := (md_row S)) X hh 19 rfl g4 dX8_isWell_73 ?_
        refine lv_icmp_ne (tgt := 81) hx hb dX8_isWell_74 (by decide) (fun c5 => ?_) (fun c5 => ?_)
        · replace hf := (if_neg c5).symm.trans hf
          refine lv_iconst (v := (0 : Int32)) hx hb dX8_isWell_81 (by decide) ?_
          exact hJ82 v1 v3 v4 v2 (0 : Int32) (fX8_isWell_l47 S v1 v3 k22 n) (ih) H locs ls hf (lv_sub hl [0, 1, 3, 4] rfl) hh
        · replace hf := (if_pos c5).symm.trans hf
          refine lv_iconst (v := (1 : Int32)) hx hb dX8_isWell_77 (by decide) ?_
          refine lv_goto (tgt := 82) hx hb dX8_isWell_78 (by decide) ?_
          exact hJ82 v1 v3 v4 v2 (1 : Int32) (fX8_isWell_l47 S v1 v3 k22 n) (ih) H locs ls hf (lv_sub hl [0, 1, 3, 4] rfl) hh
  have hL22 : ∀ (v1 : Int32), ∀ (n : Nat) (v2 : Int32) (v3 : Int32), ∀ (H : Heap) (locs : List Loc) (ls : Array Slot), fX8_isWell_l22 S v1 n v2 v3 = some R → lv_has ls 5 [(0, .ref a0), (1, .int v1), (2, .int v2), (3, .int v3)] → zW K A s H locs (cMd K a0 a1 a2 a3 a4 a5 a6 a7 a8 a9 a10 a11 a12 a13 a14 a15 a16 a17 a18 a19 S) → W p l e ({ frames := 0, cells := 0, slots := 0, locals := 0 } : Room) s m ([.ref a0, .int p1] : List Value).toArray below meth c H locs 0 0 Q (F0 m 22 ls []) := by
    intro v1 n
    induction n with
    | zero =>
      intro v2 v3 H locs ls hf hl hh
      rw [fX8_isWell_l22] at hf; cases hf
    | succ n ih =>
      intro v2 v3 H locs ls hf hl hh
      rw [fX8_isWell_l22] at hf
      refine lv_iload_n hx hb dX8_isWell_22 rfl (lv_at hl 3 rfl) ?_
      refine lv_iload_n hx hb dX8_isWell_23 rfl (lv_at hl 1 rfl) ?_
      refine lv_icmp_ge (tgt := 96) hx hb dX8_isWell_24 (by decide) (fun c6 => ?_) (fun c6 => ?_)
      · replace hf := (if_pos c6).symm.trans hf
        refine lv_iload_n hx hb dX8_isWell_96 rfl (lv_at hl 2 rfl) ?_
        obtain ⟨g7, hf⟩ := ob_ck hf
        exact hr2 97 ls H locs v2 hf (nar_ok g7) dX8_isWell_97 hh
      · replace hf := (if_neg c6).symm.trans hf
        refine lv_aload_n hx hb dX8_isWell_27 rfl (lv_at hl 0 rfl) ?_
        refine zget (v := .ref a19) (ref := "SumOfTwoThatStandModel") (C := RX8) (T := TX8) (N := 33) (index := 64) X hh inX8_isWell_X8 0 rfl rfl 30 (by decide) mmX8_isWell_0 rfl rfl dX8_isWell_28 ?_
        refine lv_iload_n hx hb dX8_isWell_31 rfl (lv_at hl 3 rfl) ?_
        obtain ⟨g8, hf⟩ := ob_ix hf
        refine ziald (f := (md_row S)) X hh 19 rfl g8 dX8_isWell_32 ?_
        refine lv_aload_n hx hb dX8_isWell_33 rfl (lv_at hl 0 rfl) ?_
        refine zget (v := .ref a19) (ref := "SumOfTwoThatStandModel") (C := RX8) (T := TX8) (N := 33) (index := 64) X hh inX8_isWell_X8 0 rfl rfl 30 (by decide) mmX8_isWell_0 rfl rfl dX8_isWell_34 ?_
        refine lv_iload_n hx hb dX8_isWell_37 rfl (lv_at hl 1 rfl) ?_
        obtain ⟨g9, hf⟩ := ob_ix hf
        refine ziald (f := (md_row S)) X hh 19 rfl g9 dX8_isWell_38 ?_
        refine lv_icmp_ne (tgt := 44) hx hb dX8_isWell_39 (by decide) (fun c10 => ?_) (fun c10 => ?_)
        · replace hf := (if_neg c10).symm.trans hf
          refine lv_iload_n hx hb dX8_isWell_44 rfl (lv_at hl 3 rfl) ?_
          refine lv_istore (lv' := [(4, .int v3), (0, .ref a0), (1, .int v1), (2, .int v2), (3, .int v3)]) hx hb dX8_isWell_45 hl (by decide) rfl (fun ls hl => ?_)
          exact hL47 v1 v3 (fX8_isWell_l22 S v1 n) (ih) FU v2 v3 H locs ls hf (lv_sub hl [1, 2, 3, 4, 0] rfl) hh
        · replace hf := (if_pos c10).symm.trans hf
          refine lv_iconst (v := (0 : Int32)) hx hb dX8_isWell_42 (by decide) ?_
          exact hr2 43 ls H locs (0 : Int32) hf rfl dX8_isWell_43 hh
  have hJ19 : ∀ (v1 : Int32) (t0 : Int32), ∀ (H : Heap) (locs : List Loc) (ls : Array Slot), fX8_isWell_j19 S v1 t0 = some R → lv_has ls 5 [(0, .ref a0), (1, .int v1)] → zW K A s H locs (cMd K a0 a1 a2 a3 a4 a5 a6 a7 a8 a9 a10 a11 a12 a13 a14 a15 a16 a17 a18 a19 S) → W p l e ({ frames := 0, cells := 0, slots := 0, locals := 0 } : Room) s m ([.ref a0, .int p1] : List Value).toArray below meth c H locs 0 0 Q (F0 m 19 ls [.int t0]) := by
    intro v1 t0 H locs ls hf hl hh
    unfold fX8_isWell_j19 at hf
    refine lv_istore_n (lv' := [(2, .int t0), (0, .ref a0), (1, .int v1)]) hx hb dX8_isWell_19 rfl hl (by decide) rfl (fun ls hl => ?_)
    refine lv_iconst (v := (0 : Int32)) hx hb dX8_isWell_20 (by decide) ?_
    refine lv_istore_n (lv' := [(3, .int (0 : Int32)), (2, .int t0), (0, .ref a0), (1, .int v1)]) hx hb dX8_isWell_21 rfl hl (by decide) rfl (fun ls hl => ?_)
    exact hL22 v1 FU t0 (0 : Int32) H locs ls hf (lv_sub hl [2, 3, 1, 0] rfl) hh
  have hJ18 : ∀ (v1 : Int32), ∀ (H : Heap) (locs : List Loc) (ls : Array Slot), fX8_isWell_j18 S v1 = some R → lv_has ls 5 [(0, .ref a0), (1, .int v1)] → zW K A s H locs (cMd K a0 a1 a2 a3 a4 a5 a6 a7 a8 a9 a10 a11 a12 a13 a14 a15 a16 a17 a18 a19 S) → W p l e ({ frames := 0, cells := 0, slots := 0, locals := 0 } : Room) s m ([.ref a0, .int p1] : List Value).toArray below meth c H locs 0 0 Q (F0 m 18 ls []) := by
    intro v1 H locs ls hf hl hh
    unfold fX8_isWell_j18 at hf
    refine lv_iconst (v := (0 : Int32)) hx hb dX8_isWell_18 (by decide) ?_
    exact hJ19 v1 (0 : Int32) H locs ls hf (lv_sub hl [0, 1] rfl) hh
  unfold fX8_isWell at hf
  refine (fun (hmain : ∀ (H : Heap) (locs : List Loc), zW K A s H locs (cMd K a0 a1 a2 a3 a4 a5 a6 a7 a8 a9 a10 a11 a12 a13 a14 a15 a16 a17 a18 a19 S) → W p l e ({ frames := 0, cells := 0, slots := 0, locals := 0 } : Room) s m ([.ref a0, .int p1] : List Value).toArray below meth c H locs 0 0 Q (F0 m 0 ls [])) => hmain s.heap [] hh) (fun H locs hh => ?_)
  refine lv_iload_n hx hb dX8_isWell_0 rfl (lv_at hl 1 rfl) ?_
  refine lv_if_ne (tgt := 18) hx hb dX8_isWell_1 (by decide) (fun c11 => ?_) (fun c11 => ?_)
  · replace hf := (if_neg c11).symm.trans hf
    exact hJ18 p1 H locs ls hf (lv_sub hl [0, 1] rfl) hh
  · replace hf := (if_pos c11).symm.trans hf
    refine lv_aload_n hx hb dX8_isWell_4 rfl (lv_at hl 0 rfl) ?_
    refine zget (v := .ref a19) (ref := "SumOfTwoThatStandModel") (C := RX8) (T := TX8) (N := 33) (index := 64) X hh inX8_isWell_X8 0 rfl rfl 30 (by decide) mmX8_isWell_0 rfl rfl dX8_isWell_5 ?_
    refine lv_iconst (v := (0 : Int32)) hx hb dX8_isWell_8 (by decide) ?_
    obtain ⟨g12, hf⟩ := ob_ix hf
    refine ziald (f := (md_row S)) X hh 19 rfl g12 dX8_isWell_9 ?_
    refine lv_iconst (v := (1 : Int32)) hx hb dX8_isWell_10 (by decide) ?_
    refine lv_icmp_ne (tgt := 18) hx hb dX8_isWell_11 (by decide) (fun c13 => ?_) (fun c13 => ?_)
    · replace hf := (if_neg c13).symm.trans hf
      exact hJ18 p1 H locs ls hf (lv_sub hl [0, 1] rfl) hh
    · replace hf := (if_pos c13).symm.trans hf
      refine lv_iconst (v := (1 : Int32)) hx hb dX8_isWell_14 (by decide) ?_
      refine lv_goto (tgt := 19) hx hb dX8_isWell_15 (by decide) ?_
      exact hJ19 p1 (1 : Int32) H locs ls hf (lv_sub hl [0, 1] rfl) hh
def fX8_judge_l12 (v1 : Int32) (S : zMd) : Nat → (Int32) → Option (Int32 × zMd)
  | 0, _ => none
  | n + 1, v2 =>
  if v1 ≤ v2 then
  (some ((-9 : Int32), S))
  else
  ((fX8_isWell S v2).bind fun u2 =>
  if u2 = (0 : Int32) then
  (some (v2, S))
  else
  (fX8_judge_l12 v1 S n (v2 + (1 : Int32))))
def fX8_judge (S : zMd) : Option (Int32 × zMd) :=
  fX8_judge_l12 (md_rowMany S) (md_set_rowMany S (0 : Int32)) FU (0 : Int32)
theorem inX8_judge_X8 : ∀ w ∈ wsX80, w ∈ wsX8_judge := by decide +kernel
theorem mmX8_judge_0 : Cond.fieldLink RX8 268 "SumOfTwoThatStandModel" "rowMany" "I" ∈ wsX8_judge := by decide +kernel
theorem hdX8_judge : yX8_judge.cls ≠ "java/lang/invoke/MethodHandle" ∧ yX8_judge.cls ≠ "java/lang/invoke/VarHandle" ∧ (parseMethodDescriptor yX8_judge.desc).map (fun d => d.parameters.length) = some 0 := by decide +kernel
set_option maxHeartbeats 4000000 in
set_option maxRecDepth 100000 in
theorem kX8_judge (l : Launch) (K : zK) (a0 a1 a2 a3 a4 a5 a6 a7 a8 a9 a10 a11 a12 a13 a14 a15 a16 a17 a18 a19 : Nat) (S : zMd) (R : Int32 × zMd) (hf : fX8_judge S = some R) : zC l yX8_judge wsX8_judge ({ frames := 1, cells := 0, slots := 0, locals := 24 } : Room) K [.ref a0] (cMd K a0 a1 a2 a3 a4 a5 a6 a7 a8 a9 a10 a11 a12 a13 a14 a15 a16 a17 a18 a19 S) (some (.int R.1)) (cMd K a0 a1 a2 a3 a4 a5 a6 a7 a8 a9 a10 a11 a12 a13 a14 a15 a16 a17 a18 a19 R.2) := by
  refine zC_i R.1 (cc := cX8_judge) (maxL := 3) (by decide +kernel) rfl (Nat.le_of_ble_eq_true rfl) rfl rfl ?_
  intro p e s m below meth c Q A X hret ls hl hh
  have X : zX p m c cX8_judge 3 s ([.ref a0] : List Value).toArray wsX8_judge RX8 K A := X
  have hx := X.1.1
  have hb := X.1.2.1
  have hr2 : ∀ (pc : Nat) (ls : Array Slot) (H : Heap) (locs : List Loc) (v : Int32) (S : zMd), some (v, S) = some R → decode cX8_judge pc = .ok (.ireturn, 1) → zW K A s H locs (cMd K a0 a1 a2 a3 a4 a5 a6 a7 a8 a9 a10 a11 a12 a13 a14 a15 a16 a17 a18 a19 S) → W p l e ({ frames := 1, cells := 0, slots := 0, locals := 24 } : Room) s m ([.ref a0] : List Value).toArray below meth c H locs 0 0 Q (F0 m pc ls [.int v]) := by
    intro pc ls H locs v S h hd hh
    cases h; exact hret pc ls H locs _ rfl hd hh
  have hl : lv_has ls 3 [(0, .ref a0)] := hl
  have hL12 : ∀ (v1 : Int32) (S : zMd), ∀ (n : Nat) (v2 : Int32), ∀ (H : Heap) (locs : List Loc) (ls : Array Slot), fX8_judge_l12 v1 S n v2 = some R → lv_has ls 3 [(0, .ref a0), (1, .int v1), (2, .int v2)] → zW K A s H locs (cMd K a0 a1 a2 a3 a4 a5 a6 a7 a8 a9 a10 a11 a12 a13 a14 a15 a16 a17 a18 a19 S) → W p l e ({ frames := 1, cells := 0, slots := 0, locals := 24 } : Room) s m ([.ref a0] : List Value).toArray below meth c H locs 0 0 Q (F0 m 12 ls []) := by
    intro v1 S n
    induction n with
    | zero =>
      intro v2 H locs ls hf hl hh
      rw [fX8_judge_l12] at hf; cases hf
    | succ n ih =>
      intro v2 H locs ls hf hl hh
      rw [fX8_judge_l12] at hf
      refine lv_iload_n hx hb dX8_judge_12 rfl (lv_at hl 2 rfl) ?_
      refine lv_iload_n hx hb dX8_judge_13 rfl (lv_at hl 1 rfl) ?_
      refine lv_icmp_ge (tgt := 33) hx hb dX8_judge_14 (by decide) (fun c1 => ?_) (fun c1 => ?_)
      · replace hf := (if_pos c1).symm.trans hf
        refine lv_bipush (v := (-9 : Int32)) hx hb dX8_judge_33 (by decide) ?_
        exact hr2 35 ls H locs (-9 : Int32) S hf dX8_judge_35 hh
      · replace hf := (if_neg c1).symm.trans hf
        refine lv_aload_n hx hb dX8_judge_17 rfl (lv_at hl 0 rfl) ?_
        refine lv_iload_n hx hb dX8_judge_18 rfl (lv_at hl 2 rfl) ?_
        obtain ⟨u2, hu2, hf⟩ := ob_bind hf
        refine zcallV (ci := 7) (q0 := 0) (As := [.int v2]) (rest := []) (wr := []) (ws' := cMd K a0 a1 a2 a3 a4 a5 a6 a7 a8 a9 a10 a11 a12 a13 a14 a15 a16 a17 a18 a19 S) (ov := some (.int u2)) X hh hl (kX8_isWell l K a0 a1 a2 a3 a4 a5 a6 a7 a8 a9 a10 a11 a12 a13 a14 a15 a16 a17 a18 a19 S v2 u2 hu2) (fun ht => cwV 1 ht gX8_judge_X8_isWell rfl rfl rfl ⟨rfl, hdX8_isWell⟩ ⟨Nat.le_of_ble_eq_true rfl, Nat.le_of_ble_eq_true rfl⟩) [0, 1, 2, 3, 4, 5, 6, 7, 8, 9, 10, 11, 12, 13, 14, 15, 16, 17, 18, 19] [] [0, 1, 2, 3, 4, 5, 6, 7, 8, 9, 10, 11, 12, 13, 14, 15, 16, 17, 18, 19] rfl rfl rfl rfl (by decide) rfl rfl rfl rfl rfl rfl (Nat.le_of_ble_eq_true rfl) dX8_judge_19 ⟨Nat.zero_le _, Nat.zero_le _⟩ (fun H locs hh => ?_)
        refine lv_if_ne (tgt := 27) hx hb dX8_judge_22 (by decide) (fun c3 => ?_) (fun c3 => ?_)
        · replace hf := (if_neg c3).symm.trans hf
          refine lv_iinc (v := (v2 + (1 : Int32))) (lv' := [(2, .int (v2 + (1 : Int32))), (0, .ref a0), (1, .int v1)]) hx hb dX8_judge_27 hl (k := 2) rfl rfl (by decide) rfl (fun ls hl => ?_)
          refine lv_goto (tgt := 12) hx hb dX8_judge_30 (by decide) ?_
          exact ih (v2 + (1 : Int32)) H locs ls hf (lv_sub hl [1, 2, 0] rfl) hh
        · replace hf := (if_pos c3).symm.trans hf
          refine lv_iload_n hx hb dX8_judge_25 rfl (lv_at hl 2 rfl) ?_
          exact hr2 26 ls H locs v2 S hf dX8_judge_26 hh
  unfold fX8_judge at hf
  refine (fun (hmain : ∀ (H : Heap) (locs : List Loc), zW K A s H locs (cMd K a0 a1 a2 a3 a4 a5 a6 a7 a8 a9 a10 a11 a12 a13 a14 a15 a16 a17 a18 a19 S) → W p l e ({ frames := 1, cells := 0, slots := 0, locals := 24 } : Room) s m ([.ref a0] : List Value).toArray below meth c H locs 0 0 Q (F0 m 0 ls [])) => hmain s.heap [] hh) (fun H locs hh => ?_)
  refine lv_aload_n hx hb dX8_judge_0 rfl (lv_at hl 0 rfl) ?_
  refine zget (v := .int (md_rowMany S)) (ref := "SumOfTwoThatStandModel") (C := RX8) (T := TX8) (N := 33) (index := 268) X hh inX8_judge_X8 0 rfl rfl 31 (by decide) mmX8_judge_0 rfl rfl dX8_judge_1 ?_
  refine lv_istore_n (lv' := [(1, .int (md_rowMany S)), (0, .ref a0)]) hx hb dX8_judge_4 rfl hl (by decide) rfl (fun ls hl => ?_)
  refine lv_aload_n hx hb dX8_judge_5 rfl (lv_at hl 1 rfl) ?_
  refine lv_iconst (v := (0 : Int32)) hx hb dX8_judge_6 (by decide) ?_
  refine zput (v := .int (0 : Int32)) (ty := .int) (ref := "SumOfTwoThatStandModel") (C := RX8) (T := TX8) (N := 33) (index := 268) X hh inX8_judge_X8 tyX8 tyX8_ok nmX8 0 rfl rfl 31 (by decide) mmX8_judge_0 rfl rfl (by decide +kernel) rfl rfl (Nat.le_of_ble_eq_true rfl) dX8_judge_7 (fun H locs hh => ?_)
  have hh : zW K A s H locs (cMd K a0 a1 a2 a3 a4 a5 a6 a7 a8 a9 a10 a11 a12 a13 a14 a15 a16 a17 a18 a19 (md_set_rowMany S (0 : Int32))) := hh
  refine lv_iconst (v := (0 : Int32)) hx hb dX8_judge_10 (by decide) ?_
  refine lv_istore_n (lv' := [(2, .int (0 : Int32)), (1, .int (md_rowMany S)), (0, .ref a0)]) hx hb dX8_judge_11 rfl hl (by decide) rfl (fun ls hl => ?_)
  exact hL12 (md_rowMany S) (md_set_rowMany S (0 : Int32)) FU (0 : Int32) H locs ls hf (lv_sub hl [2, 1, 0] rfl) hh
def fX8_draw (S : zMd) (p1 : Int32) : Option (Int32 × zMd) :=
  if p1 = 0 then none else some (((((((md_lots S) * (1103515245 : Int32)) + (12345 : Int32)) &&& (2147483647 : Int32)) / (65536 : Int32)) - (((((md_lots S) * (1103515245 : Int32)) + (12345 : Int32)) &&& (2147483647 : Int32)) / (65536 : Int32)) / p1 * p1), (md_set_lots S (((md_lots S) * (1103515245 : Int32)) + (12345 : Int32))))
theorem inX8_draw_X8 : ∀ w ∈ wsX80, w ∈ wsX8_draw := by decide +kernel
theorem mmX8_draw_0 : Cond.fieldLink RX8 274 "SumOfTwoThatStandModel" "lots" "I" ∈ wsX8_draw := by decide +kernel
theorem mmX8_draw_1 : Cond.constant RX8 277 (1103515245) ∈ wsX8_draw := by decide +kernel
theorem mmX8_draw_2 : Cond.constant RX8 278 (2147483647) ∈ wsX8_draw := by decide +kernel
theorem mmX8_draw_3 : Cond.constant RX8 279 (65536) ∈ wsX8_draw := by decide +kernel
theorem hdX8_draw : yX8_draw.cls ≠ "java/lang/invoke/MethodHandle" ∧ yX8_draw.cls ≠ "java/lang/invoke/VarHandle" ∧ (parseMethodDescriptor yX8_draw.desc).map (fun d => d.parameters.length) = some 1 := by decide +kernel
set_option maxHeartbeats 4000000 in
set_option maxRecDepth 100000 in
theorem kX8_draw (l : Launch) (K : zK) (a0 a1 a2 a3 a4 a5 a6 a7 a8 a9 a10 a11 a12 a13 a14 a15 a16 a17 a18 a19 : Nat) (S : zMd) (p1 : Int32) (R : Int32 × zMd) (hf : fX8_draw S p1 = some R) : zC l yX8_draw wsX8_draw ({ frames := 0, cells := 0, slots := 0, locals := 0 } : Room) K [.ref a0, .int p1] (cMd K a0 a1 a2 a3 a4 a5 a6 a7 a8 a9 a10 a11 a12 a13 a14 a15 a16 a17 a18 a19 S) (some (.int R.1)) (cMd K a0 a1 a2 a3 a4 a5 a6 a7 a8 a9 a10 a11 a12 a13 a14 a15 a16 a17 a18 a19 R.2) := by
  refine zC_i R.1 (cc := cX8_draw) (maxL := 2) (by decide +kernel) rfl (Nat.le_of_ble_eq_true rfl) rfl rfl ?_
  intro p e s m below meth c Q A X hret ls hl hh
  have X : zX p m c cX8_draw 2 s ([.ref a0, .int p1] : List Value).toArray wsX8_draw RX8 K A := X
  have hx := X.1.1
  have hb := X.1.2.1
  have hr2 : ∀ (pc : Nat) (ls : Array Slot) (H : Heap) (locs : List Loc) (v : Int32) (S : zMd), some (v, S) = some R → decode cX8_draw pc = .ok (.ireturn, 1) → zW K A s H locs (cMd K a0 a1 a2 a3 a4 a5 a6 a7 a8 a9 a10 a11 a12 a13 a14 a15 a16 a17 a18 a19 S) → W p l e ({ frames := 0, cells := 0, slots := 0, locals := 0 } : Room) s m ([.ref a0, .int p1] : List Value).toArray below meth c H locs 0 0 Q (F0 m pc ls [.int v]) := by
    intro pc ls H locs v S h hd hh
    cases h; exact hret pc ls H locs _ rfl hd hh
  have hl : lv_has ls 2 [(0, .ref a0), (1, .int p1)] := hl
  unfold fX8_draw at hf
  refine (fun (hmain : ∀ (H : Heap) (locs : List Loc), zW K A s H locs (cMd K a0 a1 a2 a3 a4 a5 a6 a7 a8 a9 a10 a11 a12 a13 a14 a15 a16 a17 a18 a19 S) → W p l e ({ frames := 0, cells := 0, slots := 0, locals := 0 } : Room) s m ([.ref a0, .int p1] : List Value).toArray below meth c H locs 0 0 Q (F0 m 0 ls [])) => hmain s.heap [] hh) (fun H locs hh => ?_)
  refine lv_aload_n hx hb dX8_draw_0 rfl (lv_at hl 0 rfl) ?_
  refine lv_aload_n hx hb dX8_draw_1 rfl (lv_at hl 0 rfl) ?_
  refine zget (v := .int (md_lots S)) (ref := "SumOfTwoThatStandModel") (C := RX8) (T := TX8) (N := 33) (index := 274) X hh inX8_draw_X8 0 rfl rfl 32 (by decide) mmX8_draw_0 rfl rfl dX8_draw_2 ?_
  refine lv_ldcw (v := (1103515245 : Int32)) hx hb X.1.2.2.2.1 (X.1.2.2.2.2 _ mmX8_draw_1) dX8_draw_5 ?_
  refine lv_imul hx hb dX8_draw_8 ?_
  refine lv_sipush (v := (12345 : Int32)) hx hb dX8_draw_9 (by decide) ?_
  refine lv_iadd hx hb dX8_draw_12 ?_
  refine zput (v := .int (((md_lots S) * (1103515245 : Int32)) + (12345 : Int32))) (ty := .int) (ref := "SumOfTwoThatStandModel") (C := RX8) (T := TX8) (N := 33) (index := 274) X hh inX8_draw_X8 tyX8 tyX8_ok nmX8 0 rfl rfl 32 (by decide) mmX8_draw_0 rfl rfl (by decide +kernel) rfl rfl (Nat.le_of_ble_eq_true rfl) dX8_draw_13 (fun H locs hh => ?_)
  have hh : zW K A s H locs (cMd K a0 a1 a2 a3 a4 a5 a6 a7 a8 a9 a10 a11 a12 a13 a14 a15 a16 a17 a18 a19 (md_set_lots S (((md_lots S) * (1103515245 : Int32)) + (12345 : Int32)))) := hh
  refine lv_aload_n hx hb dX8_draw_16 rfl (lv_at hl 0 rfl) ?_
  refine zget (v := .int (((md_lots S) * (1103515245 : Int32)) + (12345 : Int32))) (ref := "SumOfTwoThatStandModel") (C := RX8) (T := TX8) (N := 33) (index := 274) X hh inX8_draw_X8 0 rfl rfl 32 (by decide) mmX8_draw_0 rfl rfl dX8_draw_17 ?_
  refine lv_ldcw (v := (2147483647 : Int32)) hx hb X.1.2.2.2.1 (X.1.2.2.2.2 _ mmX8_draw_2) dX8_draw_20 ?_
  refine lv_iand hx hb dX8_draw_23 ?_
  refine lv_ldcw (v := (65536 : Int32)) hx hb X.1.2.2.2.1 (X.1.2.2.2.2 _ mmX8_draw_3) dX8_draw_24 ?_
  refine lv_idiv hx hb dX8_draw_27 (by decide) ?_
  refine lv_iload_n hx hb dX8_draw_28 rfl (lv_at hl 1 rfl) ?_
  obtain ⟨g2, hf⟩ := ob_gd hf
  refine lv_irem hx hb dX8_draw_29 g2 ?_
  exact hr2 30 ls H locs ((((((md_lots S) * (1103515245 : Int32)) + (12345 : Int32)) &&& (2147483647 : Int32)) / (65536 : Int32)) - (((((md_lots S) * (1103515245 : Int32)) + (12345 : Int32)) &&& (2147483647 : Int32)) / (65536 : Int32)) / p1 * p1) (md_set_lots S (((md_lots S) * (1103515245 : Int32)) + (12345 : Int32))) hf dX8_draw_30 hh
def fX8_greatest_j42 (S : zMd) (v2 : Int32) (t0 : Int32) (k4 : (Int32) → (Int32) → Option (Int32)) : Option (Int32) :=
  k4 t0 (v2 + (1 : Int32))
def fX8_greatest_j41 (S : zMd) (v1 : Int32) (v2 : Int32) (k4 : (Int32) → (Int32) → Option (Int32)) : Option (Int32) :=
  fX8_greatest_j42 S v2 v1 (k4)
def fX8_greatest_l4 (S : zMd) : Nat → (Int32) → (Int32) → Option (Int32)
  | 0, _, _ => none
  | n + 1, v1, v2 =>
  if (md_houses S) ≤ v2 then
  (some v1)
  else
  (ix 12 v2 (if ((md_stands S) v2.toNatClampNeg) = (1 : Int32) then
  (if ((md_number S) v2.toNatClampNeg) ≤ v1 then
  (fX8_greatest_j41 S v1 v2 (fX8_greatest_l4 S n))
  else
  (fX8_greatest_j42 S v2 ((md_number S) v2.toNatClampNeg) (fX8_greatest_l4 S n)))
  else
  (fX8_greatest_j41 S v1 v2 (fX8_greatest_l4 S n))))
def fX8_greatest (S : zMd) : Option (Int32) :=
  fX8_greatest_l4 S FU (0 : Int32) (0 : Int32)
theorem inX8_greatest_X8 : ∀ w ∈ wsX80, w ∈ wsX8_greatest := by decide +kernel
theorem mmX8_greatest_0 : Cond.fieldLink RX8 70 "SumOfTwoThatStandModel" "houses" "I" ∈ wsX8_greatest := by decide +kernel
theorem mmX8_greatest_1 : Cond.fieldLink RX8 28 "SumOfTwoThatStandModel" "stands" "[I" ∈ wsX8_greatest := by decide +kernel
theorem mmX8_greatest_2 : Cond.fieldLink RX8 13 "SumOfTwoThatStandModel" "number" "[I" ∈ wsX8_greatest := by decide +kernel
theorem hdX8_greatest : yX8_greatest.cls ≠ "java/lang/invoke/MethodHandle" ∧ yX8_greatest.cls ≠ "java/lang/invoke/VarHandle" ∧ (parseMethodDescriptor yX8_greatest.desc).map (fun d => d.parameters.length) = some 0 := by decide +kernel
set_option maxHeartbeats 4000000 in
set_option maxRecDepth 100000 in
theorem kX8_greatest (l : Launch) (K : zK) (a0 a1 a2 a3 a4 a5 a6 a7 a8 a9 a10 a11 a12 a13 a14 a15 a16 a17 a18 a19 : Nat) (S : zMd) (R : Int32) (hf : fX8_greatest S = some R) : zC l yX8_greatest wsX8_greatest ({ frames := 0, cells := 0, slots := 0, locals := 0 } : Room) K [.ref a0] (cMd K a0 a1 a2 a3 a4 a5 a6 a7 a8 a9 a10 a11 a12 a13 a14 a15 a16 a17 a18 a19 S) (some (.int R)) (cMd K a0 a1 a2 a3 a4 a5 a6 a7 a8 a9 a10 a11 a12 a13 a14 a15 a16 a17 a18 a19 S) := by
  refine zC_i R (cc := cX8_greatest) (maxL := 3) (by decide +kernel) rfl (Nat.le_of_ble_eq_true rfl) rfl rfl ?_
  intro p e s m below meth c Q A X hret ls hl hh
  have X : zX p m c cX8_greatest 3 s ([.ref a0] : List Value).toArray wsX8_greatest RX8 K A := X
  have hx := X.1.1
  have hb := X.1.2.1
  have hr2 : ∀ (pc : Nat) (ls : Array Slot) (H : Heap) (locs : List Loc) (v : Int32), some v = some R → decode cX8_greatest pc = .ok (.ireturn, 1) → zW K A s H locs (cMd K a0 a1 a2 a3 a4 a5 a6 a7 a8 a9 a10 a11 a12 a13 a14 a15 a16 a17 a18 a19 S) → W p l e ({ frames := 0, cells := 0, slots := 0, locals := 0 } : Room) s m ([.ref a0] : List Value).toArray below meth c H locs 0 0 Q (F0 m pc ls [.int v]) := by
    intro pc ls H locs v h hd hh
    cases h; exact hret pc ls H locs _ rfl hd hh
  have hl : lv_has ls 3 [(0, .ref a0)] := hl
  have hJ42 : ∀ (v2 : Int32) (t0 : Int32) (k4 : (Int32) → (Int32) → Option (Int32)), (∀ (v1 : Int32) (v2 : Int32) (H : Heap) (locs : List Loc) (ls : Array Slot), k4 v1 v2 = some R → lv_has ls 3 [(0, .ref a0), (1, .int v1), (2, .int v2)] → zW K A s H locs (cMd K a0 a1 a2 a3 a4 a5 a6 a7 a8 a9 a10 a11 a12 a13 a14 a15 a16 a17 a18 a19 S) → W p l e ({ frames := 0, cells := 0, slots := 0, locals := 0 } : Room) s m ([.ref a0] : List Value).toArray below meth c H locs 0 0 Q (F0 m 4 ls [])) → ∀ (H : Heap) (locs : List Loc) (ls : Array Slot), fX8_greatest_j42 S v2 t0 k4 = some R → lv_has ls 3 [(0, .ref a0), (2, .int v2)] → zW K A s H locs (cMd K a0 a1 a2 a3 a4 a5 a6 a7 a8 a9 a10 a11 a12 a13 a14 a15 a16 a17 a18 a19 S) → W p l e ({ frames := 0, cells := 0, slots := 0, locals := 0 } : Room) s m ([.ref a0] : List Value).toArray below meth c H locs 0 0 Q (F0 m 42 ls [.int t0]) := by
    intro v2 t0 k4 hk4 H locs ls hf hl hh
    unfold fX8_greatest_j42 at hf
    refine lv_istore_n (lv' := [(1, .int t0), (0, .ref a0), (2, .int v2)]) hx hb dX8_greatest_42 rfl hl (by decide) rfl (fun ls hl => ?_)
    refine lv_iinc (v := (v2 + (1 : Int32))) (lv' := [(2, .int (v2 + (1 : Int32))), (1, .int t0), (0, .ref a0)]) hx hb dX8_greatest_43 hl (k := 2) rfl rfl (by decide) rfl (fun ls hl => ?_)
    refine lv_goto (tgt := 4) hx hb dX8_greatest_46 (by decide) ?_
    exact hk4 t0 (v2 + (1 : Int32)) H locs ls hf (lv_sub hl [2, 1, 0] rfl) hh
  have hJ41 : ∀ (v1 : Int32) (v2 : Int32) (k4 : (Int32) → (Int32) → Option (Int32)), (∀ (v1 : Int32) (v2 : Int32) (H : Heap) (locs : List Loc) (ls : Array Slot), k4 v1 v2 = some R → lv_has ls 3 [(0, .ref a0), (1, .int v1), (2, .int v2)] → zW K A s H locs (cMd K a0 a1 a2 a3 a4 a5 a6 a7 a8 a9 a10 a11 a12 a13 a14 a15 a16 a17 a18 a19 S) → W p l e ({ frames := 0, cells := 0, slots := 0, locals := 0 } : Room) s m ([.ref a0] : List Value).toArray below meth c H locs 0 0 Q (F0 m 4 ls [])) → ∀ (H : Heap) (locs : List Loc) (ls : Array Slot), fX8_greatest_j41 S v1 v2 k4 = some R → lv_has ls 3 [(0, .ref a0), (1, .int v1), (2, .int v2)] → zW K A s H locs (cMd K a0 a1 a2 a3 a4 a5 a6 a7 a8 a9 a10 a11 a12 a13 a14 a15 a16 a17 a18 a19 S) → W p l e ({ frames := 0, cells := 0, slots := 0, locals := 0 } : Room) s m ([.ref a0] : List Value).toArray below meth c H locs 0 0 Q (F0 m 41 ls []) := by
    intro v1 v2 k4 hk4 H locs ls hf hl hh
    unfold fX8_greatest_j41 at hf
    refine lv_iload_n hx hb dX8_greatest_41 rfl (lv_at hl 1 rfl) ?_
    exact hJ42 v2 v1 (k4) (hk4) H locs ls hf (lv_sub hl [0, 2] rfl) hh
  have hL4 : ∀ (n : Nat) (v1 : Int32) (v2 : Int32), ∀ (H : Heap) (locs : List Loc) (ls : Array Slot), fX8_greatest_l4 S n v1 v2 = some R → lv_has ls 3 [(0, .ref a0), (1, .int v1), (2, .int v2)] → zW K A s H locs (cMd K a0 a1 a2 a3 a4 a5 a6 a7 a8 a9 a10 a11 a12 a13 a14 a15 a16 a17 a18 a19 S) → W p l e ({ frames := 0, cells := 0, slots := 0, locals := 0 } : Room) s m ([.ref a0] : List Value).toArray below meth c H locs 0 0 Q (F0 m 4 ls []) := by
    intro n
    induction n with
    | zero =>
      intro v1 v2 H locs ls hf hl hh
      rw [fX8_greatest_l4] at hf; cases hf
    | succ n ih =>
      intro v1 v2 H locs ls hf hl hh
      rw [fX8_greatest_l4] at hf
      refine lv_iload_n hx hb dX8_greatest_4 rfl (lv_at hl 2 rfl) ?_
      refine lv_aload_n hx hb dX8_greatest_5 rfl (lv_at hl 0 rfl) ?_
      refine zget (v := .int (md_houses S)) (ref := "SumOfTwoThatStandModel") (C := RX8) (T := TX8) (N := 33) (index := 70) X hh inX8_greatest_X8 0 rfl rfl 9 (by decide) mmX8_greatest_0 rfl rfl dX8_greatest_6 ?_
      refine lv_icmp_ge (tgt := 49) hx hb dX8_greatest_9 (by decide) (fun c1 => ?_) (fun c1 => ?_)
      · replace hf := (if_pos c1).symm.trans hf
        refine lv_iload_n hx hb dX8_greatest_49 rfl (lv_at hl 1 rfl) ?_
        exact hr2 50 ls H locs v1 hf dX8_greatest_50 hh
      · replace hf := (if_neg c1).symm.trans hf
        refine lv_aload_n hx hb dX8_greatest_12 rfl (lv_at hl 0 rfl) ?_
        refine zget (v := .ref a7) (ref := "SumOfTwoThatStandModel") (C := RX8) (T := TX8) (N := 33) (index := 28) X hh inX8_greatest_X8 0 rfl rfl 6 (by decide) mmX8_greatest_1 rfl rfl dX8_greatest_13 ?_
        refine lv_iload_n hx hb dX8_greatest_16 rfl (lv_at hl 2 rfl) ?_
        obtain ⟨g2, hf⟩ := ob_ix hf
        refine ziald (f := (md_stands S)) X hh 7 rfl g2 dX8_greatest_17 ?_
        refine lv_iconst (v := (1 : Int32)) hx hb dX8_greatest_18 (by decide) ?_
        refine lv_icmp_ne (tgt := 41) hx hb dX8_greatest_19 (by decide) (fun c3 => ?_) (fun c3 => ?_)
        · replace hf := (if_neg c3).symm.trans hf
          exact hJ41 v1 v2 (fX8_greatest_l4 S n) (ih) H locs ls hf (lv_sub hl [0, 1, 2] rfl) hh
        · replace hf := (if_pos c3).symm.trans hf
          refine lv_aload_n hx hb dX8_greatest_22 rfl (lv_at hl 0 rfl) ?_
          refine zget (v := .ref a2) (ref := "SumOfTwoThatStandModel") (C := RX8) (T := TX8) (N := 33) (index := 13) X hh inX8_greatest_X8 0 rfl rfl 1 (by decide) mmX8_greatest_2 rfl rfl dX8_greatest_23 ?_
          refine lv_iload_n hx hb dX8_greatest_26 rfl (lv_at hl 2 rfl) ?_
          refine ziald (f := (md_number S)) X hh 2 rfl g2 dX8_greatest_27 ?_
          refine lv_iload_n hx hb dX8_greatest_28 rfl (lv_at hl 1 rfl) ?_
          refine lv_icmp_le (tgt := 41) hx hb dX8_greatest_29 (by decide) (fun c4 => ?_) (fun c4 => ?_)
          · replace hf := (if_pos c4).symm.trans hf
            exact hJ41 v1 v2 (fX8_greatest_l4 S n) (ih) H locs ls hf (lv_sub hl [0, 1, 2] rfl) hh
          · replace hf := (if_neg c4).symm.trans hf
            refine lv_aload_n hx hb dX8_greatest_32 rfl (lv_at hl 0 rfl) ?_
            refine zget (v := .ref a2) (ref := "SumOfTwoThatStandModel") (C := RX8) (T := TX8) (N := 33) (index := 13) X hh inX8_greatest_X8 0 rfl rfl 1 (by decide) mmX8_greatest_2 rfl rfl dX8_greatest_33 ?_
            refine lv_iload_n hx hb dX8_greatest_36 rfl (lv_at hl 2 rfl) ?_
            refine ziald (f := (md_number S)) X hh 2 rfl g2 dX8_greatest_37 ?_
            refine lv_goto (tgt := 42) hx hb dX8_greatest_38 (by decide) ?_
            exact hJ42 v2 ((md_number S) v2.toNatClampNeg) (fX8_greatest_l4 S n) (ih) H locs ls hf (lv_sub hl [0, 2] rfl) hh
  unfold fX8_greatest at hf
  refine (fun (hmain : ∀ (H : Heap) (locs : List Loc), zW K A s H locs (cMd K a0 a1 a2 a3 a4 a5 a6 a7 a8 a9 a10 a11 a12 a13 a14 a15 a16 a17 a18 a19 S) → W p l e ({ frames := 0, cells := 0, slots := 0, locals := 0 } : Room) s m ([.ref a0] : List Value).toArray below meth c H locs 0 0 Q (F0 m 0 ls [])) => hmain s.heap [] hh) (fun H locs hh => ?_)
  refine lv_iconst (v := (0 : Int32)) hx hb dX8_greatest_0 (by decide) ?_
  refine lv_istore_n (lv' := [(1, .int (0 : Int32)), (0, .ref a0)]) hx hb dX8_greatest_1 rfl hl (by decide) rfl (fun ls hl => ?_)
  refine lv_iconst (v := (0 : Int32)) hx hb dX8_greatest_2 (by decide) ?_
  refine lv_istore_n (lv' := [(2, .int (0 : Int32)), (1, .int (0 : Int32)), (0, .ref a0)]) hx hb dX8_greatest_3 rfl hl (by decide) rfl (fun ls hl => ?_)
  exact hL4 FU (0 : Int32) (0 : Int32) H locs ls hf (lv_sub hl [2, 1, 0] rfl) hh
def fX8_buildsByLot (S : zMd) : Option (zMd) :=
  (fX8_draw S (md_houses S)).bind fun u1 =>
  (fX8_draw u1.2 (md_houses u1.2)).bind fun u2 =>
  (fX8_canBe u2.2 u1.1 u2.1).bind fun u3 =>
  if u3 = (0 : Int32) then
  (some u2.2)
  else
  (if (12 : Int32) ≤ (md_houses u2.2) then
  (some u2.2)
  else
  ((fX8_builds u2.2 u1.1 u2.1 (0 : Int32) (0 : Int32)).bind fun u6 =>
  some u6))
theorem inX8_buildsByLot_X8 : ∀ w ∈ wsX80, w ∈ wsX8_buildsByLot := by decide +kernel
theorem mmX8_buildsByLot_0 : Cond.fieldLink RX8 70 "SumOfTwoThatStandModel" "houses" "I" ∈ wsX8_buildsByLot := by decide +kernel
theorem hdX8_buildsByLot : yX8_buildsByLot.cls ≠ "java/lang/invoke/MethodHandle" ∧ yX8_buildsByLot.cls ≠ "java/lang/invoke/VarHandle" ∧ (parseMethodDescriptor yX8_buildsByLot.desc).map (fun d => d.parameters.length) = some 0 := by decide +kernel
set_option maxHeartbeats 4000000 in
set_option maxRecDepth 100000 in
theorem kX8_buildsByLot (l : Launch) (K : zK) (a0 a1 a2 a3 a4 a5 a6 a7 a8 a9 a10 a11 a12 a13 a14 a15 a16 a17 a18 a19 : Nat) (S : zMd) (R : zMd) (hf : fX8_buildsByLot S = some R) : zC l yX8_buildsByLot wsX8_buildsByLot ({ frames := 4, cells := 0, slots := 0, locals := 89 } : Room) K [.ref a0] (cMd K a0 a1 a2 a3 a4 a5 a6 a7 a8 a9 a10 a11 a12 a13 a14 a15 a16 a17 a18 a19 S) none (cMd K a0 a1 a2 a3 a4 a5 a6 a7 a8 a9 a10 a11 a12 a13 a14 a15 a16 a17 a18 a19 R) := by
  refine zC_v (cc := cX8_buildsByLot) (maxL := 3) (by decide +kernel) rfl (Nat.le_of_ble_eq_true rfl) rfl rfl ?_
  intro p e s m below meth c Q A X hret ls hl hh
  have X : zX p m c cX8_buildsByLot 3 s ([.ref a0] : List Value).toArray wsX8_buildsByLot RX8 K A := X
  have hx := X.1.1
  have hb := X.1.2.1
  have hr2 : ∀ (pc : Nat) (ls : Array Slot) (H : Heap) (locs : List Loc) (S : zMd), some S = some R → decode cX8_buildsByLot pc = .ok (.return_, 1) → zW K A s H locs (cMd K a0 a1 a2 a3 a4 a5 a6 a7 a8 a9 a10 a11 a12 a13 a14 a15 a16 a17 a18 a19 S) → W p l e ({ frames := 4, cells := 0, slots := 0, locals := 89 } : Room) s m ([.ref a0] : List Value).toArray below meth c H locs 0 0 Q (F0 m pc ls []) := by
    intro pc ls H locs S h hd hh
    cases h; exact hret pc ls H locs hd hh
  have hl : lv_has ls 3 [(0, .ref a0)] := hl
  unfold fX8_buildsByLot at hf
  refine (fun (hmain : ∀ (H : Heap) (locs : List Loc), zW K A s H locs (cMd K a0 a1 a2 a3 a4 a5 a6 a7 a8 a9 a10 a11 a12 a13 a14 a15 a16 a17 a18 a19 S) → W p l e ({ frames := 4, cells := 0, slots := 0, locals := 89 } : Room) s m ([.ref a0] : List Value).toArray below meth c H locs 0 0 Q (F0 m 0 ls [])) => hmain s.heap [] hh) (fun H locs hh => ?_)
  refine lv_aload_n hx hb dX8_buildsByLot_0 rfl (lv_at hl 0 rfl) ?_
  refine lv_aload_n hx hb dX8_buildsByLot_1 rfl (lv_at hl 0 rfl) ?_
  refine zget (v := .int (md_houses S)) (ref := "SumOfTwoThatStandModel") (C := RX8) (T := TX8) (N := 33) (index := 70) X hh inX8_buildsByLot_X8 0 rfl rfl 9 (by decide) mmX8_buildsByLot_0 rfl rfl dX8_buildsByLot_2 ?_
  obtain ⟨u1, hu1, hf⟩ := ob_bind hf
  refine zcallV (ci := 7) (q0 := 0) (As := [.int (md_houses S)]) (rest := []) (wr := []) (ws' := cMd K a0 a1 a2 a3 a4 a5 a6 a7 a8 a9 a10 a11 a12 a13 a14 a15 a16 a17 a18 a19 u1.2) (ov := some (.int u1.1)) X hh hl (kX8_draw l K a0 a1 a2 a3 a4 a5 a6 a7 a8 a9 a10 a11 a12 a13 a14 a15 a16 a17 a18 a19 S (md_houses S) u1 hu1) (fun ht => cwV 1 ht gX8_buildsByLot_X8_draw rfl rfl rfl ⟨rfl, hdX8_draw⟩ ⟨Nat.le_of_ble_eq_true rfl, Nat.le_of_ble_eq_true rfl⟩) [0, 1, 2, 3, 4, 5, 6, 7, 8, 9, 10, 11, 12, 13, 14, 15, 16, 17, 18, 19] [] [0, 1, 2, 3, 4, 5, 6, 7, 8, 9, 10, 11, 12, 13, 14, 15, 16, 17, 18, 19] rfl rfl rfl rfl (by decide) rfl rfl rfl rfl rfl rfl (Nat.le_of_ble_eq_true rfl) dX8_buildsByLot_5 ⟨Nat.zero_le _, Nat.zero_le _⟩ (fun H locs hh => ?_)
  refine lv_istore_n (lv' := [(1, .int u1.1), (0, .ref a0)]) hx hb dX8_buildsByLot_8 rfl hl (by decide) rfl (fun ls hl => ?_)
  refine lv_aload_n hx hb dX8_buildsByLot_9 rfl (lv_at hl 1 rfl) ?_
  refine lv_aload_n hx hb dX8_buildsByLot_10 rfl (lv_at hl 1 rfl) ?_
  refine zget (v := .int (md_houses u1.2)) (ref := "SumOfTwoThatStandModel") (C := RX8) (T := TX8) (N := 33) (index := 70) X hh inX8_buildsByLot_X8 0 rfl rfl 9 (by decide) mmX8_buildsByLot_0 rfl rfl dX8_buildsByLot_11 ?_
  obtain ⟨u2, hu2, hf⟩ := ob_bind hf
  refine zcallV (ci := 7) (q0 := 0) (As := [.int (md_houses u1.2)]) (rest := []) (wr := []) (ws' := cMd K a0 a1 a2 a3 a4 a5 a6 a7 a8 a9 a10 a11 a12 a13 a14 a15 a16 a17 a18 a19 u2.2) (ov := some (.int u2.1)) X hh hl (kX8_draw l K a0 a1 a2 a3 a4 a5 a6 a7 a8 a9 a10 a11 a12 a13 a14 a15 a16 a17 a18 a19 u1.2 (md_houses u1.2) u2 hu2) (fun ht => cwV 1 ht gX8_buildsByLot_X8_draw rfl rfl rfl ⟨rfl, hdX8_draw⟩ ⟨Nat.le_of_ble_eq_true rfl, Nat.le_of_ble_eq_true rfl⟩) [0, 1, 2, 3, 4, 5, 6, 7, 8, 9, 10, 11, 12, 13, 14, 15, 16, 17, 18, 19] [] [0, 1, 2, 3, 4, 5, 6, 7, 8, 9, 10, 11, 12, 13, 14, 15, 16, 17, 18, 19] rfl rfl rfl rfl (by decide) rfl rfl rfl rfl rfl rfl (Nat.le_of_ble_eq_true rfl) dX8_buildsByLot_14 ⟨Nat.zero_le _, Nat.zero_le _⟩ (fun H locs hh => ?_)
  refine lv_istore_n (lv' := [(2, .int u2.1), (1, .int u1.1), (0, .ref a0)]) hx hb dX8_buildsByLot_17 rfl hl (by decide) rfl (fun ls hl => ?_)
  refine lv_aload_n hx hb dX8_buildsByLot_18 rfl (lv_at hl 2 rfl) ?_
  refine lv_iload_n hx hb dX8_buildsByLot_19 rfl (lv_at hl 1 rfl) ?_
  refine lv_iload_n hx hb dX8_buildsByLot_20 rfl (lv_at hl 0 rfl) ?_
  obtain ⟨u3, hu3, hf⟩ := ob_bind hf
  refine zcallV (ci := 7) (q0 := 0) (As := [.int u1.1, .int u2.1]) (rest := []) (wr := []) (ws' := cMd K a0 a1 a2 a3 a4 a5 a6 a7 a8 a9 a10 a11 a12 a13 a14 a15 a16 a17 a18 a19 u2.2) (ov := some (.int u3)) X hh hl (kX8_canBe l K a0 a1 a2 a3 a4 a5 a6 a7 a8 a9 a10 a11 a12 a13 a14 a15 a16 a17 a18 a19 u2.2 u1.1 u2.1 u3 hu3) (fun ht => cwV 2 ht gX8_buildsByLot_X8_canBe rfl rfl rfl ⟨rfl, hdX8_canBe⟩ ⟨Nat.le_of_ble_eq_true rfl, Nat.le_of_ble_eq_true rfl⟩) [0, 1, 2, 3, 4, 5, 6, 7, 8, 9, 10, 11, 12, 13, 14, 15, 16, 17, 18, 19] [] [0, 1, 2, 3, 4, 5, 6, 7, 8, 9, 10, 11, 12, 13, 14, 15, 16, 17, 18, 19] rfl rfl rfl rfl (by decide) rfl rfl rfl rfl rfl rfl (Nat.le_of_ble_eq_true rfl) dX8_buildsByLot_21 ⟨Nat.zero_le _, Nat.zero_le _⟩ (fun H locs hh => ?_)
  refine lv_if_eq (tgt := 44) hx hb dX8_buildsByLot_24 (by decide) (fun c4 => ?_) (fun c4 => ?_)
  · replace hf := (if_pos c4).symm.trans hf
    exact hr2 44 ls H locs u2.2 hf dX8_buildsByLot_44 hh
  · replace hf := (if_neg c4).symm.trans hf
    refine lv_aload_n hx hb dX8_buildsByLot_27 rfl (lv_at hl 2 rfl) ?_
    refine zget (v := .int (md_houses u2.2)) (ref := "SumOfTwoThatStandModel") (C := RX8) (T := TX8) (N := 33) (index := 70) X hh inX8_buildsByLot_X8 0 rfl rfl 9 (by decide) mmX8_buildsByLot_0 rfl rfl dX8_buildsByLot_28 ?_
    refine lv_bipush (v := (12 : Int32)) hx hb dX8_buildsByLot_31 (by decide) ?_
    refine lv_icmp_ge (tgt := 44) hx hb dX8_buildsByLot_33 (by decide) (fun c5 => ?_) (fun c5 => ?_)
    · replace hf := (if_pos c5).symm.trans hf
      exact hr2 44 ls H locs u2.2 hf dX8_buildsByLot_44 hh
    · replace hf := (if_neg c5).symm.trans hf
      refine lv_aload_n hx hb dX8_buildsByLot_36 rfl (lv_at hl 2 rfl) ?_
      refine lv_iload_n hx hb dX8_buildsByLot_37 rfl (lv_at hl 1 rfl) ?_
      refine lv_iload_n hx hb dX8_buildsByLot_38 rfl (lv_at hl 0 rfl) ?_
      refine lv_iconst (v := (0 : Int32)) hx hb dX8_buildsByLot_39 (by decide) ?_
      refine lv_iconst (v := (0 : Int32)) hx hb dX8_buildsByLot_40 (by decide) ?_
      obtain ⟨u6, hu6, hf⟩ := ob_bind hf
      refine zcallV (ci := 7) (q0 := 0) (As := [.int u1.1, .int u2.1, .int (0 : Int32), .int (0 : Int32)]) (rest := []) (wr := []) (ws' := cMd K a0 a1 a2 a3 a4 a5 a6 a7 a8 a9 a10 a11 a12 a13 a14 a15 a16 a17 a18 a19 u6) (ov := none) X hh hl (kX8_builds l K a0 a1 a2 a3 a4 a5 a6 a7 a8 a9 a10 a11 a12 a13 a14 a15 a16 a17 a18 a19 u2.2 u1.1 u2.1 (0 : Int32) (0 : Int32) u6 hu6) (fun ht => cwV 4 ht gX8_buildsByLot_X8_builds rfl rfl rfl ⟨rfl, hdX8_builds⟩ ⟨Nat.le_of_ble_eq_true rfl, Nat.le_of_ble_eq_true rfl⟩) [0, 1, 2, 3, 4, 5, 6, 7, 8, 9, 10, 11, 12, 13, 14, 15, 16, 17, 18, 19] [] [0, 1, 2, 3, 4, 5, 6, 7, 8, 9, 10, 11, 12, 13, 14, 15, 16, 17, 18, 19] rfl rfl rfl rfl (by decide) rfl rfl rfl rfl rfl rfl (Nat.le_of_ble_eq_true rfl) dX8_buildsByLot_41 ⟨Nat.zero_le _, Nat.zero_le _⟩ (fun H locs hh => ?_)
      exact hr2 44 ls H locs u6 hf dX8_buildsByLot_44 hh
def fX8_seeds_j83 (t0 : Int32) (S : zMd) : Option (Int32 × zMd) :=
  (fX8_passesAll S (2 : Int32) (0 : Int32)).bind fun u1 =>
  some (t0, u1)
def fX8_seeds_l49 (v1 : Int32) (v3 : Int32) : Nat → (Int32) → (zMd) → Option (Int32 × zMd)
  | 0, _, _ => none
  | n + 1, v5, S =>
  if v1 ≤ v5 then
  (if v3 = (0 : Int32) then
  ((fX8_standing S).bind fun u5 =>
  (fX8_bits u5).bind fun u6 =>
  fX8_seeds_j83 u6 S)
  else
  ((fX8_greatest S).bind fun u4 =>
  fX8_seeds_j83 u4 S))
  else
  ((fX8_buildsByLot S).bind fun u7 =>
  fX8_seeds_l49 v1 v3 n (v5 + (1 : Int32)) u7)
def fX8_seeds_j21 (v1 : Int32) (v2 : Int32) (v3 : Int32) (t0 : Int32) (S : zMd) : Option (Int32 × zMd) :=
  if t0 = (0 : Int32) then
  ((fX8_passesAll S (2 : Int32) (1 : Int32)).bind fun u9 =>
  fX8_seeds_l49 v1 v3 FU (0 : Int32) (md_set_lots u9 v2))
  else
  ((fX8_no S t0).bind fun u10 =>
  some (u10.1, u10.2))
def fX8_seeds (S : zMd) (p1 : Int32) (p2 : Int32) (p3 : Int32) : Option (Int32 × zMd) :=
  if (fX8_isIn p3 (0 : Int32) (1 : Int32)) = (0 : Int32) then
  (fX8_seeds_j21 p1 p2 p3 (-2 : Int32) S)
  else
  (fX8_seeds_j21 p1 p2 p3 (fX8_bound p1 (1 : Int32) (40 : Int32)) S)
theorem inX8_seeds_X8 : ∀ w ∈ wsX80, w ∈ wsX8_seeds := by decide +kernel
theorem mmX8_seeds_0 : Cond.fieldLink RX8 274 "SumOfTwoThatStandModel" "lots" "I" ∈ wsX8_seeds := by decide +kernel
theorem hdX8_seeds : yX8_seeds.cls ≠ "java/lang/invoke/MethodHandle" ∧ yX8_seeds.cls ≠ "java/lang/invoke/VarHandle" ∧ (parseMethodDescriptor yX8_seeds.desc).map (fun d => d.parameters.length) = some 3 := by decide +kernel
set_option maxHeartbeats 4000000 in
set_option maxRecDepth 100000 in
theorem kX8_seeds (l : Launch) (K : zK) (a0 a1 a2 a3 a4 a5 a6 a7 a8 a9 a10 a11 a12 a13 a14 a15 a16 a17 a18 a19 : Nat) (S : zMd) (p1 : Int32) (p2 : Int32) (p3 : Int32) (R : Int32 × zMd) (hf : fX8_seeds S p1 p2 p3 = some R) : zC l yX8_seeds wsX8_seeds ({ frames := 5, cells := 0, slots := 0, locals := 111 } : Room) K [.ref a0, .int p1, .int p2, .int p3] (cMd K a0 a1 a2 a3 a4 a5 a6 a7 a8 a9 a10 a11 a12 a13 a14 a15 a16 a17 a18 a19 S) (some (.int R.1)) (cMd K a0 a1 a2 a3 a4 a5 a6 a7 a8 a9 a10 a11 a12 a13 a14 a15 a16 a17 a18 a19 R.2) := by
  refine zC_i R.1 (cc := cX8_seeds) (maxL := 6) (by decide +kernel) rfl (Nat.le_of_ble_eq_true rfl) rfl rfl ?_
  intro p e s m below meth c Q A X hret ls hl hh
  have X : zX p m c cX8_seeds 6 s ([.ref a0, .int p1, .int p2, .int p3] : List Value).toArray wsX8_seeds RX8 K A := X
  have hx := X.1.1
  have hb := X.1.2.1
  have hr2 : ∀ (pc : Nat) (ls : Array Slot) (H : Heap) (locs : List Loc) (v : Int32) (S : zMd), some (v, S) = some R → decode cX8_seeds pc = .ok (.ireturn, 1) → zW K A s H locs (cMd K a0 a1 a2 a3 a4 a5 a6 a7 a8 a9 a10 a11 a12 a13 a14 a15 a16 a17 a18 a19 S) → W p l e ({ frames := 5, cells := 0, slots := 0, locals := 111 } : Room) s m ([.ref a0, .int p1, .int p2, .int p3] : List Value).toArray below meth c H locs 0 0 Q (F0 m pc ls [.int v]) := by
    intro pc ls H locs v S h hd hh
    cases h; exact hret pc ls H locs _ rfl hd hh
  have hl : lv_has ls 6 [(0, .ref a0), (1, .int p1), (2, .int p2), (3, .int p3)] := hl
  have hJ83 : ∀ (t0 : Int32) (S : zMd), ∀ (H : Heap) (locs : List Loc) (ls : Array Slot), fX8_seeds_j83 t0 S = some R → lv_has ls 6 [(0, .ref a0)] → zW K A s H locs (cMd K a0 a1 a2 a3 a4 a5 a6 a7 a8 a9 a10 a11 a12 a13 a14 a15 a16 a17 a18 a19 S) → W p l e ({ frames := 5, cells := 0, slots := 0, locals := 111 } : Room) s m ([.ref a0, .int p1, .int p2, .int p3] : List Value).toArray below meth c H locs 0 0 Q (F0 m 83 ls [.int t0]) := by
    intro t0 S H locs ls hf hl hh
    unfold fX8_seeds_j83 at hf
    refine lv_istore (lv' := [(5, .int t0), (0, .ref a0)]) hx hb dX8_seeds_83 hl (by decide) rfl (fun ls hl => ?_)
    refine lv_aload_n hx hb dX8_seeds_85 rfl (lv_at hl 1 rfl) ?_
    refine lv_iconst (v := (2 : Int32)) hx hb dX8_seeds_86 (by decide) ?_
    refine lv_iconst (v := (0 : Int32)) hx hb dX8_seeds_87 (by decide) ?_
    obtain ⟨u1, hu1, hf⟩ := ob_bind hf
    refine zcallV (ci := 7) (q0 := 0) (As := [.int (2 : Int32), .int (0 : Int32)]) (rest := []) (wr := []) (ws' := cMd K a0 a1 a2 a3 a4 a5 a6 a7 a8 a9 a10 a11 a12 a13 a14 a15 a16 a17 a18 a19 u1) (ov := none) X hh hl (kX8_passesAll l K a0 a1 a2 a3 a4 a5 a6 a7 a8 a9 a10 a11 a12 a13 a14 a15 a16 a17 a18 a19 S (2 : Int32) (0 : Int32) u1 hu1) (fun ht => cwV 2 ht gX8_seeds_X8_passesAll rfl rfl rfl ⟨rfl, hdX8_passesAll⟩ ⟨Nat.le_of_ble_eq_true rfl, Nat.le_of_ble_eq_true rfl⟩) [0, 1, 2, 3, 4, 5, 6, 7, 8, 9, 10, 11, 12, 13, 14, 15, 16, 17, 18, 19] [] [0, 1, 2, 3, 4, 5, 6, 7, 8, 9, 10, 11, 12, 13, 14, 15, 16, 17, 18, 19] rfl rfl rfl rfl (by decide) rfl rfl rfl rfl rfl rfl (Nat.le_of_ble_eq_true rfl) dX8_seeds_88 ⟨Nat.zero_le _, Nat.zero_le _⟩ (fun H locs hh => ?_)
    refine lv_iload hx hb dX8_seeds_91 (lv_at hl 0 rfl) ?_
    exact hr2 93 ls H locs t0 u1 hf dX8_seeds_93 hh
  have hL49 : ∀ (v1 : Int32) (v3 : Int32), ∀ (n : Nat) (v5 : Int32) (S : zMd), ∀ (H : Heap) (locs : List Loc) (ls : Array Slot), fX8_seeds_l49 v1 v3 n v5 S = some R → lv_has ls 6 [(0, .ref a0), (1, .int v1), (3, .int v3), (5, .int v5)] → zW K A s H locs (cMd K a0 a1 a2 a3 a4 a5 a6 a7 a8 a9 a10 a11 a12 a13 a14 a15 a16 a17 a18 a19 S) → W p l e ({ frames := 5, cells := 0, slots := 0, locals := 111 } : Room) s m ([.ref a0, .int p1, .int p2, .int p3] : List Value).toArray below meth c H locs 0 0 Q (F0 m 49 ls []) := by
    intro v1 v3 n
    induction n with
    | zero =>
      intro v5 S H locs ls hf hl hh
      rw [fX8_seeds_l49] at hf; cases hf
    | succ n ih =>
      intro v5 S H locs ls hf hl hh
      rw [fX8_seeds_l49] at hf
      refine lv_iload hx hb dX8_seeds_49 (lv_at hl 3 rfl) ?_
      refine lv_iload_n hx hb dX8_seeds_51 rfl (lv_at hl 1 rfl) ?_
      refine lv_icmp_ge (tgt := 65) hx hb dX8_seeds_52 (by decide) (fun c2 => ?_) (fun c2 => ?_)
      · replace hf := (if_pos c2).symm.trans hf
        refine lv_iload_n hx hb dX8_seeds_65 rfl (lv_at hl 2 rfl) ?_
        refine lv_if_ne (tgt := 79) hx hb dX8_seeds_66 (by decide) (fun c3 => ?_) (fun c3 => ?_)
        · replace hf := (if_neg c3).symm.trans hf
          refine lv_aload_n hx hb dX8_seeds_79 rfl (lv_at hl 0 rfl) ?_
          obtain ⟨u4, hu4, hf⟩ := ob_bind hf
          refine zcallV (ci := 7) (q0 := 0) (As := []) (rest := []) (wr := []) (ws' := cMd K a0 a1 a2 a3 a4 a5 a6 a7 a8 a9 a10 a11 a12 a13 a14 a15 a16 a17 a18 a19 S) (ov := some (.int u4)) X hh hl (kX8_greatest l K a0 a1 a2 a3 a4 a5 a6 a7 a8 a9 a10 a11 a12 a13 a14 a15 a16 a17 a18 a19 S u4 hu4) (fun ht => cwV 0 ht gX8_seeds_X8_greatest rfl rfl rfl ⟨rfl, hdX8_greatest⟩ ⟨Nat.le_of_ble_eq_true rfl, Nat.le_of_ble_eq_true rfl⟩) [0, 1, 2, 3, 4, 5, 6, 7, 8, 9, 10, 11, 12, 13, 14, 15, 16, 17, 18, 19] [] [0, 1, 2, 3, 4, 5, 6, 7, 8, 9, 10, 11, 12, 13, 14, 15, 16, 17, 18, 19] rfl rfl rfl rfl (by decide) rfl rfl rfl rfl rfl rfl (Nat.le_of_ble_eq_true rfl) dX8_seeds_80 ⟨Nat.zero_le _, Nat.zero_le _⟩ (fun H locs hh => ?_)
          exact hJ83 u4 S H locs ls hf (lv_sub hl [0] rfl) hh
        · replace hf := (if_pos c3).symm.trans hf
          refine lv_aload_n hx hb dX8_seeds_69 rfl (lv_at hl 0 rfl) ?_
          obtain ⟨u5, hu5, hf⟩ := ob_bind hf
          refine zcallV (ci := 7) (q0 := 0) (As := []) (rest := []) (wr := []) (ws' := cMd K a0 a1 a2 a3 a4 a5 a6 a7 a8 a9 a10 a11 a12 a13 a14 a15 a16 a17 a18 a19 S) (ov := some (.int u5)) X hh hl (kX8_standing l K a0 a1 a2 a3 a4 a5 a6 a7 a8 a9 a10 a11 a12 a13 a14 a15 a16 a17 a18 a19 S u5 hu5) (fun ht => cwV 0 ht gX8_seeds_X8_standing rfl rfl rfl ⟨rfl, hdX8_standing⟩ ⟨Nat.le_of_ble_eq_true rfl, Nat.le_of_ble_eq_true rfl⟩) [0, 1, 2, 3, 4, 5, 6, 7, 8, 9, 10, 11, 12, 13, 14, 15, 16, 17, 18, 19] [] [0, 1, 2, 3, 4, 5, 6, 7, 8, 9, 10, 11, 12, 13, 14, 15, 16, 17, 18, 19] rfl rfl rfl rfl (by decide) rfl rfl rfl rfl rfl rfl (Nat.le_of_ble_eq_true rfl) dX8_seeds_70 ⟨Nat.zero_le _, Nat.zero_le _⟩ (fun H locs hh => ?_)
          obtain ⟨u6, hu6, hf⟩ := ob_bind hf
          refine zcallS (As := [.int u5]) (rest := []) (wr := cMd K a0 a1 a2 a3 a4 a5 a6 a7 a8 a9 a10 a11 a12 a13 a14 a15 a16 a17 a18 a19 S) (ws' := cMd K a0 a1 a2 a3 a4 a5 a6 a7 a8 a9 a10 a11 a12 a13 a14 a15 a16 a17 a18 a19 S) (ov := some (.int u6)) X hh hl (kX8_bits l K u5 u6 hu6) (fun ht => va_cwS 1 ht gX8_seeds_X8_bits rfl rfl rfl hdX8_bits ⟨Nat.le_of_ble_eq_true rfl, Nat.le_of_ble_eq_true rfl⟩) [] [0, 1, 2, 3, 4, 5, 6, 7, 8, 9, 10, 11, 12, 13, 14, 15, 16, 17, 18, 19] [0, 1, 2, 3, 4, 5, 6, 7, 8, 9, 10, 11, 12, 13, 14, 15, 16, 17, 18, 19] rfl rfl rfl rfl (by decide) rfl rfl rfl rfl (Nat.le_of_ble_eq_true rfl) dX8_seeds_73 ⟨Nat.zero_le _, Nat.zero_le _⟩ (fun H locs hh => ?_)
          refine lv_goto (tgt := 83) hx hb dX8_seeds_76 (by decide) ?_
          exact hJ83 u6 S H locs ls hf (lv_sub hl [0] rfl) hh
      · replace hf := (if_neg c2).symm.trans hf
        refine lv_aload_n hx hb dX8_seeds_55 rfl (lv_at hl 0 rfl) ?_
        obtain ⟨u7, hu7, hf⟩ := ob_bind hf
        refine zcallV (ci := 7) (q0 := 0) (As := []) (rest := []) (wr := []) (ws' := cMd K a0 a1 a2 a3 a4 a5 a6 a7 a8 a9 a10 a11 a12 a13 a14 a15 a16 a17 a18 a19 u7) (ov := none) X hh hl (kX8_buildsByLot l K a0 a1 a2 a3 a4 a5 a6 a7 a8 a9 a10 a11 a12 a13 a14 a15 a16 a17 a18 a19 S u7 hu7) (fun ht => cwV 0 ht gX8_seeds_X8_buildsByLot rfl rfl rfl ⟨rfl, hdX8_buildsByLot⟩ ⟨Nat.le_of_ble_eq_true rfl, Nat.le_of_ble_eq_true rfl⟩) [0, 1, 2, 3, 4, 5, 6, 7, 8, 9, 10, 11, 12, 13, 14, 15, 16, 17, 18, 19] [] [0, 1, 2, 3, 4, 5, 6, 7, 8, 9, 10, 11, 12, 13, 14, 15, 16, 17, 18, 19] rfl rfl rfl rfl (by decide) rfl rfl rfl rfl rfl rfl (Nat.le_of_ble_eq_true rfl) dX8_seeds_56 ⟨Nat.zero_le _, Nat.zero_le _⟩ (fun H locs hh => ?_)
        refine lv_iinc (v := (v5 + (1 : Int32))) (lv' := [(5, .int (v5 + (1 : Int32))), (0, .ref a0), (1, .int v1), (3, .int v3)]) hx hb dX8_seeds_59 hl (k := 3) rfl rfl (by decide) rfl (fun ls hl => ?_)
        refine lv_goto (tgt := 49) hx hb dX8_seeds_62 (by decide) ?_
        exact ih (v5 + (1 : Int32)) u7 H locs ls hf (lv_sub hl [1, 2, 3, 0] rfl) hh
  have hJ21 : ∀ (v1 : Int32) (v2 : Int32) (v3 : Int32) (t0 : Int32) (S : zMd), ∀ (H : Heap) (locs : List Loc) (ls : Array Slot), fX8_seeds_j21 v1 v2 v3 t0 S = some R → lv_has ls 6 [(0, .ref a0), (1, .int v1), (2, .int v2), (3, .int v3)] → zW K A s H locs (cMd K a0 a1 a2 a3 a4 a5 a6 a7 a8 a9 a10 a11 a12 a13 a14 a15 a16 a17 a18 a19 S) → W p l e ({ frames := 5, cells := 0, slots := 0, locals := 111 } : Room) s m ([.ref a0, .int p1, .int p2, .int p3] : List Value).toArray below meth c H locs 0 0 Q (F0 m 21 ls [.int t0]) := by
    intro v1 v2 v3 t0 S H locs ls hf hl hh
    unfold fX8_seeds_j21 at hf
    refine lv_istore (lv' := [(4, .int t0), (0, .ref a0), (1, .int v1), (2, .int v2), (3, .int v3)]) hx hb dX8_seeds_21 hl (by decide) rfl (fun ls hl => ?_)
    refine lv_iload hx hb dX8_seeds_23 (lv_at hl 0 rfl) ?_
    refine lv_if_eq (tgt := 35) hx hb dX8_seeds_25 (by decide) (fun c8 => ?_) (fun c8 => ?_)
    · replace hf := (if_pos c8).symm.trans hf
      refine lv_aload_n hx hb dX8_seeds_35 rfl (lv_at hl 1 rfl) ?_
      refine lv_iconst (v := (2 : Int32)) hx hb dX8_seeds_36 (by decide) ?_
      refine lv_iconst (v := (1 : Int32)) hx hb dX8_seeds_37 (by decide) ?_
      obtain ⟨u9, hu9, hf⟩ := ob_bind hf
      refine zcallV (ci := 7) (q0 := 0) (As := [.int (2 : Int32), .int (1 : Int32)]) (rest := []) (wr := []) (ws' := cMd K a0 a1 a2 a3 a4 a5 a6 a7 a8 a9 a10 a11 a12 a13 a14 a15 a16 a17 a18 a19 u9) (ov := none) X hh hl (kX8_passesAll l K a0 a1 a2 a3 a4 a5 a6 a7 a8 a9 a10 a11 a12 a13 a14 a15 a16 a17 a18 a19 S (2 : Int32) (1 : Int32) u9 hu9) (fun ht => cwV 2 ht gX8_seeds_X8_passesAll rfl rfl rfl ⟨rfl, hdX8_passesAll⟩ ⟨Nat.le_of_ble_eq_true rfl, Nat.le_of_ble_eq_true rfl⟩) [0, 1, 2, 3, 4, 5, 6, 7, 8, 9, 10, 11, 12, 13, 14, 15, 16, 17, 18, 19] [] [0, 1, 2, 3, 4, 5, 6, 7, 8, 9, 10, 11, 12, 13, 14, 15, 16, 17, 18, 19] rfl rfl rfl rfl (by decide) rfl rfl rfl rfl rfl rfl (Nat.le_of_ble_eq_true rfl) dX8_seeds_38 ⟨Nat.zero_le _, Nat.zero_le _⟩ (fun H locs hh => ?_)
      refine lv_aload_n hx hb dX8_seeds_41 rfl (lv_at hl 1 rfl) ?_
      refine lv_iload_n hx hb dX8_seeds_42 rfl (lv_at hl 3 rfl) ?_
      refine zput (v := .int v2) (ty := .int) (ref := "SumOfTwoThatStandModel") (C := RX8) (T := TX8) (N := 33) (index := 274) X hh inX8_seeds_X8 tyX8 tyX8_ok nmX8 0 rfl rfl 32 (by decide) mmX8_seeds_0 rfl rfl (by decide +kernel) rfl rfl (Nat.le_of_ble_eq_true rfl) dX8_seeds_43 (fun H locs hh => ?_)
      have hh : zW K A s H locs (cMd K a0 a1 a2 a3 a4 a5 a6 a7 a8 a9 a10 a11 a12 a13 a14 a15 a16 a17 a18 a19 (md_set_lots u9 v2)) := hh
      refine lv_iconst (v := (0 : Int32)) hx hb dX8_seeds_46 (by decide) ?_
      refine lv_istore (lv' := [(5, .int (0 : Int32)), (4, .int t0), (0, .ref a0), (1, .int v1), (2, .int v2), (3, .int v3)]) hx hb dX8_seeds_47 hl (by decide) rfl (fun ls hl => ?_)
      exact hL49 v1 v3 FU (0 : Int32) (md_set_lots u9 v2) H locs ls hf (lv_sub hl [2, 3, 5, 0] rfl) hh
    · replace hf := (if_neg c8).symm.trans hf
      refine lv_aload_n hx hb dX8_seeds_28 rfl (lv_at hl 1 rfl) ?_
      refine lv_iload hx hb dX8_seeds_29 (lv_at hl 0 rfl) ?_
      obtain ⟨u10, hu10, hf⟩ := ob_bind hf
      refine zcallV (ci := 7) (q0 := 0) (As := [.int t0]) (rest := []) (wr := []) (ws' := cMd K a0 a1 a2 a3 a4 a5 a6 a7 a8 a9 a10 a11 a12 a13 a14 a15 a16 a17 a18 a19 u10.2) (ov := some (.int u10.1)) X hh hl (kX8_no l K a0 a1 a2 a3 a4 a5 a6 a7 a8 a9 a10 a11 a12 a13 a14 a15 a16 a17 a18 a19 S t0 u10 hu10) (fun ht => cwV 1 ht gX8_seeds_X8_no rfl rfl rfl ⟨rfl, hdX8_no⟩ ⟨Nat.le_of_ble_eq_true rfl, Nat.le_of_ble_eq_true rfl⟩) [0, 1, 2, 3, 4, 5, 6, 7, 8, 9, 10, 11, 12, 13, 14, 15, 16, 17, 18, 19] [] [0, 1, 2, 3, 4, 5, 6, 7, 8, 9, 10, 11, 12, 13, 14, 15, 16, 17, 18, 19] rfl rfl rfl rfl (by decide) rfl rfl rfl rfl rfl rfl (Nat.le_of_ble_eq_true rfl) dX8_seeds_31 ⟨Nat.zero_le _, Nat.zero_le _⟩ (fun H locs hh => ?_)
      exact hr2 34 ls H locs u10.1 u10.2 hf dX8_seeds_34 hh
  unfold fX8_seeds at hf
  refine (fun (hmain : ∀ (H : Heap) (locs : List Loc), zW K A s H locs (cMd K a0 a1 a2 a3 a4 a5 a6 a7 a8 a9 a10 a11 a12 a13 a14 a15 a16 a17 a18 a19 S) → W p l e ({ frames := 5, cells := 0, slots := 0, locals := 111 } : Room) s m ([.ref a0, .int p1, .int p2, .int p3] : List Value).toArray below meth c H locs 0 0 Q (F0 m 0 ls [])) => hmain s.heap [] hh) (fun H locs hh => ?_)
  refine lv_iload_n hx hb dX8_seeds_0 rfl (lv_at hl 3 rfl) ?_
  refine lv_iconst (v := (0 : Int32)) hx hb dX8_seeds_1 (by decide) ?_
  refine lv_iconst (v := (1 : Int32)) hx hb dX8_seeds_2 (by decide) ?_
  refine zcallS (As := [.int p3, .int (0 : Int32), .int (1 : Int32)]) (rest := []) (wr := cMd K a0 a1 a2 a3 a4 a5 a6 a7 a8 a9 a10 a11 a12 a13 a14 a15 a16 a17 a18 a19 S) (ws' := cMd K a0 a1 a2 a3 a4 a5 a6 a7 a8 a9 a10 a11 a12 a13 a14 a15 a16 a17 a18 a19 S) (ov := some (.int (fX8_isIn p3 (0 : Int32) (1 : Int32)))) X hh hl (kX8_isIn l K p3 (0 : Int32) (1 : Int32) (fX8_isIn p3 (0 : Int32) (1 : Int32)) rfl) (fun ht => va_cwS 3 ht gX8_seeds_X8_isIn rfl rfl rfl hdX8_isIn ⟨Nat.le_of_ble_eq_true rfl, Nat.le_of_ble_eq_true rfl⟩) [] [0, 1, 2, 3, 4, 5, 6, 7, 8, 9, 10, 11, 12, 13, 14, 15, 16, 17, 18, 19] [0, 1, 2, 3, 4, 5, 6, 7, 8, 9, 10, 11, 12, 13, 14, 15, 16, 17, 18, 19] rfl rfl rfl rfl (by decide) rfl rfl rfl rfl (Nat.le_of_ble_eq_true rfl) dX8_seeds_3 ⟨Nat.zero_le _, Nat.zero_le _⟩ (fun H locs hh => ?_)
  refine lv_if_ne (tgt := 14) hx hb dX8_seeds_6 (by decide) (fun c12 => ?_) (fun c12 => ?_)
  · replace hf := (if_neg c12).symm.trans hf
    refine lv_iload_n hx hb dX8_seeds_14 rfl (lv_at hl 1 rfl) ?_
    refine lv_iconst (v := (1 : Int32)) hx hb dX8_seeds_15 (by decide) ?_
    refine lv_bipush (v := (40 : Int32)) hx hb dX8_seeds_16 (by decide) ?_
    refine zcallS (As := [.int p1, .int (1 : Int32), .int (40 : Int32)]) (rest := []) (wr := cMd K a0 a1 a2 a3 a4 a5 a6 a7 a8 a9 a10 a11 a12 a13 a14 a15 a16 a17 a18 a19 S) (ws' := cMd K a0 a1 a2 a3 a4 a5 a6 a7 a8 a9 a10 a11 a12 a13 a14 a15 a16 a17 a18 a19 S) (ov := some (.int (fX8_bound p1 (1 : Int32) (40 : Int32)))) X hh hl (kX8_bound l K p1 (1 : Int32) (40 : Int32) (fX8_bound p1 (1 : Int32) (40 : Int32)) rfl) (fun ht => va_cwS 3 ht gX8_seeds_X8_bound rfl rfl rfl hdX8_bound ⟨Nat.le_of_ble_eq_true rfl, Nat.le_of_ble_eq_true rfl⟩) [] [0, 1, 2, 3, 4, 5, 6, 7, 8, 9, 10, 11, 12, 13, 14, 15, 16, 17, 18, 19] [0, 1, 2, 3, 4, 5, 6, 7, 8, 9, 10, 11, 12, 13, 14, 15, 16, 17, 18, 19] rfl rfl rfl rfl (by decide) rfl rfl rfl rfl (Nat.le_of_ble_eq_true rfl) dX8_seeds_18 ⟨Nat.zero_le _, Nat.zero_le _⟩ (fun H locs hh => ?_)
    exact hJ21 p1 p2 p3 (fX8_bound p1 (1 : Int32) (40 : Int32)) S H locs ls hf (lv_sub hl [0, 1, 2, 3] rfl) hh
  · replace hf := (if_pos c12).symm.trans hf
    refine lv_bipush (v := (-2 : Int32)) hx hb dX8_seeds_9 (by decide) ?_
    refine lv_goto (tgt := 21) hx hb dX8_seeds_11 (by decide) ?_
    exact hJ21 p1 p2 p3 (-2 : Int32) S H locs ls hf (lv_sub hl [0, 1, 2, 3] rfl) hh
def fX8_allEarned_l4 (S : zMd) : Nat → (Int32) → (Int32) → Option (Int32)
  | 0, _, _ => none
  | n + 1, v1, v2 =>
  if (md_houses S) ≤ v2 then
  (some v1)
  else
  (ix 12 v2 (fX8_allEarned_l4 S n (v1 + ((md_earned S) v2.toNatClampNeg)) (v2 + (1 : Int32))))
def fX8_allEarned (S : zMd) : Option (Int32) :=
  fX8_allEarned_l4 S FU (0 : Int32) (0 : Int32)
theorem inX8_allEarned_X8 : ∀ w ∈ wsX80, w ∈ wsX8_allEarned := by decide +kernel
theorem mmX8_allEarned_0 : Cond.fieldLink RX8 70 "SumOfTwoThatStandModel" "houses" "I" ∈ wsX8_allEarned := by decide +kernel
theorem mmX8_allEarned_1 : Cond.fieldLink RX8 34 "SumOfTwoThatStandModel" "earned" "[I" ∈ wsX8_allEarned := by decide +kernel
theorem hdX8_allEarned : yX8_allEarned.cls ≠ "java/lang/invoke/MethodHandle" ∧ yX8_allEarned.cls ≠ "java/lang/invoke/VarHandle" ∧ (parseMethodDescriptor yX8_allEarned.desc).map (fun d => d.parameters.length) = some 0 := by decide +kernel
set_option maxHeartbeats 4000000 in
set_option maxRecDepth 100000 in
theorem kX8_allEarned (l : Launch) (K : zK) (a0 a1 a2 a3 a4 a5 a6 a7 a8 a9 a10 a11 a12 a13 a14 a15 a16 a17 a18 a19 : Nat) (S : zMd) (R : Int32) (hf : fX8_allEarned S = some R) : zC l yX8_allEarned wsX8_allEarned ({ frames := 0, cells := 0, slots := 0, locals := 0 } : Room) K [.ref a0] (cMd K a0 a1 a2 a3 a4 a5 a6 a7 a8 a9 a10 a11 a12 a13 a14 a15 a16 a17 a18 a19 S) (some (.int R)) (cMd K a0 a1 a2 a3 a4 a5 a6 a7 a8 a9 a10 a11 a12 a13 a14 a15 a16 a17 a18 a19 S) := by
  refine zC_i R (cc := cX8_allEarned) (maxL := 3) (by decide +kernel) rfl (Nat.le_of_ble_eq_true rfl) rfl rfl ?_
  intro p e s m below meth c Q A X hret ls hl hh
  have X : zX p m c cX8_allEarned 3 s ([.ref a0] : List Value).toArray wsX8_allEarned RX8 K A := X
  have hx := X.1.1
  have hb := X.1.2.1
  have hr2 : ∀ (pc : Nat) (ls : Array Slot) (H : Heap) (locs : List Loc) (v : Int32), some v = some R → decode cX8_allEarned pc = .ok (.ireturn, 1) → zW K A s H locs (cMd K a0 a1 a2 a3 a4 a5 a6 a7 a8 a9 a10 a11 a12 a13 a14 a15 a16 a17 a18 a19 S) → W p l e ({ frames := 0, cells := 0, slots := 0, locals := 0 } : Room) s m ([.ref a0] : List Value).toArray below meth c H locs 0 0 Q (F0 m pc ls [.int v]) := by
    intro pc ls H locs v h hd hh
    cases h; exact hret pc ls H locs _ rfl hd hh
  have hl : lv_has ls 3 [(0, .ref a0)] := hl
  have hL4 : ∀ (n : Nat) (v1 : Int32) (v2 : Int32), ∀ (H : Heap) (locs : List Loc) (ls : Array Slot), fX8_allEarned_l4 S n v1 v2 = some R → lv_has ls 3 [(0, .ref a0), (1, .int v1), (2, .int v2)] → zW K A s H locs (cMd K a0 a1 a2 a3 a4 a5 a6 a7 a8 a9 a10 a11 a12 a13 a14 a15 a16 a17 a18 a19 S) → W p l e ({ frames := 0, cells := 0, slots := 0, locals := 0 } : Room) s m ([.ref a0] : List Value).toArray below meth c H locs 0 0 Q (F0 m 4 ls []) := by
    intro n
    induction n with
    | zero =>
      intro v1 v2 H locs ls hf hl hh
      rw [fX8_allEarned_l4] at hf; cases hf
    | succ n ih =>
      intro v1 v2 H locs ls hf hl hh
      rw [fX8_allEarned_l4] at hf
      refine lv_iload_n hx hb dX8_allEarned_4 rfl (lv_at hl 2 rfl) ?_
      refine lv_aload_n hx hb dX8_allEarned_5 rfl (lv_at hl 0 rfl) ?_
      refine zget (v := .int (md_houses S)) (ref := "SumOfTwoThatStandModel") (C := RX8) (T := TX8) (N := 33) (index := 70) X hh inX8_allEarned_X8 0 rfl rfl 9 (by decide) mmX8_allEarned_0 rfl rfl dX8_allEarned_6 ?_
      refine lv_icmp_ge (tgt := 27) hx hb dX8_allEarned_9 (by decide) (fun c1 => ?_) (fun c1 => ?_)
      · replace hf := (if_pos c1).symm.trans hf
        refine lv_iload_n hx hb dX8_allEarned_27 rfl (lv_at hl 1 rfl) ?_
        exact hr2 28 ls H locs v1 hf dX8_allEarned_28 hh
      · replace hf := (if_neg c1).symm.trans hf
        refine lv_iload_n hx hb dX8_allEarned_12 rfl (lv_at hl 1 rfl) ?_
        refine lv_aload_n hx hb dX8_allEarned_13 rfl (lv_at hl 0 rfl) ?_
        refine zget (v := .ref a9) (ref := "SumOfTwoThatStandModel") (C := RX8) (T := TX8) (N := 33) (index := 34) X hh inX8_allEarned_X8 0 rfl rfl 8 (by decide) mmX8_allEarned_1 rfl rfl dX8_allEarned_14 ?_
        refine lv_iload_n hx hb dX8_allEarned_17 rfl (lv_at hl 2 rfl) ?_
        obtain ⟨g2, hf⟩ := ob_ix hf
        refine ziald (f := (md_earned S)) X hh 9 rfl g2 dX8_allEarned_18 ?_
        refine lv_iadd hx hb dX8_allEarned_19 ?_
        refine lv_istore_n (lv' := [(1, .int (v1 + ((md_earned S) v2.toNatClampNeg))), (0, .ref a0), (2, .int v2)]) hx hb dX8_allEarned_20 rfl hl (by decide) rfl (fun ls hl => ?_)
        refine lv_iinc (v := (v2 + (1 : Int32))) (lv' := [(2, .int (v2 + (1 : Int32))), (1, .int (v1 + ((md_earned S) v2.toNatClampNeg))), (0, .ref a0)]) hx hb dX8_allEarned_21 hl (k := 2) rfl rfl (by decide) rfl (fun ls hl => ?_)
        refine lv_goto (tgt := 4) hx hb dX8_allEarned_24 (by decide) ?_
        exact ih (v1 + ((md_earned S) v2.toNatClampNeg)) (v2 + (1 : Int32)) H locs ls hf (lv_sub hl [2, 1, 0] rfl) hh
  unfold fX8_allEarned at hf
  refine (fun (hmain : ∀ (H : Heap) (locs : List Loc), zW K A s H locs (cMd K a0 a1 a2 a3 a4 a5 a6 a7 a8 a9 a10 a11 a12 a13 a14 a15 a16 a17 a18 a19 S) → W p l e ({ frames := 0, cells := 0, slots := 0, locals := 0 } : Room) s m ([.ref a0] : List Value).toArray below meth c H locs 0 0 Q (F0 m 0 ls [])) => hmain s.heap [] hh) (fun H locs hh => ?_)
  refine lv_iconst (v := (0 : Int32)) hx hb dX8_allEarned_0 (by decide) ?_
  refine lv_istore_n (lv' := [(1, .int (0 : Int32)), (0, .ref a0)]) hx hb dX8_allEarned_1 rfl hl (by decide) rfl (fun ls hl => ?_)
  refine lv_iconst (v := (0 : Int32)) hx hb dX8_allEarned_2 (by decide) ?_
  refine lv_istore_n (lv' := [(2, .int (0 : Int32)), (1, .int (0 : Int32)), (0, .ref a0)]) hx hb dX8_allEarned_3 rfl hl (by decide) rfl (fun ls hl => ?_)
  exact hL4 FU (0 : Int32) (0 : Int32) H locs ls hf (lv_sub hl [2, 1, 0] rfl) hh
def fX8_count (S : zMd) (p1 : Int32) : Option (Int32) :=
  if (fX8_isIn p1 (11 : Int32) (16 : Int32)) = (0 : Int32) then
  (if p1 = (0 : Int32) then
  (some (md_houses S))
  else
  (if p1 = (1 : Int32) then
  ((fX8_standing S).bind fun u4 =>
  (fX8_bits u4).bind fun u5 =>
  some u5)
  else
  (if p1 = (2 : Int32) then
  ((fX8_greatest S).bind fun u6 =>
  some u6)
  else
  (if p1 = (3 : Int32) then
  (some (md_sums S))
  else
  (if p1 = (4 : Int32) then
  (some (md_falls S))
  else
  (if p1 = (5 : Int32) then
  ((fX8_allEarned S).bind fun u7 =>
  some u7)
  else
  (if p1 = (6 : Int32) then
  (some (md_taped S))
  else
  (if p1 = (7 : Int32) then
  (some (md_rowMany S))
  else
  (some (-9 : Int32))))))))))
  else
  (ix 7 (p1 - (10 : Int32)) (some ((md_refused S) (p1 - (10 : Int32)).toNatClampNeg)))
theorem inX8_count_X8 : ∀ w ∈ wsX80, w ∈ wsX8_count := by decide +kernel
theorem mmX8_count_0 : Cond.fieldLink RX8 70 "SumOfTwoThatStandModel" "houses" "I" ∈ wsX8_count := by decide +kernel
theorem mmX8_count_1 : Cond.fieldLink RX8 86 "SumOfTwoThatStandModel" "sums" "I" ∈ wsX8_count := by decide +kernel
theorem mmX8_count_2 : Cond.fieldLink RX8 111 "SumOfTwoThatStandModel" "falls" "I" ∈ wsX8_count := by decide +kernel
theorem mmX8_count_3 : Cond.fieldLink RX8 124 "SumOfTwoThatStandModel" "taped" "I" ∈ wsX8_count := by decide +kernel
theorem mmX8_count_4 : Cond.fieldLink RX8 268 "SumOfTwoThatStandModel" "rowMany" "I" ∈ wsX8_count := by decide +kernel
theorem mmX8_count_5 : Cond.fieldLink RX8 7 "SumOfTwoThatStandModel" "refused" "[I" ∈ wsX8_count := by decide +kernel
theorem hdX8_count : yX8_count.cls ≠ "java/lang/invoke/MethodHandle" ∧ yX8_count.cls ≠ "java/lang/invoke/VarHandle" ∧ (parseMethodDescriptor yX8_count.desc).map (fun d => d.parameters.length) = some 1 := by decide +kernel
set_option maxHeartbeats 4000000 in
set_option maxRecDepth 100000 in
theorem kX8_count (l : Launch) (K : zK) (a0 a1 a2 a3 a4 a5 a6 a7 a8 a9 a10 a11 a12 a13 a14 a15 a16 a17 a18 a19 : Nat) (S : zMd) (p1 : Int32) (R : Int32) (hf : fX8_count S p1 = some R) : zC l yX8_count wsX8_count ({ frames := 1, cells := 0, slots := 0, locals := 22 } : Room) K [.ref a0, .int p1] (cMd K a0 a1 a2 a3 a4 a5 a6 a7 a8 a9 a10 a11 a12 a13 a14 a15 a16 a17 a18 a19 S) (some (.int R)) (cMd K a0 a1 a2 a3 a4 a5 a6 a7 a8 a9 a10 a11 a12 a13 a14 a15 a16 a17 a18 a19 S) := by
  refine zC_i R (cc := cX8_count) (maxL := 2) (by decide +kernel) rfl (Nat.le_of_ble_eq_true rfl) rfl rfl ?_
  intro p e s m below meth c Q A X hret ls hl hh
  have X : zX p m c cX8_count 2 s ([.ref a0, .int p1] : List Value).toArray wsX8_count RX8 K A := X
  have hx := X.1.1
  have hb := X.1.2.1
  have hr2 : ∀ (pc : Nat) (ls : Array Slot) (H : Heap) (locs : List Loc) (v : Int32), some v = some R → decode cX8_count pc = .ok (.ireturn, 1) → zW K A s H locs (cMd K a0 a1 a2 a3 a4 a5 a6 a7 a8 a9 a10 a11 a12 a13 a14 a15 a16 a17 a18 a19 S) → W p l e ({ frames := 1, cells := 0, slots := 0, locals := 22 } : Room) s m ([.ref a0, .int p1] : List Value).toArray below meth c H locs 0 0 Q (F0 m pc ls [.int v]) := by
    intro pc ls H locs v h hd hh
    cases h; exact hret pc ls H locs _ rfl hd hh
  have hl : lv_has ls 2 [(0, .ref a0), (1, .int p1)] := hl
  unfold fX8_count at hf
  refine (fun (hmain : ∀ (H : Heap) (locs : List Loc), zW K A s H locs (cMd K a0 a1 a2 a3 a4 a5 a6 a7 a8 a9 a10 a11 a12 a13 a14 a15 a16 a17 a18 a19 S) → W p l e ({ frames := 1, cells := 0, slots := 0, locals := 22 } : Room) s m ([.ref a0, .int p1] : List Value).toArray below meth c H locs 0 0 Q (F0 m 0 ls [])) => hmain s.heap [] hh) (fun H locs hh => ?_)
  refine lv_iload_n hx hb dX8_count_0 rfl (lv_at hl 1 rfl) ?_
  refine lv_bipush (v := (11 : Int32)) hx hb dX8_count_1 (by decide) ?_
  refine lv_bipush (v := (16 : Int32)) hx hb dX8_count_3 (by decide) ?_
  refine zcallS (As := [.int p1, .int (11 : Int32), .int (16 : Int32)]) (rest := []) (wr := cMd K a0 a1 a2 a3 a4 a5 a6 a7 a8 a9 a10 a11 a12 a13 a14 a15 a16 a17 a18 a19 S) (ws' := cMd K a0 a1 a2 a3 a4 a5 a6 a7 a8 a9 a10 a11 a12 a13 a14 a15 a16 a17 a18 a19 S) (ov := some (.int (fX8_isIn p1 (11 : Int32) (16 : Int32)))) X hh hl (kX8_isIn l K p1 (11 : Int32) (16 : Int32) (fX8_isIn p1 (11 : Int32) (16 : Int32)) rfl) (fun ht => va_cwS 3 ht gX8_count_X8_isIn rfl rfl rfl hdX8_isIn ⟨Nat.le_of_ble_eq_true rfl, Nat.le_of_ble_eq_true rfl⟩) [] [0, 1, 2, 3, 4, 5, 6, 7, 8, 9, 10, 11, 12, 13, 14, 15, 16, 17, 18, 19] [0, 1, 2, 3, 4, 5, 6, 7, 8, 9, 10, 11, 12, 13, 14, 15, 16, 17, 18, 19] rfl rfl rfl rfl (by decide) rfl rfl rfl rfl (Nat.le_of_ble_eq_true rfl) dX8_count_5 ⟨Nat.zero_le _, Nat.zero_le _⟩ (fun H locs hh => ?_)
  refine lv_if_eq (tgt := 21) hx hb dX8_count_8 (by decide) (fun c2 => ?_) (fun c2 => ?_)
  · replace hf := (if_pos c2).symm.trans hf
    refine lv_iload_n hx hb dX8_count_21 rfl (lv_at hl 1 rfl) ?_
    by_cases c3_0 : p1 = (0 : Int32)
    · replace hf := (if_pos c3_0).symm.trans hf
      refine lv_tableIn (off := 46) (tgt := 68) hx hb dX8_count_22 (by rw [c3_0]; decide) (by rw [c3_0]; decide) (by rw [c3_0]; decide) (by decide) ?_
      refine lv_aload_n hx hb dX8_count_68 rfl (lv_at hl 0 rfl) ?_
      refine zget (v := .int (md_houses S)) (ref := "SumOfTwoThatStandModel") (C := RX8) (T := TX8) (N := 33) (index := 70) X hh inX8_count_X8 0 rfl rfl 9 (by decide) mmX8_count_0 rfl rfl dX8_count_69 ?_
      exact hr2 72 ls H locs (md_houses S) hf dX8_count_72 hh
    replace hf := (if_neg c3_0).symm.trans hf
    by_cases c3_1 : p1 = (1 : Int32)
    · replace hf := (if_pos c3_1).symm.trans hf
      refine lv_tableIn (off := 51) (tgt := 73) hx hb dX8_count_22 (by rw [c3_1]; decide) (by rw [c3_1]; decide) (by rw [c3_1]; decide) (by decide) ?_
      refine lv_aload_n hx hb dX8_count_73 rfl (lv_at hl 0 rfl) ?_
      obtain ⟨u4, hu4, hf⟩ := ob_bind hf
      refine zcallV (ci := 7) (q0 := 0) (As := []) (rest := []) (wr := []) (ws' := cMd K a0 a1 a2 a3 a4 a5 a6 a7 a8 a9 a10 a11 a12 a13 a14 a15 a16 a17 a18 a19 S) (ov := some (.int u4)) X hh hl (kX8_standing l K a0 a1 a2 a3 a4 a5 a6 a7 a8 a9 a10 a11 a12 a13 a14 a15 a16 a17 a18 a19 S u4 hu4) (fun ht => cwV 0 ht gX8_count_X8_standing rfl rfl rfl ⟨rfl, hdX8_standing⟩ ⟨Nat.le_of_ble_eq_true rfl, Nat.le_of_ble_eq_true rfl⟩) [0, 1, 2, 3, 4, 5, 6, 7, 8, 9, 10, 11, 12, 13, 14, 15, 16, 17, 18, 19] [] [0, 1, 2, 3, 4, 5, 6, 7, 8, 9, 10, 11, 12, 13, 14, 15, 16, 17, 18, 19] rfl rfl rfl rfl (by decide) rfl rfl rfl rfl rfl rfl (Nat.le_of_ble_eq_true rfl) dX8_count_74 ⟨Nat.zero_le _, Nat.zero_le _⟩ (fun H locs hh => ?_)
      obtain ⟨u5, hu5, hf⟩ := ob_bind hf
      refine zcallS (As := [.int u4]) (rest := []) (wr := cMd K a0 a1 a2 a3 a4 a5 a6 a7 a8 a9 a10 a11 a12 a13 a14 a15 a16 a17 a18 a19 S) (ws' := cMd K a0 a1 a2 a3 a4 a5 a6 a7 a8 a9 a10 a11 a12 a13 a14 a15 a16 a17 a18 a19 S) (ov := some (.int u5)) X hh hl (kX8_bits l K u4 u5 hu5) (fun ht => va_cwS 1 ht gX8_count_X8_bits rfl rfl rfl hdX8_bits ⟨Nat.le_of_ble_eq_true rfl, Nat.le_of_ble_eq_true rfl⟩) [] [0, 1, 2, 3, 4, 5, 6, 7, 8, 9, 10, 11, 12, 13, 14, 15, 16, 17, 18, 19] [0, 1, 2, 3, 4, 5, 6, 7, 8, 9, 10, 11, 12, 13, 14, 15, 16, 17, 18, 19] rfl rfl rfl rfl (by decide) rfl rfl rfl rfl (Nat.le_of_ble_eq_true rfl) dX8_count_77 ⟨Nat.zero_le _, Nat.zero_le _⟩ (fun H locs hh => ?_)
      exact hr2 80 ls H locs u5 hf dX8_count_80 hh
    replace hf := (if_neg c3_1).symm.trans hf
    by_cases c3_2 : p1 = (2 : Int32)
    · replace hf := (if_pos c3_2).symm.trans hf
      refine lv_tableIn (off := 59) (tgt := 81) hx hb dX8_count_22 (by rw [c3_2]; decide) (by rw [c3_2]; decide) (by rw [c3_2]; decide) (by decide) ?_
      refine lv_aload_n hx hb dX8_count_81 rfl (lv_at hl 0 rfl) ?_
      obtain ⟨u6, hu6, hf⟩ := ob_bind hf
      refine zcallV (ci := 7) (q0 := 0) (As := []) (rest := []) (wr := []) (ws' := cMd K a0 a1 a2 a3 a4 a5 a6 a7 a8 a9 a10 a11 a12 a13 a14 a15 a16 a17 a18 a19 S) (ov := some (.int u6)) X hh hl (kX8_greatest l K a0 a1 a2 a3 a4 a5 a6 a7 a8 a9 a10 a11 a12 a13 a14 a15 a16 a17 a18 a19 S u6 hu6) (fun ht => cwV 0 ht gX8_count_X8_greatest rfl rfl rfl ⟨rfl, hdX8_greatest⟩ ⟨Nat.le_of_ble_eq_true rfl, Nat.le_of_ble_eq_true rfl⟩) [0, 1, 2, 3, 4, 5, 6, 7, 8, 9, 10, 11, 12, 13, 14, 15, 16, 17, 18, 19] [] [0, 1, 2, 3, 4, 5, 6, 7, 8, 9, 10, 11, 12, 13, 14, 15, 16, 17, 18, 19] rfl rfl rfl rfl (by decide) rfl rfl rfl rfl rfl rfl (Nat.le_of_ble_eq_true rfl) dX8_count_82 ⟨Nat.zero_le _, Nat.zero_le _⟩ (fun H locs hh => ?_)
      exact hr2 85 ls H locs u6 hf dX8_count_85 hh
    replace hf := (if_neg c3_2).symm.trans hf
    by_cases c3_3 : p1 = (3 : Int32)
    · replace hf := (if_pos c3_3).symm.trans hf
      refine lv_tableIn (off := 64) (tgt := 86) hx hb dX8_count_22 (by rw [c3_3]; decide) (by rw [c3_3]; decide) (by rw [c3_3]; decide) (by decide) ?_
      refine lv_aload_n hx hb dX8_count_86 rfl (lv_at hl 0 rfl) ?_
      refine zget (v := .int (md_sums S)) (ref := "SumOfTwoThatStandModel") (C := RX8) (T := TX8) (N := 33) (index := 86) X hh inX8_count_X8 0 rfl rfl 10 (by decide) mmX8_count_1 rfl rfl dX8_count_87 ?_
      exact hr2 90 ls H locs (md_sums S) hf dX8_count_90 hh
    replace hf := (if_neg c3_3).symm.trans hf
    by_cases c3_4 : p1 = (4 : Int32)
    · replace hf := (if_pos c3_4).symm.trans hf
      refine lv_tableIn (off := 69) (tgt := 91) hx hb dX8_count_22 (by rw [c3_4]; decide) (by rw [c3_4]; decide) (by rw [c3_4]; decide) (by decide) ?_
      refine lv_aload_n hx hb dX8_count_91 rfl (lv_at hl 0 rfl) ?_
      refine zget (v := .int (md_falls S)) (ref := "SumOfTwoThatStandModel") (C := RX8) (T := TX8) (N := 33) (index := 111) X hh inX8_count_X8 0 rfl rfl 11 (by decide) mmX8_count_2 rfl rfl dX8_count_92 ?_
      exact hr2 95 ls H locs (md_falls S) hf dX8_count_95 hh
    replace hf := (if_neg c3_4).symm.trans hf
    by_cases c3_5 : p1 = (5 : Int32)
    · replace hf := (if_pos c3_5).symm.trans hf
      refine lv_tableIn (off := 74) (tgt := 96) hx hb dX8_count_22 (by rw [c3_5]; decide) (by rw [c3_5]; decide) (by rw [c3_5]; decide) (by decide) ?_
      refine lv_aload_n hx hb dX8_count_96 rfl (lv_at hl 0 rfl) ?_
      obtain ⟨u7, hu7, hf⟩ := ob_bind hf
      refine zcallV (ci := 7) (q0 := 0) (As := []) (rest := []) (wr := []) (ws' := cMd K a0 a1 a2 a3 a4 a5 a6 a7 a8 a9 a10 a11 a12 a13 a14 a15 a16 a17 a18 a19 S) (ov := some (.int u7)) X hh hl (kX8_allEarned l K a0 a1 a2 a3 a4 a5 a6 a7 a8 a9 a10 a11 a12 a13 a14 a15 a16 a17 a18 a19 S u7 hu7) (fun ht => cwV 0 ht gX8_count_X8_allEarned rfl rfl rfl ⟨rfl, hdX8_allEarned⟩ ⟨Nat.le_of_ble_eq_true rfl, Nat.le_of_ble_eq_true rfl⟩) [0, 1, 2, 3, 4, 5, 6, 7, 8, 9, 10, 11, 12, 13, 14, 15, 16, 17, 18, 19] [] [0, 1, 2, 3, 4, 5, 6, 7, 8, 9, 10, 11, 12, 13, 14, 15, 16, 17, 18, 19] rfl rfl rfl rfl (by decide) rfl rfl rfl rfl rfl rfl (Nat.le_of_ble_eq_true rfl) dX8_count_97 ⟨Nat.zero_le _, Nat.zero_le _⟩ (fun H locs hh => ?_)
      exact hr2 100 ls H locs u7 hf dX8_count_100 hh
    replace hf := (if_neg c3_5).symm.trans hf
    by_cases c3_6 : p1 = (6 : Int32)
    · replace hf := (if_pos c3_6).symm.trans hf
      refine lv_tableIn (off := 79) (tgt := 101) hx hb dX8_count_22 (by rw [c3_6]; decide) (by rw [c3_6]; decide) (by rw [c3_6]; decide) (by decide) ?_
      refine lv_aload_n hx hb dX8_count_101 rfl (lv_at hl 0 rfl) ?_
      refine zget (v := .int (md_taped S)) (ref := "SumOfTwoThatStandModel") (C := RX8) (T := TX8) (N := 33) (index := 124) X hh inX8_count_X8 0 rfl rfl 16 (by decide) mmX8_count_3 rfl rfl dX8_count_102 ?_
      exact hr2 105 ls H locs (md_taped S) hf dX8_count_105 hh
    replace hf := (if_neg c3_6).symm.trans hf
    by_cases c3_7 : p1 = (7 : Int32)
    · replace hf := (if_pos c3_7).symm.trans hf
      refine lv_tableIn (off := 84) (tgt := 106) hx hb dX8_count_22 (by rw [c3_7]; decide) (by rw [c3_7]; decide) (by rw [c3_7]; decide) (by decide) ?_
      refine lv_aload_n hx hb dX8_count_106 rfl (lv_at hl 0 rfl) ?_
      refine zget (v := .int (md_rowMany S)) (ref := "SumOfTwoThatStandModel") (C := RX8) (T := TX8) (N := 33) (index := 268) X hh inX8_count_X8 0 rfl rfl 31 (by decide) mmX8_count_4 rfl rfl dX8_count_107 ?_
      exact hr2 110 ls H locs (md_rowMany S) hf dX8_count_110 hh
    replace hf := (if_neg c3_7).symm.trans hf
    refine lv_tableOut (tgt := 111) hx hb dX8_count_22 (by have e0 := lv_neT c3_0 (a := 0) (by decide); have e1 := lv_neT c3_1 (a := 1) (by decide); have e2 := lv_neT c3_2 (a := 2) (by decide); have e3 := lv_neT c3_3 (a := 3) (by decide); have e4 := lv_neT c3_4 (a := 4) (by decide); have e5 := lv_neT c3_5 (a := 5) (by decide); have e6 := lv_neT c3_6 (a := 6) (by decide); have e7 := lv_neT c3_7 (a := 7) (by decide); omega) (by decide) ?_
    refine lv_bipush (v := (-9 : Int32)) hx hb dX8_count_111 (by decide) ?_
    exact hr2 113 ls H locs (-9 : Int32) hf dX8_count_113 hh
  · replace hf := (if_neg c2).symm.trans hf
    refine lv_aload_n hx hb dX8_count_11 rfl (lv_at hl 0 rfl) ?_
    refine zget (v := .ref a1) (ref := "SumOfTwoThatStandModel") (C := RX8) (T := TX8) (N := 33) (index := 7) X hh inX8_count_X8 0 rfl rfl 0 (by decide) mmX8_count_5 rfl rfl dX8_count_12 ?_
    refine lv_iload_n hx hb dX8_count_15 rfl (lv_at hl 1 rfl) ?_
    refine lv_bipush (v := (10 : Int32)) hx hb dX8_count_16 (by decide) ?_
    refine lv_isub hx hb dX8_count_18 ?_
    obtain ⟨g8, hf⟩ := ob_ix hf
    refine ziald (f := (md_refused S)) X hh 1 rfl g8 dX8_count_19 ?_
    exact hr2 20 ls H locs ((md_refused S) (p1 - (10 : Int32)).toNatClampNeg) hf dX8_count_20 hh
