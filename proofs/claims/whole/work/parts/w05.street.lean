theorem mmJ6_bitCount_0f7a4_0 : Cond.constant RJ6 267 (252645135) ∈ wsJ6_bitCount_0f7a4 := by decide +kernel
theorem mmJ6_bitCount_0f7a4_1 : Cond.constant RJ6 266 (858993459) ∈ wsJ6_bitCount_0f7a4 := by decide +kernel
theorem mmJ6_bitCount_0f7a4_2 : Cond.constant RJ6 265 (1431655765) ∈ wsJ6_bitCount_0f7a4 := by decide +kernel
theorem hdJ6_bitCount_0f7a4 : yJ6_bitCount_0f7a4.cls ≠ "java/lang/invoke/MethodHandle" ∧ yJ6_bitCount_0f7a4.cls ≠ "java/lang/invoke/VarHandle" ∧ (parseMethodDescriptor yJ6_bitCount_0f7a4.desc).map (fun d => d.parameters.length) = some 1 := by decide +kernel
set_option maxHeartbeats 4000000 in
set_option maxRecDepth 100000 in
theorem kJ6_bitCount_0f7a4 (l : Launch) (K : zK) (p0 : Int32) (R : Int32) (hf : fJ6_bitCount_0f7a4 p0 = R) : zC l yJ6_bitCount_0f7a4 wsJ6_bitCount_0f7a4 ({ frames := 0, cells := 0, slots := 0, locals := 0 } : Room) K [.int p0] ([]) (some (.int R)) ([]) := by
  refine zC_i R (cc := cJ6_bitCount_0f7a4) (maxL := 1) (by decide +kernel) rfl (Nat.le_of_ble_eq_true rfl) rfl rfl ?_
  intro p e s m below meth c Q A X hret ls hl hh
  have X : zX p m c cJ6_bitCount_0f7a4 1 s ([.int p0] : List Value).toArray wsJ6_bitCount_0f7a4 RJ6 K A := X
  have hx := X.1.1
  have hb := X.1.2.1
  have hr2 : ∀ (pc : Nat) (ls : Array Slot) (H : Heap) (locs : List Loc) (v : Int32), v = R → decode cJ6_bitCount_0f7a4 pc = .ok (.ireturn, 1) → zW K A s H locs ([]) → W p l e ({ frames := 0, cells := 0, slots := 0, locals := 0 } : Room) s m ([.int p0] : List Value).toArray below meth c H locs 0 0 Q (F0 m pc ls [.int v]) := by
    intro pc ls H locs v h hd hh
    cases h; exact hret pc ls H locs _ rfl hd hh
  have hl : lv_has ls 1 [(0, .int p0)] := hl
  have hJ48 : ∀ (v0 : Int32), ∀ (H : Heap) (locs : List Loc) (ls : Array Slot), fJ6_bitCount_0f7a4_j48 v0 = R → lv_has ls 1 [(0, .int v0)] → zW K A s H locs ([]) → W p l e ({ frames := 0, cells := 0, slots := 0, locals := 0 } : Room) s m ([.int p0] : List Value).toArray below meth c H locs 0 0 Q (F0 m 48 ls []) := by
    intro v0 H locs ls hf hl hh
    unfold fJ6_bitCount_0f7a4_j48 at hf
    refine lv_iload_n hx hb dJ6_bitCount_0f7a4_48 rfl (lv_at hl 0 rfl) ?_
    refine lv_bipush (v := (63 : Int32)) hx hb dJ6_bitCount_0f7a4_49 (by decide) ?_
    refine lv_iand hx hb dJ6_bitCount_0f7a4_51 ?_
    exact hr2 52 ls H locs (v0 &&& (63 : Int32)) hf dJ6_bitCount_0f7a4_52 hh
  have hJ41 : ∀ (v0 : Int32), ∀ (H : Heap) (locs : List Loc) (ls : Array Slot), fJ6_bitCount_0f7a4_j41 v0 = R → lv_has ls 1 [(0, .int v0)] → zW K A s H locs ([]) → W p l e ({ frames := 0, cells := 0, slots := 0, locals := 0 } : Room) s m ([.int p0] : List Value).toArray below meth c H locs 0 0 Q (F0 m 41 ls []) := by
    intro v0 H locs ls hf hl hh
    unfold fJ6_bitCount_0f7a4_j41 at hf
    refine lv_iload_n hx hb dJ6_bitCount_0f7a4_41 rfl (lv_at hl 0 rfl) ?_
    refine lv_iload_n hx hb dJ6_bitCount_0f7a4_42 rfl (lv_at hl 0 rfl) ?_
    refine lv_bipush (v := (16 : Int32)) hx hb dJ6_bitCount_0f7a4_43 (by decide) ?_
    refine lv_iushr (v := (v0.toUInt32 >>> ((16 : Int32).toUInt32 &&& Int32.toUInt32 31)).toInt32) hx hb dJ6_bitCount_0f7a4_45 rfl ?_
    refine lv_iadd hx hb dJ6_bitCount_0f7a4_46 ?_
    refine lv_istore_n (lv' := [(0, .int (v0 + (v0.toUInt32 >>> ((16 : Int32).toUInt32 &&& Int32.toUInt32 31)).toInt32))]) hx hb dJ6_bitCount_0f7a4_47 rfl hl (by decide) rfl (fun ls hl => ?_)
    exact hJ48 (v0 + (v0.toUInt32 >>> ((16 : Int32).toUInt32 &&& Int32.toUInt32 31)).toInt32) H locs ls hf (lv_sub hl [0] rfl) hh
  have hJ34 : ∀ (v0 : Int32), ∀ (H : Heap) (locs : List Loc) (ls : Array Slot), fJ6_bitCount_0f7a4_j34 v0 = R → lv_has ls 1 [(0, .int v0)] → zW K A s H locs ([]) → W p l e ({ frames := 0, cells := 0, slots := 0, locals := 0 } : Room) s m ([.int p0] : List Value).toArray below meth c H locs 0 0 Q (F0 m 34 ls []) := by
    intro v0 H locs ls hf hl hh
    unfold fJ6_bitCount_0f7a4_j34 at hf
    refine lv_iload_n hx hb dJ6_bitCount_0f7a4_34 rfl (lv_at hl 0 rfl) ?_
    refine lv_iload_n hx hb dJ6_bitCount_0f7a4_35 rfl (lv_at hl 0 rfl) ?_
    refine lv_bipush (v := (8 : Int32)) hx hb dJ6_bitCount_0f7a4_36 (by decide) ?_
    refine lv_iushr (v := (v0.toUInt32 >>> ((8 : Int32).toUInt32 &&& Int32.toUInt32 31)).toInt32) hx hb dJ6_bitCount_0f7a4_38 rfl ?_
    refine lv_iadd hx hb dJ6_bitCount_0f7a4_39 ?_
    refine lv_istore_n (lv' := [(0, .int (v0 + (v0.toUInt32 >>> ((8 : Int32).toUInt32 &&& Int32.toUInt32 31)).toInt32))]) hx hb dJ6_bitCount_0f7a4_40 rfl hl (by decide) rfl (fun ls hl => ?_)
    exact hJ41 (v0 + (v0.toUInt32 >>> ((8 : Int32).toUInt32 &&& Int32.toUInt32 31)).toInt32) H locs ls hf (lv_sub hl [0] rfl) hh
  have hJ24 : ∀ (v0 : Int32), ∀ (H : Heap) (locs : List Loc) (ls : Array Slot), fJ6_bitCount_0f7a4_j24 v0 = R → lv_has ls 1 [(0, .int v0)] → zW K A s H locs ([]) → W p l e ({ frames := 0, cells := 0, slots := 0, locals := 0 } : Room) s m ([.int p0] : List Value).toArray below meth c H locs 0 0 Q (F0 m 24 ls []) := by
    intro v0 H locs ls hf hl hh
    unfold fJ6_bitCount_0f7a4_j24 at hf
    refine lv_iload_n hx hb dJ6_bitCount_0f7a4_24 rfl (lv_at hl 0 rfl) ?_
    refine lv_iload_n hx hb dJ6_bitCount_0f7a4_25 rfl (lv_at hl 0 rfl) ?_
    refine lv_iconst (v := (4 : Int32)) hx hb dJ6_bitCount_0f7a4_26 (by decide) ?_
    refine lv_iushr (v := (v0.toUInt32 >>> ((4 : Int32).toUInt32 &&& Int32.toUInt32 31)).toInt32) hx hb dJ6_bitCount_0f7a4_27 rfl ?_
    refine lv_iadd hx hb dJ6_bitCount_0f7a4_28 ?_
    refine lv_ldcw (v := (252645135 : Int32)) hx hb X.1.2.2.2.1 (X.1.2.2.2.2 _ mmJ6_bitCount_0f7a4_0) dJ6_bitCount_0f7a4_29 ?_
    refine lv_iand hx hb dJ6_bitCount_0f7a4_32 ?_
    refine lv_istore_n (lv' := [(0, .int ((v0 + (v0.toUInt32 >>> ((4 : Int32).toUInt32 &&& Int32.toUInt32 31)).toInt32) &&& (252645135 : Int32)))]) hx hb dJ6_bitCount_0f7a4_33 rfl hl (by decide) rfl (fun ls hl => ?_)
    exact hJ34 ((v0 + (v0.toUInt32 >>> ((4 : Int32).toUInt32 &&& Int32.toUInt32 31)).toInt32) &&& (252645135 : Int32)) H locs ls hf (lv_sub hl [0] rfl) hh
  have hJ10 : ∀ (v0 : Int32), ∀ (H : Heap) (locs : List Loc) (ls : Array Slot), fJ6_bitCount_0f7a4_j10 v0 = R → lv_has ls 1 [(0, .int v0)] → zW K A s H locs ([]) → W p l e ({ frames := 0, cells := 0, slots := 0, locals := 0 } : Room) s m ([.int p0] : List Value).toArray below meth c H locs 0 0 Q (F0 m 10 ls []) := by
    intro v0 H locs ls hf hl hh
    unfold fJ6_bitCount_0f7a4_j10 at hf
    refine lv_iload_n hx hb dJ6_bitCount_0f7a4_10 rfl (lv_at hl 0 rfl) ?_
    refine lv_ldcw (v := (858993459 : Int32)) hx hb X.1.2.2.2.1 (X.1.2.2.2.2 _ mmJ6_bitCount_0f7a4_1) dJ6_bitCount_0f7a4_11 ?_
    refine lv_iand hx hb dJ6_bitCount_0f7a4_14 ?_
    refine lv_iload_n hx hb dJ6_bitCount_0f7a4_15 rfl (lv_at hl 0 rfl) ?_
    refine lv_iconst (v := (2 : Int32)) hx hb dJ6_bitCount_0f7a4_16 (by decide) ?_
    refine lv_iushr (v := (v0.toUInt32 >>> ((2 : Int32).toUInt32 &&& Int32.toUInt32 31)).toInt32) hx hb dJ6_bitCount_0f7a4_17 rfl ?_
    refine lv_ldcw (v := (858993459 : Int32)) hx hb X.1.2.2.2.1 (X.1.2.2.2.2 _ mmJ6_bitCount_0f7a4_1) dJ6_bitCount_0f7a4_18 ?_
    refine lv_iand hx hb dJ6_bitCount_0f7a4_21 ?_
    refine lv_iadd hx hb dJ6_bitCount_0f7a4_22 ?_
    refine lv_istore_n (lv' := [(0, .int ((v0 &&& (858993459 : Int32)) + ((v0.toUInt32 >>> ((2 : Int32).toUInt32 &&& Int32.toUInt32 31)).toInt32 &&& (858993459 : Int32))))]) hx hb dJ6_bitCount_0f7a4_23 rfl hl (by decide) rfl (fun ls hl => ?_)
    exact hJ24 ((v0 &&& (858993459 : Int32)) + ((v0.toUInt32 >>> ((2 : Int32).toUInt32 &&& Int32.toUInt32 31)).toInt32 &&& (858993459 : Int32))) H locs ls hf (lv_sub hl [0] rfl) hh
  unfold fJ6_bitCount_0f7a4 at hf
  refine (fun (hmain : ∀ (H : Heap) (locs : List Loc), zW K A s H locs ([]) → W p l e ({ frames := 0, cells := 0, slots := 0, locals := 0 } : Room) s m ([.int p0] : List Value).toArray below meth c H locs 0 0 Q (F0 m 0 ls [])) => hmain s.heap [] hh) (fun H locs hh => ?_)
  refine lv_iload_n hx hb dJ6_bitCount_0f7a4_0 rfl (lv_at hl 0 rfl) ?_
  refine lv_iload_n hx hb dJ6_bitCount_0f7a4_1 rfl (lv_at hl 0 rfl) ?_
  refine lv_iconst (v := (1 : Int32)) hx hb dJ6_bitCount_0f7a4_2 (by decide) ?_
  refine lv_iushr (v := (p0.toUInt32 >>> ((1 : Int32).toUInt32 &&& Int32.toUInt32 31)).toInt32) hx hb dJ6_bitCount_0f7a4_3 rfl ?_
  refine lv_ldcw (v := (1431655765 : Int32)) hx hb X.1.2.2.2.1 (X.1.2.2.2.2 _ mmJ6_bitCount_0f7a4_2) dJ6_bitCount_0f7a4_4 ?_
  refine lv_iand hx hb dJ6_bitCount_0f7a4_7 ?_
  refine lv_isub hx hb dJ6_bitCount_0f7a4_8 ?_
  refine lv_istore_n (lv' := [(0, .int (p0 - ((p0.toUInt32 >>> ((1 : Int32).toUInt32 &&& Int32.toUInt32 31)).toInt32 &&& (1431655765 : Int32))))]) hx hb dJ6_bitCount_0f7a4_9 rfl hl (by decide) rfl (fun ls hl => ?_)
  exact hJ10 (p0 - ((p0.toUInt32 >>> ((1 : Int32).toUInt32 &&& Int32.toUInt32 31)).toInt32 &&& (1431655765 : Int32))) H locs ls hf (lv_sub hl [0] rfl) hh
theorem mmJ6_numberOfLeadingZeros_0f7a4_0 : Cond.constant RJ6 264 (65536) ∈ wsJ6_numberOfLeadingZeros_0f7a4 := by decide +kernel
theorem hdJ6_numberOfLeadingZeros_0f7a4 : yJ6_numberOfLeadingZeros_0f7a4.cls ≠ "java/lang/invoke/MethodHandle" ∧ yJ6_numberOfLeadingZeros_0f7a4.cls ≠ "java/lang/invoke/VarHandle" ∧ (parseMethodDescriptor yJ6_numberOfLeadingZeros_0f7a4.desc).map (fun d => d.parameters.length) = some 1 := by decide +kernel
set_option maxHeartbeats 4000000 in
set_option maxRecDepth 100000 in
theorem kJ6_numberOfLeadingZeros_0f7a4 (l : Launch) (K : zK) (p0 : Int32) (R : Int32) (hf : fJ6_numberOfLeadingZeros_0f7a4 p0 = R) : zC l yJ6_numberOfLeadingZeros_0f7a4 wsJ6_numberOfLeadingZeros_0f7a4 ({ frames := 0, cells := 0, slots := 0, locals := 0 } : Room) K [.int p0] ([]) (some (.int R)) ([]) := by
  refine zC_i R (cc := cJ6_numberOfLeadingZeros_0f7a4) (maxL := 2) (by decide +kernel) rfl (Nat.le_of_ble_eq_true rfl) rfl rfl ?_
  intro p e s m below meth c Q A X hret ls hl hh
  have X : zX p m c cJ6_numberOfLeadingZeros_0f7a4 2 s ([.int p0] : List Value).toArray wsJ6_numberOfLeadingZeros_0f7a4 RJ6 K A := X
  have hx := X.1.1
  have hb := X.1.2.1
  have hr2 : ∀ (pc : Nat) (ls : Array Slot) (H : Heap) (locs : List Loc) (v : Int32), v = R → decode cJ6_numberOfLeadingZeros_0f7a4 pc = .ok (.ireturn, 1) → zW K A s H locs ([]) → W p l e ({ frames := 0, cells := 0, slots := 0, locals := 0 } : Room) s m ([.int p0] : List Value).toArray below meth c H locs 0 0 Q (F0 m pc ls [.int v]) := by
    intro pc ls H locs v h hd hh
    cases h; exact hret pc ls H locs _ rfl hd hh
  have hl : lv_has ls 2 [(0, .int p0)] := hl
  have hJ61 : ∀ (v0 : Int32) (v1 : Int32), ∀ (H : Heap) (locs : List Loc) (ls : Array Slot), fJ6_numberOfLeadingZeros_0f7a4_j61 v0 v1 = R → lv_has ls 2 [(0, .int v0), (1, .int v1)] → zW K A s H locs ([]) → W p l e ({ frames := 0, cells := 0, slots := 0, locals := 0 } : Room) s m ([.int p0] : List Value).toArray below meth c H locs 0 0 Q (F0 m 61 ls []) := by
    intro v0 v1 H locs ls hf hl hh
    unfold fJ6_numberOfLeadingZeros_0f7a4_j61 at hf
    refine lv_iload_n hx hb dJ6_numberOfLeadingZeros_0f7a4_61 rfl (lv_at hl 0 rfl) ?_
    refine lv_iconst (v := (4 : Int32)) hx hb dJ6_numberOfLeadingZeros_0f7a4_62 (by decide) ?_
    refine lv_icmp_lt (tgt := 73) hx hb dJ6_numberOfLeadingZeros_0f7a4_63 (by decide) (fun c1 => ?_) (fun c1 => ?_)
    · replace hf := (if_pos c1).symm.trans hf
      refine lv_iload_n hx hb dJ6_numberOfLeadingZeros_0f7a4_73 rfl (lv_at hl 1 rfl) ?_
      refine lv_iload_n hx hb dJ6_numberOfLeadingZeros_0f7a4_74 rfl (lv_at hl 0 rfl) ?_
      refine lv_iconst (v := (1 : Int32)) hx hb dJ6_numberOfLeadingZeros_0f7a4_75 (by decide) ?_
      refine lv_iushr (v := (v0.toUInt32 >>> ((1 : Int32).toUInt32 &&& Int32.toUInt32 31)).toInt32) hx hb dJ6_numberOfLeadingZeros_0f7a4_76 rfl ?_
      refine lv_isub hx hb dJ6_numberOfLeadingZeros_0f7a4_77 ?_
      exact hr2 78 ls H locs (v1 - (v0.toUInt32 >>> ((1 : Int32).toUInt32 &&& Int32.toUInt32 31)).toInt32) hf dJ6_numberOfLeadingZeros_0f7a4_78 hh
    · replace hf := (if_neg c1).symm.trans hf
      refine lv_iinc (v := (v1 + (-2 : Int32))) (lv' := [(1, .int (v1 + (-2 : Int32))), (0, .int v0)]) hx hb dJ6_numberOfLeadingZeros_0f7a4_66 hl (k := 1) rfl rfl (by decide) rfl (fun ls hl => ?_)
      refine lv_iload_n hx hb dJ6_numberOfLeadingZeros_0f7a4_69 rfl (lv_at hl 1 rfl) ?_
      refine lv_iconst (v := (2 : Int32)) hx hb dJ6_numberOfLeadingZeros_0f7a4_70 (by decide) ?_
      refine lv_iushr (v := (v0.toUInt32 >>> ((2 : Int32).toUInt32 &&& Int32.toUInt32 31)).toInt32) hx hb dJ6_numberOfLeadingZeros_0f7a4_71 rfl ?_
      refine lv_istore_n (lv' := [(0, .int (v0.toUInt32 >>> ((2 : Int32).toUInt32 &&& Int32.toUInt32 31)).toInt32), (1, .int (v1 + (-2 : Int32)))]) hx hb dJ6_numberOfLeadingZeros_0f7a4_72 rfl hl (by decide) rfl (fun ls hl => ?_)
      refine lv_iload_n hx hb dJ6_numberOfLeadingZeros_0f7a4_73 rfl (lv_at hl 1 rfl) ?_
      refine lv_iload_n hx hb dJ6_numberOfLeadingZeros_0f7a4_74 rfl (lv_at hl 0 rfl) ?_
      refine lv_iconst (v := (1 : Int32)) hx hb dJ6_numberOfLeadingZeros_0f7a4_75 (by decide) ?_
      refine lv_iushr (v := ((v0.toUInt32 >>> ((2 : Int32).toUInt32 &&& Int32.toUInt32 31)).toInt32.toUInt32 >>> ((1 : Int32).toUInt32 &&& Int32.toUInt32 31)).toInt32) hx hb dJ6_numberOfLeadingZeros_0f7a4_76 rfl ?_
      refine lv_isub hx hb dJ6_numberOfLeadingZeros_0f7a4_77 ?_
      exact hr2 78 ls H locs ((v1 + (-2 : Int32)) - ((v0.toUInt32 >>> ((2 : Int32).toUInt32 &&& Int32.toUInt32 31)).toInt32.toUInt32 >>> ((1 : Int32).toUInt32 &&& Int32.toUInt32 31)).toInt32) hf dJ6_numberOfLeadingZeros_0f7a4_78 hh
  have hJ48 : ∀ (v0 : Int32) (v1 : Int32), ∀ (H : Heap) (locs : List Loc) (ls : Array Slot), fJ6_numberOfLeadingZeros_0f7a4_j48 v0 v1 = R → lv_has ls 2 [(0, .int v0), (1, .int v1)] → zW K A s H locs ([]) → W p l e ({ frames := 0, cells := 0, slots := 0, locals := 0 } : Room) s m ([.int p0] : List Value).toArray below meth c H locs 0 0 Q (F0 m 48 ls []) := by
    intro v0 v1 H locs ls hf hl hh
    unfold fJ6_numberOfLeadingZeros_0f7a4_j48 at hf
    refine lv_iload_n hx hb dJ6_numberOfLeadingZeros_0f7a4_48 rfl (lv_at hl 0 rfl) ?_
    refine lv_bipush (v := (16 : Int32)) hx hb dJ6_numberOfLeadingZeros_0f7a4_49 (by decide) ?_
    refine lv_icmp_lt (tgt := 61) hx hb dJ6_numberOfLeadingZeros_0f7a4_51 (by decide) (fun c2 => ?_) (fun c2 => ?_)
    · replace hf := (if_pos c2).symm.trans hf
      exact hJ61 v0 v1 H locs ls hf (lv_sub hl [0, 1] rfl) hh
    · replace hf := (if_neg c2).symm.trans hf
      refine lv_iinc (v := (v1 + (-4 : Int32))) (lv' := [(1, .int (v1 + (-4 : Int32))), (0, .int v0)]) hx hb dJ6_numberOfLeadingZeros_0f7a4_54 hl (k := 1) rfl rfl (by decide) rfl (fun ls hl => ?_)
      refine lv_iload_n hx hb dJ6_numberOfLeadingZeros_0f7a4_57 rfl (lv_at hl 1 rfl) ?_
      refine lv_iconst (v := (4 : Int32)) hx hb dJ6_numberOfLeadingZeros_0f7a4_58 (by decide) ?_
      refine lv_iushr (v := (v0.toUInt32 >>> ((4 : Int32).toUInt32 &&& Int32.toUInt32 31)).toInt32) hx hb dJ6_numberOfLeadingZeros_0f7a4_59 rfl ?_
      refine lv_istore_n (lv' := [(0, .int (v0.toUInt32 >>> ((4 : Int32).toUInt32 &&& Int32.toUInt32 31)).toInt32), (1, .int (v1 + (-4 : Int32)))]) hx hb dJ6_numberOfLeadingZeros_0f7a4_60 rfl hl (by decide) rfl (fun ls hl => ?_)
      exact hJ61 (v0.toUInt32 >>> ((4 : Int32).toUInt32 &&& Int32.toUInt32 31)).toInt32 (v1 + (-4 : Int32)) H locs ls hf (lv_sub hl [0, 1] rfl) hh
  have hJ33 : ∀ (v0 : Int32) (v1 : Int32), ∀ (H : Heap) (locs : List Loc) (ls : Array Slot), fJ6_numberOfLeadingZeros_0f7a4_j33 v0 v1 = R → lv_has ls 2 [(0, .int v0), (1, .int v1)] → zW K A s H locs ([]) → W p l e ({ frames := 0, cells := 0, slots := 0, locals := 0 } : Room) s m ([.int p0] : List Value).toArray below meth c H locs 0 0 Q (F0 m 33 ls []) := by
    intro v0 v1 H locs ls hf hl hh
    unfold fJ6_numberOfLeadingZeros_0f7a4_j33 at hf
    refine lv_iload_n hx hb dJ6_numberOfLeadingZeros_0f7a4_33 rfl (lv_at hl 0 rfl) ?_
    refine lv_sipush (v := (256 : Int32)) hx hb dJ6_numberOfLeadingZeros_0f7a4_34 (by decide) ?_
    refine lv_icmp_lt (tgt := 48) hx hb dJ6_numberOfLeadingZeros_0f7a4_37 (by decide) (fun c3 => ?_) (fun c3 => ?_)
    · replace hf := (if_pos c3).symm.trans hf
      exact hJ48 v0 v1 H locs ls hf (lv_sub hl [0, 1] rfl) hh
    · replace hf := (if_neg c3).symm.trans hf
      refine lv_iinc (v := (v1 + (-8 : Int32))) (lv' := [(1, .int (v1 + (-8 : Int32))), (0, .int v0)]) hx hb dJ6_numberOfLeadingZeros_0f7a4_40 hl (k := 1) rfl rfl (by decide) rfl (fun ls hl => ?_)
      refine lv_iload_n hx hb dJ6_numberOfLeadingZeros_0f7a4_43 rfl (lv_at hl 1 rfl) ?_
      refine lv_bipush (v := (8 : Int32)) hx hb dJ6_numberOfLeadingZeros_0f7a4_44 (by decide) ?_
      refine lv_iushr (v := (v0.toUInt32 >>> ((8 : Int32).toUInt32 &&& Int32.toUInt32 31)).toInt32) hx hb dJ6_numberOfLeadingZeros_0f7a4_46 rfl ?_
      refine lv_istore_n (lv' := [(0, .int (v0.toUInt32 >>> ((8 : Int32).toUInt32 &&& Int32.toUInt32 31)).toInt32), (1, .int (v1 + (-8 : Int32)))]) hx hb dJ6_numberOfLeadingZeros_0f7a4_47 rfl hl (by decide) rfl (fun ls hl => ?_)
      exact hJ48 (v0.toUInt32 >>> ((8 : Int32).toUInt32 &&& Int32.toUInt32 31)).toInt32 (v1 + (-8 : Int32)) H locs ls hf (lv_sub hl [0, 1] rfl) hh
  unfold fJ6_numberOfLeadingZeros_0f7a4 at hf
  refine (fun (hmain : ∀ (H : Heap) (locs : List Loc), zW K A s H locs ([]) → W p l e ({ frames := 0, cells := 0, slots := 0, locals := 0 } : Room) s m ([.int p0] : List Value).toArray below meth c H locs 0 0 Q (F0 m 0 ls [])) => hmain s.heap [] hh) (fun H locs hh => ?_)
  refine lv_iload_n hx hb dJ6_numberOfLeadingZeros_0f7a4_0 rfl (lv_at hl 0 rfl) ?_
  refine lv_if_gt (tgt := 15) hx hb dJ6_numberOfLeadingZeros_0f7a4_1 (by decide) (fun c4 => ?_) (fun c4 => ?_)
  · replace hf := (if_pos c4).symm.trans hf
    refine lv_bipush (v := (31 : Int32)) hx hb dJ6_numberOfLeadingZeros_0f7a4_15 (by decide) ?_
    refine lv_istore_n (lv' := [(1, .int (31 : Int32)), (0, .int p0)]) hx hb dJ6_numberOfLeadingZeros_0f7a4_17 rfl hl (by decide) rfl (fun ls hl => ?_)
    refine lv_iload_n hx hb dJ6_numberOfLeadingZeros_0f7a4_18 rfl (lv_at hl 1 rfl) ?_
    refine lv_ldcw (v := (65536 : Int32)) hx hb X.1.2.2.2.1 (X.1.2.2.2.2 _ mmJ6_numberOfLeadingZeros_0f7a4_0) dJ6_numberOfLeadingZeros_0f7a4_19 ?_
    refine lv_icmp_lt (tgt := 33) hx hb dJ6_numberOfLeadingZeros_0f7a4_22 (by decide) (fun c5 => ?_) (fun c5 => ?_)
    · replace hf := (if_pos c5).symm.trans hf
      exact hJ33 p0 (31 : Int32) H locs ls hf (lv_sub hl [1, 0] rfl) hh
    · replace hf := (if_neg c5).symm.trans hf
      refine lv_iinc (v := ((31 : Int32) + (-16 : Int32))) (lv' := [(1, .int ((31 : Int32) + (-16 : Int32))), (0, .int p0)]) hx hb dJ6_numberOfLeadingZeros_0f7a4_25 hl (k := 0) rfl rfl (by decide) rfl (fun ls hl => ?_)
      refine lv_iload_n hx hb dJ6_numberOfLeadingZeros_0f7a4_28 rfl (lv_at hl 1 rfl) ?_
      refine lv_bipush (v := (16 : Int32)) hx hb dJ6_numberOfLeadingZeros_0f7a4_29 (by decide) ?_
      refine lv_iushr (v := (p0.toUInt32 >>> ((16 : Int32).toUInt32 &&& Int32.toUInt32 31)).toInt32) hx hb dJ6_numberOfLeadingZeros_0f7a4_31 rfl ?_
      refine lv_istore_n (lv' := [(0, .int (p0.toUInt32 >>> ((16 : Int32).toUInt32 &&& Int32.toUInt32 31)).toInt32), (1, .int ((31 : Int32) + (-16 : Int32)))]) hx hb dJ6_numberOfLeadingZeros_0f7a4_32 rfl hl (by decide) rfl (fun ls hl => ?_)
      exact hJ33 (p0.toUInt32 >>> ((16 : Int32).toUInt32 &&& Int32.toUInt32 31)).toInt32 ((31 : Int32) + (-16 : Int32)) H locs ls hf (lv_sub hl [0, 1] rfl) hh
  · replace hf := (if_neg c4).symm.trans hf
    refine lv_iload_n hx hb dJ6_numberOfLeadingZeros_0f7a4_4 rfl (lv_at hl 0 rfl) ?_
    refine lv_if_ne (tgt := 13) hx hb dJ6_numberOfLeadingZeros_0f7a4_5 (by decide) (fun c6 => ?_) (fun c6 => ?_)
    · replace hf := (if_neg c6).symm.trans hf
      refine lv_iconst (v := (0 : Int32)) hx hb dJ6_numberOfLeadingZeros_0f7a4_13 (by decide) ?_
      exact hr2 14 ls H locs (0 : Int32) hf dJ6_numberOfLeadingZeros_0f7a4_14 hh
    · replace hf := (if_pos c6).symm.trans hf
      refine lv_bipush (v := (32 : Int32)) hx hb dJ6_numberOfLeadingZeros_0f7a4_8 (by decide) ?_
      refine lv_goto (tgt := 14) hx hb dJ6_numberOfLeadingZeros_0f7a4_10 (by decide) ?_
      exact hr2 14 ls H locs (32 : Int32) hf dJ6_numberOfLeadingZeros_0f7a4_14 hh
theorem mmJ6_numberOfTrailingZeros_0f7a4_0 : Cond.constant RJ6 264 (65536) ∈ wsJ6_numberOfTrailingZeros_0f7a4 := by decide +kernel
theorem hdJ6_numberOfTrailingZeros_0f7a4 : yJ6_numberOfTrailingZeros_0f7a4.cls ≠ "java/lang/invoke/MethodHandle" ∧ yJ6_numberOfTrailingZeros_0f7a4.cls ≠ "java/lang/invoke/VarHandle" ∧ (parseMethodDescriptor yJ6_numberOfTrailingZeros_0f7a4.desc).map (fun d => d.parameters.length) = some 1 := by decide +kernel
set_option maxHeartbeats 4000000 in
set_option maxRecDepth 100000 in
theorem kJ6_numberOfTrailingZeros_0f7a4 (l : Launch) (K : zK) (p0 : Int32) (R : Int32) (hf : fJ6_numberOfTrailingZeros_0f7a4 p0 = R) : zC l yJ6_numberOfTrailingZeros_0f7a4 wsJ6_numberOfTrailingZeros_0f7a4 ({ frames := 0, cells := 0, slots := 0, locals := 0 } : Room) K [.int p0] ([]) (some (.int R)) ([]) := by
  refine zC_i R (cc := cJ6_numberOfTrailingZeros_0f7a4) (maxL := 2) (by decide +kernel) rfl (Nat.le_of_ble_eq_true rfl) rfl rfl ?_
  intro p e s m below meth c Q A X hret ls hl hh
  have X : zX p m c cJ6_numberOfTrailingZeros_0f7a4 2 s ([.int p0] : List Value).toArray wsJ6_numberOfTrailingZeros_0f7a4 RJ6 K A := X
  have hx := X.1.1
  have hb := X.1.2.1
  have hr2 : ∀ (pc : Nat) (ls : Array Slot) (H : Heap) (locs : List Loc) (v : Int32), v = R → decode cJ6_numberOfTrailingZeros_0f7a4 pc = .ok (.ireturn, 1) → zW K A s H locs ([]) → W p l e ({ frames := 0, cells := 0, slots := 0, locals := 0 } : Room) s m ([.int p0] : List Value).toArray below meth c H locs 0 0 Q (F0 m pc ls [.int v]) := by
    intro pc ls H locs v h hd hh
    cases h; exact hret pc ls H locs _ rfl hd hh
  have hl : lv_has ls 2 [(0, .int p0)] := hl
  have hJ62 : ∀ (v0 : Int32) (v1 : Int32), ∀ (H : Heap) (locs : List Loc) (ls : Array Slot), fJ6_numberOfTrailingZeros_0f7a4_j62 v0 v1 = R → lv_has ls 2 [(0, .int v0), (1, .int v1)] → zW K A s H locs ([]) → W p l e ({ frames := 0, cells := 0, slots := 0, locals := 0 } : Room) s m ([.int p0] : List Value).toArray below meth c H locs 0 0 Q (F0 m 62 ls []) := by
    intro v0 v1 H locs ls hf hl hh
    unfold fJ6_numberOfTrailingZeros_0f7a4_j62 at hf
    refine lv_iload_n hx hb dJ6_numberOfTrailingZeros_0f7a4_62 rfl (lv_at hl 0 rfl) ?_
    refine lv_iconst (v := (4 : Int32)) hx hb dJ6_numberOfTrailingZeros_0f7a4_63 (by decide) ?_
    refine lv_icmp_le (tgt := 74) hx hb dJ6_numberOfTrailingZeros_0f7a4_64 (by decide) (fun c1 => ?_) (fun c1 => ?_)
    · replace hf := (if_pos c1).symm.trans hf
      refine lv_iload_n hx hb dJ6_numberOfTrailingZeros_0f7a4_74 rfl (lv_at hl 1 rfl) ?_
      refine lv_iload_n hx hb dJ6_numberOfTrailingZeros_0f7a4_75 rfl (lv_at hl 0 rfl) ?_
      refine lv_iconst (v := (1 : Int32)) hx hb dJ6_numberOfTrailingZeros_0f7a4_76 (by decide) ?_
      refine lv_iushr (v := (v0.toUInt32 >>> ((1 : Int32).toUInt32 &&& Int32.toUInt32 31)).toInt32) hx hb dJ6_numberOfTrailingZeros_0f7a4_77 rfl ?_
      refine lv_iadd hx hb dJ6_numberOfTrailingZeros_0f7a4_78 ?_
      exact hr2 79 ls H locs (v1 + (v0.toUInt32 >>> ((1 : Int32).toUInt32 &&& Int32.toUInt32 31)).toInt32) hf dJ6_numberOfTrailingZeros_0f7a4_79 hh
    · replace hf := (if_neg c1).symm.trans hf
      refine lv_iinc (v := (v1 + (2 : Int32))) (lv' := [(1, .int (v1 + (2 : Int32))), (0, .int v0)]) hx hb dJ6_numberOfTrailingZeros_0f7a4_67 hl (k := 1) rfl rfl (by decide) rfl (fun ls hl => ?_)
      refine lv_iload_n hx hb dJ6_numberOfTrailingZeros_0f7a4_70 rfl (lv_at hl 1 rfl) ?_
      refine lv_iconst (v := (2 : Int32)) hx hb dJ6_numberOfTrailingZeros_0f7a4_71 (by decide) ?_
      refine lv_iushr (v := (v0.toUInt32 >>> ((2 : Int32).toUInt32 &&& Int32.toUInt32 31)).toInt32) hx hb dJ6_numberOfTrailingZeros_0f7a4_72 rfl ?_
      refine lv_istore_n (lv' := [(0, .int (v0.toUInt32 >>> ((2 : Int32).toUInt32 &&& Int32.toUInt32 31)).toInt32), (1, .int (v1 + (2 : Int32)))]) hx hb dJ6_numberOfTrailingZeros_0f7a4_73 rfl hl (by decide) rfl (fun ls hl => ?_)
      refine lv_iload_n hx hb dJ6_numberOfTrailingZeros_0f7a4_74 rfl (lv_at hl 1 rfl) ?_
      refine lv_iload_n hx hb dJ6_numberOfTrailingZeros_0f7a4_75 rfl (lv_at hl 0 rfl) ?_
      refine lv_iconst (v := (1 : Int32)) hx hb dJ6_numberOfTrailingZeros_0f7a4_76 (by decide) ?_
      refine lv_iushr (v := ((v0.toUInt32 >>> ((2 : Int32).toUInt32 &&& Int32.toUInt32 31)).toInt32.toUInt32 >>> ((1 : Int32).toUInt32 &&& Int32.toUInt32 31)).toInt32) hx hb dJ6_numberOfTrailingZeros_0f7a4_77 rfl ?_
      refine lv_iadd hx hb dJ6_numberOfTrailingZeros_0f7a4_78 ?_
      exact hr2 79 ls H locs ((v1 + (2 : Int32)) + ((v0.toUInt32 >>> ((2 : Int32).toUInt32 &&& Int32.toUInt32 31)).toInt32.toUInt32 >>> ((1 : Int32).toUInt32 &&& Int32.toUInt32 31)).toInt32) hf dJ6_numberOfTrailingZeros_0f7a4_79 hh
  have hJ49 : ∀ (v0 : Int32) (v1 : Int32), ∀ (H : Heap) (locs : List Loc) (ls : Array Slot), fJ6_numberOfTrailingZeros_0f7a4_j49 v0 v1 = R → lv_has ls 2 [(0, .int v0), (1, .int v1)] → zW K A s H locs ([]) → W p l e ({ frames := 0, cells := 0, slots := 0, locals := 0 } : Room) s m ([.int p0] : List Value).toArray below meth c H locs 0 0 Q (F0 m 49 ls []) := by
    intro v0 v1 H locs ls hf hl hh
    unfold fJ6_numberOfTrailingZeros_0f7a4_j49 at hf
    refine lv_iload_n hx hb dJ6_numberOfTrailingZeros_0f7a4_49 rfl (lv_at hl 0 rfl) ?_
    refine lv_bipush (v := (16 : Int32)) hx hb dJ6_numberOfTrailingZeros_0f7a4_50 (by decide) ?_
    refine lv_icmp_le (tgt := 62) hx hb dJ6_numberOfTrailingZeros_0f7a4_52 (by decide) (fun c2 => ?_) (fun c2 => ?_)
    · replace hf := (if_pos c2).symm.trans hf
      exact hJ62 v0 v1 H locs ls hf (lv_sub hl [0, 1] rfl) hh
    · replace hf := (if_neg c2).symm.trans hf
      refine lv_iinc (v := (v1 + (4 : Int32))) (lv' := [(1, .int (v1 + (4 : Int32))), (0, .int v0)]) hx hb dJ6_numberOfTrailingZeros_0f7a4_55 hl (k := 1) rfl rfl (by decide) rfl (fun ls hl => ?_)
      refine lv_iload_n hx hb dJ6_numberOfTrailingZeros_0f7a4_58 rfl (lv_at hl 1 rfl) ?_
      refine lv_iconst (v := (4 : Int32)) hx hb dJ6_numberOfTrailingZeros_0f7a4_59 (by decide) ?_
      refine lv_iushr (v := (v0.toUInt32 >>> ((4 : Int32).toUInt32 &&& Int32.toUInt32 31)).toInt32) hx hb dJ6_numberOfTrailingZeros_0f7a4_60 rfl ?_
      refine lv_istore_n (lv' := [(0, .int (v0.toUInt32 >>> ((4 : Int32).toUInt32 &&& Int32.toUInt32 31)).toInt32), (1, .int (v1 + (4 : Int32)))]) hx hb dJ6_numberOfTrailingZeros_0f7a4_61 rfl hl (by decide) rfl (fun ls hl => ?_)
      exact hJ62 (v0.toUInt32 >>> ((4 : Int32).toUInt32 &&& Int32.toUInt32 31)).toInt32 (v1 + (4 : Int32)) H locs ls hf (lv_sub hl [0, 1] rfl) hh
  have hJ34 : ∀ (v0 : Int32) (v1 : Int32), ∀ (H : Heap) (locs : List Loc) (ls : Array Slot), fJ6_numberOfTrailingZeros_0f7a4_j34 v0 v1 = R → lv_has ls 2 [(0, .int v0), (1, .int v1)] → zW K A s H locs ([]) → W p l e ({ frames := 0, cells := 0, slots := 0, locals := 0 } : Room) s m ([.int p0] : List Value).toArray below meth c H locs 0 0 Q (F0 m 34 ls []) := by
    intro v0 v1 H locs ls hf hl hh
    unfold fJ6_numberOfTrailingZeros_0f7a4_j34 at hf
    refine lv_iload_n hx hb dJ6_numberOfTrailingZeros_0f7a4_34 rfl (lv_at hl 0 rfl) ?_
    refine lv_sipush (v := (256 : Int32)) hx hb dJ6_numberOfTrailingZeros_0f7a4_35 (by decide) ?_
    refine lv_icmp_le (tgt := 49) hx hb dJ6_numberOfTrailingZeros_0f7a4_38 (by decide) (fun c3 => ?_) (fun c3 => ?_)
    · replace hf := (if_pos c3).symm.trans hf
      exact hJ49 v0 v1 H locs ls hf (lv_sub hl [0, 1] rfl) hh
    · replace hf := (if_neg c3).symm.trans hf
      refine lv_iinc (v := (v1 + (8 : Int32))) (lv' := [(1, .int (v1 + (8 : Int32))), (0, .int v0)]) hx hb dJ6_numberOfTrailingZeros_0f7a4_41 hl (k := 1) rfl rfl (by decide) rfl (fun ls hl => ?_)
      refine lv_iload_n hx hb dJ6_numberOfTrailingZeros_0f7a4_44 rfl (lv_at hl 1 rfl) ?_
      refine lv_bipush (v := (8 : Int32)) hx hb dJ6_numberOfTrailingZeros_0f7a4_45 (by decide) ?_
      refine lv_iushr (v := (v0.toUInt32 >>> ((8 : Int32).toUInt32 &&& Int32.toUInt32 31)).toInt32) hx hb dJ6_numberOfTrailingZeros_0f7a4_47 rfl ?_
      refine lv_istore_n (lv' := [(0, .int (v0.toUInt32 >>> ((8 : Int32).toUInt32 &&& Int32.toUInt32 31)).toInt32), (1, .int (v1 + (8 : Int32)))]) hx hb dJ6_numberOfTrailingZeros_0f7a4_48 rfl hl (by decide) rfl (fun ls hl => ?_)
      exact hJ49 (v0.toUInt32 >>> ((8 : Int32).toUInt32 &&& Int32.toUInt32 31)).toInt32 (v1 + (8 : Int32)) H locs ls hf (lv_sub hl [0, 1] rfl) hh
  unfold fJ6_numberOfTrailingZeros_0f7a4 at hf
  refine (fun (hmain : ∀ (H : Heap) (locs : List Loc), zW K A s H locs ([]) → W p l e ({ frames := 0, cells := 0, slots := 0, locals := 0 } : Room) s m ([.int p0] : List Value).toArray below meth c H locs 0 0 Q (F0 m 0 ls [])) => hmain s.heap [] hh) (fun H locs hh => ?_)
  refine lv_iload_n hx hb dJ6_numberOfTrailingZeros_0f7a4_0 rfl (lv_at hl 0 rfl) ?_
  refine lv_iconst (v := (-1 : Int32)) hx hb dJ6_numberOfTrailingZeros_0f7a4_1 (by decide) ?_
  refine lv_ixor hx hb dJ6_numberOfTrailingZeros_0f7a4_2 ?_
  refine lv_iload_n hx hb dJ6_numberOfTrailingZeros_0f7a4_3 rfl (lv_at hl 0 rfl) ?_
  refine lv_iconst (v := (1 : Int32)) hx hb dJ6_numberOfTrailingZeros_0f7a4_4 (by decide) ?_
  refine lv_isub hx hb dJ6_numberOfTrailingZeros_0f7a4_5 ?_
  refine lv_iand hx hb dJ6_numberOfTrailingZeros_0f7a4_6 ?_
  refine lv_istore_n (lv' := [(0, .int ((p0 ^^^ (-1 : Int32)) &&& (p0 - (1 : Int32))))]) hx hb dJ6_numberOfTrailingZeros_0f7a4_7 rfl hl (by decide) rfl (fun ls hl => ?_)
  refine lv_iload_n hx hb dJ6_numberOfTrailingZeros_0f7a4_8 rfl (lv_at hl 0 rfl) ?_
  refine lv_if_gt (tgt := 17) hx hb dJ6_numberOfTrailingZeros_0f7a4_9 (by decide) (fun c4 => ?_) (fun c4 => ?_)
  · replace hf := (if_pos c4).symm.trans hf
    refine lv_iconst (v := (1 : Int32)) hx hb dJ6_numberOfTrailingZeros_0f7a4_17 (by decide) ?_
    refine lv_istore_n (lv' := [(1, .int (1 : Int32)), (0, .int ((p0 ^^^ (-1 : Int32)) &&& (p0 - (1 : Int32))))]) hx hb dJ6_numberOfTrailingZeros_0f7a4_18 rfl hl (by decide) rfl (fun ls hl => ?_)
    refine lv_iload_n hx hb dJ6_numberOfTrailingZeros_0f7a4_19 rfl (lv_at hl 1 rfl) ?_
    refine lv_ldcw (v := (65536 : Int32)) hx hb X.1.2.2.2.1 (X.1.2.2.2.2 _ mmJ6_numberOfTrailingZeros_0f7a4_0) dJ6_numberOfTrailingZeros_0f7a4_20 ?_
    refine lv_icmp_le (tgt := 34) hx hb dJ6_numberOfTrailingZeros_0f7a4_23 (by decide) (fun c5 => ?_) (fun c5 => ?_)
    · replace hf := (if_pos c5).symm.trans hf
      exact hJ34 ((p0 ^^^ (-1 : Int32)) &&& (p0 - (1 : Int32))) (1 : Int32) H locs ls hf (lv_sub hl [1, 0] rfl) hh
    · replace hf := (if_neg c5).symm.trans hf
      refine lv_iinc (v := ((1 : Int32) + (16 : Int32))) (lv' := [(1, .int ((1 : Int32) + (16 : Int32))), (0, .int ((p0 ^^^ (-1 : Int32)) &&& (p0 - (1 : Int32))))]) hx hb dJ6_numberOfTrailingZeros_0f7a4_26 hl (k := 0) rfl rfl (by decide) rfl (fun ls hl => ?_)
      refine lv_iload_n hx hb dJ6_numberOfTrailingZeros_0f7a4_29 rfl (lv_at hl 1 rfl) ?_
      refine lv_bipush (v := (16 : Int32)) hx hb dJ6_numberOfTrailingZeros_0f7a4_30 (by decide) ?_
      refine lv_iushr (v := (((p0 ^^^ (-1 : Int32)) &&& (p0 - (1 : Int32))).toUInt32 >>> ((16 : Int32).toUInt32 &&& Int32.toUInt32 31)).toInt32) hx hb dJ6_numberOfTrailingZeros_0f7a4_32 rfl ?_
      refine lv_istore_n (lv' := [(0, .int (((p0 ^^^ (-1 : Int32)) &&& (p0 - (1 : Int32))).toUInt32 >>> ((16 : Int32).toUInt32 &&& Int32.toUInt32 31)).toInt32), (1, .int ((1 : Int32) + (16 : Int32)))]) hx hb dJ6_numberOfTrailingZeros_0f7a4_33 rfl hl (by decide) rfl (fun ls hl => ?_)
      exact hJ34 (((p0 ^^^ (-1 : Int32)) &&& (p0 - (1 : Int32))).toUInt32 >>> ((16 : Int32).toUInt32 &&& Int32.toUInt32 31)).toInt32 ((1 : Int32) + (16 : Int32)) H locs ls hf (lv_sub hl [0, 1] rfl) hh
  · replace hf := (if_neg c4).symm.trans hf
    refine lv_iload_n hx hb dJ6_numberOfTrailingZeros_0f7a4_12 rfl (lv_at hl 0 rfl) ?_
    refine lv_bipush (v := (32 : Int32)) hx hb dJ6_numberOfTrailingZeros_0f7a4_13 (by decide) ?_
    refine lv_iand hx hb dJ6_numberOfTrailingZeros_0f7a4_15 ?_
    exact hr2 16 ls H locs (((p0 ^^^ (-1 : Int32)) &&& (p0 - (1 : Int32))) &&& (32 : Int32)) hf dJ6_numberOfTrailingZeros_0f7a4_16 hh
theorem mmJ13_bitCount_95d88_0 : Cond.constantLong RJ13 318 (1085102592571150095) ∈ wsJ13_bitCount_95d88 := by decide +kernel
theorem mmJ13_bitCount_95d88_1 : Cond.constantLong RJ13 316 (3689348814741910323) ∈ wsJ13_bitCount_95d88 := by decide +kernel
theorem mmJ13_bitCount_95d88_2 : Cond.constantLong RJ13 314 (6148914691236517205) ∈ wsJ13_bitCount_95d88 := by decide +kernel
theorem hdJ13_bitCount_95d88 : yJ13_bitCount_95d88.cls ≠ "java/lang/invoke/MethodHandle" ∧ yJ13_bitCount_95d88.cls ≠ "java/lang/invoke/VarHandle" ∧ (parseMethodDescriptor yJ13_bitCount_95d88.desc).map (fun d => d.parameters.length) = some 1 := by decide +kernel
set_option maxHeartbeats 4000000 in
set_option maxRecDepth 100000 in
theorem kJ13_bitCount_95d88 (l : Launch) (K : zK) (p0 : Int64) (R : Int32) (hf : fJ13_bitCount_95d88 p0 = R) : zC l yJ13_bitCount_95d88 wsJ13_bitCount_95d88 ({ frames := 0, cells := 0, slots := 0, locals := 0 } : Room) K [.long p0] ([]) (some (.int R)) ([]) := by
  refine zC_i R (cc := cJ13_bitCount_95d88) (maxL := 2) (by decide +kernel) rfl (Nat.le_of_ble_eq_true rfl) rfl rfl ?_
  intro p e s m below meth c Q A X hret ls hl hh
  have X : zX p m c cJ13_bitCount_95d88 2 s ([.long p0] : List Value).toArray wsJ13_bitCount_95d88 RJ13 K A := X
  have hx := X.1.1
  have hb := X.1.2.1
  have hr2 : ∀ (pc : Nat) (ls : Array Slot) (H : Heap) (locs : List Loc) (v : Int32), v = R → decode cJ13_bitCount_95d88 pc = .ok (.ireturn, 1) → zW K A s H locs ([]) → W p l e ({ frames := 0, cells := 0, slots := 0, locals := 0 } : Room) s m ([.long p0] : List Value).toArray below meth c H locs 0 0 Q (F0 m pc ls [.int v]) := by
    intro pc ls H locs v h hd hh
    cases h; exact hret pc ls H locs _ rfl hd hh
  have hl : lv_has ls 2 [(0, .long p0)] := hl
  have hJ55 : ∀ (v0 : Int64), ∀ (H : Heap) (locs : List Loc) (ls : Array Slot), fJ13_bitCount_95d88_j55 v0 = R → lv_has ls 2 [(0, .long v0)] → zW K A s H locs ([]) → W p l e ({ frames := 0, cells := 0, slots := 0, locals := 0 } : Room) s m ([.long p0] : List Value).toArray below meth c H locs 0 0 Q (F0 m 55 ls []) := by
    intro v0 H locs ls hf hl hh
    unfold fJ13_bitCount_95d88_j55 at hf
    refine lv_lload_n hx hb dJ13_bitCount_95d88_55 rfl (lv_at hl 0 rfl) ?_
    refine lv_l2i (v := v0.toInt32) hx hb dJ13_bitCount_95d88_56 rfl ?_
    refine lv_bipush (v := (127 : Int32)) hx hb dJ13_bitCount_95d88_57 (by decide) ?_
    refine lv_iand hx hb dJ13_bitCount_95d88_59 ?_
    exact hr2 60 ls H locs (v0.toInt32 &&& (127 : Int32)) hf dJ13_bitCount_95d88_60 hh
  have hJ48 : ∀ (v0 : Int64), ∀ (H : Heap) (locs : List Loc) (ls : Array Slot), fJ13_bitCount_95d88_j48 v0 = R → lv_has ls 2 [(0, .long v0)] → zW K A s H locs ([]) → W p l e ({ frames := 0, cells := 0, slots := 0, locals := 0 } : Room) s m ([.long p0] : List Value).toArray below meth c H locs 0 0 Q (F0 m 48 ls []) := by
    intro v0 H locs ls hf hl hh
    unfold fJ13_bitCount_95d88_j48 at hf
    refine lv_lload_n hx hb dJ13_bitCount_95d88_48 rfl (lv_at hl 0 rfl) ?_
    refine lv_lload_n hx hb dJ13_bitCount_95d88_49 rfl (lv_at hl 0 rfl) ?_
    refine lv_bipush (v := (32 : Int32)) hx hb dJ13_bitCount_95d88_50 (by decide) ?_
    refine lv_lushr (v := (v0.toUInt64 >>> ((32 : Int32).toInt64.toUInt64 &&& Int64.toUInt64 63)).toInt64) hx hb dJ13_bitCount_95d88_52 rfl ?_
    refine lv_ladd hx hb dJ13_bitCount_95d88_53 ?_
    refine lv_lstore_n (lv' := [(0, .long (v0 + (v0.toUInt64 >>> ((32 : Int32).toInt64.toUInt64 &&& Int64.toUInt64 63)).toInt64))]) hx hb dJ13_bitCount_95d88_54 rfl hl (by decide) rfl (fun ls hl => ?_)
    exact hJ55 (v0 + (v0.toUInt64 >>> ((32 : Int32).toInt64.toUInt64 &&& Int64.toUInt64 63)).toInt64) H locs ls hf (lv_sub hl [0] rfl) hh
  have hJ41 : ∀ (v0 : Int64), ∀ (H : Heap) (locs : List Loc) (ls : Array Slot), fJ13_bitCount_95d88_j41 v0 = R → lv_has ls 2 [(0, .long v0)] → zW K A s H locs ([]) → W p l e ({ frames := 0, cells := 0, slots := 0, locals := 0 } : Room) s m ([.long p0] : List Value).toArray below meth c H locs 0 0 Q (F0 m 41 ls []) := by
    intro v0 H locs ls hf hl hh
    unfold fJ13_bitCount_95d88_j41 at hf
    refine lv_lload_n hx hb dJ13_bitCount_95d88_41 rfl (lv_at hl 0 rfl) ?_
    refine lv_lload_n hx hb dJ13_bitCount_95d88_42 rfl (lv_at hl 0 rfl) ?_
    refine lv_bipush (v := (16 : Int32)) hx hb dJ13_bitCount_95d88_43 (by decide) ?_
    refine lv_lushr (v := (v0.toUInt64 >>> ((16 : Int32).toInt64.toUInt64 &&& Int64.toUInt64 63)).toInt64) hx hb dJ13_bitCount_95d88_45 rfl ?_
    refine lv_ladd hx hb dJ13_bitCount_95d88_46 ?_
    refine lv_lstore_n (lv' := [(0, .long (v0 + (v0.toUInt64 >>> ((16 : Int32).toInt64.toUInt64 &&& Int64.toUInt64 63)).toInt64))]) hx hb dJ13_bitCount_95d88_47 rfl hl (by decide) rfl (fun ls hl => ?_)
    exact hJ48 (v0 + (v0.toUInt64 >>> ((16 : Int32).toInt64.toUInt64 &&& Int64.toUInt64 63)).toInt64) H locs ls hf (lv_sub hl [0] rfl) hh
  have hJ34 : ∀ (v0 : Int64), ∀ (H : Heap) (locs : List Loc) (ls : Array Slot), fJ13_bitCount_95d88_j34 v0 = R → lv_has ls 2 [(0, .long v0)] → zW K A s H locs ([]) → W p l e ({ frames := 0, cells := 0, slots := 0, locals := 0 } : Room) s m ([.long p0] : List Value).toArray below meth c H locs 0 0 Q (F0 m 34 ls []) := by
    intro v0 H locs ls hf hl hh
    unfold fJ13_bitCount_95d88_j34 at hf
    refine lv_lload_n hx hb dJ13_bitCount_95d88_34 rfl (lv_at hl 0 rfl) ?_
    refine lv_lload_n hx hb dJ13_bitCount_95d88_35 rfl (lv_at hl 0 rfl) ?_
    refine lv_bipush (v := (8 : Int32)) hx hb dJ13_bitCount_95d88_36 (by decide) ?_
    refine lv_lushr (v := (v0.toUInt64 >>> ((8 : Int32).toInt64.toUInt64 &&& Int64.toUInt64 63)).toInt64) hx hb dJ13_bitCount_95d88_38 rfl ?_
    refine lv_ladd hx hb dJ13_bitCount_95d88_39 ?_
    refine lv_lstore_n (lv' := [(0, .long (v0 + (v0.toUInt64 >>> ((8 : Int32).toInt64.toUInt64 &&& Int64.toUInt64 63)).toInt64))]) hx hb dJ13_bitCount_95d88_40 rfl hl (by decide) rfl (fun ls hl => ?_)
    exact hJ41 (v0 + (v0.toUInt64 >>> ((8 : Int32).toInt64.toUInt64 &&& Int64.toUInt64 63)).toInt64) H locs ls hf (lv_sub hl [0] rfl) hh
  have hJ24 : ∀ (v0 : Int64), ∀ (H : Heap) (locs : List Loc) (ls : Array Slot), fJ13_bitCount_95d88_j24 v0 = R → lv_has ls 2 [(0, .long v0)] → zW K A s H locs ([]) → W p l e ({ frames := 0, cells := 0, slots := 0, locals := 0 } : Room) s m ([.long p0] : List Value).toArray below meth c H locs 0 0 Q (F0 m 24 ls []) := by
    intro v0 H locs ls hf hl hh
    unfold fJ13_bitCount_95d88_j24 at hf
    refine lv_lload_n hx hb dJ13_bitCount_95d88_24 rfl (lv_at hl 0 rfl) ?_
    refine lv_lload_n hx hb dJ13_bitCount_95d88_25 rfl (lv_at hl 0 rfl) ?_
    refine lv_iconst (v := (4 : Int32)) hx hb dJ13_bitCount_95d88_26 (by decide) ?_
    refine lv_lushr (v := (v0.toUInt64 >>> ((4 : Int32).toInt64.toUInt64 &&& Int64.toUInt64 63)).toInt64) hx hb dJ13_bitCount_95d88_27 rfl ?_
    refine lv_ladd hx hb dJ13_bitCount_95d88_28 ?_
    refine lv_ldc2 (v := (1085102592571150095 : Int64)) hx hb X.1.2.2.2.1 (X.1.2.2.2.2 _ mmJ13_bitCount_95d88_0) dJ13_bitCount_95d88_29 ?_
    refine lv_land hx hb dJ13_bitCount_95d88_32 ?_
    refine lv_lstore_n (lv' := [(0, .long ((v0 + (v0.toUInt64 >>> ((4 : Int32).toInt64.toUInt64 &&& Int64.toUInt64 63)).toInt64) &&& (1085102592571150095 : Int64)))]) hx hb dJ13_bitCount_95d88_33 rfl hl (by decide) rfl (fun ls hl => ?_)
    exact hJ34 ((v0 + (v0.toUInt64 >>> ((4 : Int32).toInt64.toUInt64 &&& Int64.toUInt64 63)).toInt64) &&& (1085102592571150095 : Int64)) H locs ls hf (lv_sub hl [0] rfl) hh
  have hJ10 : ∀ (v0 : Int64), ∀ (H : Heap) (locs : List Loc) (ls : Array Slot), fJ13_bitCount_95d88_j10 v0 = R → lv_has ls 2 [(0, .long v0)] → zW K A s H locs ([]) → W p l e ({ frames := 0, cells := 0, slots := 0, locals := 0 } : Room) s m ([.long p0] : List Value).toArray below meth c H locs 0 0 Q (F0 m 10 ls []) := by
    intro v0 H locs ls hf hl hh
    unfold fJ13_bitCount_95d88_j10 at hf
    refine lv_lload_n hx hb dJ13_bitCount_95d88_10 rfl (lv_at hl 0 rfl) ?_
    refine lv_ldc2 (v := (3689348814741910323 : Int64)) hx hb X.1.2.2.2.1 (X.1.2.2.2.2 _ mmJ13_bitCount_95d88_1) dJ13_bitCount_95d88_11 ?_
    refine lv_land hx hb dJ13_bitCount_95d88_14 ?_
    refine lv_lload_n hx hb dJ13_bitCount_95d88_15 rfl (lv_at hl 0 rfl) ?_
    refine lv_iconst (v := (2 : Int32)) hx hb dJ13_bitCount_95d88_16 (by decide) ?_
    refine lv_lushr (v := (v0.toUInt64 >>> ((2 : Int32).toInt64.toUInt64 &&& Int64.toUInt64 63)).toInt64) hx hb dJ13_bitCount_95d88_17 rfl ?_
    refine lv_ldc2 (v := (3689348814741910323 : Int64)) hx hb X.1.2.2.2.1 (X.1.2.2.2.2 _ mmJ13_bitCount_95d88_1) dJ13_bitCount_95d88_18 ?_
    refine lv_land hx hb dJ13_bitCount_95d88_21 ?_
    refine lv_ladd hx hb dJ13_bitCount_95d88_22 ?_
    refine lv_lstore_n (lv' := [(0, .long ((v0 &&& (3689348814741910323 : Int64)) + ((v0.toUInt64 >>> ((2 : Int32).toInt64.toUInt64 &&& Int64.toUInt64 63)).toInt64 &&& (3689348814741910323 : Int64))))]) hx hb dJ13_bitCount_95d88_23 rfl hl (by decide) rfl (fun ls hl => ?_)
    exact hJ24 ((v0 &&& (3689348814741910323 : Int64)) + ((v0.toUInt64 >>> ((2 : Int32).toInt64.toUInt64 &&& Int64.toUInt64 63)).toInt64 &&& (3689348814741910323 : Int64))) H locs ls hf (lv_sub hl [0] rfl) hh
  unfold fJ13_bitCount_95d88 at hf
  refine (fun (hmain : ∀ (H : Heap) (locs : List Loc), zW K A s H locs ([]) → W p l e ({ frames := 0, cells := 0, slots := 0, locals := 0 } : Room) s m ([.long p0] : List Value).toArray below meth c H locs 0 0 Q (F0 m 0 ls [])) => hmain s.heap [] hh) (fun H locs hh => ?_)
  refine lv_lload_n hx hb dJ13_bitCount_95d88_0 rfl (lv_at hl 0 rfl) ?_
  refine lv_lload_n hx hb dJ13_bitCount_95d88_1 rfl (lv_at hl 0 rfl) ?_
  refine lv_iconst (v := (1 : Int32)) hx hb dJ13_bitCount_95d88_2 (by decide) ?_
  refine lv_lushr (v := (p0.toUInt64 >>> ((1 : Int32).toInt64.toUInt64 &&& Int64.toUInt64 63)).toInt64) hx hb dJ13_bitCount_95d88_3 rfl ?_
  refine lv_ldc2 (v := (6148914691236517205 : Int64)) hx hb X.1.2.2.2.1 (X.1.2.2.2.2 _ mmJ13_bitCount_95d88_2) dJ13_bitCount_95d88_4 ?_
  refine lv_land hx hb dJ13_bitCount_95d88_7 ?_
  refine lv_lsub hx hb dJ13_bitCount_95d88_8 ?_
  refine lv_lstore_n (lv' := [(0, .long (p0 - ((p0.toUInt64 >>> ((1 : Int32).toInt64.toUInt64 &&& Int64.toUInt64 63)).toInt64 &&& (6148914691236517205 : Int64))))]) hx hb dJ13_bitCount_95d88_9 rfl hl (by decide) rfl (fun ls hl => ?_)
  exact hJ10 (p0 - ((p0.toUInt64 >>> ((1 : Int32).toInt64.toUInt64 &&& Int64.toUInt64 63)).toInt64 &&& (6148914691236517205 : Int64))) H locs ls hf (lv_sub hl [0] rfl) hh
theorem hdJ13_numberOfTrailingZeros_95d88 : yJ13_numberOfTrailingZeros_95d88.cls ≠ "java/lang/invoke/MethodHandle" ∧ yJ13_numberOfTrailingZeros_95d88.cls ≠ "java/lang/invoke/VarHandle" ∧ (parseMethodDescriptor yJ13_numberOfTrailingZeros_95d88.desc).map (fun d => d.parameters.length) = some 1 := by decide +kernel
set_option maxHeartbeats 4000000 in
set_option maxRecDepth 100000 in
theorem kJ13_numberOfTrailingZeros_95d88 (l : Launch) (K : zK) (p0 : Int64) (R : Int32) (hf : fJ13_numberOfTrailingZeros_95d88 p0 = R) : zC l yJ13_numberOfTrailingZeros_95d88 wsJ13_numberOfTrailingZeros_95d88 ({ frames := 1, cells := 0, slots := 0, locals := 21 } : Room) K [.long p0] ([]) (some (.int R)) ([]) := by
  refine zC_i R (cc := cJ13_numberOfTrailingZeros_95d88) (maxL := 3) (by decide +kernel) rfl (Nat.le_of_ble_eq_true rfl) rfl rfl ?_
  intro p e s m below meth c Q A X hret ls hl hh
  have X : zX p m c cJ13_numberOfTrailingZeros_95d88 3 s ([.long p0] : List Value).toArray wsJ13_numberOfTrailingZeros_95d88 RJ13 K A := X
  have hx := X.1.1
  have hb := X.1.2.1
  have hr2 : ∀ (pc : Nat) (ls : Array Slot) (H : Heap) (locs : List Loc) (v : Int32), v = R → decode cJ13_numberOfTrailingZeros_95d88 pc = .ok (.ireturn, 1) → zW K A s H locs ([]) → W p l e ({ frames := 1, cells := 0, slots := 0, locals := 21 } : Room) s m ([.long p0] : List Value).toArray below meth c H locs 0 0 Q (F0 m pc ls [.int v]) := by
    intro pc ls H locs v h hd hh
    cases h; exact hret pc ls H locs _ rfl hd hh
  have hl : lv_has ls 3 [(0, .long p0)] := hl
  unfold fJ13_numberOfTrailingZeros_95d88 at hf
  refine (fun (hmain : ∀ (H : Heap) (locs : List Loc), zW K A s H locs ([]) → W p l e ({ frames := 1, cells := 0, slots := 0, locals := 21 } : Room) s m ([.long p0] : List Value).toArray below meth c H locs 0 0 Q (F0 m 0 ls [])) => hmain s.heap [] hh) (fun H locs hh => ?_)
  refine lv_lload_n hx hb dJ13_numberOfTrailingZeros_95d88_0 rfl (lv_at hl 0 rfl) ?_
  refine lv_l2i (v := p0.toInt32) hx hb dJ13_numberOfTrailingZeros_95d88_1 rfl ?_
  refine lv_istore_n (lv' := [(2, .int p0.toInt32), (0, .long p0)]) hx hb dJ13_numberOfTrailingZeros_95d88_2 rfl hl (by decide) rfl (fun ls hl => ?_)
  refine lv_iload_n hx hb dJ13_numberOfTrailingZeros_95d88_3 rfl (lv_at hl 0 rfl) ?_
  refine lv_if_ne (tgt := 21) hx hb dJ13_numberOfTrailingZeros_95d88_4 (by decide) (fun c1 => ?_) (fun c1 => ?_)
  · replace hf := (if_neg c1).symm.trans hf
    refine lv_iload_n hx hb dJ13_numberOfTrailingZeros_95d88_21 rfl (lv_at hl 0 rfl) ?_
    refine zcallS (As := [.int p0.toInt32]) (rest := []) (wr := []) (ws' := []) (ov := some (.int (fJ6_numberOfTrailingZeros_0f7a4 p0.toInt32))) X hh hl (kJ6_numberOfTrailingZeros_0f7a4 l K p0.toInt32 (fJ6_numberOfTrailingZeros_0f7a4 p0.toInt32) rfl) (fun ht => va_cwS 1 ht gJ13_numberOfTrailingZeros_95d88_J6_numberOfTrailingZeros_0f7a4 rfl rfl rfl hdJ6_numberOfTrailingZeros_0f7a4 ⟨Nat.le_of_ble_eq_true rfl, Nat.le_of_ble_eq_true rfl⟩) [] [] [] rfl rfl rfl rfl (by decide) rfl rfl rfl rfl (Nat.le_of_ble_eq_true rfl) dJ13_numberOfTrailingZeros_95d88_22 ⟨Nat.zero_le _, Nat.zero_le _⟩ (fun H locs hh => ?_)
    exact hr2 25 ls H locs (fJ6_numberOfTrailingZeros_0f7a4 p0.toInt32) hf dJ13_numberOfTrailingZeros_95d88_25 hh
  · replace hf := (if_pos c1).symm.trans hf
    refine lv_bipush (v := (32 : Int32)) hx hb dJ13_numberOfTrailingZeros_95d88_7 (by decide) ?_
    refine lv_lload_n hx hb dJ13_numberOfTrailingZeros_95d88_9 rfl (lv_at hl 1 rfl) ?_
    refine lv_bipush (v := (32 : Int32)) hx hb dJ13_numberOfTrailingZeros_95d88_10 (by decide) ?_
    refine lv_lushr (v := (p0.toUInt64 >>> ((32 : Int32).toInt64.toUInt64 &&& Int64.toUInt64 63)).toInt64) hx hb dJ13_numberOfTrailingZeros_95d88_12 rfl ?_
    refine lv_l2i (v := (p0.toUInt64 >>> ((32 : Int32).toInt64.toUInt64 &&& Int64.toUInt64 63)).toInt64.toInt32) hx hb dJ13_numberOfTrailingZeros_95d88_13 rfl ?_
    refine zcallS (As := [.int (p0.toUInt64 >>> ((32 : Int32).toInt64.toUInt64 &&& Int64.toUInt64 63)).toInt64.toInt32]) (rest := [.int (32 : Int32)]) (wr := []) (ws' := []) (ov := some (.int (fJ6_numberOfTrailingZeros_0f7a4 (p0.toUInt64 >>> ((32 : Int32).toInt64.toUInt64 &&& Int64.toUInt64 63)).toInt64.toInt32))) X hh hl (kJ6_numberOfTrailingZeros_0f7a4 l K (p0.toUInt64 >>> ((32 : Int32).toInt64.toUInt64 &&& Int64.toUInt64 63)).toInt64.toInt32 (fJ6_numberOfTrailingZeros_0f7a4 (p0.toUInt64 >>> ((32 : Int32).toInt64.toUInt64 &&& Int64.toUInt64 63)).toInt64.toInt32) rfl) (fun ht => va_cwS 1 ht gJ13_numberOfTrailingZeros_95d88_J6_numberOfTrailingZeros_0f7a4 rfl rfl rfl hdJ6_numberOfTrailingZeros_0f7a4 ⟨Nat.le_of_ble_eq_true rfl, Nat.le_of_ble_eq_true rfl⟩) [] [] [] rfl rfl rfl rfl (by decide) rfl rfl rfl rfl (Nat.le_of_ble_eq_true rfl) dJ13_numberOfTrailingZeros_95d88_14 ⟨Nat.zero_le _, Nat.zero_le _⟩ (fun H locs hh => ?_)
    refine lv_iadd hx hb dJ13_numberOfTrailingZeros_95d88_17 ?_
    refine lv_goto (tgt := 25) hx hb dJ13_numberOfTrailingZeros_95d88_18 (by decide) ?_
    exact hr2 25 ls H locs ((32 : Int32) + (fJ6_numberOfTrailingZeros_0f7a4 (p0.toUInt64 >>> ((32 : Int32).toInt64.toUInt64 &&& Int64.toUInt64 63)).toInt64.toInt32)) hf dJ13_numberOfTrailingZeros_95d88_25 hh
theorem hdX5_isIn : yX5_isIn.cls ≠ "java/lang/invoke/MethodHandle" ∧ yX5_isIn.cls ≠ "java/lang/invoke/VarHandle" ∧ (parseMethodDescriptor yX5_isIn.desc).map (fun d => d.parameters.length) = some 2 := by decide +kernel
set_option maxHeartbeats 4000000 in
set_option maxRecDepth 100000 in
theorem kX5_isIn (l : Launch) (K : zK) (p0 : Int32) (p1 : Int32) (R : Int32) (hf : fX5_isIn p0 p1 = R) : zC l yX5_isIn wsX5_isIn ({ frames := 0, cells := 0, slots := 0, locals := 0 } : Room) K [.int p0, .int p1] ([]) (some (.int R)) ([]) := by
  refine zC_z .boolean R (cc := cX5_isIn) (maxL := 2) (by decide +kernel) rfl (Nat.le_of_ble_eq_true rfl) rfl rfl ?_
  intro p e s m below meth c Q A X hret ls hl hh
  have X : zX p m c cX5_isIn 2 s ([.int p0, .int p1] : List Value).toArray wsX5_isIn RX5 K A := X
  have hx := X.1.1
  have hb := X.1.2.1
  have hr2 : ∀ (pc : Nat) (ls : Array Slot) (H : Heap) (locs : List Loc) (v : Int32), v = R → narrow .boolean (.int v) = .int v → decode cX5_isIn pc = .ok (.ireturn, 1) → zW K A s H locs ([]) → W p l e ({ frames := 0, cells := 0, slots := 0, locals := 0 } : Room) s m ([.int p0, .int p1] : List Value).toArray below meth c H locs 0 0 Q (F0 m pc ls [.int v]) := by
    intro pc ls H locs v h hn hd hh
    cases h; exact hret pc ls H locs _ rfl hn hd hh
  have hl : lv_has ls 2 [(0, .int p0), (1, .int p1)] := hl
  unfold fX5_isIn at hf
  refine (fun (hmain : ∀ (H : Heap) (locs : List Loc), zW K A s H locs ([]) → W p l e ({ frames := 0, cells := 0, slots := 0, locals := 0 } : Room) s m ([.int p0, .int p1] : List Value).toArray below meth c H locs 0 0 Q (F0 m 0 ls [])) => hmain s.heap [] hh) (fun H locs hh => ?_)
  refine lv_iload_n hx hb dX5_isIn_0 rfl (lv_at hl 1 rfl) ?_
  refine lv_if_lt (tgt := 23) hx hb dX5_isIn_1 (by decide) (fun c1 => ?_) (fun c1 => ?_)
  · replace hf := (if_pos c1).symm.trans hf
    refine lv_iconst (v := (0 : Int32)) hx hb dX5_isIn_23 (by decide) ?_
    exact hr2 24 ls H locs (0 : Int32) hf rfl dX5_isIn_24 hh
  · replace hf := (if_neg c1).symm.trans hf
    refine lv_iload_n hx hb dX5_isIn_4 rfl (lv_at hl 1 rfl) ?_
    refine lv_bipush (v := (12 : Int32)) hx hb dX5_isIn_5 (by decide) ?_
    refine lv_icmp_ge (tgt := 23) hx hb dX5_isIn_7 (by decide) (fun c2 => ?_) (fun c2 => ?_)
    · replace hf := (if_pos c2).symm.trans hf
      refine lv_iconst (v := (0 : Int32)) hx hb dX5_isIn_23 (by decide) ?_
      exact hr2 24 ls H locs (0 : Int32) hf rfl dX5_isIn_24 hh
    · replace hf := (if_neg c2).symm.trans hf
      refine lv_iload_n hx hb dX5_isIn_10 rfl (lv_at hl 0 rfl) ?_
      refine lv_iload_n hx hb dX5_isIn_11 rfl (lv_at hl 1 rfl) ?_
      refine lv_ishr hx hb dX5_isIn_12 ?_
      refine lv_iconst (v := (1 : Int32)) hx hb dX5_isIn_13 (by decide) ?_
      refine lv_iand hx hb dX5_isIn_14 ?_
      refine lv_iconst (v := (1 : Int32)) hx hb dX5_isIn_15 (by decide) ?_
      refine lv_icmp_ne (tgt := 23) hx hb dX5_isIn_16 (by decide) (fun c3 => ?_) (fun c3 => ?_)
      · replace hf := (if_neg c3).symm.trans hf
        refine lv_iconst (v := (0 : Int32)) hx hb dX5_isIn_23 (by decide) ?_
        exact hr2 24 ls H locs (0 : Int32) hf rfl dX5_isIn_24 hh
      · replace hf := (if_pos c3).symm.trans hf
        refine lv_iconst (v := (1 : Int32)) hx hb dX5_isIn_19 (by decide) ?_
        refine lv_goto (tgt := 24) hx hb dX5_isIn_20 (by decide) ?_
        exact hr2 24 ls H locs (1 : Int32) hf rfl dX5_isIn_24 hh
theorem hdX5_isKind : yX5_isKind.cls ≠ "java/lang/invoke/MethodHandle" ∧ yX5_isKind.cls ≠ "java/lang/invoke/VarHandle" ∧ (parseMethodDescriptor yX5_isKind.desc).map (fun d => d.parameters.length) = some 1 := by decide +kernel
set_option maxHeartbeats 4000000 in
set_option maxRecDepth 100000 in
theorem kX5_isKind (l : Launch) (K : zK) (p0 : Int32) (R : Int32) (hf : fX5_isKind p0 = R) : zC l yX5_isKind wsX5_isKind ({ frames := 0, cells := 0, slots := 0, locals := 0 } : Room) K [.int p0] ([]) (some (.int R)) ([]) := by
  refine zC_z .boolean R (cc := cX5_isKind) (maxL := 1) (by decide +kernel) rfl (Nat.le_of_ble_eq_true rfl) rfl rfl ?_
  intro p e s m below meth c Q A X hret ls hl hh
  have X : zX p m c cX5_isKind 1 s ([.int p0] : List Value).toArray wsX5_isKind RX5 K A := X
  have hx := X.1.1
  have hb := X.1.2.1
  have hr2 : ∀ (pc : Nat) (ls : Array Slot) (H : Heap) (locs : List Loc) (v : Int32), v = R → narrow .boolean (.int v) = .int v → decode cX5_isKind pc = .ok (.ireturn, 1) → zW K A s H locs ([]) → W p l e ({ frames := 0, cells := 0, slots := 0, locals := 0 } : Room) s m ([.int p0] : List Value).toArray below meth c H locs 0 0 Q (F0 m pc ls [.int v]) := by
    intro pc ls H locs v h hn hd hh
    cases h; exact hret pc ls H locs _ rfl hn hd hh
  have hl : lv_has ls 1 [(0, .int p0)] := hl
  unfold fX5_isKind at hf
  refine (fun (hmain : ∀ (H : Heap) (locs : List Loc), zW K A s H locs ([]) → W p l e ({ frames := 0, cells := 0, slots := 0, locals := 0 } : Room) s m ([.int p0] : List Value).toArray below meth c H locs 0 0 Q (F0 m 0 ls [])) => hmain s.heap [] hh) (fun H locs hh => ?_)
  refine lv_iload_n hx hb dX5_isKind_0 rfl (lv_at hl 0 rfl) ?_
  refine lv_if_lt (tgt := 13) hx hb dX5_isKind_1 (by decide) (fun c1 => ?_) (fun c1 => ?_)
  · replace hf := (if_pos c1).symm.trans hf
    refine lv_iconst (v := (0 : Int32)) hx hb dX5_isKind_13 (by decide) ?_
    exact hr2 14 ls H locs (0 : Int32) hf rfl dX5_isKind_14 hh
  · replace hf := (if_neg c1).symm.trans hf
    refine lv_iload_n hx hb dX5_isKind_4 rfl (lv_at hl 0 rfl) ?_
    refine lv_iconst (v := (5 : Int32)) hx hb dX5_isKind_5 (by decide) ?_
    refine lv_icmp_gt (tgt := 13) hx hb dX5_isKind_6 (by decide) (fun c2 => ?_) (fun c2 => ?_)
    · replace hf := (if_pos c2).symm.trans hf
      refine lv_iconst (v := (0 : Int32)) hx hb dX5_isKind_13 (by decide) ?_
      exact hr2 14 ls H locs (0 : Int32) hf rfl dX5_isKind_14 hh
    · replace hf := (if_neg c2).symm.trans hf
      refine lv_iconst (v := (1 : Int32)) hx hb dX5_isKind_9 (by decide) ?_
      refine lv_goto (tgt := 14) hx hb dX5_isKind_10 (by decide) ?_
      exact hr2 14 ls H locs (1 : Int32) hf rfl dX5_isKind_14 hh
theorem inX5_has_X5 : ∀ w ∈ wsX50, w ∈ wsX5_has := by decide +kernel
theorem mmX5_has_0 : Cond.fieldLink RX5 36 "SumOfTwoThatStand$Street" "came" "I" ∈ wsX5_has := by decide +kernel
theorem hdX5_has : yX5_has.cls ≠ "java/lang/invoke/MethodHandle" ∧ yX5_has.cls ≠ "java/lang/invoke/VarHandle" ∧ (parseMethodDescriptor yX5_has.desc).map (fun d => d.parameters.length) = some 1 := by decide +kernel
set_option maxHeartbeats 4000000 in
set_option maxRecDepth 100000 in
theorem kX5_has (l : Launch) (K : zK) (a0 a1 a2 a3 a4 a5 a6 a7 : Nat) (S : zSt) (p1 : Int32) (R : Int32) (hf : fX5_has S p1 = R) : zC l yX5_has wsX5_has ({ frames := 0, cells := 0, slots := 0, locals := 0 } : Room) K [.ref a0, .int p1] (cSt K a0 a1 a2 a3 a4 a5 a6 a7 S) (some (.int R)) (cSt K a0 a1 a2 a3 a4 a5 a6 a7 S) := by
  refine zC_z .boolean R (cc := cX5_has) (maxL := 2) (by decide +kernel) rfl (Nat.le_of_ble_eq_true rfl) rfl rfl ?_
  intro p e s m below meth c Q A X hret ls hl hh
  have X : zX p m c cX5_has 2 s ([.ref a0, .int p1] : List Value).toArray wsX5_has RX5 K A := X
  have hx := X.1.1
  have hb := X.1.2.1
  have hr2 : ∀ (pc : Nat) (ls : Array Slot) (H : Heap) (locs : List Loc) (v : Int32), v = R → narrow .boolean (.int v) = .int v → decode cX5_has pc = .ok (.ireturn, 1) → zW K A s H locs (cSt K a0 a1 a2 a3 a4 a5 a6 a7 S) → W p l e ({ frames := 0, cells := 0, slots := 0, locals := 0 } : Room) s m ([.ref a0, .int p1] : List Value).toArray below meth c H locs 0 0 Q (F0 m pc ls [.int v]) := by
    intro pc ls H locs v h hn hd hh
    cases h; exact hret pc ls H locs _ rfl hn hd hh
  have hl : lv_has ls 2 [(0, .ref a0), (1, .int p1)] := hl
  unfold fX5_has at hf
  refine (fun (hmain : ∀ (H : Heap) (locs : List Loc), zW K A s H locs (cSt K a0 a1 a2 a3 a4 a5 a6 a7 S) → W p l e ({ frames := 0, cells := 0, slots := 0, locals := 0 } : Room) s m ([.ref a0, .int p1] : List Value).toArray below meth c H locs 0 0 Q (F0 m 0 ls [])) => hmain s.heap [] hh) (fun H locs hh => ?_)
  refine lv_iload_n hx hb dX5_has_0 rfl (lv_at hl 1 rfl) ?_
  refine lv_if_lt (tgt := 16) hx hb dX5_has_1 (by decide) (fun c1 => ?_) (fun c1 => ?_)
  · replace hf := (if_pos c1).symm.trans hf
    refine lv_iconst (v := (0 : Int32)) hx hb dX5_has_16 (by decide) ?_
    exact hr2 17 ls H locs (0 : Int32) hf rfl dX5_has_17 hh
  · replace hf := (if_neg c1).symm.trans hf
    refine lv_iload_n hx hb dX5_has_4 rfl (lv_at hl 1 rfl) ?_
    refine lv_aload_n hx hb dX5_has_5 rfl (lv_at hl 0 rfl) ?_
    refine zget (v := .int (st_came S)) (ref := "SumOfTwoThatStand$Street") (C := RX5) (T := TX5) (N := 11) (index := 36) X hh inX5_has_X5 0 rfl rfl 7 (by decide) mmX5_has_0 rfl rfl dX5_has_6 ?_
    refine lv_icmp_ge (tgt := 16) hx hb dX5_has_9 (by decide) (fun c2 => ?_) (fun c2 => ?_)
    · replace hf := (if_pos c2).symm.trans hf
      refine lv_iconst (v := (0 : Int32)) hx hb dX5_has_16 (by decide) ?_
      exact hr2 17 ls H locs (0 : Int32) hf rfl dX5_has_17 hh
    · replace hf := (if_neg c2).symm.trans hf
      refine lv_iconst (v := (1 : Int32)) hx hb dX5_has_12 (by decide) ?_
      refine lv_goto (tgt := 17) hx hb dX5_has_13 (by decide) ?_
      exact hr2 17 ls H locs (1 : Int32) hf rfl dX5_has_17 hh
theorem inX5_stands_X5 : ∀ w ∈ wsX50, w ∈ wsX5_stands := by decide +kernel
theorem mmX5_stands_0 : Cond.fieldLink RX5 40 "SumOfTwoThatStand$Street" "standing" "I" ∈ wsX5_stands := by decide +kernel
theorem hdX5_stands : yX5_stands.cls ≠ "java/lang/invoke/MethodHandle" ∧ yX5_stands.cls ≠ "java/lang/invoke/VarHandle" ∧ (parseMethodDescriptor yX5_stands.desc).map (fun d => d.parameters.length) = some 1 := by decide +kernel
set_option maxHeartbeats 4000000 in
set_option maxRecDepth 100000 in
theorem kX5_stands (l : Launch) (K : zK) (a0 a1 a2 a3 a4 a5 a6 a7 : Nat) (S : zSt) (p1 : Int32) (R : Int32) (hf : fX5_stands S p1 = R) : zC l yX5_stands wsX5_stands ({ frames := 1, cells := 0, slots := 0, locals := 21 } : Room) K [.ref a0, .int p1] (cSt K a0 a1 a2 a3 a4 a5 a6 a7 S) (some (.int R)) (cSt K a0 a1 a2 a3 a4 a5 a6 a7 S) := by
  refine zC_z .boolean R (cc := cX5_stands) (maxL := 2) (by decide +kernel) rfl (Nat.le_of_ble_eq_true rfl) rfl rfl ?_
  intro p e s m below meth c Q A X hret ls hl hh
  have X : zX p m c cX5_stands 2 s ([.ref a0, .int p1] : List Value).toArray wsX5_stands RX5 K A := X
  have hx := X.1.1
  have hb := X.1.2.1
  have hr2 : ∀ (pc : Nat) (ls : Array Slot) (H : Heap) (locs : List Loc) (v : Int32), v = R → narrow .boolean (.int v) = .int v → decode cX5_stands pc = .ok (.ireturn, 1) → zW K A s H locs (cSt K a0 a1 a2 a3 a4 a5 a6 a7 S) → W p l e ({ frames := 1, cells := 0, slots := 0, locals := 21 } : Room) s m ([.ref a0, .int p1] : List Value).toArray below meth c H locs 0 0 Q (F0 m pc ls [.int v]) := by
    intro pc ls H locs v h hn hd hh
    cases h; exact hret pc ls H locs _ rfl hn hd hh
  have hl : lv_has ls 2 [(0, .ref a0), (1, .int p1)] := hl
  unfold fX5_stands at hf
  refine (fun (hmain : ∀ (H : Heap) (locs : List Loc), zW K A s H locs (cSt K a0 a1 a2 a3 a4 a5 a6 a7 S) → W p l e ({ frames := 1, cells := 0, slots := 0, locals := 21 } : Room) s m ([.ref a0, .int p1] : List Value).toArray below meth c H locs 0 0 Q (F0 m 0 ls [])) => hmain s.heap [] hh) (fun H locs hh => ?_)
  refine lv_aload_n hx hb dX5_stands_0 rfl (lv_at hl 0 rfl) ?_
  refine lv_iload_n hx hb dX5_stands_1 rfl (lv_at hl 1 rfl) ?_
  refine zcallV (ci := 5) (q0 := 0) (As := [.int p1]) (rest := []) (wr := []) (ws' := cSt K a0 a1 a2 a3 a4 a5 a6 a7 S) (ov := some (.int (fX5_has S p1))) X hh hl (kX5_has l K a0 a1 a2 a3 a4 a5 a6 a7 S p1 (fX5_has S p1) rfl) (fun ht => cwV 1 ht gX5_stands_X5_has rfl rfl rfl ⟨rfl, hdX5_has⟩ ⟨Nat.le_of_ble_eq_true rfl, Nat.le_of_ble_eq_true rfl⟩) [0, 1, 2, 3, 4, 5, 6, 7] [] [0, 1, 2, 3, 4, 5, 6, 7] rfl rfl rfl rfl (by decide) rfl rfl rfl rfl rfl rfl (Nat.le_of_ble_eq_true rfl) dX5_stands_2 ⟨Nat.zero_le _, Nat.zero_le _⟩ (fun H locs hh => ?_)
  refine lv_if_eq (tgt := 23) hx hb dX5_stands_5 (by decide) (fun c2 => ?_) (fun c2 => ?_)
  · replace hf := (if_pos c2).symm.trans hf
    refine lv_iconst (v := (0 : Int32)) hx hb dX5_stands_23 (by decide) ?_
    exact hr2 24 ls H locs (0 : Int32) hf rfl dX5_stands_24 hh
  · replace hf := (if_neg c2).symm.trans hf
    refine lv_aload_n hx hb dX5_stands_8 rfl (lv_at hl 0 rfl) ?_
    refine zget (v := .int (st_standing S)) (ref := "SumOfTwoThatStand$Street") (C := RX5) (T := TX5) (N := 11) (index := 40) X hh inX5_stands_X5 0 rfl rfl 8 (by decide) mmX5_stands_0 rfl rfl dX5_stands_9 ?_
    refine lv_iload_n hx hb dX5_stands_12 rfl (lv_at hl 1 rfl) ?_
    refine zcallS (As := [.int (st_standing S), .int p1]) (rest := []) (wr := cSt K a0 a1 a2 a3 a4 a5 a6 a7 S) (ws' := cSt K a0 a1 a2 a3 a4 a5 a6 a7 S) (ov := some (.int (fX5_isIn (st_standing S) p1))) X hh hl (kX5_isIn l K (st_standing S) p1 (fX5_isIn (st_standing S) p1) rfl) (fun ht => va_cwS 2 ht gX5_stands_X5_isIn rfl rfl rfl hdX5_isIn ⟨Nat.le_of_ble_eq_true rfl, Nat.le_of_ble_eq_true rfl⟩) [] [0, 1, 2, 3, 4, 5, 6, 7] [0, 1, 2, 3, 4, 5, 6, 7] rfl rfl rfl rfl (by decide) rfl rfl rfl rfl (Nat.le_of_ble_eq_true rfl) dX5_stands_13 ⟨Nat.zero_le _, Nat.zero_le _⟩ (fun H locs hh => ?_)
    refine lv_if_eq (tgt := 23) hx hb dX5_stands_16 (by decide) (fun c4 => ?_) (fun c4 => ?_)
    · replace hf := (if_pos c4).symm.trans hf
      refine lv_iconst (v := (0 : Int32)) hx hb dX5_stands_23 (by decide) ?_
      exact hr2 24 ls H locs (0 : Int32) hf rfl dX5_stands_24 hh
    · replace hf := (if_neg c4).symm.trans hf
      refine lv_iconst (v := (1 : Int32)) hx hb dX5_stands_19 (by decide) ?_
      refine lv_goto (tgt := 24) hx hb dX5_stands_20 (by decide) ?_
      exact hr2 24 ls H locs (1 : Int32) hf rfl dX5_stands_24 hh
theorem inX5_hasRoom_X5 : ∀ w ∈ wsX50, w ∈ wsX5_hasRoom := by decide +kernel
theorem mmX5_hasRoom_0 : Cond.fieldLink RX5 36 "SumOfTwoThatStand$Street" "came" "I" ∈ wsX5_hasRoom := by decide +kernel
theorem hdX5_hasRoom : yX5_hasRoom.cls ≠ "java/lang/invoke/MethodHandle" ∧ yX5_hasRoom.cls ≠ "java/lang/invoke/VarHandle" ∧ (parseMethodDescriptor yX5_hasRoom.desc).map (fun d => d.parameters.length) = some 0 := by decide +kernel
set_option maxHeartbeats 4000000 in
set_option maxRecDepth 100000 in
theorem kX5_hasRoom (l : Launch) (K : zK) (a0 a1 a2 a3 a4 a5 a6 a7 : Nat) (S : zSt) (R : Int32) (hf : fX5_hasRoom S = R) : zC l yX5_hasRoom wsX5_hasRoom ({ frames := 0, cells := 0, slots := 0, locals := 0 } : Room) K [.ref a0] (cSt K a0 a1 a2 a3 a4 a5 a6 a7 S) (some (.int R)) (cSt K a0 a1 a2 a3 a4 a5 a6 a7 S) := by
  refine zC_z .boolean R (cc := cX5_hasRoom) (maxL := 1) (by decide +kernel) rfl (Nat.le_of_ble_eq_true rfl) rfl rfl ?_
  intro p e s m below meth c Q A X hret ls hl hh
  have X : zX p m c cX5_hasRoom 1 s ([.ref a0] : List Value).toArray wsX5_hasRoom RX5 K A := X
  have hx := X.1.1
  have hb := X.1.2.1
  have hr2 : ∀ (pc : Nat) (ls : Array Slot) (H : Heap) (locs : List Loc) (v : Int32), v = R → narrow .boolean (.int v) = .int v → decode cX5_hasRoom pc = .ok (.ireturn, 1) → zW K A s H locs (cSt K a0 a1 a2 a3 a4 a5 a6 a7 S) → W p l e ({ frames := 0, cells := 0, slots := 0, locals := 0 } : Room) s m ([.ref a0] : List Value).toArray below meth c H locs 0 0 Q (F0 m pc ls [.int v]) := by
    intro pc ls H locs v h hn hd hh
    cases h; exact hret pc ls H locs _ rfl hn hd hh
  have hl : lv_has ls 1 [(0, .ref a0)] := hl
  unfold fX5_hasRoom at hf
  refine (fun (hmain : ∀ (H : Heap) (locs : List Loc), zW K A s H locs (cSt K a0 a1 a2 a3 a4 a5 a6 a7 S) → W p l e ({ frames := 0, cells := 0, slots := 0, locals := 0 } : Room) s m ([.ref a0] : List Value).toArray below meth c H locs 0 0 Q (F0 m 0 ls [])) => hmain s.heap [] hh) (fun H locs hh => ?_)
  refine lv_aload_n hx hb dX5_hasRoom_0 rfl (lv_at hl 0 rfl) ?_
  refine zget (v := .int (st_came S)) (ref := "SumOfTwoThatStand$Street") (C := RX5) (T := TX5) (N := 11) (index := 36) X hh inX5_hasRoom_X5 0 rfl rfl 7 (by decide) mmX5_hasRoom_0 rfl rfl dX5_hasRoom_1 ?_
  refine lv_bipush (v := (12 : Int32)) hx hb dX5_hasRoom_4 (by decide) ?_
  refine lv_icmp_ge (tgt := 13) hx hb dX5_hasRoom_6 (by decide) (fun c1 => ?_) (fun c1 => ?_)
  · replace hf := (if_pos c1).symm.trans hf
    refine lv_iconst (v := (0 : Int32)) hx hb dX5_hasRoom_13 (by decide) ?_
    exact hr2 14 ls H locs (0 : Int32) hf rfl dX5_hasRoom_14 hh
  · replace hf := (if_neg c1).symm.trans hf
    refine lv_iconst (v := (1 : Int32)) hx hb dX5_hasRoom_9 (by decide) ?_
    refine lv_goto (tgt := 14) hx hb dX5_hasRoom_10 (by decide) ?_
    exact hr2 14 ls H locs (1 : Int32) hf rfl dX5_hasRoom_14 hh
theorem inX5_cameCount_X5 : ∀ w ∈ wsX50, w ∈ wsX5_cameCount := by decide +kernel
theorem mmX5_cameCount_0 : Cond.fieldLink RX5 36 "SumOfTwoThatStand$Street" "came" "I" ∈ wsX5_cameCount := by decide +kernel
theorem hdX5_cameCount : yX5_cameCount.cls ≠ "java/lang/invoke/MethodHandle" ∧ yX5_cameCount.cls ≠ "java/lang/invoke/VarHandle" ∧ (parseMethodDescriptor yX5_cameCount.desc).map (fun d => d.parameters.length) = some 0 := by decide +kernel
set_option maxHeartbeats 4000000 in
set_option maxRecDepth 100000 in
theorem kX5_cameCount (l : Launch) (K : zK) (a0 a1 a2 a3 a4 a5 a6 a7 : Nat) (S : zSt) (R : Int32) (hf : fX5_cameCount S = R) : zC l yX5_cameCount wsX5_cameCount ({ frames := 0, cells := 0, slots := 0, locals := 0 } : Room) K [.ref a0] (cSt K a0 a1 a2 a3 a4 a5 a6 a7 S) (some (.int R)) (cSt K a0 a1 a2 a3 a4 a5 a6 a7 S) := by
  refine zC_i R (cc := cX5_cameCount) (maxL := 1) (by decide +kernel) rfl (Nat.le_of_ble_eq_true rfl) rfl rfl ?_
  intro p e s m below meth c Q A X hret ls hl hh
  have X : zX p m c cX5_cameCount 1 s ([.ref a0] : List Value).toArray wsX5_cameCount RX5 K A := X
  have hx := X.1.1
  have hb := X.1.2.1
  have hr2 : ∀ (pc : Nat) (ls : Array Slot) (H : Heap) (locs : List Loc) (v : Int32), v = R → decode cX5_cameCount pc = .ok (.ireturn, 1) → zW K A s H locs (cSt K a0 a1 a2 a3 a4 a5 a6 a7 S) → W p l e ({ frames := 0, cells := 0, slots := 0, locals := 0 } : Room) s m ([.ref a0] : List Value).toArray below meth c H locs 0 0 Q (F0 m pc ls [.int v]) := by
    intro pc ls H locs v h hd hh
    cases h; exact hret pc ls H locs _ rfl hd hh
  have hl : lv_has ls 1 [(0, .ref a0)] := hl
  unfold fX5_cameCount at hf
  refine (fun (hmain : ∀ (H : Heap) (locs : List Loc), zW K A s H locs (cSt K a0 a1 a2 a3 a4 a5 a6 a7 S) → W p l e ({ frames := 0, cells := 0, slots := 0, locals := 0 } : Room) s m ([.ref a0] : List Value).toArray below meth c H locs 0 0 Q (F0 m 0 ls [])) => hmain s.heap [] hh) (fun H locs hh => ?_)
  refine lv_aload_n hx hb dX5_cameCount_0 rfl (lv_at hl 0 rfl) ?_
  refine zget (v := .int (st_came S)) (ref := "SumOfTwoThatStand$Street") (C := RX5) (T := TX5) (N := 11) (index := 36) X hh inX5_cameCount_X5 0 rfl rfl 7 (by decide) mmX5_cameCount_0 rfl rfl dX5_cameCount_1 ?_
  exact hr2 4 ls H locs (st_came S) hf dX5_cameCount_4 hh
theorem inX5_standingCount_X5 : ∀ w ∈ wsX50, w ∈ wsX5_standingCount := by decide +kernel
theorem mmX5_standingCount_0 : Cond.fieldLink RX5 40 "SumOfTwoThatStand$Street" "standing" "I" ∈ wsX5_standingCount := by decide +kernel
theorem hdX5_standingCount : yX5_standingCount.cls ≠ "java/lang/invoke/MethodHandle" ∧ yX5_standingCount.cls ≠ "java/lang/invoke/VarHandle" ∧ (parseMethodDescriptor yX5_standingCount.desc).map (fun d => d.parameters.length) = some 0 := by decide +kernel
set_option maxHeartbeats 4000000 in
set_option maxRecDepth 100000 in
theorem kX5_standingCount (l : Launch) (K : zK) (a0 a1 a2 a3 a4 a5 a6 a7 : Nat) (S : zSt) (R : Int32) (hf : fX5_standingCount S = R) : zC l yX5_standingCount wsX5_standingCount ({ frames := 1, cells := 0, slots := 0, locals := 20 } : Room) K [.ref a0] (cSt K a0 a1 a2 a3 a4 a5 a6 a7 S) (some (.int R)) (cSt K a0 a1 a2 a3 a4 a5 a6 a7 S) := by
  refine zC_i R (cc := cX5_standingCount) (maxL := 1) (by decide +kernel) rfl (Nat.le_of_ble_eq_true rfl) rfl rfl ?_
  intro p e s m below meth c Q A X hret ls hl hh
  have X : zX p m c cX5_standingCount 1 s ([.ref a0] : List Value).toArray wsX5_standingCount RX5 K A := X
  have hx := X.1.1
  have hb := X.1.2.1
  have hr2 : ∀ (pc : Nat) (ls : Array Slot) (H : Heap) (locs : List Loc) (v : Int32), v = R → decode cX5_standingCount pc = .ok (.ireturn, 1) → zW K A s H locs (cSt K a0 a1 a2 a3 a4 a5 a6 a7 S) → W p l e ({ frames := 1, cells := 0, slots := 0, locals := 20 } : Room) s m ([.ref a0] : List Value).toArray below meth c H locs 0 0 Q (F0 m pc ls [.int v]) := by
    intro pc ls H locs v h hd hh
    cases h; exact hret pc ls H locs _ rfl hd hh
  have hl : lv_has ls 1 [(0, .ref a0)] := hl
  unfold fX5_standingCount at hf
  refine (fun (hmain : ∀ (H : Heap) (locs : List Loc), zW K A s H locs (cSt K a0 a1 a2 a3 a4 a5 a6 a7 S) → W p l e ({ frames := 1, cells := 0, slots := 0, locals := 20 } : Room) s m ([.ref a0] : List Value).toArray below meth c H locs 0 0 Q (F0 m 0 ls [])) => hmain s.heap [] hh) (fun H locs hh => ?_)
  refine lv_aload_n hx hb dX5_standingCount_0 rfl (lv_at hl 0 rfl) ?_
  refine zget (v := .int (st_standing S)) (ref := "SumOfTwoThatStand$Street") (C := RX5) (T := TX5) (N := 11) (index := 40) X hh inX5_standingCount_X5 0 rfl rfl 8 (by decide) mmX5_standingCount_0 rfl rfl dX5_standingCount_1 ?_
  refine zcallS (As := [.int (st_standing S)]) (rest := []) (wr := cSt K a0 a1 a2 a3 a4 a5 a6 a7 S) (ws' := cSt K a0 a1 a2 a3 a4 a5 a6 a7 S) (ov := some (.int (fJ6_bitCount_0f7a4 (st_standing S)))) X hh hl (kJ6_bitCount_0f7a4 l K (st_standing S) (fJ6_bitCount_0f7a4 (st_standing S)) rfl) (fun ht => va_cwS 1 ht gX5_standingCount_J6_bitCount_0f7a4 rfl rfl rfl hdJ6_bitCount_0f7a4 ⟨Nat.le_of_ble_eq_true rfl, Nat.le_of_ble_eq_true rfl⟩) [] [0, 1, 2, 3, 4, 5, 6, 7] [0, 1, 2, 3, 4, 5, 6, 7] rfl rfl rfl rfl (by decide) rfl rfl rfl rfl (Nat.le_of_ble_eq_true rfl) dX5_standingCount_4 ⟨Nat.zero_le _, Nat.zero_le _⟩ (fun H locs hh => ?_)
  exact hr2 7 ls H locs (fJ6_bitCount_0f7a4 (st_standing S)) hf dX5_standingCount_7 hh
theorem inX5_standingBits_X5 : ∀ w ∈ wsX50, w ∈ wsX5_standingBits := by decide +kernel
theorem mmX5_standingBits_0 : Cond.fieldLink RX5 40 "SumOfTwoThatStand$Street" "standing" "I" ∈ wsX5_standingBits := by decide +kernel
theorem hdX5_standingBits : yX5_standingBits.cls ≠ "java/lang/invoke/MethodHandle" ∧ yX5_standingBits.cls ≠ "java/lang/invoke/VarHandle" ∧ (parseMethodDescriptor yX5_standingBits.desc).map (fun d => d.parameters.length) = some 0 := by decide +kernel
set_option maxHeartbeats 4000000 in
set_option maxRecDepth 100000 in
theorem kX5_standingBits (l : Launch) (K : zK) (a0 a1 a2 a3 a4 a5 a6 a7 : Nat) (S : zSt) (R : Int32) (hf : fX5_standingBits S = R) : zC l yX5_standingBits wsX5_standingBits ({ frames := 0, cells := 0, slots := 0, locals := 0 } : Room) K [.ref a0] (cSt K a0 a1 a2 a3 a4 a5 a6 a7 S) (some (.int R)) (cSt K a0 a1 a2 a3 a4 a5 a6 a7 S) := by
  refine zC_i R (cc := cX5_standingBits) (maxL := 1) (by decide +kernel) rfl (Nat.le_of_ble_eq_true rfl) rfl rfl ?_
  intro p e s m below meth c Q A X hret ls hl hh
  have X : zX p m c cX5_standingBits 1 s ([.ref a0] : List Value).toArray wsX5_standingBits RX5 K A := X
  have hx := X.1.1
  have hb := X.1.2.1
  have hr2 : ∀ (pc : Nat) (ls : Array Slot) (H : Heap) (locs : List Loc) (v : Int32), v = R → decode cX5_standingBits pc = .ok (.ireturn, 1) → zW K A s H locs (cSt K a0 a1 a2 a3 a4 a5 a6 a7 S) → W p l e ({ frames := 0, cells := 0, slots := 0, locals := 0 } : Room) s m ([.ref a0] : List Value).toArray below meth c H locs 0 0 Q (F0 m pc ls [.int v]) := by
    intro pc ls H locs v h hd hh
    cases h; exact hret pc ls H locs _ rfl hd hh
  have hl : lv_has ls 1 [(0, .ref a0)] := hl
  unfold fX5_standingBits at hf
  refine (fun (hmain : ∀ (H : Heap) (locs : List Loc), zW K A s H locs (cSt K a0 a1 a2 a3 a4 a5 a6 a7 S) → W p l e ({ frames := 0, cells := 0, slots := 0, locals := 0 } : Room) s m ([.ref a0] : List Value).toArray below meth c H locs 0 0 Q (F0 m 0 ls [])) => hmain s.heap [] hh) (fun H locs hh => ?_)
  refine lv_aload_n hx hb dX5_standingBits_0 rfl (lv_at hl 0 rfl) ?_
  refine zget (v := .int (st_standing S)) (ref := "SumOfTwoThatStand$Street") (C := RX5) (T := TX5) (N := 11) (index := 40) X hh inX5_standingBits_X5 0 rfl rfl 8 (by decide) mmX5_standingBits_0 rfl rfl dX5_standingBits_1 ?_
  exact hr2 4 ls H locs (st_standing S) hf dX5_standingBits_4 hh
theorem inX5_sumsLaw_X5 : ∀ w ∈ wsX50, w ∈ wsX5_sumsLaw := by decide +kernel
theorem mmX5_sumsLaw_0 : Cond.fieldLink RX5 53 "SumOfTwoThatStand$Street" "sums" "I" ∈ wsX5_sumsLaw := by decide +kernel
theorem hdX5_sumsLaw : yX5_sumsLaw.cls ≠ "java/lang/invoke/MethodHandle" ∧ yX5_sumsLaw.cls ≠ "java/lang/invoke/VarHandle" ∧ (parseMethodDescriptor yX5_sumsLaw.desc).map (fun d => d.parameters.length) = some 0 := by decide +kernel
set_option maxHeartbeats 4000000 in
set_option maxRecDepth 100000 in
theorem kX5_sumsLaw (l : Launch) (K : zK) (a0 a1 a2 a3 a4 a5 a6 a7 : Nat) (S : zSt) (R : Int32) (hf : fX5_sumsLaw S = R) : zC l yX5_sumsLaw wsX5_sumsLaw ({ frames := 0, cells := 0, slots := 0, locals := 0 } : Room) K [.ref a0] (cSt K a0 a1 a2 a3 a4 a5 a6 a7 S) (some (.int R)) (cSt K a0 a1 a2 a3 a4 a5 a6 a7 S) := by
  refine zC_i R (cc := cX5_sumsLaw) (maxL := 1) (by decide +kernel) rfl (Nat.le_of_ble_eq_true rfl) rfl rfl ?_
  intro p e s m below meth c Q A X hret ls hl hh
  have X : zX p m c cX5_sumsLaw 1 s ([.ref a0] : List Value).toArray wsX5_sumsLaw RX5 K A := X
  have hx := X.1.1
  have hb := X.1.2.1
  have hr2 : ∀ (pc : Nat) (ls : Array Slot) (H : Heap) (locs : List Loc) (v : Int32), v = R → decode cX5_sumsLaw pc = .ok (.ireturn, 1) → zW K A s H locs (cSt K a0 a1 a2 a3 a4 a5 a6 a7 S) → W p l e ({ frames := 0, cells := 0, slots := 0, locals := 0 } : Room) s m ([.ref a0] : List Value).toArray below meth c H locs 0 0 Q (F0 m pc ls [.int v]) := by
    intro pc ls H locs v h hd hh
    cases h; exact hret pc ls H locs _ rfl hd hh
  have hl : lv_has ls 1 [(0, .ref a0)] := hl
  unfold fX5_sumsLaw at hf
  refine (fun (hmain : ∀ (H : Heap) (locs : List Loc), zW K A s H locs (cSt K a0 a1 a2 a3 a4 a5 a6 a7 S) → W p l e ({ frames := 0, cells := 0, slots := 0, locals := 0 } : Room) s m ([.ref a0] : List Value).toArray below meth c H locs 0 0 Q (F0 m 0 ls [])) => hmain s.heap [] hh) (fun H locs hh => ?_)
  refine lv_aload_n hx hb dX5_sumsLaw_0 rfl (lv_at hl 0 rfl) ?_
  refine zget (v := .int (st_sums S)) (ref := "SumOfTwoThatStand$Street") (C := RX5) (T := TX5) (N := 11) (index := 53) X hh inX5_sumsLaw_X5 0 rfl rfl 9 (by decide) mmX5_sumsLaw_0 rfl rfl dX5_sumsLaw_1 ?_
  exact hr2 4 ls H locs (st_sums S) hf dX5_sumsLaw_4 hh
theorem inX5_fallsLaw_X5 : ∀ w ∈ wsX50, w ∈ wsX5_fallsLaw := by decide +kernel
theorem mmX5_fallsLaw_0 : Cond.fieldLink RX5 56 "SumOfTwoThatStand$Street" "falls" "I" ∈ wsX5_fallsLaw := by decide +kernel
theorem hdX5_fallsLaw : yX5_fallsLaw.cls ≠ "java/lang/invoke/MethodHandle" ∧ yX5_fallsLaw.cls ≠ "java/lang/invoke/VarHandle" ∧ (parseMethodDescriptor yX5_fallsLaw.desc).map (fun d => d.parameters.length) = some 0 := by decide +kernel
set_option maxHeartbeats 4000000 in
set_option maxRecDepth 100000 in
theorem kX5_fallsLaw (l : Launch) (K : zK) (a0 a1 a2 a3 a4 a5 a6 a7 : Nat) (S : zSt) (R : Int32) (hf : fX5_fallsLaw S = R) : zC l yX5_fallsLaw wsX5_fallsLaw ({ frames := 0, cells := 0, slots := 0, locals := 0 } : Room) K [.ref a0] (cSt K a0 a1 a2 a3 a4 a5 a6 a7 S) (some (.int R)) (cSt K a0 a1 a2 a3 a4 a5 a6 a7 S) := by
  refine zC_i R (cc := cX5_fallsLaw) (maxL := 1) (by decide +kernel) rfl (Nat.le_of_ble_eq_true rfl) rfl rfl ?_
  intro p e s m below meth c Q A X hret ls hl hh
  have X : zX p m c cX5_fallsLaw 1 s ([.ref a0] : List Value).toArray wsX5_fallsLaw RX5 K A := X
  have hx := X.1.1
  have hb := X.1.2.1
  have hr2 : ∀ (pc : Nat) (ls : Array Slot) (H : Heap) (locs : List Loc) (v : Int32), v = R → decode cX5_fallsLaw pc = .ok (.ireturn, 1) → zW K A s H locs (cSt K a0 a1 a2 a3 a4 a5 a6 a7 S) → W p l e ({ frames := 0, cells := 0, slots := 0, locals := 0 } : Room) s m ([.ref a0] : List Value).toArray below meth c H locs 0 0 Q (F0 m pc ls [.int v]) := by
    intro pc ls H locs v h hd hh
    cases h; exact hret pc ls H locs _ rfl hd hh
  have hl : lv_has ls 1 [(0, .ref a0)] := hl
  unfold fX5_fallsLaw at hf
  refine (fun (hmain : ∀ (H : Heap) (locs : List Loc), zW K A s H locs (cSt K a0 a1 a2 a3 a4 a5 a6 a7 S) → W p l e ({ frames := 0, cells := 0, slots := 0, locals := 0 } : Room) s m ([.ref a0] : List Value).toArray below meth c H locs 0 0 Q (F0 m 0 ls [])) => hmain s.heap [] hh) (fun H locs hh => ?_)
  refine lv_aload_n hx hb dX5_fallsLaw_0 rfl (lv_at hl 0 rfl) ?_
  refine zget (v := .int (st_falls S)) (ref := "SumOfTwoThatStand$Street") (C := RX5) (T := TX5) (N := 11) (index := 56) X hh inX5_fallsLaw_X5 0 rfl rfl 10 (by decide) mmX5_fallsLaw_0 rfl rfl dX5_fallsLaw_1 ?_
  exact hr2 4 ls H locs (st_falls S) hf dX5_fallsLaw_4 hh
theorem inX5_changeLaws_X5 : ∀ w ∈ wsX50, w ∈ wsX5_changeLaws := by decide +kernel
theorem mmX5_changeLaws_0 : Cond.fieldLink RX5 53 "SumOfTwoThatStand$Street" "sums" "I" ∈ wsX5_changeLaws := by decide +kernel
theorem mmX5_changeLaws_1 : Cond.fieldLink RX5 56 "SumOfTwoThatStand$Street" "falls" "I" ∈ wsX5_changeLaws := by decide +kernel
theorem hdX5_changeLaws : yX5_changeLaws.cls ≠ "java/lang/invoke/MethodHandle" ∧ yX5_changeLaws.cls ≠ "java/lang/invoke/VarHandle" ∧ (parseMethodDescriptor yX5_changeLaws.desc).map (fun d => d.parameters.length) = some 2 := by decide +kernel
set_option maxHeartbeats 4000000 in
set_option maxRecDepth 100000 in
theorem kX5_changeLaws (l : Launch) (K : zK) (a0 a1 a2 a3 a4 a5 a6 a7 : Nat) (S : zSt) (p1 : Int32) (p2 : Int32) (R : Int32 × zSt) (hf : fX5_changeLaws S p1 p2 = R) : zC l yX5_changeLaws wsX5_changeLaws ({ frames := 0, cells := 0, slots := 0, locals := 0 } : Room) K [.ref a0, .int p1, .int p2] (cSt K a0 a1 a2 a3 a4 a5 a6 a7 S) (some (.int R.1)) (cSt K a0 a1 a2 a3 a4 a5 a6 a7 R.2) := by
  refine zC_z .boolean R.1 (cc := cX5_changeLaws) (maxL := 3) (by decide +kernel) rfl (Nat.le_of_ble_eq_true rfl) rfl rfl ?_
  intro p e s m below meth c Q A X hret ls hl hh
  have X : zX p m c cX5_changeLaws 3 s ([.ref a0, .int p1, .int p2] : List Value).toArray wsX5_changeLaws RX5 K A := X
  have hx := X.1.1
  have hb := X.1.2.1
  have hr2 : ∀ (pc : Nat) (ls : Array Slot) (H : Heap) (locs : List Loc) (v : Int32) (S : zSt), (v, S) = R → narrow .boolean (.int v) = .int v → decode cX5_changeLaws pc = .ok (.ireturn, 1) → zW K A s H locs (cSt K a0 a1 a2 a3 a4 a5 a6 a7 S) → W p l e ({ frames := 0, cells := 0, slots := 0, locals := 0 } : Room) s m ([.ref a0, .int p1, .int p2] : List Value).toArray below meth c H locs 0 0 Q (F0 m pc ls [.int v]) := by
    intro pc ls H locs v S h hn hd hh
    cases h; exact hret pc ls H locs _ rfl hn hd hh
  have hl : lv_has ls 3 [(0, .ref a0), (1, .int p1), (2, .int p2)] := hl
  unfold fX5_changeLaws at hf
  refine (fun (hmain : ∀ (H : Heap) (locs : List Loc), zW K A s H locs (cSt K a0 a1 a2 a3 a4 a5 a6 a7 S) → W p l e ({ frames := 0, cells := 0, slots := 0, locals := 0 } : Room) s m ([.ref a0, .int p1, .int p2] : List Value).toArray below meth c H locs 0 0 Q (F0 m 0 ls [])) => hmain s.heap [] hh) (fun H locs hh => ?_)
  refine lv_iload_n hx hb dX5_changeLaws_0 rfl (lv_at hl 1 rfl) ?_
  refine lv_if_lt (tgt := 18) hx hb dX5_changeLaws_1 (by decide) (fun c1 => ?_) (fun c1 => ?_)
  · replace hf := (if_pos c1).symm.trans hf
    refine lv_iconst (v := (0 : Int32)) hx hb dX5_changeLaws_18 (by decide) ?_
    exact hr2 19 ls H locs (0 : Int32) S hf rfl dX5_changeLaws_19 hh
  · replace hf := (if_neg c1).symm.trans hf
    refine lv_iload_n hx hb dX5_changeLaws_4 rfl (lv_at hl 1 rfl) ?_
    refine lv_iconst (v := (2 : Int32)) hx hb dX5_changeLaws_5 (by decide) ?_
    refine lv_icmp_gt (tgt := 18) hx hb dX5_changeLaws_6 (by decide) (fun c2 => ?_) (fun c2 => ?_)
    · replace hf := (if_pos c2).symm.trans hf
      refine lv_iconst (v := (0 : Int32)) hx hb dX5_changeLaws_18 (by decide) ?_
      exact hr2 19 ls H locs (0 : Int32) S hf rfl dX5_changeLaws_19 hh
    · replace hf := (if_neg c2).symm.trans hf
      refine lv_iload_n hx hb dX5_changeLaws_9 rfl (lv_at hl 2 rfl) ?_
      refine lv_if_lt (tgt := 18) hx hb dX5_changeLaws_10 (by decide) (fun c3 => ?_) (fun c3 => ?_)
      · replace hf := (if_pos c3).symm.trans hf
        refine lv_iconst (v := (0 : Int32)) hx hb dX5_changeLaws_18 (by decide) ?_
        exact hr2 19 ls H locs (0 : Int32) S hf rfl dX5_changeLaws_19 hh
      · replace hf := (if_neg c3).symm.trans hf
        refine lv_iload_n hx hb dX5_changeLaws_13 rfl (lv_at hl 2 rfl) ?_
        refine lv_iconst (v := (1 : Int32)) hx hb dX5_changeLaws_14 (by decide) ?_
        refine lv_icmp_le (tgt := 20) hx hb dX5_changeLaws_15 (by decide) (fun c4 => ?_) (fun c4 => ?_)
        · replace hf := (if_pos c4).symm.trans hf
          refine lv_aload_n hx hb dX5_changeLaws_20 rfl (lv_at hl 0 rfl) ?_
          refine lv_iload_n hx hb dX5_changeLaws_21 rfl (lv_at hl 1 rfl) ?_
          refine zput (v := .int p1) (ty := .int) (ref := "SumOfTwoThatStand$Street") (C := RX5) (T := TX5) (N := 11) (index := 53) X hh inX5_changeLaws_X5 tyX5 tyX5_ok nmX5 0 rfl rfl 9 (by decide) mmX5_changeLaws_0 rfl rfl (by decide +kernel) rfl rfl (Nat.le_of_ble_eq_true rfl) dX5_changeLaws_22 (fun H locs hh => ?_)
          have hh : zW K A s H locs (cSt K a0 a1 a2 a3 a4 a5 a6 a7 (st_set_sums S p1)) := hh
          refine lv_aload_n hx hb dX5_changeLaws_25 rfl (lv_at hl 0 rfl) ?_
          refine lv_iload_n hx hb dX5_changeLaws_26 rfl (lv_at hl 2 rfl) ?_
          refine zput (v := .int p2) (ty := .int) (ref := "SumOfTwoThatStand$Street") (C := RX5) (T := TX5) (N := 11) (index := 56) X hh inX5_changeLaws_X5 tyX5 tyX5_ok nmX5 0 rfl rfl 10 (by decide) mmX5_changeLaws_1 rfl rfl (by decide +kernel) rfl rfl (Nat.le_of_ble_eq_true rfl) dX5_changeLaws_27 (fun H locs hh => ?_)
          have hh : zW K A s H locs (cSt K a0 a1 a2 a3 a4 a5 a6 a7 (st_set_falls (st_set_sums S p1) p2)) := hh
          refine lv_iconst (v := (1 : Int32)) hx hb dX5_changeLaws_30 (by decide) ?_
          exact hr2 31 ls H locs (1 : Int32) (st_set_falls (st_set_sums S p1) p2) hf rfl dX5_changeLaws_31 hh
        · replace hf := (if_neg c4).symm.trans hf
          refine lv_iconst (v := (0 : Int32)) hx hb dX5_changeLaws_18 (by decide) ?_
          exact hr2 19 ls H locs (0 : Int32) S hf rfl dX5_changeLaws_19 hh
theorem inX5_tell_X5 : ∀ w ∈ wsX50, w ∈ wsX5_tell := by decide +kernel
theorem mmX5_tell_0 : Cond.fieldLink RX5 9 "SumOfTwoThatStand$Street" "kinds" "[I" ∈ wsX5_tell := by decide +kernel
theorem mmX5_tell_1 : Cond.fieldLink RX5 15 "SumOfTwoThatStand$Street" "figures" "[I" ∈ wsX5_tell := by decide +kernel
theorem mmX5_tell_2 : Cond.fieldLink RX5 18 "SumOfTwoThatStand$Street" "numbers" "[I" ∈ wsX5_tell := by decide +kernel
theorem mmX5_tell_3 : Cond.fieldLink RX5 21 "SumOfTwoThatStand$Street" "firsts" "[I" ∈ wsX5_tell := by decide +kernel
theorem mmX5_tell_4 : Cond.fieldLink RX5 24 "SumOfTwoThatStand$Street" "seconds" "[I" ∈ wsX5_tell := by decide +kernel
theorem mmX5_tell_5 : Cond.fieldLink RX5 40 "SumOfTwoThatStand$Street" "standing" "I" ∈ wsX5_tell := by decide +kernel
theorem mmX5_tell_6 : Cond.fieldLink RX5 27 "SumOfTwoThatStand$Street" "uses" "[I" ∈ wsX5_tell := by decide +kernel
theorem mmX5_tell_7 : Cond.fieldLink RX5 30 "SumOfTwoThatStand$Street" "earned" "[I" ∈ wsX5_tell := by decide +kernel
theorem hdX5_tell : yX5_tell.cls ≠ "java/lang/invoke/MethodHandle" ∧ yX5_tell.cls ≠ "java/lang/invoke/VarHandle" ∧ (parseMethodDescriptor yX5_tell.desc).map (fun d => d.parameters.length) = some 2 := by decide +kernel
set_option maxHeartbeats 4000000 in
set_option maxRecDepth 100000 in
theorem kX5_tell (l : Launch) (K : zK) (a0 a1 a2 a3 a4 a5 a6 a7 : Nat) (S : zSt) (p1 : Int32) (p2 : Int32) (R : Int32) (hf : fX5_tell S p1 p2 = some R) : zC l yX5_tell wsX5_tell ({ frames := 1, cells := 0, slots := 0, locals := 21 } : Room) K [.ref a0, .int p1, .int p2] (cSt K a0 a1 a2 a3 a4 a5 a6 a7 S) (some (.int R)) (cSt K a0 a1 a2 a3 a4 a5 a6 a7 S) := by
  refine zC_i R (cc := cX5_tell) (maxL := 3) (by decide +kernel) rfl (Nat.le_of_ble_eq_true rfl) rfl rfl ?_
  intro p e s m below meth c Q A X hret ls hl hh
  have X : zX p m c cX5_tell 3 s ([.ref a0, .int p1, .int p2] : List Value).toArray wsX5_tell RX5 K A := X
  have hx := X.1.1
  have hb := X.1.2.1
  have hr2 : ∀ (pc : Nat) (ls : Array Slot) (H : Heap) (locs : List Loc) (v : Int32), some v = some R → decode cX5_tell pc = .ok (.ireturn, 1) → zW K A s H locs (cSt K a0 a1 a2 a3 a4 a5 a6 a7 S) → W p l e ({ frames := 1, cells := 0, slots := 0, locals := 21 } : Room) s m ([.ref a0, .int p1, .int p2] : List Value).toArray below meth c H locs 0 0 Q (F0 m pc ls [.int v]) := by
    intro pc ls H locs v h hd hh
    cases h; exact hret pc ls H locs _ rfl hd hh
  have hl : lv_has ls 3 [(0, .ref a0), (1, .int p1), (2, .int p2)] := hl
  unfold fX5_tell at hf
  refine (fun (hmain : ∀ (H : Heap) (locs : List Loc), zW K A s H locs (cSt K a0 a1 a2 a3 a4 a5 a6 a7 S) → W p l e ({ frames := 1, cells := 0, slots := 0, locals := 21 } : Room) s m ([.ref a0, .int p1, .int p2] : List Value).toArray below meth c H locs 0 0 Q (F0 m 0 ls [])) => hmain s.heap [] hh) (fun H locs hh => ?_)
  refine lv_aload_n hx hb dX5_tell_0 rfl (lv_at hl 0 rfl) ?_
  refine lv_iload_n hx hb dX5_tell_1 rfl (lv_at hl 1 rfl) ?_
  refine zcallV (ci := 5) (q0 := 0) (As := [.int p1]) (rest := []) (wr := []) (ws' := cSt K a0 a1 a2 a3 a4 a5 a6 a7 S) (ov := some (.int (fX5_has S p1))) X hh hl (kX5_has l K a0 a1 a2 a3 a4 a5 a6 a7 S p1 (fX5_has S p1) rfl) (fun ht => cwV 1 ht gX5_tell_X5_has rfl rfl rfl ⟨rfl, hdX5_has⟩ ⟨Nat.le_of_ble_eq_true rfl, Nat.le_of_ble_eq_true rfl⟩) [0, 1, 2, 3, 4, 5, 6, 7] [] [0, 1, 2, 3, 4, 5, 6, 7] rfl rfl rfl rfl (by decide) rfl rfl rfl rfl rfl rfl (Nat.le_of_ble_eq_true rfl) dX5_tell_2 ⟨Nat.zero_le _, Nat.zero_le _⟩ (fun H locs hh => ?_)
  refine lv_if_ne (tgt := 10) hx hb dX5_tell_5 (by decide) (fun c2 => ?_) (fun c2 => ?_)
  · replace hf := (if_neg c2).symm.trans hf
    refine lv_iload_n hx hb dX5_tell_10 rfl (lv_at hl 2 rfl) ?_
    by_cases c3_0 : p2 = (0 : Int32)
    · replace hf := (if_pos c3_0).symm.trans hf
      refine lv_tableIn (off := 45) (tgt := 56) hx hb dX5_tell_11 (by rw [c3_0]; decide) (by rw [c3_0]; decide) (by rw [c3_0]; decide) (by decide) ?_
      refine lv_aload_n hx hb dX5_tell_56 rfl (lv_at hl 0 rfl) ?_
      refine zget (v := .ref a1) (ref := "SumOfTwoThatStand$Street") (C := RX5) (T := TX5) (N := 11) (index := 9) X hh inX5_tell_X5 0 rfl rfl 0 (by decide) mmX5_tell_0 rfl rfl dX5_tell_57 ?_
      refine lv_iload_n hx hb dX5_tell_60 rfl (lv_at hl 1 rfl) ?_
      obtain ⟨g4, hf⟩ := ob_ix hf
      refine ziald (f := (st_kinds S)) X hh 1 rfl g4 dX5_tell_61 ?_
      exact hr2 62 ls H locs ((st_kinds S) p1.toNatClampNeg) hf dX5_tell_62 hh
    replace hf := (if_neg c3_0).symm.trans hf
    by_cases c3_1 : p2 = (1 : Int32)
    · replace hf := (if_pos c3_1).symm.trans hf
      refine lv_tableIn (off := 52) (tgt := 63) hx hb dX5_tell_11 (by rw [c3_1]; decide) (by rw [c3_1]; decide) (by rw [c3_1]; decide) (by decide) ?_
      refine lv_aload_n hx hb dX5_tell_63 rfl (lv_at hl 0 rfl) ?_
      refine zget (v := .ref a2) (ref := "SumOfTwoThatStand$Street") (C := RX5) (T := TX5) (N := 11) (index := 15) X hh inX5_tell_X5 0 rfl rfl 1 (by decide) mmX5_tell_1 rfl rfl dX5_tell_64 ?_
      refine lv_iload_n hx hb dX5_tell_67 rfl (lv_at hl 1 rfl) ?_
      obtain ⟨g5, hf⟩ := ob_ix hf
      refine ziald (f := (st_figures S)) X hh 2 rfl g5 dX5_tell_68 ?_
      exact hr2 69 ls H locs ((st_figures S) p1.toNatClampNeg) hf dX5_tell_69 hh
    replace hf := (if_neg c3_1).symm.trans hf
    by_cases c3_2 : p2 = (2 : Int32)
    · replace hf := (if_pos c3_2).symm.trans hf
      refine lv_tableIn (off := 59) (tgt := 70) hx hb dX5_tell_11 (by rw [c3_2]; decide) (by rw [c3_2]; decide) (by rw [c3_2]; decide) (by decide) ?_
      refine lv_aload_n hx hb dX5_tell_70 rfl (lv_at hl 0 rfl) ?_
      refine zget (v := .ref a3) (ref := "SumOfTwoThatStand$Street") (C := RX5) (T := TX5) (N := 11) (index := 18) X hh inX5_tell_X5 0 rfl rfl 2 (by decide) mmX5_tell_2 rfl rfl dX5_tell_71 ?_
      refine lv_iload_n hx hb dX5_tell_74 rfl (lv_at hl 1 rfl) ?_
      obtain ⟨g6, hf⟩ := ob_ix hf
      refine ziald (f := (st_numbers S)) X hh 3 rfl g6 dX5_tell_75 ?_
      exact hr2 76 ls H locs ((st_numbers S) p1.toNatClampNeg) hf dX5_tell_76 hh
    replace hf := (if_neg c3_2).symm.trans hf
    by_cases c3_3 : p2 = (3 : Int32)
    · replace hf := (if_pos c3_3).symm.trans hf
      refine lv_tableIn (off := 66) (tgt := 77) hx hb dX5_tell_11 (by rw [c3_3]; decide) (by rw [c3_3]; decide) (by rw [c3_3]; decide) (by decide) ?_
      refine lv_aload_n hx hb dX5_tell_77 rfl (lv_at hl 0 rfl) ?_
      refine zget (v := .ref a4) (ref := "SumOfTwoThatStand$Street") (C := RX5) (T := TX5) (N := 11) (index := 21) X hh inX5_tell_X5 0 rfl rfl 3 (by decide) mmX5_tell_3 rfl rfl dX5_tell_78 ?_
      refine lv_iload_n hx hb dX5_tell_81 rfl (lv_at hl 1 rfl) ?_
      obtain ⟨g7, hf⟩ := ob_ix hf
      refine ziald (f := (st_firsts S)) X hh 4 rfl g7 dX5_tell_82 ?_
      exact hr2 83 ls H locs ((st_firsts S) p1.toNatClampNeg) hf dX5_tell_83 hh
    replace hf := (if_neg c3_3).symm.trans hf
    by_cases c3_4 : p2 = (4 : Int32)
    · replace hf := (if_pos c3_4).symm.trans hf
      refine lv_tableIn (off := 73) (tgt := 84) hx hb dX5_tell_11 (by rw [c3_4]; decide) (by rw [c3_4]; decide) (by rw [c3_4]; decide) (by decide) ?_
      refine lv_aload_n hx hb dX5_tell_84 rfl (lv_at hl 0 rfl) ?_
      refine zget (v := .ref a5) (ref := "SumOfTwoThatStand$Street") (C := RX5) (T := TX5) (N := 11) (index := 24) X hh inX5_tell_X5 0 rfl rfl 4 (by decide) mmX5_tell_4 rfl rfl dX5_tell_85 ?_
      refine lv_iload_n hx hb dX5_tell_88 rfl (lv_at hl 1 rfl) ?_
      obtain ⟨g8, hf⟩ := ob_ix hf
      refine ziald (f := (st_seconds S)) X hh 5 rfl g8 dX5_tell_89 ?_
      exact hr2 90 ls H locs ((st_seconds S) p1.toNatClampNeg) hf dX5_tell_90 hh
    replace hf := (if_neg c3_4).symm.trans hf
    by_cases c3_5 : p2 = (5 : Int32)
    · replace hf := (if_pos c3_5).symm.trans hf
      refine lv_tableIn (off := 80) (tgt := 91) hx hb dX5_tell_11 (by rw [c3_5]; decide) (by rw [c3_5]; decide) (by rw [c3_5]; decide) (by decide) ?_
      refine lv_aload_n hx hb dX5_tell_91 rfl (lv_at hl 0 rfl) ?_
      refine zget (v := .int (st_standing S)) (ref := "SumOfTwoThatStand$Street") (C := RX5) (T := TX5) (N := 11) (index := 40) X hh inX5_tell_X5 0 rfl rfl 8 (by decide) mmX5_tell_5 rfl rfl dX5_tell_92 ?_
      refine lv_iload_n hx hb dX5_tell_95 rfl (lv_at hl 1 rfl) ?_
      refine zcallS (As := [.int (st_standing S), .int p1]) (rest := []) (wr := cSt K a0 a1 a2 a3 a4 a5 a6 a7 S) (ws' := cSt K a0 a1 a2 a3 a4 a5 a6 a7 S) (ov := some (.int (fX5_isIn (st_standing S) p1))) X hh hl (kX5_isIn l K (st_standing S) p1 (fX5_isIn (st_standing S) p1) rfl) (fun ht => va_cwS 2 ht gX5_tell_X5_isIn rfl rfl rfl hdX5_isIn ⟨Nat.le_of_ble_eq_true rfl, Nat.le_of_ble_eq_true rfl⟩) [] [0, 1, 2, 3, 4, 5, 6, 7] [0, 1, 2, 3, 4, 5, 6, 7] rfl rfl rfl rfl (by decide) rfl rfl rfl rfl (Nat.le_of_ble_eq_true rfl) dX5_tell_96 ⟨Nat.zero_le _, Nat.zero_le _⟩ (fun H locs hh => ?_)
      refine lv_if_eq (tgt := 106) hx hb dX5_tell_99 (by decide) (fun c10 => ?_) (fun c10 => ?_)
      · replace hf := (if_pos c10).symm.trans hf
        refine lv_iconst (v := (0 : Int32)) hx hb dX5_tell_106 (by decide) ?_
        exact hr2 107 ls H locs (0 : Int32) hf dX5_tell_107 hh
      · replace hf := (if_neg c10).symm.trans hf
        refine lv_iconst (v := (1 : Int32)) hx hb dX5_tell_102 (by decide) ?_
        refine lv_goto (tgt := 107) hx hb dX5_tell_103 (by decide) ?_
        exact hr2 107 ls H locs (1 : Int32) hf dX5_tell_107 hh
    replace hf := (if_neg c3_5).symm.trans hf
    by_cases c3_6 : p2 = (6 : Int32)
    · replace hf := (if_pos c3_6).symm.trans hf
      refine lv_tableIn (off := 97) (tgt := 108) hx hb dX5_tell_11 (by rw [c3_6]; decide) (by rw [c3_6]; decide) (by rw [c3_6]; decide) (by decide) ?_
      refine lv_aload_n hx hb dX5_tell_108 rfl (lv_at hl 0 rfl) ?_
      refine zget (v := .ref a6) (ref := "SumOfTwoThatStand$Street") (C := RX5) (T := TX5) (N := 11) (index := 27) X hh inX5_tell_X5 0 rfl rfl 5 (by decide) mmX5_tell_6 rfl rfl dX5_tell_109 ?_
      refine lv_iload_n hx hb dX5_tell_112 rfl (lv_at hl 1 rfl) ?_
      obtain ⟨g11, hf⟩ := ob_ix hf
      refine ziald (f := (st_uses S)) X hh 6 rfl g11 dX5_tell_113 ?_
      exact hr2 114 ls H locs ((st_uses S) p1.toNatClampNeg) hf dX5_tell_114 hh
    replace hf := (if_neg c3_6).symm.trans hf
    by_cases c3_7 : p2 = (7 : Int32)
    · replace hf := (if_pos c3_7).symm.trans hf
      refine lv_tableIn (off := 104) (tgt := 115) hx hb dX5_tell_11 (by rw [c3_7]; decide) (by rw [c3_7]; decide) (by rw [c3_7]; decide) (by decide) ?_
      refine lv_aload_n hx hb dX5_tell_115 rfl (lv_at hl 0 rfl) ?_
      refine zget (v := .ref a7) (ref := "SumOfTwoThatStand$Street") (C := RX5) (T := TX5) (N := 11) (index := 30) X hh inX5_tell_X5 0 rfl rfl 6 (by decide) mmX5_tell_7 rfl rfl dX5_tell_116 ?_
      refine lv_iload_n hx hb dX5_tell_119 rfl (lv_at hl 1 rfl) ?_
      obtain ⟨g12, hf⟩ := ob_ix hf
      refine ziald (f := (st_earned S)) X hh 7 rfl g12 dX5_tell_120 ?_
      exact hr2 121 ls H locs ((st_earned S) p1.toNatClampNeg) hf dX5_tell_121 hh
    replace hf := (if_neg c3_7).symm.trans hf
    refine lv_tableOut (tgt := 122) hx hb dX5_tell_11 (by have e0 := lv_neT c3_0 (a := 0) (by decide); have e1 := lv_neT c3_1 (a := 1) (by decide); have e2 := lv_neT c3_2 (a := 2) (by decide); have e3 := lv_neT c3_3 (a := 3) (by decide); have e4 := lv_neT c3_4 (a := 4) (by decide); have e5 := lv_neT c3_5 (a := 5) (by decide); have e6 := lv_neT c3_6 (a := 6) (by decide); have e7 := lv_neT c3_7 (a := 7) (by decide); omega) (by decide) ?_
    refine lv_bipush (v := (-2 : Int32)) hx hb dX5_tell_122 (by decide) ?_
    exact hr2 124 ls H locs (-2 : Int32) hf dX5_tell_124 hh
  · replace hf := (if_pos c2).symm.trans hf
    refine lv_iconst (v := (-1 : Int32)) hx hb dX5_tell_8 (by decide) ?_
    exact hr2 9 ls H locs (-1 : Int32) hf dX5_tell_9 hh
theorem inX5_greatest_X5 : ∀ w ∈ wsX50, w ∈ wsX5_greatest := by decide +kernel
theorem mmX5_greatest_0 : Cond.fieldLink RX5 36 "SumOfTwoThatStand$Street" "came" "I" ∈ wsX5_greatest := by decide +kernel
theorem mmX5_greatest_1 : Cond.fieldLink RX5 40 "SumOfTwoThatStand$Street" "standing" "I" ∈ wsX5_greatest := by decide +kernel
theorem mmX5_greatest_2 : Cond.fieldLink RX5 18 "SumOfTwoThatStand$Street" "numbers" "[I" ∈ wsX5_greatest := by decide +kernel
theorem mmX5_greatest_3 : Cond.methodLink RX5 73 Lib.Math.max.name ∈ wsX5_greatest := by decide +kernel
theorem mmX5_greatest_4 : Cond.static Lib.Math.max.name ∈ wsX5_greatest := by decide +kernel
theorem mmX5_greatest_5 : Cond.initialized "java/lang/Math" ∈ wsX5_greatest := by decide +kernel
theorem mmX5_greatest_6 : Cond.code Lib.Math.max.name Lib.Math.max.code 2 (some .int) ∈ wsX5_greatest := by decide +kernel
theorem hdX5_greatest : yX5_greatest.cls ≠ "java/lang/invoke/MethodHandle" ∧ yX5_greatest.cls ≠ "java/lang/invoke/VarHandle" ∧ (parseMethodDescriptor yX5_greatest.desc).map (fun d => d.parameters.length) = some 0 := by decide +kernel
set_option maxHeartbeats 4000000 in
set_option maxRecDepth 100000 in
theorem kX5_greatest (l : Launch) (K : zK) (a0 a1 a2 a3 a4 a5 a6 a7 : Nat) (S : zSt) (R : Int32) (hf : fX5_greatest S = some R) : zC l yX5_greatest wsX5_greatest ({ frames := 1, cells := 0, slots := 0, locals := 40 } : Room) K [.ref a0] (cSt K a0 a1 a2 a3 a4 a5 a6 a7 S) (some (.int R)) (cSt K a0 a1 a2 a3 a4 a5 a6 a7 S) := by
  refine zC_i R (cc := cX5_greatest) (maxL := 3) (by decide +kernel) rfl (Nat.le_of_ble_eq_true rfl) rfl rfl ?_
  intro p e s m below meth c Q A X hret ls hl hh
  have X : zX p m c cX5_greatest 3 s ([.ref a0] : List Value).toArray wsX5_greatest RX5 K A := X
  have hx := X.1.1
  have hb := X.1.2.1
  have hr2 : ∀ (pc : Nat) (ls : Array Slot) (H : Heap) (locs : List Loc) (v : Int32), some v = some R → decode cX5_greatest pc = .ok (.ireturn, 1) → zW K A s H locs (cSt K a0 a1 a2 a3 a4 a5 a6 a7 S) → W p l e ({ frames := 1, cells := 0, slots := 0, locals := 40 } : Room) s m ([.ref a0] : List Value).toArray below meth c H locs 0 0 Q (F0 m pc ls [.int v]) := by
    intro pc ls H locs v h hd hh
    cases h; exact hret pc ls H locs _ rfl hd hh
  have hl : lv_has ls 3 [(0, .ref a0)] := hl
  have hL4 : ∀ (n : Nat) (v1 : Int32) (v2 : Int32), ∀ (H : Heap) (locs : List Loc) (ls : Array Slot), fX5_greatest_l4 S n v1 v2 = some R → lv_has ls 3 [(0, .ref a0), (1, .int v1), (2, .int v2)] → zW K A s H locs (cSt K a0 a1 a2 a3 a4 a5 a6 a7 S) → W p l e ({ frames := 1, cells := 0, slots := 0, locals := 40 } : Room) s m ([.ref a0] : List Value).toArray below meth c H locs 0 0 Q (F0 m 4 ls []) := by
    intro n
    induction n with
    | zero =>
      intro v1 v2 H locs ls hf hl hh
      rw [fX5_greatest_l4] at hf; cases hf
    | succ n ih =>
      intro v1 v2 H locs ls hf hl hh
      rw [fX5_greatest_l4] at hf
      refine lv_iload_n hx hb dX5_greatest_4 rfl (lv_at hl 2 rfl) ?_
      refine lv_aload_n hx hb dX5_greatest_5 rfl (lv_at hl 0 rfl) ?_
      refine zget (v := .int (st_came S)) (ref := "SumOfTwoThatStand$Street") (C := RX5) (T := TX5) (N := 11) (index := 36) X hh inX5_greatest_X5 0 rfl rfl 7 (by decide) mmX5_greatest_0 rfl rfl dX5_greatest_6 ?_
      refine lv_icmp_ge (tgt := 40) hx hb dX5_greatest_9 (by decide) (fun c1 => ?_) (fun c1 => ?_)
      · replace hf := (if_pos c1).symm.trans hf
        refine lv_iload_n hx hb dX5_greatest_40 rfl (lv_at hl 1 rfl) ?_
        exact hr2 41 ls H locs v1 hf dX5_greatest_41 hh
      · replace hf := (if_neg c1).symm.trans hf
        refine lv_aload_n hx hb dX5_greatest_12 rfl (lv_at hl 0 rfl) ?_
        refine zget (v := .int (st_standing S)) (ref := "SumOfTwoThatStand$Street") (C := RX5) (T := TX5) (N := 11) (index := 40) X hh inX5_greatest_X5 0 rfl rfl 8 (by decide) mmX5_greatest_1 rfl rfl dX5_greatest_13 ?_
        refine lv_iload_n hx hb dX5_greatest_16 rfl (lv_at hl 2 rfl) ?_
        refine zcallS (As := [.int (st_standing S), .int v2]) (rest := []) (wr := cSt K a0 a1 a2 a3 a4 a5 a6 a7 S) (ws' := cSt K a0 a1 a2 a3 a4 a5 a6 a7 S) (ov := some (.int (fX5_isIn (st_standing S) v2))) X hh hl (kX5_isIn l K (st_standing S) v2 (fX5_isIn (st_standing S) v2) rfl) (fun ht => va_cwS 2 ht gX5_greatest_X5_isIn rfl rfl rfl hdX5_isIn ⟨Nat.le_of_ble_eq_true rfl, Nat.le_of_ble_eq_true rfl⟩) [] [0, 1, 2, 3, 4, 5, 6, 7] [0, 1, 2, 3, 4, 5, 6, 7] rfl rfl rfl rfl (by decide) rfl rfl rfl rfl (Nat.le_of_ble_eq_true rfl) dX5_greatest_17 ⟨Nat.zero_le _, Nat.zero_le _⟩ (fun H locs hh => ?_)
        refine lv_if_eq (tgt := 34) hx hb dX5_greatest_20 (by decide) (fun c3 => ?_) (fun c3 => ?_)
        · replace hf := (if_pos c3).symm.trans hf
          refine lv_iinc (v := (v2 + (1 : Int32))) (lv' := [(2, .int (v2 + (1 : Int32))), (0, .ref a0), (1, .int v1)]) hx hb dX5_greatest_34 hl (k := 2) rfl rfl (by decide) rfl (fun ls hl => ?_)
          refine lv_goto (tgt := 4) hx hb dX5_greatest_37 (by decide) ?_
          exact ih v1 (v2 + (1 : Int32)) H locs ls hf (lv_sub hl [1, 2, 0] rfl) hh
        · replace hf := (if_neg c3).symm.trans hf
          refine lv_iload_n hx hb dX5_greatest_23 rfl (lv_at hl 1 rfl) ?_
          refine lv_aload_n hx hb dX5_greatest_24 rfl (lv_at hl 0 rfl) ?_
          refine zget (v := .ref a3) (ref := "SumOfTwoThatStand$Street") (C := RX5) (T := TX5) (N := 11) (index := 18) X hh inX5_greatest_X5 0 rfl rfl 2 (by decide) mmX5_greatest_2 rfl rfl dX5_greatest_25 ?_
          refine lv_iload_n hx hb dX5_greatest_28 rfl (lv_at hl 2 rfl) ?_
          obtain ⟨g4, hf⟩ := ob_ix hf
          refine ziald (f := (st_numbers S)) X hh 3 rfl g4 dX5_greatest_29 ?_
          refine va_mmax hx hb (X.1.2.2.1.trans hl.1.symm) X.1.2.2.2.1 (X.1.2.2.2.2 _ mmX5_greatest_3) (X.1.2.2.2.2 _ mmX5_greatest_4) (X.1.2.2.2.2 _ mmX5_greatest_5) (X.1.2.2.2.2 _ mmX5_greatest_6) (Nat.le_of_ble_eq_true rfl) (Nat.le_of_ble_eq_true rfl) (Nat.zero_le _) (Nat.zero_le _) dX5_greatest_30 ?_
          refine lv_istore_n (lv' := [(1, .int (if v1 < ((st_numbers S) v2.toNatClampNeg) then ((st_numbers S) v2.toNatClampNeg) else v1)), (0, .ref a0), (2, .int v2)]) hx hb dX5_greatest_33 rfl hl (by decide) rfl (fun ls hl => ?_)
          refine lv_iinc (v := (v2 + (1 : Int32))) (lv' := [(2, .int (v2 + (1 : Int32))), (1, .int (if v1 < ((st_numbers S) v2.toNatClampNeg) then ((st_numbers S) v2.toNatClampNeg) else v1)), (0, .ref a0)]) hx hb dX5_greatest_34 hl (k := 2) rfl rfl (by decide) rfl (fun ls hl => ?_)
          refine lv_goto (tgt := 4) hx hb dX5_greatest_37 (by decide) ?_
          exact ih (if v1 < ((st_numbers S) v2.toNatClampNeg) then ((st_numbers S) v2.toNatClampNeg) else v1) (v2 + (1 : Int32)) H locs ls hf (lv_sub hl [2, 1, 0] rfl) hh
  unfold fX5_greatest at hf
  refine (fun (hmain : ∀ (H : Heap) (locs : List Loc), zW K A s H locs (cSt K a0 a1 a2 a3 a4 a5 a6 a7 S) → W p l e ({ frames := 1, cells := 0, slots := 0, locals := 40 } : Room) s m ([.ref a0] : List Value).toArray below meth c H locs 0 0 Q (F0 m 0 ls [])) => hmain s.heap [] hh) (fun H locs hh => ?_)
  refine lv_iconst (v := (0 : Int32)) hx hb dX5_greatest_0 (by decide) ?_
  refine lv_istore_n (lv' := [(1, .int (0 : Int32)), (0, .ref a0)]) hx hb dX5_greatest_1 rfl hl (by decide) rfl (fun ls hl => ?_)
  refine lv_iconst (v := (0 : Int32)) hx hb dX5_greatest_2 (by decide) ?_
  refine lv_istore_n (lv' := [(2, .int (0 : Int32)), (1, .int (0 : Int32)), (0, .ref a0)]) hx hb dX5_greatest_3 rfl hl (by decide) rfl (fun ls hl => ?_)
  exact hL4 FU (0 : Int32) (0 : Int32) H locs ls hf (lv_sub hl [2, 1, 0] rfl) hh
theorem inX5_allEarned_X5 : ∀ w ∈ wsX50, w ∈ wsX5_allEarned := by decide +kernel
theorem mmX5_allEarned_0 : Cond.fieldLink RX5 36 "SumOfTwoThatStand$Street" "came" "I" ∈ wsX5_allEarned := by decide +kernel
theorem mmX5_allEarned_1 : Cond.fieldLink RX5 30 "SumOfTwoThatStand$Street" "earned" "[I" ∈ wsX5_allEarned := by decide +kernel
theorem hdX5_allEarned : yX5_allEarned.cls ≠ "java/lang/invoke/MethodHandle" ∧ yX5_allEarned.cls ≠ "java/lang/invoke/VarHandle" ∧ (parseMethodDescriptor yX5_allEarned.desc).map (fun d => d.parameters.length) = some 0 := by decide +kernel
set_option maxHeartbeats 4000000 in
set_option maxRecDepth 100000 in
theorem kX5_allEarned (l : Launch) (K : zK) (a0 a1 a2 a3 a4 a5 a6 a7 : Nat) (S : zSt) (R : Int32) (hf : fX5_allEarned S = some R) : zC l yX5_allEarned wsX5_allEarned ({ frames := 0, cells := 0, slots := 0, locals := 0 } : Room) K [.ref a0] (cSt K a0 a1 a2 a3 a4 a5 a6 a7 S) (some (.int R)) (cSt K a0 a1 a2 a3 a4 a5 a6 a7 S) := by
  refine zC_i R (cc := cX5_allEarned) (maxL := 3) (by decide +kernel) rfl (Nat.le_of_ble_eq_true rfl) rfl rfl ?_
  intro p e s m below meth c Q A X hret ls hl hh
  have X : zX p m c cX5_allEarned 3 s ([.ref a0] : List Value).toArray wsX5_allEarned RX5 K A := X
  have hx := X.1.1
  have hb := X.1.2.1
  have hr2 : ∀ (pc : Nat) (ls : Array Slot) (H : Heap) (locs : List Loc) (v : Int32), some v = some R → decode cX5_allEarned pc = .ok (.ireturn, 1) → zW K A s H locs (cSt K a0 a1 a2 a3 a4 a5 a6 a7 S) → W p l e ({ frames := 0, cells := 0, slots := 0, locals := 0 } : Room) s m ([.ref a0] : List Value).toArray below meth c H locs 0 0 Q (F0 m pc ls [.int v]) := by
    intro pc ls H locs v h hd hh
    cases h; exact hret pc ls H locs _ rfl hd hh
  have hl : lv_has ls 3 [(0, .ref a0)] := hl
  have hL4 : ∀ (n : Nat) (v1 : Int32) (v2 : Int32), ∀ (H : Heap) (locs : List Loc) (ls : Array Slot), fX5_allEarned_l4 S n v1 v2 = some R → lv_has ls 3 [(0, .ref a0), (1, .int v1), (2, .int v2)] → zW K A s H locs (cSt K a0 a1 a2 a3 a4 a5 a6 a7 S) → W p l e ({ frames := 0, cells := 0, slots := 0, locals := 0 } : Room) s m ([.ref a0] : List Value).toArray below meth c H locs 0 0 Q (F0 m 4 ls []) := by
    intro n
    induction n with
    | zero =>
      intro v1 v2 H locs ls hf hl hh
      rw [fX5_allEarned_l4] at hf; cases hf
    | succ n ih =>
      intro v1 v2 H locs ls hf hl hh
      rw [fX5_allEarned_l4] at hf
      refine lv_iload_n hx hb dX5_allEarned_4 rfl (lv_at hl 2 rfl) ?_
      refine lv_aload_n hx hb dX5_allEarned_5 rfl (lv_at hl 0 rfl) ?_
      refine zget (v := .int (st_came S)) (ref := "SumOfTwoThatStand$Street") (C := RX5) (T := TX5) (N := 11) (index := 36) X hh inX5_allEarned_X5 0 rfl rfl 7 (by decide) mmX5_allEarned_0 rfl rfl dX5_allEarned_6 ?_
      refine lv_icmp_ge (tgt := 27) hx hb dX5_allEarned_9 (by decide) (fun c1 => ?_) (fun c1 => ?_)
      · replace hf := (if_pos c1).symm.trans hf
        refine lv_iload_n hx hb dX5_allEarned_27 rfl (lv_at hl 1 rfl) ?_
        exact hr2 28 ls H locs v1 hf dX5_allEarned_28 hh
      · replace hf := (if_neg c1).symm.trans hf
        refine lv_iload_n hx hb dX5_allEarned_12 rfl (lv_at hl 1 rfl) ?_
        refine lv_aload_n hx hb dX5_allEarned_13 rfl (lv_at hl 0 rfl) ?_
        refine zget (v := .ref a7) (ref := "SumOfTwoThatStand$Street") (C := RX5) (T := TX5) (N := 11) (index := 30) X hh inX5_allEarned_X5 0 rfl rfl 6 (by decide) mmX5_allEarned_1 rfl rfl dX5_allEarned_14 ?_
        refine lv_iload_n hx hb dX5_allEarned_17 rfl (lv_at hl 2 rfl) ?_
        obtain ⟨g2, hf⟩ := ob_ix hf
        refine ziald (f := (st_earned S)) X hh 7 rfl g2 dX5_allEarned_18 ?_
        refine lv_iadd hx hb dX5_allEarned_19 ?_
        refine lv_istore_n (lv' := [(1, .int (v1 + ((st_earned S) v2.toNatClampNeg))), (0, .ref a0), (2, .int v2)]) hx hb dX5_allEarned_20 rfl hl (by decide) rfl (fun ls hl => ?_)
        refine lv_iinc (v := (v2 + (1 : Int32))) (lv' := [(2, .int (v2 + (1 : Int32))), (1, .int (v1 + ((st_earned S) v2.toNatClampNeg))), (0, .ref a0)]) hx hb dX5_allEarned_21 hl (k := 2) rfl rfl (by decide) rfl (fun ls hl => ?_)
        refine lv_goto (tgt := 4) hx hb dX5_allEarned_24 (by decide) ?_
        exact ih (v1 + ((st_earned S) v2.toNatClampNeg)) (v2 + (1 : Int32)) H locs ls hf (lv_sub hl [2, 1, 0] rfl) hh
  unfold fX5_allEarned at hf
  refine (fun (hmain : ∀ (H : Heap) (locs : List Loc), zW K A s H locs (cSt K a0 a1 a2 a3 a4 a5 a6 a7 S) → W p l e ({ frames := 0, cells := 0, slots := 0, locals := 0 } : Room) s m ([.ref a0] : List Value).toArray below meth c H locs 0 0 Q (F0 m 0 ls [])) => hmain s.heap [] hh) (fun H locs hh => ?_)
  refine lv_iconst (v := (0 : Int32)) hx hb dX5_allEarned_0 (by decide) ?_
  refine lv_istore_n (lv' := [(1, .int (0 : Int32)), (0, .ref a0)]) hx hb dX5_allEarned_1 rfl hl (by decide) rfl (fun ls hl => ?_)
  refine lv_iconst (v := (0 : Int32)) hx hb dX5_allEarned_2 (by decide) ?_
  refine lv_istore_n (lv' := [(2, .int (0 : Int32)), (1, .int (0 : Int32)), (0, .ref a0)]) hx hb dX5_allEarned_3 rfl hl (by decide) rfl (fun ls hl => ?_)
  exact hL4 FU (0 : Int32) (0 : Int32) H locs ls hf (lv_sub hl [2, 1, 0] rfl) hh
theorem inX5_isThere_X5 : ∀ w ∈ wsX50, w ∈ wsX5_isThere := by decide +kernel
theorem mmX5_isThere_0 : Cond.fieldLink RX5 36 "SumOfTwoThatStand$Street" "came" "I" ∈ wsX5_isThere := by decide +kernel
theorem mmX5_isThere_1 : Cond.fieldLink RX5 40 "SumOfTwoThatStand$Street" "standing" "I" ∈ wsX5_isThere := by decide +kernel
theorem mmX5_isThere_2 : Cond.fieldLink RX5 18 "SumOfTwoThatStand$Street" "numbers" "[I" ∈ wsX5_isThere := by decide +kernel
theorem hdX5_isThere : yX5_isThere.cls ≠ "java/lang/invoke/MethodHandle" ∧ yX5_isThere.cls ≠ "java/lang/invoke/VarHandle" ∧ (parseMethodDescriptor yX5_isThere.desc).map (fun d => d.parameters.length) = some 1 := by decide +kernel
set_option maxHeartbeats 4000000 in
set_option maxRecDepth 100000 in
theorem kX5_isThere (l : Launch) (K : zK) (a0 a1 a2 a3 a4 a5 a6 a7 : Nat) (S : zSt) (p1 : Int32) (R : Int32) (hf : fX5_isThere S p1 = some R) : zC l yX5_isThere wsX5_isThere ({ frames := 1, cells := 0, slots := 0, locals := 21 } : Room) K [.ref a0, .int p1] (cSt K a0 a1 a2 a3 a4 a5 a6 a7 S) (some (.int R)) (cSt K a0 a1 a2 a3 a4 a5 a6 a7 S) := by
  refine zC_z .boolean R (cc := cX5_isThere) (maxL := 3) (by decide +kernel) rfl (Nat.le_of_ble_eq_true rfl) rfl rfl ?_
  intro p e s m below meth c Q A X hret ls hl hh
  have X : zX p m c cX5_isThere 3 s ([.ref a0, .int p1] : List Value).toArray wsX5_isThere RX5 K A := X
  have hx := X.1.1
  have hb := X.1.2.1
  have hr2 : ∀ (pc : Nat) (ls : Array Slot) (H : Heap) (locs : List Loc) (v : Int32), some v = some R → narrow .boolean (.int v) = .int v → decode cX5_isThere pc = .ok (.ireturn, 1) → zW K A s H locs (cSt K a0 a1 a2 a3 a4 a5 a6 a7 S) → W p l e ({ frames := 1, cells := 0, slots := 0, locals := 21 } : Room) s m ([.ref a0, .int p1] : List Value).toArray below meth c H locs 0 0 Q (F0 m pc ls [.int v]) := by
    intro pc ls H locs v h hn hd hh
    cases h; exact hret pc ls H locs _ rfl hn hd hh
  have hl : lv_has ls 3 [(0, .ref a0), (1, .int p1)] := hl
  have hL2 : ∀ (v1 : Int32), ∀ (n : Nat) (v2 : Int32), ∀ (H : Heap) (locs : List Loc) (ls : Array Slot), fX5_isThere_l2 S v1 n v2 = some R → lv_has ls 3 [(0, .ref a0), (1, .int v1), (2, .int v2)] → zW K A s H locs (cSt K a0 a1 a2 a3 a4 a5 a6 a7 S) → W p l e ({ frames := 1, cells := 0, slots := 0, locals := 21 } : Room) s m ([.ref a0, .int p1] : List Value).toArray below meth c H locs 0 0 Q (F0 m 2 ls []) := by
    intro v1 n
    induction n with
    | zero =>
      intro v2 H locs ls hf hl hh
      rw [fX5_isThere_l2] at hf; cases hf
    | succ n ih =>
      intro v2 H locs ls hf hl hh
      rw [fX5_isThere_l2] at hf
      refine lv_iload_n hx hb dX5_isThere_2 rfl (lv_at hl 2 rfl) ?_
      refine lv_aload_n hx hb dX5_isThere_3 rfl (lv_at hl 0 rfl) ?_
      refine zget (v := .int (st_came S)) (ref := "SumOfTwoThatStand$Street") (C := RX5) (T := TX5) (N := 11) (index := 36) X hh inX5_isThere_X5 0 rfl rfl 7 (by decide) mmX5_isThere_0 rfl rfl dX5_isThere_4 ?_
      refine lv_icmp_ge (tgt := 39) hx hb dX5_isThere_7 (by decide) (fun c1 => ?_) (fun c1 => ?_)
      · replace hf := (if_pos c1).symm.trans hf
        refine lv_iconst (v := (0 : Int32)) hx hb dX5_isThere_39 (by decide) ?_
        exact hr2 40 ls H locs (0 : Int32) hf rfl dX5_isThere_40 hh
      · replace hf := (if_neg c1).symm.trans hf
        refine lv_aload_n hx hb dX5_isThere_10 rfl (lv_at hl 0 rfl) ?_
        refine zget (v := .int (st_standing S)) (ref := "SumOfTwoThatStand$Street") (C := RX5) (T := TX5) (N := 11) (index := 40) X hh inX5_isThere_X5 0 rfl rfl 8 (by decide) mmX5_isThere_1 rfl rfl dX5_isThere_11 ?_
        refine lv_iload_n hx hb dX5_isThere_14 rfl (lv_at hl 2 rfl) ?_
        refine zcallS (As := [.int (st_standing S), .int v2]) (rest := []) (wr := cSt K a0 a1 a2 a3 a4 a5 a6 a7 S) (ws' := cSt K a0 a1 a2 a3 a4 a5 a6 a7 S) (ov := some (.int (fX5_isIn (st_standing S) v2))) X hh hl (kX5_isIn l K (st_standing S) v2 (fX5_isIn (st_standing S) v2) rfl) (fun ht => va_cwS 2 ht gX5_isThere_X5_isIn rfl rfl rfl hdX5_isIn ⟨Nat.le_of_ble_eq_true rfl, Nat.le_of_ble_eq_true rfl⟩) [] [0, 1, 2, 3, 4, 5, 6, 7] [0, 1, 2, 3, 4, 5, 6, 7] rfl rfl rfl rfl (by decide) rfl rfl rfl rfl (Nat.le_of_ble_eq_true rfl) dX5_isThere_15 ⟨Nat.zero_le _, Nat.zero_le _⟩ (fun H locs hh => ?_)
        refine lv_if_eq (tgt := 33) hx hb dX5_isThere_18 (by decide) (fun c3 => ?_) (fun c3 => ?_)
        · replace hf := (if_pos c3).symm.trans hf
          refine lv_iinc (v := (v2 + (1 : Int32))) (lv' := [(2, .int (v2 + (1 : Int32))), (0, .ref a0), (1, .int v1)]) hx hb dX5_isThere_33 hl (k := 2) rfl rfl (by decide) rfl (fun ls hl => ?_)
          refine lv_goto (tgt := 2) hx hb dX5_isThere_36 (by decide) ?_
          exact ih (v2 + (1 : Int32)) H locs ls hf (lv_sub hl [1, 2, 0] rfl) hh
        · replace hf := (if_neg c3).symm.trans hf
          refine lv_aload_n hx hb dX5_isThere_21 rfl (lv_at hl 0 rfl) ?_
          refine zget (v := .ref a3) (ref := "SumOfTwoThatStand$Street") (C := RX5) (T := TX5) (N := 11) (index := 18) X hh inX5_isThere_X5 0 rfl rfl 2 (by decide) mmX5_isThere_2 rfl rfl dX5_isThere_22 ?_
          refine lv_iload_n hx hb dX5_isThere_25 rfl (lv_at hl 2 rfl) ?_
          obtain ⟨g4, hf⟩ := ob_ix hf
          refine ziald (f := (st_numbers S)) X hh 3 rfl g4 dX5_isThere_26 ?_
          refine lv_iload_n hx hb dX5_isThere_27 rfl (lv_at hl 1 rfl) ?_
          refine lv_icmp_ne (tgt := 33) hx hb dX5_isThere_28 (by decide) (fun c5 => ?_) (fun c5 => ?_)
          · replace hf := (if_neg c5).symm.trans hf
            refine lv_iinc (v := (v2 + (1 : Int32))) (lv' := [(2, .int (v2 + (1 : Int32))), (0, .ref a0), (1, .int v1)]) hx hb dX5_isThere_33 hl (k := 2) rfl rfl (by decide) rfl (fun ls hl => ?_)
            refine lv_goto (tgt := 2) hx hb dX5_isThere_36 (by decide) ?_
            exact ih (v2 + (1 : Int32)) H locs ls hf (lv_sub hl [1, 2, 0] rfl) hh
          · replace hf := (if_pos c5).symm.trans hf
            refine lv_iconst (v := (1 : Int32)) hx hb dX5_isThere_31 (by decide) ?_
            exact hr2 32 ls H locs (1 : Int32) hf rfl dX5_isThere_32 hh
  unfold fX5_isThere at hf
  refine (fun (hmain : ∀ (H : Heap) (locs : List Loc), zW K A s H locs (cSt K a0 a1 a2 a3 a4 a5 a6 a7 S) → W p l e ({ frames := 1, cells := 0, slots := 0, locals := 21 } : Room) s m ([.ref a0, .int p1] : List Value).toArray below meth c H locs 0 0 Q (F0 m 0 ls [])) => hmain s.heap [] hh) (fun H locs hh => ?_)
  refine lv_iconst (v := (0 : Int32)) hx hb dX5_isThere_0 (by decide) ?_
  refine lv_istore_n (lv' := [(2, .int (0 : Int32)), (0, .ref a0), (1, .int p1)]) hx hb dX5_isThere_1 rfl hl (by decide) rfl (fun ls hl => ?_)
  exact hL2 p1 FU (0 : Int32) H locs ls hf (lv_sub hl [1, 2, 0] rfl) hh
theorem inX5_fee_X5 : ∀ w ∈ wsX50, w ∈ wsX5_fee := by decide +kernel
theorem mmX5_fee_0 : Cond.fieldLink RX5 9 "SumOfTwoThatStand$Street" "kinds" "[I" ∈ wsX5_fee := by decide +kernel
theorem mmX5_fee_1 : Cond.fieldLink RX5 15 "SumOfTwoThatStand$Street" "figures" "[I" ∈ wsX5_fee := by decide +kernel
theorem hdX5_fee : yX5_fee.cls ≠ "java/lang/invoke/MethodHandle" ∧ yX5_fee.cls ≠ "java/lang/invoke/VarHandle" ∧ (parseMethodDescriptor yX5_fee.desc).map (fun d => d.parameters.length) = some 1 := by decide +kernel
set_option maxHeartbeats 4000000 in
set_option maxRecDepth 100000 in
theorem kX5_fee (l : Launch) (K : zK) (a0 a1 a2 a3 a4 a5 a6 a7 : Nat) (S : zSt) (p1 : Int32) (R : Int32) (hf : fX5_fee S p1 = some R) : zC l yX5_fee wsX5_fee ({ frames := 1, cells := 0, slots := 0, locals := 21 } : Room) K [.ref a0, .int p1] (cSt K a0 a1 a2 a3 a4 a5 a6 a7 S) (some (.int R)) (cSt K a0 a1 a2 a3 a4 a5 a6 a7 S) := by
  refine zC_i R (cc := cX5_fee) (maxL := 2) (by decide +kernel) rfl (Nat.le_of_ble_eq_true rfl) rfl rfl ?_
  intro p e s m below meth c Q A X hret ls hl hh
  have X : zX p m c cX5_fee 2 s ([.ref a0, .int p1] : List Value).toArray wsX5_fee RX5 K A := X
  have hx := X.1.1
  have hb := X.1.2.1
  have hr2 : ∀ (pc : Nat) (ls : Array Slot) (H : Heap) (locs : List Loc) (v : Int32), some v = some R → decode cX5_fee pc = .ok (.ireturn, 1) → zW K A s H locs (cSt K a0 a1 a2 a3 a4 a5 a6 a7 S) → W p l e ({ frames := 1, cells := 0, slots := 0, locals := 21 } : Room) s m ([.ref a0, .int p1] : List Value).toArray below meth c H locs 0 0 Q (F0 m pc ls [.int v]) := by
    intro pc ls H locs v h hd hh
    cases h; exact hret pc ls H locs _ rfl hd hh
  have hl : lv_has ls 2 [(0, .ref a0), (1, .int p1)] := hl
  unfold fX5_fee at hf
  refine (fun (hmain : ∀ (H : Heap) (locs : List Loc), zW K A s H locs (cSt K a0 a1 a2 a3 a4 a5 a6 a7 S) → W p l e ({ frames := 1, cells := 0, slots := 0, locals := 21 } : Room) s m ([.ref a0, .int p1] : List Value).toArray below meth c H locs 0 0 Q (F0 m 0 ls [])) => hmain s.heap [] hh) (fun H locs hh => ?_)
  refine lv_aload_n hx hb dX5_fee_0 rfl (lv_at hl 0 rfl) ?_
  refine lv_iload_n hx hb dX5_fee_1 rfl (lv_at hl 1 rfl) ?_
  refine zcallV (ci := 5) (q0 := 0) (As := [.int p1]) (rest := []) (wr := []) (ws' := cSt K a0 a1 a2 a3 a4 a5 a6 a7 S) (ov := some (.int (fX5_has S p1))) X hh hl (kX5_has l K a0 a1 a2 a3 a4 a5 a6 a7 S p1 (fX5_has S p1) rfl) (fun ht => cwV 1 ht gX5_fee_X5_has rfl rfl rfl ⟨rfl, hdX5_has⟩ ⟨Nat.le_of_ble_eq_true rfl, Nat.le_of_ble_eq_true rfl⟩) [0, 1, 2, 3, 4, 5, 6, 7] [] [0, 1, 2, 3, 4, 5, 6, 7] rfl rfl rfl rfl (by decide) rfl rfl rfl rfl rfl rfl (Nat.le_of_ble_eq_true rfl) dX5_fee_2 ⟨Nat.zero_le _, Nat.zero_le _⟩ (fun H locs hh => ?_)
  refine lv_if_ne (tgt := 10) hx hb dX5_fee_5 (by decide) (fun c2 => ?_) (fun c2 => ?_)
  · replace hf := (if_neg c2).symm.trans hf
    refine lv_aload_n hx hb dX5_fee_10 rfl (lv_at hl 0 rfl) ?_
    refine zget (v := .ref a1) (ref := "SumOfTwoThatStand$Street") (C := RX5) (T := TX5) (N := 11) (index := 9) X hh inX5_fee_X5 0 rfl rfl 0 (by decide) mmX5_fee_0 rfl rfl dX5_fee_11 ?_
    refine lv_iload_n hx hb dX5_fee_14 rfl (lv_at hl 1 rfl) ?_
    obtain ⟨g3, hf⟩ := ob_ix hf
    refine ziald (f := (st_kinds S)) X hh 1 rfl g3 dX5_fee_15 ?_
    by_cases c4_0 : ((st_kinds S) p1.toNatClampNeg) = (2 : Int32)
    · replace hf := (if_pos c4_0).symm.trans hf
      refine lv_lookup (off := 28) (tgt := 44) hx hb dX5_fee_16 (by decide) (by rw [c4_0]; decide) (by decide) ?_
      refine lv_aload_n hx hb dX5_fee_44 rfl (lv_at hl 0 rfl) ?_
      refine zget (v := .ref a2) (ref := "SumOfTwoThatStand$Street") (C := RX5) (T := TX5) (N := 11) (index := 15) X hh inX5_fee_X5 0 rfl rfl 1 (by decide) mmX5_fee_1 rfl rfl dX5_fee_45 ?_
      refine lv_iload_n hx hb dX5_fee_48 rfl (lv_at hl 1 rfl) ?_
      refine ziald (f := (st_figures S)) X hh 2 rfl g3 dX5_fee_49 ?_
      exact hr2 50 ls H locs ((st_figures S) p1.toNatClampNeg) hf dX5_fee_50 hh
    replace hf := (if_neg c4_0).symm.trans hf
    by_cases c4_1 : ((st_kinds S) p1.toNatClampNeg) = (3 : Int32)
    · replace hf := (if_pos c4_1).symm.trans hf
      refine lv_lookup (off := 35) (tgt := 51) hx hb dX5_fee_16 (by decide) (by rw [c4_1]; decide) (by decide) ?_
      refine lv_iconst (v := (2 : Int32)) hx hb dX5_fee_51 (by decide) ?_
      refine lv_aload_n hx hb dX5_fee_52 rfl (lv_at hl 0 rfl) ?_
      refine zget (v := .ref a2) (ref := "SumOfTwoThatStand$Street") (C := RX5) (T := TX5) (N := 11) (index := 15) X hh inX5_fee_X5 0 rfl rfl 1 (by decide) mmX5_fee_1 rfl rfl dX5_fee_53 ?_
      refine lv_iload_n hx hb dX5_fee_56 rfl (lv_at hl 1 rfl) ?_
      refine ziald (f := (st_figures S)) X hh 2 rfl g3 dX5_fee_57 ?_
      refine lv_imul hx hb dX5_fee_58 ?_
      refine lv_iconst (v := (1 : Int32)) hx hb dX5_fee_59 (by decide) ?_
      refine lv_iadd hx hb dX5_fee_60 ?_
      exact hr2 61 ls H locs (((2 : Int32) * ((st_figures S) p1.toNatClampNeg)) + (1 : Int32)) hf dX5_fee_61 hh
    replace hf := (if_neg c4_1).symm.trans hf
    refine lv_lookup (off := 46) (tgt := 62) hx hb dX5_fee_16 (by decide) ((lv_osw c4_0 (by decide)).trans ((lv_osw c4_1 (by decide)).trans (rfl))) (by decide) ?_
    refine lv_iconst (v := (0 : Int32)) hx hb dX5_fee_62 (by decide) ?_
    exact hr2 63 ls H locs (0 : Int32) hf dX5_fee_63 hh
  · replace hf := (if_pos c2).symm.trans hf
    refine lv_iconst (v := (0 : Int32)) hx hb dX5_fee_8 (by decide) ?_
    exact hr2 9 ls H locs (0 : Int32) hf dX5_fee_9 hh
theorem inX5_isLawful_X5 : ∀ w ∈ wsX50, w ∈ wsX5_isLawful := by decide +kernel
theorem mmX5_isLawful_0 : Cond.fieldLink RX5 53 "SumOfTwoThatStand$Street" "sums" "I" ∈ wsX5_isLawful := by decide +kernel
theorem mmX5_isLawful_1 : Cond.fieldLink RX5 40 "SumOfTwoThatStand$Street" "standing" "I" ∈ wsX5_isLawful := by decide +kernel
theorem hdX5_isLawful : yX5_isLawful.cls ≠ "java/lang/invoke/MethodHandle" ∧ yX5_isLawful.cls ≠ "java/lang/invoke/VarHandle" ∧ (parseMethodDescriptor yX5_isLawful.desc).map (fun d => d.parameters.length) = some 2 := by decide +kernel
set_option maxHeartbeats 4000000 in
set_option maxRecDepth 100000 in
theorem kX5_isLawful (l : Launch) (K : zK) (a0 a1 a2 a3 a4 a5 a6 a7 : Nat) (S : zSt) (p1 : Int32) (p2 : Int32) (R : Int32) (hf : fX5_isLawful S p1 p2 = R) : zC l yX5_isLawful wsX5_isLawful ({ frames := 1, cells := 0, slots := 0, locals := 21 } : Room) K [.ref a0, .int p1, .int p2] (cSt K a0 a1 a2 a3 a4 a5 a6 a7 S) (some (.int R)) (cSt K a0 a1 a2 a3 a4 a5 a6 a7 S) := by
  refine zC_z .boolean R (cc := cX5_isLawful) (maxL := 4) (by decide +kernel) rfl (Nat.le_of_ble_eq_true rfl) rfl rfl ?_
  intro p e s m below meth c Q A X hret ls hl hh
  have X : zX p m c cX5_isLawful 4 s ([.ref a0, .int p1, .int p2] : List Value).toArray wsX5_isLawful RX5 K A := X
  have hx := X.1.1
  have hb := X.1.2.1
  have hr2 : ∀ (pc : Nat) (ls : Array Slot) (H : Heap) (locs : List Loc) (v : Int32), v = R → narrow .boolean (.int v) = .int v → decode cX5_isLawful pc = .ok (.ireturn, 1) → zW K A s H locs (cSt K a0 a1 a2 a3 a4 a5 a6 a7 S) → W p l e ({ frames := 1, cells := 0, slots := 0, locals := 21 } : Room) s m ([.ref a0, .int p1, .int p2] : List Value).toArray below meth c H locs 0 0 Q (F0 m pc ls [.int v]) := by
    intro pc ls H locs v h hn hd hh
    cases h; exact hret pc ls H locs _ rfl hn hd hh
  have hl : lv_has ls 4 [(0, .ref a0), (1, .int p1), (2, .int p2)] := hl
  unfold fX5_isLawful at hf
  refine (fun (hmain : ∀ (H : Heap) (locs : List Loc), zW K A s H locs (cSt K a0 a1 a2 a3 a4 a5 a6 a7 S) → W p l e ({ frames := 1, cells := 0, slots := 0, locals := 21 } : Room) s m ([.ref a0, .int p1, .int p2] : List Value).toArray below meth c H locs 0 0 Q (F0 m 0 ls [])) => hmain s.heap [] hh) (fun H locs hh => ?_)
  refine lv_aload_n hx hb dX5_isLawful_0 rfl (lv_at hl 0 rfl) ?_
  refine zget (v := .int (st_sums S)) (ref := "SumOfTwoThatStand$Street") (C := RX5) (T := TX5) (N := 11) (index := 53) X hh inX5_isLawful_X5 0 rfl rfl 9 (by decide) mmX5_isLawful_0 rfl rfl dX5_isLawful_1 ?_
  by_cases c1_0 : (st_sums S) = (1 : Int32)
  · replace hf := (if_pos c1_0).symm.trans hf
    refine lv_lookup (off := 28) (tgt := 32) hx hb dX5_isLawful_4 (by decide) (by rw [c1_0]; decide) (by decide) ?_
    refine lv_bipush (v := (31 : Int32)) hx hb dX5_isLawful_32 (by decide) ?_
    refine lv_aload_n hx hb dX5_isLawful_34 rfl (lv_at hl 0 rfl) ?_
    refine zget (v := .int (st_standing S)) (ref := "SumOfTwoThatStand$Street") (C := RX5) (T := TX5) (N := 11) (index := 40) X hh inX5_isLawful_X5 0 rfl rfl 8 (by decide) mmX5_isLawful_1 rfl rfl dX5_isLawful_35 ?_
    refine zcallS (As := [.int (st_standing S)]) (rest := [.int (31 : Int32)]) (wr := cSt K a0 a1 a2 a3 a4 a5 a6 a7 S) (ws' := cSt K a0 a1 a2 a3 a4 a5 a6 a7 S) (ov := some (.int (fJ6_numberOfLeadingZeros_0f7a4 (st_standing S)))) X hh hl (kJ6_numberOfLeadingZeros_0f7a4 l K (st_standing S) (fJ6_numberOfLeadingZeros_0f7a4 (st_standing S)) rfl) (fun ht => va_cwS 1 ht gX5_isLawful_J6_numberOfLeadingZeros_0f7a4 rfl rfl rfl hdJ6_numberOfLeadingZeros_0f7a4 ⟨Nat.le_of_ble_eq_true rfl, Nat.le_of_ble_eq_true rfl⟩) [] [0, 1, 2, 3, 4, 5, 6, 7] [0, 1, 2, 3, 4, 5, 6, 7] rfl rfl rfl rfl (by decide) rfl rfl rfl rfl (Nat.le_of_ble_eq_true rfl) dX5_isLawful_38 ⟨Nat.zero_le _, Nat.zero_le _⟩ (fun H locs hh => ?_)
    refine lv_isub hx hb dX5_isLawful_41 ?_
    refine lv_istore_n (lv' := [(3, .int ((31 : Int32) - (fJ6_numberOfLeadingZeros_0f7a4 (st_standing S)))), (0, .ref a0), (1, .int p1), (2, .int p2)]) hx hb dX5_isLawful_42 rfl hl (by decide) rfl (fun ls hl => ?_)
    refine lv_iload_n hx hb dX5_isLawful_43 rfl (lv_at hl 2 rfl) ?_
    refine lv_iload_n hx hb dX5_isLawful_44 rfl (lv_at hl 0 rfl) ?_
    refine lv_icmp_eq (tgt := 53) hx hb dX5_isLawful_45 (by decide) (fun c3 => ?_) (fun c3 => ?_)
    · replace hf := (if_pos c3).symm.trans hf
      refine lv_iconst (v := (1 : Int32)) hx hb dX5_isLawful_53 (by decide) ?_
      refine lv_goto (tgt := 58) hx hb dX5_isLawful_54 (by decide) ?_
      exact hr2 58 ls H locs (1 : Int32) hf rfl dX5_isLawful_58 hh
    · replace hf := (if_neg c3).symm.trans hf
      refine lv_iload_n hx hb dX5_isLawful_48 rfl (lv_at hl 3 rfl) ?_
      refine lv_iload_n hx hb dX5_isLawful_49 rfl (lv_at hl 0 rfl) ?_
      refine lv_icmp_ne (tgt := 57) hx hb dX5_isLawful_50 (by decide) (fun c4 => ?_) (fun c4 => ?_)
      · replace hf := (if_neg c4).symm.trans hf
        refine lv_iconst (v := (0 : Int32)) hx hb dX5_isLawful_57 (by decide) ?_
        exact hr2 58 ls H locs (0 : Int32) hf rfl dX5_isLawful_58 hh
      · replace hf := (if_pos c4).symm.trans hf
        refine lv_iconst (v := (1 : Int32)) hx hb dX5_isLawful_53 (by decide) ?_
        refine lv_goto (tgt := 58) hx hb dX5_isLawful_54 (by decide) ?_
        exact hr2 58 ls H locs (1 : Int32) hf rfl dX5_isLawful_58 hh
  replace hf := (if_neg c1_0).symm.trans hf
  by_cases c1_1 : (st_sums S) = (2 : Int32)
  · replace hf := (if_pos c1_1).symm.trans hf
    refine lv_lookup (off := 55) (tgt := 59) hx hb dX5_isLawful_4 (by decide) (by rw [c1_1]; decide) (by decide) ?_
    refine lv_iload_n hx hb dX5_isLawful_59 rfl (lv_at hl 1 rfl) ?_
    refine lv_iload_n hx hb dX5_isLawful_60 rfl (lv_at hl 2 rfl) ?_
    refine lv_icmp_ne (tgt := 68) hx hb dX5_isLawful_61 (by decide) (fun c5 => ?_) (fun c5 => ?_)
    · replace hf := (if_neg c5).symm.trans hf
      refine lv_iconst (v := (0 : Int32)) hx hb dX5_isLawful_68 (by decide) ?_
      exact hr2 69 ls H locs (0 : Int32) hf rfl dX5_isLawful_69 hh
    · replace hf := (if_pos c5).symm.trans hf
      refine lv_iconst (v := (1 : Int32)) hx hb dX5_isLawful_64 (by decide) ?_
      refine lv_goto (tgt := 69) hx hb dX5_isLawful_65 (by decide) ?_
      exact hr2 69 ls H locs (1 : Int32) hf rfl dX5_isLawful_69 hh
  replace hf := (if_neg c1_1).symm.trans hf
  refine lv_lookup (off := 66) (tgt := 70) hx hb dX5_isLawful_4 (by decide) ((lv_osw c1_0 (by decide)).trans ((lv_osw c1_1 (by decide)).trans (rfl))) (by decide) ?_
  refine lv_iconst (v := (1 : Int32)) hx hb dX5_isLawful_70 (by decide) ?_
  exact hr2 71 ls H locs (1 : Int32) hf rfl dX5_isLawful_71 hh
theorem inX5_lends_X5 : ∀ w ∈ wsX50, w ∈ wsX5_lends := by decide +kernel
theorem mmX5_lends_0 : Cond.fieldLink RX5 9 "SumOfTwoThatStand$Street" "kinds" "[I" ∈ wsX5_lends := by decide +kernel
theorem mmX5_lends_1 : Cond.fieldLink RX5 27 "SumOfTwoThatStand$Street" "uses" "[I" ∈ wsX5_lends := by decide +kernel
theorem hdX5_lends : yX5_lends.cls ≠ "java/lang/invoke/MethodHandle" ∧ yX5_lends.cls ≠ "java/lang/invoke/VarHandle" ∧ (parseMethodDescriptor yX5_lends.desc).map (fun d => d.parameters.length) = some 2 := by decide +kernel
set_option maxHeartbeats 4000000 in
set_option maxRecDepth 100000 in
theorem kX5_lends (l : Launch) (K : zK) (a0 a1 a2 a3 a4 a5 a6 a7 : Nat) (S : zSt) (p1 : Int32) (p2 : Int32) (R : Int32) (hf : fX5_lends S p1 p2 = some R) : zC l yX5_lends wsX5_lends ({ frames := 1, cells := 0, slots := 0, locals := 21 } : Room) K [.ref a0, .int p1, .int p2] (cSt K a0 a1 a2 a3 a4 a5 a6 a7 S) (some (.int R)) (cSt K a0 a1 a2 a3 a4 a5 a6 a7 S) := by
  refine zC_z .boolean R (cc := cX5_lends) (maxL := 3) (by decide +kernel) rfl (Nat.le_of_ble_eq_true rfl) rfl rfl ?_
  intro p e s m below meth c Q A X hret ls hl hh
  have X : zX p m c cX5_lends 3 s ([.ref a0, .int p1, .int p2] : List Value).toArray wsX5_lends RX5 K A := X
  have hx := X.1.1
  have hb := X.1.2.1
  have hr2 : ∀ (pc : Nat) (ls : Array Slot) (H : Heap) (locs : List Loc) (v : Int32), some v = some R → narrow .boolean (.int v) = .int v → decode cX5_lends pc = .ok (.ireturn, 1) → zW K A s H locs (cSt K a0 a1 a2 a3 a4 a5 a6 a7 S) → W p l e ({ frames := 1, cells := 0, slots := 0, locals := 21 } : Room) s m ([.ref a0, .int p1, .int p2] : List Value).toArray below meth c H locs 0 0 Q (F0 m pc ls [.int v]) := by
    intro pc ls H locs v h hn hd hh
    cases h; exact hret pc ls H locs _ rfl hn hd hh
  have hl : lv_has ls 3 [(0, .ref a0), (1, .int p1), (2, .int p2)] := hl
  unfold fX5_lends at hf
  refine (fun (hmain : ∀ (H : Heap) (locs : List Loc), zW K A s H locs (cSt K a0 a1 a2 a3 a4 a5 a6 a7 S) → W p l e ({ frames := 1, cells := 0, slots := 0, locals := 21 } : Room) s m ([.ref a0, .int p1, .int p2] : List Value).toArray below meth c H locs 0 0 Q (F0 m 0 ls [])) => hmain s.heap [] hh) (fun H locs hh => ?_)
  refine lv_aload_n hx hb dX5_lends_0 rfl (lv_at hl 0 rfl) ?_
  refine lv_iload_n hx hb dX5_lends_1 rfl (lv_at hl 1 rfl) ?_
  refine zcallV (ci := 5) (q0 := 0) (As := [.int p1]) (rest := []) (wr := []) (ws' := cSt K a0 a1 a2 a3 a4 a5 a6 a7 S) (ov := some (.int (fX5_has S p1))) X hh hl (kX5_has l K a0 a1 a2 a3 a4 a5 a6 a7 S p1 (fX5_has S p1) rfl) (fun ht => cwV 1 ht gX5_lends_X5_has rfl rfl rfl ⟨rfl, hdX5_has⟩ ⟨Nat.le_of_ble_eq_true rfl, Nat.le_of_ble_eq_true rfl⟩) [0, 1, 2, 3, 4, 5, 6, 7] [] [0, 1, 2, 3, 4, 5, 6, 7] rfl rfl rfl rfl (by decide) rfl rfl rfl rfl rfl rfl (Nat.le_of_ble_eq_true rfl) dX5_lends_2 ⟨Nat.zero_le _, Nat.zero_le _⟩ (fun H locs hh => ?_)
  refine lv_if_ne (tgt := 10) hx hb dX5_lends_5 (by decide) (fun c2 => ?_) (fun c2 => ?_)
  · replace hf := (if_neg c2).symm.trans hf
    refine lv_aload_n hx hb dX5_lends_10 rfl (lv_at hl 0 rfl) ?_
    refine zget (v := .ref a1) (ref := "SumOfTwoThatStand$Street") (C := RX5) (T := TX5) (N := 11) (index := 9) X hh inX5_lends_X5 0 rfl rfl 0 (by decide) mmX5_lends_0 rfl rfl dX5_lends_11 ?_
    refine lv_iload_n hx hb dX5_lends_14 rfl (lv_at hl 1 rfl) ?_
    obtain ⟨g3, hf⟩ := ob_ix hf
    refine ziald (f := (st_kinds S)) X hh 1 rfl g3 dX5_lends_15 ?_
    by_cases c4_0 : ((st_kinds S) p1.toNatClampNeg) = (1 : Int32)
    · replace hf := (if_pos c4_0).symm.trans hf
      refine lv_tableIn (off := 32) (tgt := 48) hx hb dX5_lends_16 (by rw [c4_0]; decide) (by rw [c4_0]; decide) (by rw [c4_0]; decide) (by decide) ?_
      refine lv_aload_n hx hb dX5_lends_48 rfl (lv_at hl 0 rfl) ?_
      refine zget (v := .ref a6) (ref := "SumOfTwoThatStand$Street") (C := RX5) (T := TX5) (N := 11) (index := 27) X hh inX5_lends_X5 0 rfl rfl 5 (by decide) mmX5_lends_1 rfl rfl dX5_lends_49 ?_
      refine lv_iload_n hx hb dX5_lends_52 rfl (lv_at hl 1 rfl) ?_
      refine ziald (f := (st_uses S)) X hh 6 rfl g3 dX5_lends_53 ?_
      refine lv_if_ne (tgt := 61) hx hb dX5_lends_54 (by decide) (fun c5 => ?_) (fun c5 => ?_)
      · replace hf := (if_neg c5).symm.trans hf
        refine lv_iconst (v := (0 : Int32)) hx hb dX5_lends_61 (by decide) ?_
        exact hr2 62 ls H locs (0 : Int32) hf rfl dX5_lends_62 hh
      · replace hf := (if_pos c5).symm.trans hf
        refine lv_iconst (v := (1 : Int32)) hx hb dX5_lends_57 (by decide) ?_
        refine lv_goto (tgt := 62) hx hb dX5_lends_58 (by decide) ?_
        exact hr2 62 ls H locs (1 : Int32) hf rfl dX5_lends_62 hh
    replace hf := (if_neg c4_0).symm.trans hf
    by_cases c4_1 : ((st_kinds S) p1.toNatClampNeg) = (2 : Int32)
    · replace hf := (if_pos c4_1).symm.trans hf
      refine lv_tableIn (off := 61) (tgt := 77) hx hb dX5_lends_16 (by rw [c4_1]; decide) (by rw [c4_1]; decide) (by rw [c4_1]; decide) (by decide) ?_
      refine lv_iconst (v := (1 : Int32)) hx hb dX5_lends_77 (by decide) ?_
      exact hr2 78 ls H locs (1 : Int32) hf rfl dX5_lends_78 hh
    replace hf := (if_neg c4_1).symm.trans hf
    by_cases c4_2 : ((st_kinds S) p1.toNatClampNeg) = (3 : Int32)
    · replace hf := (if_pos c4_2).symm.trans hf
      refine lv_tableIn (off := 47) (tgt := 63) hx hb dX5_lends_16 (by rw [c4_2]; decide) (by rw [c4_2]; decide) (by rw [c4_2]; decide) (by decide) ?_
      refine lv_iload_n hx hb dX5_lends_63 rfl (lv_at hl 2 rfl) ?_
      refine lv_iconst (v := (1 : Int32)) hx hb dX5_lends_64 (by decide) ?_
      refine lv_iand hx hb dX5_lends_65 ?_
      refine lv_if_ne (tgt := 73) hx hb dX5_lends_66 (by decide) (fun c6 => ?_) (fun c6 => ?_)
      · replace hf := (if_neg c6).symm.trans hf
        refine lv_iconst (v := (0 : Int32)) hx hb dX5_lends_73 (by decide) ?_
        exact hr2 74 ls H locs (0 : Int32) hf rfl dX5_lends_74 hh
      · replace hf := (if_pos c6).symm.trans hf
        refine lv_iconst (v := (1 : Int32)) hx hb dX5_lends_69 (by decide) ?_
        refine lv_goto (tgt := 74) hx hb dX5_lends_70 (by decide) ?_
        exact hr2 74 ls H locs (1 : Int32) hf rfl dX5_lends_74 hh
    replace hf := (if_neg c4_2).symm.trans hf
    by_cases c4_3 : ((st_kinds S) p1.toNatClampNeg) = (4 : Int32)
    · replace hf := (if_pos c4_3).symm.trans hf
      refine lv_tableIn (off := 59) (tgt := 75) hx hb dX5_lends_16 (by rw [c4_3]; decide) (by rw [c4_3]; decide) (by rw [c4_3]; decide) (by decide) ?_
      refine lv_iconst (v := (0 : Int32)) hx hb dX5_lends_75 (by decide) ?_
      exact hr2 76 ls H locs (0 : Int32) hf rfl dX5_lends_76 hh
    replace hf := (if_neg c4_3).symm.trans hf
    refine lv_tableOut (tgt := 77) hx hb dX5_lends_16 (by have e0 := lv_neT c4_0 (a := 1) (by decide); have e1 := lv_neT c4_1 (a := 2) (by decide); have e2 := lv_neT c4_2 (a := 3) (by decide); have e3 := lv_neT c4_3 (a := 4) (by decide); omega) (by decide) ?_
    refine lv_iconst (v := (1 : Int32)) hx hb dX5_lends_77 (by decide) ?_
    exact hr2 78 ls H locs (1 : Int32) hf rfl dX5_lends_78 hh
  · replace hf := (if_pos c2).symm.trans hf
    refine lv_iconst (v := (0 : Int32)) hx hb dX5_lends_8 (by decide) ?_
    exact hr2 9 ls H locs (0 : Int32) hf rfl dX5_lends_9 hh
theorem inX5_mayBe_X5 : ∀ w ∈ wsX50, w ∈ wsX5_mayBe := by decide +kernel
theorem mmX5_mayBe_0 : Cond.fieldLink RX5 18 "SumOfTwoThatStand$Street" "numbers" "[I" ∈ wsX5_mayBe := by decide +kernel
theorem hdX5_mayBe : yX5_mayBe.cls ≠ "java/lang/invoke/MethodHandle" ∧ yX5_mayBe.cls ≠ "java/lang/invoke/VarHandle" ∧ (parseMethodDescriptor yX5_mayBe.desc).map (fun d => d.parameters.length) = some 2 := by decide +kernel
set_option maxHeartbeats 4000000 in
set_option maxRecDepth 100000 in
theorem kX5_mayBe (l : Launch) (K : zK) (a0 a1 a2 a3 a4 a5 a6 a7 : Nat) (S : zSt) (p1 : Int32) (p2 : Int32) (R : Int32) (hf : fX5_mayBe S p1 p2 = some R) : zC l yX5_mayBe wsX5_mayBe ({ frames := 2, cells := 0, slots := 0, locals := 44 } : Room) K [.ref a0, .int p1, .int p2] (cSt K a0 a1 a2 a3 a4 a5 a6 a7 S) (some (.int R)) (cSt K a0 a1 a2 a3 a4 a5 a6 a7 S) := by
  refine zC_z .boolean R (cc := cX5_mayBe) (maxL := 4) (by decide +kernel) rfl (Nat.le_of_ble_eq_true rfl) rfl rfl ?_
  intro p e s m below meth c Q A X hret ls hl hh
  have X : zX p m c cX5_mayBe 4 s ([.ref a0, .int p1, .int p2] : List Value).toArray wsX5_mayBe RX5 K A := X
  have hx := X.1.1
  have hb := X.1.2.1
  have hr2 : ∀ (pc : Nat) (ls : Array Slot) (H : Heap) (locs : List Loc) (v : Int32), some v = some R → narrow .boolean (.int v) = .int v → decode cX5_mayBe pc = .ok (.ireturn, 1) → zW K A s H locs (cSt K a0 a1 a2 a3 a4 a5 a6 a7 S) → W p l e ({ frames := 2, cells := 0, slots := 0, locals := 44 } : Room) s m ([.ref a0, .int p1, .int p2] : List Value).toArray below meth c H locs 0 0 Q (F0 m pc ls [.int v]) := by
    intro pc ls H locs v h hn hd hh
    cases h; exact hret pc ls H locs _ rfl hn hd hh
  have hl : lv_has ls 4 [(0, .ref a0), (1, .int p1), (2, .int p2)] := hl
  unfold fX5_mayBe at hf
  refine (fun (hmain : ∀ (H : Heap) (locs : List Loc), zW K A s H locs (cSt K a0 a1 a2 a3 a4 a5 a6 a7 S) → W p l e ({ frames := 2, cells := 0, slots := 0, locals := 44 } : Room) s m ([.ref a0, .int p1, .int p2] : List Value).toArray below meth c H locs 0 0 Q (F0 m 0 ls [])) => hmain s.heap [] hh) (fun H locs hh => ?_)
  refine lv_aload_n hx hb dX5_mayBe_0 rfl (lv_at hl 0 rfl) ?_
  refine lv_iload_n hx hb dX5_mayBe_1 rfl (lv_at hl 1 rfl) ?_
  refine zcallV (ci := 5) (q0 := 0) (As := [.int p1]) (rest := []) (wr := []) (ws' := cSt K a0 a1 a2 a3 a4 a5 a6 a7 S) (ov := some (.int (fX5_stands S p1))) X hh hl (kX5_stands l K a0 a1 a2 a3 a4 a5 a6 a7 S p1 (fX5_stands S p1) rfl) (fun ht => cwV 1 ht gX5_mayBe_X5_stands rfl rfl rfl ⟨rfl, hdX5_stands⟩ ⟨Nat.le_of_ble_eq_true rfl, Nat.le_of_ble_eq_true rfl⟩) [0, 1, 2, 3, 4, 5, 6, 7] [] [0, 1, 2, 3, 4, 5, 6, 7] rfl rfl rfl rfl (by decide) rfl rfl rfl rfl rfl rfl (Nat.le_of_ble_eq_true rfl) dX5_mayBe_2 ⟨Nat.zero_le _, Nat.zero_le _⟩ (fun H locs hh => ?_)
  refine lv_if_eq (tgt := 25) hx hb dX5_mayBe_5 (by decide) (fun c2 => ?_) (fun c2 => ?_)
  · replace hf := (if_pos c2).symm.trans hf
    refine lv_iconst (v := (0 : Int32)) hx hb dX5_mayBe_25 (by decide) ?_
    exact hr2 26 ls H locs (0 : Int32) hf rfl dX5_mayBe_26 hh
  · replace hf := (if_neg c2).symm.trans hf
    refine lv_aload_n hx hb dX5_mayBe_8 rfl (lv_at hl 0 rfl) ?_
    refine lv_iload_n hx hb dX5_mayBe_9 rfl (lv_at hl 2 rfl) ?_
    refine zcallV (ci := 5) (q0 := 0) (As := [.int p2]) (rest := []) (wr := []) (ws' := cSt K a0 a1 a2 a3 a4 a5 a6 a7 S) (ov := some (.int (fX5_stands S p2))) X hh hl (kX5_stands l K a0 a1 a2 a3 a4 a5 a6 a7 S p2 (fX5_stands S p2) rfl) (fun ht => cwV 1 ht gX5_mayBe_X5_stands rfl rfl rfl ⟨rfl, hdX5_stands⟩ ⟨Nat.le_of_ble_eq_true rfl, Nat.le_of_ble_eq_true rfl⟩) [0, 1, 2, 3, 4, 5, 6, 7] [] [0, 1, 2, 3, 4, 5, 6, 7] rfl rfl rfl rfl (by decide) rfl rfl rfl rfl rfl rfl (Nat.le_of_ble_eq_true rfl) dX5_mayBe_10 ⟨Nat.zero_le _, Nat.zero_le _⟩ (fun H locs hh => ?_)
    refine lv_if_eq (tgt := 25) hx hb dX5_mayBe_13 (by decide) (fun c4 => ?_) (fun c4 => ?_)
    · replace hf := (if_pos c4).symm.trans hf
      refine lv_iconst (v := (0 : Int32)) hx hb dX5_mayBe_25 (by decide) ?_
      exact hr2 26 ls H locs (0 : Int32) hf rfl dX5_mayBe_26 hh
    · replace hf := (if_neg c4).symm.trans hf
      refine lv_aload_n hx hb dX5_mayBe_16 rfl (lv_at hl 0 rfl) ?_
      refine lv_iload_n hx hb dX5_mayBe_17 rfl (lv_at hl 1 rfl) ?_
      refine lv_iload_n hx hb dX5_mayBe_18 rfl (lv_at hl 2 rfl) ?_
      refine zcallV (ci := 5) (q0 := 0) (As := [.int p1, .int p2]) (rest := []) (wr := []) (ws' := cSt K a0 a1 a2 a3 a4 a5 a6 a7 S) (ov := some (.int (fX5_isLawful S p1 p2))) X hh hl (kX5_isLawful l K a0 a1 a2 a3 a4 a5 a6 a7 S p1 p2 (fX5_isLawful S p1 p2) rfl) (fun ht => cwV 2 ht gX5_mayBe_X5_isLawful rfl rfl rfl ⟨rfl, hdX5_isLawful⟩ ⟨Nat.le_of_ble_eq_true rfl, Nat.le_of_ble_eq_true rfl⟩) [0, 1, 2, 3, 4, 5, 6, 7] [] [0, 1, 2, 3, 4, 5, 6, 7] rfl rfl rfl rfl (by decide) rfl rfl rfl rfl rfl rfl (Nat.le_of_ble_eq_true rfl) dX5_mayBe_19 ⟨Nat.zero_le _, Nat.zero_le _⟩ (fun H locs hh => ?_)
      refine lv_if_ne (tgt := 27) hx hb dX5_mayBe_22 (by decide) (fun c6 => ?_) (fun c6 => ?_)
      · replace hf := (if_neg c6).symm.trans hf
        refine lv_aload_n hx hb dX5_mayBe_27 rfl (lv_at hl 0 rfl) ?_
        refine zget (v := .ref a3) (ref := "SumOfTwoThatStand$Street") (C := RX5) (T := TX5) (N := 11) (index := 18) X hh inX5_mayBe_X5 0 rfl rfl 2 (by decide) mmX5_mayBe_0 rfl rfl dX5_mayBe_28 ?_
        refine lv_iload_n hx hb dX5_mayBe_31 rfl (lv_at hl 1 rfl) ?_
        obtain ⟨g7, hf⟩ := ob_ix hf
        refine ziald (f := (st_numbers S)) X hh 3 rfl g7 dX5_mayBe_32 ?_
        refine lv_aload_n hx hb dX5_mayBe_33 rfl (lv_at hl 0 rfl) ?_
        refine zget (v := .ref a3) (ref := "SumOfTwoThatStand$Street") (C := RX5) (T := TX5) (N := 11) (index := 18) X hh inX5_mayBe_X5 0 rfl rfl 2 (by decide) mmX5_mayBe_0 rfl rfl dX5_mayBe_34 ?_
        refine lv_iload_n hx hb dX5_mayBe_37 rfl (lv_at hl 2 rfl) ?_
        obtain ⟨g8, hf⟩ := ob_ix hf
        refine ziald (f := (st_numbers S)) X hh 3 rfl g8 dX5_mayBe_38 ?_
        refine lv_iadd hx hb dX5_mayBe_39 ?_
        refine lv_istore_n (lv' := [(3, .int (((st_numbers S) p1.toNatClampNeg) + ((st_numbers S) p2.toNatClampNeg))), (0, .ref a0), (1, .int p1), (2, .int p2)]) hx hb dX5_mayBe_40 rfl hl (by decide) rfl (fun ls hl => ?_)
        refine lv_iload_n hx hb dX5_mayBe_41 rfl (lv_at hl 0 rfl) ?_
        refine lv_sipush (v := (9999 : Int32)) hx hb dX5_mayBe_42 (by decide) ?_
        refine lv_icmp_gt (tgt := 78) hx hb dX5_mayBe_45 (by decide) (fun c9 => ?_) (fun c9 => ?_)
        · replace hf := (if_pos c9).symm.trans hf
          refine lv_iconst (v := (0 : Int32)) hx hb dX5_mayBe_78 (by decide) ?_
          exact hr2 79 ls H locs (0 : Int32) hf rfl dX5_mayBe_79 hh
        · replace hf := (if_neg c9).symm.trans hf
          refine lv_aload_n hx hb dX5_mayBe_48 rfl (lv_at hl 1 rfl) ?_
          refine lv_iload_n hx hb dX5_mayBe_49 rfl (lv_at hl 2 rfl) ?_
          refine lv_iload_n hx hb dX5_mayBe_50 rfl (lv_at hl 0 rfl) ?_
          obtain ⟨u10, hu10, hf⟩ := ob_bind hf
          refine zcallV (ci := 5) (q0 := 0) (As := [.int p1, .int (((st_numbers S) p1.toNatClampNeg) + ((st_numbers S) p2.toNatClampNeg))]) (rest := []) (wr := []) (ws' := cSt K a0 a1 a2 a3 a4 a5 a6 a7 S) (ov := some (.int u10)) X hh hl (kX5_lends l K a0 a1 a2 a3 a4 a5 a6 a7 S p1 (((st_numbers S) p1.toNatClampNeg) + ((st_numbers S) p2.toNatClampNeg)) u10 hu10) (fun ht => cwV 2 ht gX5_mayBe_X5_lends rfl rfl rfl ⟨rfl, hdX5_lends⟩ ⟨Nat.le_of_ble_eq_true rfl, Nat.le_of_ble_eq_true rfl⟩) [0, 1, 2, 3, 4, 5, 6, 7] [] [0, 1, 2, 3, 4, 5, 6, 7] rfl rfl rfl rfl (by decide) rfl rfl rfl rfl rfl rfl (Nat.le_of_ble_eq_true rfl) dX5_mayBe_51 ⟨Nat.zero_le _, Nat.zero_le _⟩ (fun H locs hh => ?_)
          refine lv_if_eq (tgt := 78) hx hb dX5_mayBe_54 (by decide) (fun c11 => ?_) (fun c11 => ?_)
          · replace hf := (if_pos c11).symm.trans hf
            refine lv_iconst (v := (0 : Int32)) hx hb dX5_mayBe_78 (by decide) ?_
            exact hr2 79 ls H locs (0 : Int32) hf rfl dX5_mayBe_79 hh
          · replace hf := (if_neg c11).symm.trans hf
            refine lv_aload_n hx hb dX5_mayBe_57 rfl (lv_at hl 1 rfl) ?_
            refine lv_iload_n hx hb dX5_mayBe_58 rfl (lv_at hl 3 rfl) ?_
            refine lv_iload_n hx hb dX5_mayBe_59 rfl (lv_at hl 0 rfl) ?_
            obtain ⟨u12, hu12, hf⟩ := ob_bind hf
            refine zcallV (ci := 5) (q0 := 0) (As := [.int p2, .int (((st_numbers S) p1.toNatClampNeg) + ((st_numbers S) p2.toNatClampNeg))]) (rest := []) (wr := []) (ws' := cSt K a0 a1 a2 a3 a4 a5 a6 a7 S) (ov := some (.int u12)) X hh hl (kX5_lends l K a0 a1 a2 a3 a4 a5 a6 a7 S p2 (((st_numbers S) p1.toNatClampNeg) + ((st_numbers S) p2.toNatClampNeg)) u12 hu12) (fun ht => cwV 2 ht gX5_mayBe_X5_lends rfl rfl rfl ⟨rfl, hdX5_lends⟩ ⟨Nat.le_of_ble_eq_true rfl, Nat.le_of_ble_eq_true rfl⟩) [0, 1, 2, 3, 4, 5, 6, 7] [] [0, 1, 2, 3, 4, 5, 6, 7] rfl rfl rfl rfl (by decide) rfl rfl rfl rfl rfl rfl (Nat.le_of_ble_eq_true rfl) dX5_mayBe_60 ⟨Nat.zero_le _, Nat.zero_le _⟩ (fun H locs hh => ?_)
            refine lv_if_eq (tgt := 78) hx hb dX5_mayBe_63 (by decide) (fun c13 => ?_) (fun c13 => ?_)
            · replace hf := (if_pos c13).symm.trans hf
              refine lv_iconst (v := (0 : Int32)) hx hb dX5_mayBe_78 (by decide) ?_
              exact hr2 79 ls H locs (0 : Int32) hf rfl dX5_mayBe_79 hh
            · replace hf := (if_neg c13).symm.trans hf
              refine lv_aload_n hx hb dX5_mayBe_66 rfl (lv_at hl 1 rfl) ?_
              refine lv_iload_n hx hb dX5_mayBe_67 rfl (lv_at hl 0 rfl) ?_
              obtain ⟨u14, hu14, hf⟩ := ob_bind hf
              refine zcallV (ci := 5) (q0 := 0) (As := [.int (((st_numbers S) p1.toNatClampNeg) + ((st_numbers S) p2.toNatClampNeg))]) (rest := []) (wr := []) (ws' := cSt K a0 a1 a2 a3 a4 a5 a6 a7 S) (ov := some (.int u14)) X hh hl (kX5_isThere l K a0 a1 a2 a3 a4 a5 a6 a7 S (((st_numbers S) p1.toNatClampNeg) + ((st_numbers S) p2.toNatClampNeg)) u14 hu14) (fun ht => cwV 1 ht gX5_mayBe_X5_isThere rfl rfl rfl ⟨rfl, hdX5_isThere⟩ ⟨Nat.le_of_ble_eq_true rfl, Nat.le_of_ble_eq_true rfl⟩) [0, 1, 2, 3, 4, 5, 6, 7] [] [0, 1, 2, 3, 4, 5, 6, 7] rfl rfl rfl rfl (by decide) rfl rfl rfl rfl rfl rfl (Nat.le_of_ble_eq_true rfl) dX5_mayBe_68 ⟨Nat.zero_le _, Nat.zero_le _⟩ (fun H locs hh => ?_)
              refine lv_if_ne (tgt := 78) hx hb dX5_mayBe_71 (by decide) (fun c15 => ?_) (fun c15 => ?_)
              · replace hf := (if_neg c15).symm.trans hf
                refine lv_iconst (v := (0 : Int32)) hx hb dX5_mayBe_78 (by decide) ?_
                exact hr2 79 ls H locs (0 : Int32) hf rfl dX5_mayBe_79 hh
              · replace hf := (if_pos c15).symm.trans hf
                refine lv_iconst (v := (1 : Int32)) hx hb dX5_mayBe_74 (by decide) ?_
                refine lv_goto (tgt := 79) hx hb dX5_mayBe_75 (by decide) ?_
                exact hr2 79 ls H locs (1 : Int32) hf rfl dX5_mayBe_79 hh
      · replace hf := (if_pos c6).symm.trans hf
        refine lv_iconst (v := (0 : Int32)) hx hb dX5_mayBe_25 (by decide) ?_
        exact hr2 26 ls H locs (0 : Int32) hf rfl dX5_mayBe_26 hh
theorem inX5_place_X5 : ∀ w ∈ wsX50, w ∈ wsX5_place := by decide +kernel
theorem mmX5_place_0 : Cond.fieldLink RX5 18 "SumOfTwoThatStand$Street" "numbers" "[I" ∈ wsX5_place := by decide +kernel
theorem mmX5_place_1 : Cond.fieldLink RX5 36 "SumOfTwoThatStand$Street" "came" "I" ∈ wsX5_place := by decide +kernel
theorem mmX5_place_2 : Cond.fieldLink RX5 21 "SumOfTwoThatStand$Street" "firsts" "[I" ∈ wsX5_place := by decide +kernel
theorem mmX5_place_3 : Cond.fieldLink RX5 24 "SumOfTwoThatStand$Street" "seconds" "[I" ∈ wsX5_place := by decide +kernel
theorem mmX5_place_4 : Cond.fieldLink RX5 9 "SumOfTwoThatStand$Street" "kinds" "[I" ∈ wsX5_place := by decide +kernel
theorem mmX5_place_5 : Cond.fieldLink RX5 15 "SumOfTwoThatStand$Street" "figures" "[I" ∈ wsX5_place := by decide +kernel
theorem mmX5_place_6 : Cond.fieldLink RX5 27 "SumOfTwoThatStand$Street" "uses" "[I" ∈ wsX5_place := by decide +kernel
theorem mmX5_place_7 : Cond.fieldLink RX5 30 "SumOfTwoThatStand$Street" "earned" "[I" ∈ wsX5_place := by decide +kernel
theorem mmX5_place_8 : Cond.fieldLink RX5 40 "SumOfTwoThatStand$Street" "standing" "I" ∈ wsX5_place := by decide +kernel
theorem hdX5_place : yX5_place.cls ≠ "java/lang/invoke/MethodHandle" ∧ yX5_place.cls ≠ "java/lang/invoke/VarHandle" ∧ (parseMethodDescriptor yX5_place.desc).map (fun d => d.parameters.length) = some 5 := by decide +kernel
set_option maxHeartbeats 4000000 in
set_option maxRecDepth 100000 in
theorem kX5_place (l : Launch) (K : zK) (a0 a1 a2 a3 a4 a5 a6 a7 : Nat) (S : zSt) (p1 : Int32) (p2 : Int32) (p3 : Int32) (p4 : Int32) (p5 : Int32) (R : zSt) (hf : fX5_place S p1 p2 p3 p4 p5 = some R) : zC l yX5_place wsX5_place ({ frames := 1, cells := 0, slots := 0, locals := 20 } : Room) K [.ref a0, .int p1, .int p2, .int p3, .int p4, .int p5] (cSt K a0 a1 a2 a3 a4 a5 a6 a7 S) none (cSt K a0 a1 a2 a3 a4 a5 a6 a7 R) := by
  refine zC_v (cc := cX5_place) (maxL := 6) (by decide +kernel) rfl (Nat.le_of_ble_eq_true rfl) rfl rfl ?_
  intro p e s m below meth c Q A X hret ls hl hh
  have X : zX p m c cX5_place 6 s ([.ref a0, .int p1, .int p2, .int p3, .int p4, .int p5] : List Value).toArray wsX5_place RX5 K A := X
  have hx := X.1.1
  have hb := X.1.2.1
  have hr2 : ∀ (pc : Nat) (ls : Array Slot) (H : Heap) (locs : List Loc) (S : zSt), some S = some R → decode cX5_place pc = .ok (.return_, 1) → zW K A s H locs (cSt K a0 a1 a2 a3 a4 a5 a6 a7 S) → W p l e ({ frames := 1, cells := 0, slots := 0, locals := 20 } : Room) s m ([.ref a0, .int p1, .int p2, .int p3, .int p4, .int p5] : List Value).toArray below meth c H locs 0 0 Q (F0 m pc ls []) := by
    intro pc ls H locs S h hd hh
    cases h; exact hret pc ls H locs hd hh
  have hl : lv_has ls 6 [(0, .ref a0), (1, .int p1), (2, .int p2), (3, .int p3), (4, .int p4), (5, .int p5)] := hl
  unfold fX5_place at hf
  refine (fun (hmain : ∀ (H : Heap) (locs : List Loc), zW K A s H locs (cSt K a0 a1 a2 a3 a4 a5 a6 a7 S) → W p l e ({ frames := 1, cells := 0, slots := 0, locals := 20 } : Room) s m ([.ref a0, .int p1, .int p2, .int p3, .int p4, .int p5] : List Value).toArray below meth c H locs 0 0 Q (F0 m 0 ls [])) => hmain s.heap [] hh) (fun H locs hh => ?_)
  refine lv_aload_n hx hb dX5_place_0 rfl (lv_at hl 0 rfl) ?_
  refine zcallV (ci := 5) (q0 := 0) (As := []) (rest := []) (wr := []) (ws' := cSt K a0 a1 a2 a3 a4 a5 a6 a7 S) (ov := some (.int (fX5_hasRoom S))) X hh hl (kX5_hasRoom l K a0 a1 a2 a3 a4 a5 a6 a7 S (fX5_hasRoom S) rfl) (fun ht => cwV 0 ht gX5_place_X5_hasRoom rfl rfl rfl ⟨rfl, hdX5_hasRoom⟩ ⟨Nat.le_of_ble_eq_true rfl, Nat.le_of_ble_eq_true rfl⟩) [0, 1, 2, 3, 4, 5, 6, 7] [] [0, 1, 2, 3, 4, 5, 6, 7] rfl rfl rfl rfl (by decide) rfl rfl rfl rfl rfl rfl (Nat.le_of_ble_eq_true rfl) dX5_place_1 ⟨Nat.zero_le _, Nat.zero_le _⟩ (fun H locs hh => ?_)
  refine lv_if_ne (tgt := 8) hx hb dX5_place_4 (by decide) (fun c2 => ?_) (fun c2 => ?_)
  · replace hf := (if_neg c2).symm.trans hf
    refine lv_aload_n hx hb dX5_place_8 rfl (lv_at hl 0 rfl) ?_
    refine zget (v := .ref a3) (ref := "SumOfTwoThatStand$Street") (C := RX5) (T := TX5) (N := 11) (index := 18) X hh inX5_place_X5 0 rfl rfl 2 (by decide) mmX5_place_0 rfl rfl dX5_place_9 ?_
    refine lv_aload_n hx hb dX5_place_12 rfl (lv_at hl 0 rfl) ?_
    refine zget (v := .int (st_came S)) (ref := "SumOfTwoThatStand$Street") (C := RX5) (T := TX5) (N := 11) (index := 36) X hh inX5_place_X5 0 rfl rfl 7 (by decide) mmX5_place_1 rfl rfl dX5_place_13 ?_
    refine lv_iload_n hx hb dX5_place_16 rfl (lv_at hl 1 rfl) ?_
    obtain ⟨g3, hf⟩ := ob_ix hf
    refine ziast (f := (st_numbers S)) X hh 3 rfl g3 dX5_place_17 (fun H locs hh => ?_)
    have hh : zW K A s H locs (cSt K a0 a1 a2 a3 a4 a5 a6 a7 (st_set_numbers S (upd (st_numbers S) (st_came S).toNatClampNeg p1))) := hh
    refine lv_aload_n hx hb dX5_place_18 rfl (lv_at hl 0 rfl) ?_
    refine zget (v := .ref a4) (ref := "SumOfTwoThatStand$Street") (C := RX5) (T := TX5) (N := 11) (index := 21) X hh inX5_place_X5 0 rfl rfl 3 (by decide) mmX5_place_2 rfl rfl dX5_place_19 ?_
    refine lv_aload_n hx hb dX5_place_22 rfl (lv_at hl 0 rfl) ?_
    refine zget (v := .int (st_came S)) (ref := "SumOfTwoThatStand$Street") (C := RX5) (T := TX5) (N := 11) (index := 36) X hh inX5_place_X5 0 rfl rfl 7 (by decide) mmX5_place_1 rfl rfl dX5_place_23 ?_
    refine lv_iload_n hx hb dX5_place_26 rfl (lv_at hl 2 rfl) ?_
    refine ziast (f := (st_firsts S)) X hh 4 rfl g3 dX5_place_27 (fun H locs hh => ?_)
    have hh : zW K A s H locs (cSt K a0 a1 a2 a3 a4 a5 a6 a7 (st_set_firsts (st_set_numbers S (upd (st_numbers S) (st_came S).toNatClampNeg p1)) (upd (st_firsts S) (st_came S).toNatClampNeg p2))) := hh
    refine lv_aload_n hx hb dX5_place_28 rfl (lv_at hl 0 rfl) ?_
    refine zget (v := .ref a5) (ref := "SumOfTwoThatStand$Street") (C := RX5) (T := TX5) (N := 11) (index := 24) X hh inX5_place_X5 0 rfl rfl 4 (by decide) mmX5_place_3 rfl rfl dX5_place_29 ?_
    refine lv_aload_n hx hb dX5_place_32 rfl (lv_at hl 0 rfl) ?_
    refine zget (v := .int (st_came S)) (ref := "SumOfTwoThatStand$Street") (C := RX5) (T := TX5) (N := 11) (index := 36) X hh inX5_place_X5 0 rfl rfl 7 (by decide) mmX5_place_1 rfl rfl dX5_place_33 ?_
    refine lv_iload_n hx hb dX5_place_36 rfl (lv_at hl 3 rfl) ?_
    refine ziast (f := (st_seconds S)) X hh 5 rfl g3 dX5_place_37 (fun H locs hh => ?_)
    have hh : zW K A s H locs (cSt K a0 a1 a2 a3 a4 a5 a6 a7 (st_set_seconds (st_set_firsts (st_set_numbers S (upd (st_numbers S) (st_came S).toNatClampNeg p1)) (upd (st_firsts S) (st_came S).toNatClampNeg p2)) (upd (st_seconds S) (st_came S).toNatClampNeg p3))) := hh
    refine lv_aload_n hx hb dX5_place_38 rfl (lv_at hl 0 rfl) ?_
    refine zget (v := .ref a1) (ref := "SumOfTwoThatStand$Street") (C := RX5) (T := TX5) (N := 11) (index := 9) X hh inX5_place_X5 0 rfl rfl 0 (by decide) mmX5_place_4 rfl rfl dX5_place_39 ?_
    refine lv_aload_n hx hb dX5_place_42 rfl (lv_at hl 0 rfl) ?_
    refine zget (v := .int (st_came S)) (ref := "SumOfTwoThatStand$Street") (C := RX5) (T := TX5) (N := 11) (index := 36) X hh inX5_place_X5 0 rfl rfl 7 (by decide) mmX5_place_1 rfl rfl dX5_place_43 ?_
    refine lv_iload hx hb dX5_place_46 (lv_at hl 4 rfl) ?_
    refine ziast (f := (st_kinds S)) X hh 1 rfl g3 dX5_place_48 (fun H locs hh => ?_)
    have hh : zW K A s H locs (cSt K a0 a1 a2 a3 a4 a5 a6 a7 (st_set_seconds (st_set_firsts (st_set_numbers (st_set_kinds S (upd (st_kinds S) (st_came S).toNatClampNeg p4)) (upd (st_numbers S) (st_came S).toNatClampNeg p1)) (upd (st_firsts S) (st_came S).toNatClampNeg p2)) (upd (st_seconds S) (st_came S).toNatClampNeg p3))) := hh
    refine lv_aload_n hx hb dX5_place_49 rfl (lv_at hl 0 rfl) ?_
    refine zget (v := .ref a2) (ref := "SumOfTwoThatStand$Street") (C := RX5) (T := TX5) (N := 11) (index := 15) X hh inX5_place_X5 0 rfl rfl 1 (by decide) mmX5_place_5 rfl rfl dX5_place_50 ?_
    refine lv_aload_n hx hb dX5_place_53 rfl (lv_at hl 0 rfl) ?_
    refine zget (v := .int (st_came S)) (ref := "SumOfTwoThatStand$Street") (C := RX5) (T := TX5) (N := 11) (index := 36) X hh inX5_place_X5 0 rfl rfl 7 (by decide) mmX5_place_1 rfl rfl dX5_place_54 ?_
    refine lv_iload hx hb dX5_place_57 (lv_at hl 5 rfl) ?_
    refine ziast (f := (st_figures S)) X hh 2 rfl g3 dX5_place_59 (fun H locs hh => ?_)
    have hh : zW K A s H locs (cSt K a0 a1 a2 a3 a4 a5 a6 a7 (st_set_seconds (st_set_firsts (st_set_numbers (st_set_figures (st_set_kinds S (upd (st_kinds S) (st_came S).toNatClampNeg p4)) (upd (st_figures S) (st_came S).toNatClampNeg p5)) (upd (st_numbers S) (st_came S).toNatClampNeg p1)) (upd (st_firsts S) (st_came S).toNatClampNeg p2)) (upd (st_seconds S) (st_came S).toNatClampNeg p3))) := hh
    refine lv_aload_n hx hb dX5_place_60 rfl (lv_at hl 0 rfl) ?_
    refine zget (v := .ref a6) (ref := "SumOfTwoThatStand$Street") (C := RX5) (T := TX5) (N := 11) (index := 27) X hh inX5_place_X5 0 rfl rfl 5 (by decide) mmX5_place_6 rfl rfl dX5_place_61 ?_
    refine lv_aload_n hx hb dX5_place_64 rfl (lv_at hl 0 rfl) ?_
    refine zget (v := .int (st_came S)) (ref := "SumOfTwoThatStand$Street") (C := RX5) (T := TX5) (N := 11) (index := 36) X hh inX5_place_X5 0 rfl rfl 7 (by decide) mmX5_place_1 rfl rfl dX5_place_65 ?_
    refine lv_iconst (v := (0 : Int32)) hx hb dX5_place_68 (by decide) ?_
    refine ziast (f := (st_uses S)) X hh 6 rfl g3 dX5_place_69 (fun H locs hh => ?_)
    have hh : zW K A s H locs (cSt K a0 a1 a2 a3 a4 a5 a6 a7 (st_set_uses (st_set_seconds (st_set_firsts (st_set_numbers (st_set_figures (st_set_kinds S (upd (st_kinds S) (st_came S).toNatClampNeg p4)) (upd (st_figures S) (st_came S).toNatClampNeg p5)) (upd (st_numbers S) (st_came S).toNatClampNeg p1)) (upd (st_firsts S) (st_came S).toNatClampNeg p2)) (upd (st_seconds S) (st_came S).toNatClampNeg p3)) (upd (st_uses S) (st_came S).toNatClampNeg (0 : Int32)))) := hh
    refine lv_aload_n hx hb dX5_place_70 rfl (lv_at hl 0 rfl) ?_
    refine zget (v := .ref a7) (ref := "SumOfTwoThatStand$Street") (C := RX5) (T := TX5) (N := 11) (index := 30) X hh inX5_place_X5 0 rfl rfl 6 (by decide) mmX5_place_7 rfl rfl dX5_place_71 ?_
    refine lv_aload_n hx hb dX5_place_74 rfl (lv_at hl 0 rfl) ?_
    refine zget (v := .int (st_came S)) (ref := "SumOfTwoThatStand$Street") (C := RX5) (T := TX5) (N := 11) (index := 36) X hh inX5_place_X5 0 rfl rfl 7 (by decide) mmX5_place_1 rfl rfl dX5_place_75 ?_
    refine lv_iconst (v := (0 : Int32)) hx hb dX5_place_78 (by decide) ?_
    refine ziast (f := (st_earned S)) X hh 7 rfl g3 dX5_place_79 (fun H locs hh => ?_)
    have hh : zW K A s H locs (cSt K a0 a1 a2 a3 a4 a5 a6 a7 (st_set_earned (st_set_uses (st_set_seconds (st_set_firsts (st_set_numbers (st_set_figures (st_set_kinds S (upd (st_kinds S) (st_came S).toNatClampNeg p4)) (upd (st_figures S) (st_came S).toNatClampNeg p5)) (upd (st_numbers S) (st_came S).toNatClampNeg p1)) (upd (st_firsts S) (st_came S).toNatClampNeg p2)) (upd (st_seconds S) (st_came S).toNatClampNeg p3)) (upd (st_uses S) (st_came S).toNatClampNeg (0 : Int32))) (upd (st_earned S) (st_came S).toNatClampNeg (0 : Int32)))) := hh
    refine lv_aload_n hx hb dX5_place_80 rfl (lv_at hl 0 rfl) ?_
    refine lv_dup hx hb dX5_place_81 rfl ?_
    refine zget (v := .int (st_standing S)) (ref := "SumOfTwoThatStand$Street") (C := RX5) (T := TX5) (N := 11) (index := 40) X hh inX5_place_X5 0 rfl rfl 8 (by decide) mmX5_place_8 rfl rfl dX5_place_82 ?_
    refine lv_iconst (v := (1 : Int32)) hx hb dX5_place_85 (by decide) ?_
    refine lv_aload_n hx hb dX5_place_86 rfl (lv_at hl 0 rfl) ?_
    refine zget (v := .int (st_came S)) (ref := "SumOfTwoThatStand$Street") (C := RX5) (T := TX5) (N := 11) (index := 36) X hh inX5_place_X5 0 rfl rfl 7 (by decide) mmX5_place_1 rfl rfl dX5_place_87 ?_
    refine lv_ishl hx hb dX5_place_90 ?_
    refine lv_ior hx hb dX5_place_91 ?_
    refine zput (v := .int ((st_standing S) ||| ((1 : Int32) <<< ((st_came S) &&& 31)))) (ty := .int) (ref := "SumOfTwoThatStand$Street") (C := RX5) (T := TX5) (N := 11) (index := 40) X hh inX5_place_X5 tyX5 tyX5_ok nmX5 0 rfl rfl 8 (by decide) mmX5_place_8 rfl rfl (by decide +kernel) rfl rfl (Nat.le_of_ble_eq_true rfl) dX5_place_92 (fun H locs hh => ?_)
    have hh : zW K A s H locs (cSt K a0 a1 a2 a3 a4 a5 a6 a7 (st_set_standing (st_set_earned (st_set_uses (st_set_seconds (st_set_firsts (st_set_numbers (st_set_figures (st_set_kinds S (upd (st_kinds S) (st_came S).toNatClampNeg p4)) (upd (st_figures S) (st_came S).toNatClampNeg p5)) (upd (st_numbers S) (st_came S).toNatClampNeg p1)) (upd (st_firsts S) (st_came S).toNatClampNeg p2)) (upd (st_seconds S) (st_came S).toNatClampNeg p3)) (upd (st_uses S) (st_came S).toNatClampNeg (0 : Int32))) (upd (st_earned S) (st_came S).toNatClampNeg (0 : Int32))) ((st_standing S) ||| ((1 : Int32) <<< ((st_came S) &&& 31))))) := hh
    refine lv_aload_n hx hb dX5_place_95 rfl (lv_at hl 0 rfl) ?_
    refine lv_dup hx hb dX5_place_96 rfl ?_
    refine zget (v := .int (st_came S)) (ref := "SumOfTwoThatStand$Street") (C := RX5) (T := TX5) (N := 11) (index := 36) X hh inX5_place_X5 0 rfl rfl 7 (by decide) mmX5_place_1 rfl rfl dX5_place_97 ?_
    refine lv_iconst (v := (1 : Int32)) hx hb dX5_place_100 (by decide) ?_
    refine lv_iadd hx hb dX5_place_101 ?_
    refine zput (v := .int ((st_came S) + (1 : Int32))) (ty := .int) (ref := "SumOfTwoThatStand$Street") (C := RX5) (T := TX5) (N := 11) (index := 36) X hh inX5_place_X5 tyX5 tyX5_ok nmX5 0 rfl rfl 7 (by decide) mmX5_place_1 rfl rfl (by decide +kernel) rfl rfl (Nat.le_of_ble_eq_true rfl) dX5_place_102 (fun H locs hh => ?_)
    have hh : zW K A s H locs (cSt K a0 a1 a2 a3 a4 a5 a6 a7 (st_set_standing (st_set_came (st_set_earned (st_set_uses (st_set_seconds (st_set_firsts (st_set_numbers (st_set_figures (st_set_kinds S (upd (st_kinds S) (st_came S).toNatClampNeg p4)) (upd (st_figures S) (st_came S).toNatClampNeg p5)) (upd (st_numbers S) (st_came S).toNatClampNeg p1)) (upd (st_firsts S) (st_came S).toNatClampNeg p2)) (upd (st_seconds S) (st_came S).toNatClampNeg p3)) (upd (st_uses S) (st_came S).toNatClampNeg (0 : Int32))) (upd (st_earned S) (st_came S).toNatClampNeg (0 : Int32))) ((st_came S) + (1 : Int32))) ((st_standing S) ||| ((1 : Int32) <<< ((st_came S) &&& 31))))) := hh
    exact hr2 105 ls H locs (st_set_standing (st_set_came (st_set_earned (st_set_uses (st_set_seconds (st_set_firsts (st_set_numbers (st_set_figures (st_set_kinds S (upd (st_kinds S) (st_came S).toNatClampNeg p4)) (upd (st_figures S) (st_came S).toNatClampNeg p5)) (upd (st_numbers S) (st_came S).toNatClampNeg p1)) (upd (st_firsts S) (st_came S).toNatClampNeg p2)) (upd (st_seconds S) (st_came S).toNatClampNeg p3)) (upd (st_uses S) (st_came S).toNatClampNeg (0 : Int32))) (upd (st_earned S) (st_came S).toNatClampNeg (0 : Int32))) ((st_came S) + (1 : Int32))) ((st_standing S) ||| ((1 : Int32) <<< ((st_came S) &&& 31)))) hf dX5_place_105 hh
  · replace hf := (if_pos c2).symm.trans hf
    exact hr2 7 ls H locs S hf dX5_place_7 hh
theorem inX5_use_X5 : ∀ w ∈ wsX50, w ∈ wsX5_use := by decide +kernel
theorem mmX5_use_0 : Cond.fieldLink RX5 27 "SumOfTwoThatStand$Street" "uses" "[I" ∈ wsX5_use := by decide +kernel
theorem mmX5_use_1 : Cond.fieldLink RX5 30 "SumOfTwoThatStand$Street" "earned" "[I" ∈ wsX5_use := by decide +kernel
theorem hdX5_use : yX5_use.cls ≠ "java/lang/invoke/MethodHandle" ∧ yX5_use.cls ≠ "java/lang/invoke/VarHandle" ∧ (parseMethodDescriptor yX5_use.desc).map (fun d => d.parameters.length) = some 1 := by decide +kernel
set_option maxHeartbeats 4000000 in
set_option maxRecDepth 100000 in
theorem kX5_use (l : Launch) (K : zK) (a0 a1 a2 a3 a4 a5 a6 a7 : Nat) (S : zSt) (p1 : Int32) (R : zSt) (hf : fX5_use S p1 = some R) : zC l yX5_use wsX5_use ({ frames := 2, cells := 0, slots := 0, locals := 42 } : Room) K [.ref a0, .int p1] (cSt K a0 a1 a2 a3 a4 a5 a6 a7 S) none (cSt K a0 a1 a2 a3 a4 a5 a6 a7 R) := by
  refine zC_v (cc := cX5_use) (maxL := 2) (by decide +kernel) rfl (Nat.le_of_ble_eq_true rfl) rfl rfl ?_
  intro p e s m below meth c Q A X hret ls hl hh
  have X : zX p m c cX5_use 2 s ([.ref a0, .int p1] : List Value).toArray wsX5_use RX5 K A := X
  have hx := X.1.1
  have hb := X.1.2.1
  have hr2 : ∀ (pc : Nat) (ls : Array Slot) (H : Heap) (locs : List Loc) (S : zSt), some S = some R → decode cX5_use pc = .ok (.return_, 1) → zW K A s H locs (cSt K a0 a1 a2 a3 a4 a5 a6 a7 S) → W p l e ({ frames := 2, cells := 0, slots := 0, locals := 42 } : Room) s m ([.ref a0, .int p1] : List Value).toArray below meth c H locs 0 0 Q (F0 m pc ls []) := by
    intro pc ls H locs S h hd hh
    cases h; exact hret pc ls H locs hd hh
  have hl : lv_has ls 2 [(0, .ref a0), (1, .int p1)] := hl
  unfold fX5_use at hf
  refine (fun (hmain : ∀ (H : Heap) (locs : List Loc), zW K A s H locs (cSt K a0 a1 a2 a3 a4 a5 a6 a7 S) → W p l e ({ frames := 2, cells := 0, slots := 0, locals := 42 } : Room) s m ([.ref a0, .int p1] : List Value).toArray below meth c H locs 0 0 Q (F0 m 0 ls [])) => hmain s.heap [] hh) (fun H locs hh => ?_)
  refine lv_aload_n hx hb dX5_use_0 rfl (lv_at hl 0 rfl) ?_
  refine lv_iload_n hx hb dX5_use_1 rfl (lv_at hl 1 rfl) ?_
  refine zcallV (ci := 5) (q0 := 0) (As := [.int p1]) (rest := []) (wr := []) (ws' := cSt K a0 a1 a2 a3 a4 a5 a6 a7 S) (ov := some (.int (fX5_has S p1))) X hh hl (kX5_has l K a0 a1 a2 a3 a4 a5 a6 a7 S p1 (fX5_has S p1) rfl) (fun ht => cwV 1 ht gX5_use_X5_has rfl rfl rfl ⟨rfl, hdX5_has⟩ ⟨Nat.le_of_ble_eq_true rfl, Nat.le_of_ble_eq_true rfl⟩) [0, 1, 2, 3, 4, 5, 6, 7] [] [0, 1, 2, 3, 4, 5, 6, 7] rfl rfl rfl rfl (by decide) rfl rfl rfl rfl rfl rfl (Nat.le_of_ble_eq_true rfl) dX5_use_2 ⟨Nat.zero_le _, Nat.zero_le _⟩ (fun H locs hh => ?_)
  refine lv_if_eq (tgt := 32) hx hb dX5_use_5 (by decide) (fun c2 => ?_) (fun c2 => ?_)
  · replace hf := (if_pos c2).symm.trans hf
    exact hr2 32 ls H locs S hf dX5_use_32 hh
  · replace hf := (if_neg c2).symm.trans hf
    refine lv_aload_n hx hb dX5_use_8 rfl (lv_at hl 0 rfl) ?_
    refine zget (v := .ref a6) (ref := "SumOfTwoThatStand$Street") (C := RX5) (T := TX5) (N := 11) (index := 27) X hh inX5_use_X5 0 rfl rfl 5 (by decide) mmX5_use_0 rfl rfl dX5_use_9 ?_
    refine lv_iload_n hx hb dX5_use_12 rfl (lv_at hl 1 rfl) ?_
    refine lv_dup2_11 hx hb dX5_use_13 rfl rfl ?_
    obtain ⟨g3, hf⟩ := ob_ix hf
    refine ziald (f := (st_uses S)) X hh 6 rfl g3 dX5_use_14 ?_
    refine lv_iconst (v := (1 : Int32)) hx hb dX5_use_15 (by decide) ?_
    refine lv_iadd hx hb dX5_use_16 ?_
    refine ziast (f := (st_uses S)) X hh 6 rfl g3 dX5_use_17 (fun H locs hh => ?_)
    have hh : zW K A s H locs (cSt K a0 a1 a2 a3 a4 a5 a6 a7 (st_set_uses S (upd (st_uses S) p1.toNatClampNeg (((st_uses S) p1.toNatClampNeg) + (1 : Int32))))) := hh
    refine lv_aload_n hx hb dX5_use_18 rfl (lv_at hl 0 rfl) ?_
    refine zget (v := .ref a7) (ref := "SumOfTwoThatStand$Street") (C := RX5) (T := TX5) (N := 11) (index := 30) X hh inX5_use_X5 0 rfl rfl 6 (by decide) mmX5_use_1 rfl rfl dX5_use_19 ?_
    refine lv_iload_n hx hb dX5_use_22 rfl (lv_at hl 1 rfl) ?_
    refine lv_dup2_11 hx hb dX5_use_23 rfl rfl ?_
    refine ziald (f := (st_earned S)) X hh 7 rfl g3 dX5_use_24 ?_
    refine lv_aload_n hx hb dX5_use_25 rfl (lv_at hl 0 rfl) ?_
    refine lv_iload_n hx hb dX5_use_26 rfl (lv_at hl 1 rfl) ?_
    obtain ⟨u4, hu4, hf⟩ := ob_bind hf
    refine zcallV (ci := 5) (q0 := 0) (As := [.int p1]) (rest := [.int ((st_earned S) p1.toNatClampNeg), .int p1, .ref a7]) (wr := []) (ws' := cSt K a0 a1 a2 a3 a4 a5 a6 a7 (st_set_uses S (upd (st_uses S) p1.toNatClampNeg (((st_uses S) p1.toNatClampNeg) + (1 : Int32))))) (ov := some (.int u4)) X hh hl (kX5_fee l K a0 a1 a2 a3 a4 a5 a6 a7 (st_set_uses S (upd (st_uses S) p1.toNatClampNeg (((st_uses S) p1.toNatClampNeg) + (1 : Int32)))) p1 u4 hu4) (fun ht => cwV 1 ht gX5_use_X5_fee rfl rfl rfl ⟨rfl, hdX5_fee⟩ ⟨Nat.le_of_ble_eq_true rfl, Nat.le_of_ble_eq_true rfl⟩) [0, 1, 2, 3, 4, 5, 6, 7] [] [0, 1, 2, 3, 4, 5, 6, 7] rfl rfl rfl rfl (by decide) rfl rfl rfl rfl rfl rfl (Nat.le_of_ble_eq_true rfl) dX5_use_27 ⟨Nat.zero_le _, Nat.zero_le _⟩ (fun H locs hh => ?_)
    refine lv_iadd hx hb dX5_use_30 ?_
    refine ziast (f := (st_earned S)) X hh 7 rfl g3 dX5_use_31 (fun H locs hh => ?_)
    have hh : zW K A s H locs (cSt K a0 a1 a2 a3 a4 a5 a6 a7 (st_set_earned (st_set_uses S (upd (st_uses S) p1.toNatClampNeg (((st_uses S) p1.toNatClampNeg) + (1 : Int32)))) (upd (st_earned S) p1.toNatClampNeg (((st_earned S) p1.toNatClampNeg) + u4)))) := hh
    exact hr2 32 ls H locs (st_set_earned (st_set_uses S (upd (st_uses S) p1.toNatClampNeg (((st_uses S) p1.toNatClampNeg) + (1 : Int32)))) (upd (st_earned S) p1.toNatClampNeg (((st_earned S) p1.toNatClampNeg) + u4))) hf dX5_use_32 hh
theorem inX5_loseHut_X5 : ∀ w ∈ wsX50, w ∈ wsX5_loseHut := by decide +kernel
theorem mmX5_loseHut_0 : Cond.fieldLink RX5 9 "SumOfTwoThatStand$Street" "kinds" "[I" ∈ wsX5_loseHut := by decide +kernel
theorem mmX5_loseHut_1 : Cond.fieldLink RX5 40 "SumOfTwoThatStand$Street" "standing" "I" ∈ wsX5_loseHut := by decide +kernel
theorem hdX5_loseHut : yX5_loseHut.cls ≠ "java/lang/invoke/MethodHandle" ∧ yX5_loseHut.cls ≠ "java/lang/invoke/VarHandle" ∧ (parseMethodDescriptor yX5_loseHut.desc).map (fun d => d.parameters.length) = some 1 := by decide +kernel
set_option maxHeartbeats 4000000 in
set_option maxRecDepth 100000 in
theorem kX5_loseHut (l : Launch) (K : zK) (a0 a1 a2 a3 a4 a5 a6 a7 : Nat) (S : zSt) (p1 : Int32) (R : zSt) (hf : fX5_loseHut S p1 = some R) : zC l yX5_loseHut wsX5_loseHut ({ frames := 1, cells := 0, slots := 0, locals := 21 } : Room) K [.ref a0, .int p1] (cSt K a0 a1 a2 a3 a4 a5 a6 a7 S) none (cSt K a0 a1 a2 a3 a4 a5 a6 a7 R) := by
  refine zC_v (cc := cX5_loseHut) (maxL := 2) (by decide +kernel) rfl (Nat.le_of_ble_eq_true rfl) rfl rfl ?_
  intro p e s m below meth c Q A X hret ls hl hh
  have X : zX p m c cX5_loseHut 2 s ([.ref a0, .int p1] : List Value).toArray wsX5_loseHut RX5 K A := X
  have hx := X.1.1
  have hb := X.1.2.1
  have hr2 : ∀ (pc : Nat) (ls : Array Slot) (H : Heap) (locs : List Loc) (S : zSt), some S = some R → decode cX5_loseHut pc = .ok (.return_, 1) → zW K A s H locs (cSt K a0 a1 a2 a3 a4 a5 a6 a7 S) → W p l e ({ frames := 1, cells := 0, slots := 0, locals := 21 } : Room) s m ([.ref a0, .int p1] : List Value).toArray below meth c H locs 0 0 Q (F0 m pc ls []) := by
    intro pc ls H locs S h hd hh
    cases h; exact hret pc ls H locs hd hh
  have hl : lv_has ls 2 [(0, .ref a0), (1, .int p1)] := hl
  unfold fX5_loseHut at hf
  refine (fun (hmain : ∀ (H : Heap) (locs : List Loc), zW K A s H locs (cSt K a0 a1 a2 a3 a4 a5 a6 a7 S) → W p l e ({ frames := 1, cells := 0, slots := 0, locals := 21 } : Room) s m ([.ref a0, .int p1] : List Value).toArray below meth c H locs 0 0 Q (F0 m 0 ls [])) => hmain s.heap [] hh) (fun H locs hh => ?_)
  refine lv_aload_n hx hb dX5_loseHut_0 rfl (lv_at hl 0 rfl) ?_
  refine lv_iload_n hx hb dX5_loseHut_1 rfl (lv_at hl 1 rfl) ?_
  refine zcallV (ci := 5) (q0 := 0) (As := [.int p1]) (rest := []) (wr := []) (ws' := cSt K a0 a1 a2 a3 a4 a5 a6 a7 S) (ov := some (.int (fX5_has S p1))) X hh hl (kX5_has l K a0 a1 a2 a3 a4 a5 a6 a7 S p1 (fX5_has S p1) rfl) (fun ht => cwV 1 ht gX5_loseHut_X5_has rfl rfl rfl ⟨rfl, hdX5_has⟩ ⟨Nat.le_of_ble_eq_true rfl, Nat.le_of_ble_eq_true rfl⟩) [0, 1, 2, 3, 4, 5, 6, 7] [] [0, 1, 2, 3, 4, 5, 6, 7] rfl rfl rfl rfl (by decide) rfl rfl rfl rfl rfl rfl (Nat.le_of_ble_eq_true rfl) dX5_loseHut_2 ⟨Nat.zero_le _, Nat.zero_le _⟩ (fun H locs hh => ?_)
  refine lv_if_eq (tgt := 32) hx hb dX5_loseHut_5 (by decide) (fun c2 => ?_) (fun c2 => ?_)
  · replace hf := (if_pos c2).symm.trans hf
    exact hr2 32 ls H locs S hf dX5_loseHut_32 hh
  · replace hf := (if_neg c2).symm.trans hf
    refine lv_aload_n hx hb dX5_loseHut_8 rfl (lv_at hl 0 rfl) ?_
    refine zget (v := .ref a1) (ref := "SumOfTwoThatStand$Street") (C := RX5) (T := TX5) (N := 11) (index := 9) X hh inX5_loseHut_X5 0 rfl rfl 0 (by decide) mmX5_loseHut_0 rfl rfl dX5_loseHut_9 ?_
    refine lv_iload_n hx hb dX5_loseHut_12 rfl (lv_at hl 1 rfl) ?_
    obtain ⟨g3, hf⟩ := ob_ix hf
    refine ziald (f := (st_kinds S)) X hh 1 rfl g3 dX5_loseHut_13 ?_
    refine lv_iconst (v := (1 : Int32)) hx hb dX5_loseHut_14 (by decide) ?_
    refine lv_icmp_ne (tgt := 32) hx hb dX5_loseHut_15 (by decide) (fun c4 => ?_) (fun c4 => ?_)
    · replace hf := (if_neg c4).symm.trans hf
      exact hr2 32 ls H locs S hf dX5_loseHut_32 hh
    · replace hf := (if_pos c4).symm.trans hf
      refine lv_aload_n hx hb dX5_loseHut_18 rfl (lv_at hl 0 rfl) ?_
      refine lv_dup hx hb dX5_loseHut_19 rfl ?_
      refine zget (v := .int (st_standing S)) (ref := "SumOfTwoThatStand$Street") (C := RX5) (T := TX5) (N := 11) (index := 40) X hh inX5_loseHut_X5 0 rfl rfl 8 (by decide) mmX5_loseHut_1 rfl rfl dX5_loseHut_20 ?_
      refine lv_iconst (v := (1 : Int32)) hx hb dX5_loseHut_23 (by decide) ?_
      refine lv_iload_n hx hb dX5_loseHut_24 rfl (lv_at hl 1 rfl) ?_
      refine lv_ishl hx hb dX5_loseHut_25 ?_
      refine lv_iconst (v := (-1 : Int32)) hx hb dX5_loseHut_26 (by decide) ?_
      refine lv_ixor hx hb dX5_loseHut_27 ?_
      refine lv_iand hx hb dX5_loseHut_28 ?_
      refine zput (v := .int ((st_standing S) &&& (((1 : Int32) <<< (p1 &&& 31)) ^^^ (-1 : Int32)))) (ty := .int) (ref := "SumOfTwoThatStand$Street") (C := RX5) (T := TX5) (N := 11) (index := 40) X hh inX5_loseHut_X5 tyX5 tyX5_ok nmX5 0 rfl rfl 8 (by decide) mmX5_loseHut_1 rfl rfl (by decide +kernel) rfl rfl (Nat.le_of_ble_eq_true rfl) dX5_loseHut_29 (fun H locs hh => ?_)
      have hh : zW K A s H locs (cSt K a0 a1 a2 a3 a4 a5 a6 a7 (st_set_standing S ((st_standing S) &&& (((1 : Int32) <<< (p1 &&& 31)) ^^^ (-1 : Int32))))) := hh
      exact hr2 32 ls H locs (st_set_standing S ((st_standing S) &&& (((1 : Int32) <<< (p1 &&& 31)) ^^^ (-1 : Int32)))) hf dX5_loseHut_32 hh
theorem inX5_build_X5 : ∀ w ∈ wsX50, w ∈ wsX5_build := by decide +kernel
theorem mmX5_build_0 : Cond.fieldLink RX5 18 "SumOfTwoThatStand$Street" "numbers" "[I" ∈ wsX5_build := by decide +kernel
theorem hdX5_build : yX5_build.cls ≠ "java/lang/invoke/MethodHandle" ∧ yX5_build.cls ≠ "java/lang/invoke/VarHandle" ∧ (parseMethodDescriptor yX5_build.desc).map (fun d => d.parameters.length) = some 4 := by decide +kernel
set_option maxHeartbeats 4000000 in
set_option maxRecDepth 100000 in
theorem kX5_build (l : Launch) (K : zK) (a0 a1 a2 a3 a4 a5 a6 a7 : Nat) (S : zSt) (p1 : Int32) (p2 : Int32) (p3 : Int32) (p4 : Int32) (R : Int32 × zSt) (hf : fX5_build S p1 p2 p3 p4 = some R) : zC l yX5_build wsX5_build ({ frames := 3, cells := 0, slots := 0, locals := 67 } : Room) K [.ref a0, .int p1, .int p2, .int p3, .int p4] (cSt K a0 a1 a2 a3 a4 a5 a6 a7 S) (some (.int R.1)) (cSt K a0 a1 a2 a3 a4 a5 a6 a7 R.2) := by
  refine zC_z .boolean R.1 (cc := cX5_build) (maxL := 5) (by decide +kernel) rfl (Nat.le_of_ble_eq_true rfl) rfl rfl ?_
  intro p e s m below meth c Q A X hret ls hl hh
  have X : zX p m c cX5_build 5 s ([.ref a0, .int p1, .int p2, .int p3, .int p4] : List Value).toArray wsX5_build RX5 K A := X
  have hx := X.1.1
  have hb := X.1.2.1
  have hr2 : ∀ (pc : Nat) (ls : Array Slot) (H : Heap) (locs : List Loc) (v : Int32) (S : zSt), some (v, S) = some R → narrow .boolean (.int v) = .int v → decode cX5_build pc = .ok (.ireturn, 1) → zW K A s H locs (cSt K a0 a1 a2 a3 a4 a5 a6 a7 S) → W p l e ({ frames := 3, cells := 0, slots := 0, locals := 67 } : Room) s m ([.ref a0, .int p1, .int p2, .int p3, .int p4] : List Value).toArray below meth c H locs 0 0 Q (F0 m pc ls [.int v]) := by
    intro pc ls H locs v S h hn hd hh
    cases h; exact hret pc ls H locs _ rfl hn hd hh
  have hl : lv_has ls 5 [(0, .ref a0), (1, .int p1), (2, .int p2), (3, .int p3), (4, .int p4)] := hl
  unfold fX5_build at hf
  refine (fun (hmain : ∀ (H : Heap) (locs : List Loc), zW K A s H locs (cSt K a0 a1 a2 a3 a4 a5 a6 a7 S) → W p l e ({ frames := 3, cells := 0, slots := 0, locals := 67 } : Room) s m ([.ref a0, .int p1, .int p2, .int p3, .int p4] : List Value).toArray below meth c H locs 0 0 Q (F0 m 0 ls [])) => hmain s.heap [] hh) (fun H locs hh => ?_)
  refine lv_aload_n hx hb dX5_build_0 rfl (lv_at hl 0 rfl) ?_
  refine zcallV (ci := 5) (q0 := 0) (As := []) (rest := []) (wr := []) (ws' := cSt K a0 a1 a2 a3 a4 a5 a6 a7 S) (ov := some (.int (fX5_hasRoom S))) X hh hl (kX5_hasRoom l K a0 a1 a2 a3 a4 a5 a6 a7 S (fX5_hasRoom S) rfl) (fun ht => cwV 0 ht gX5_build_X5_hasRoom rfl rfl rfl ⟨rfl, hdX5_hasRoom⟩ ⟨Nat.le_of_ble_eq_true rfl, Nat.le_of_ble_eq_true rfl⟩) [0, 1, 2, 3, 4, 5, 6, 7] [] [0, 1, 2, 3, 4, 5, 6, 7] rfl rfl rfl rfl (by decide) rfl rfl rfl rfl rfl rfl (Nat.le_of_ble_eq_true rfl) dX5_build_1 ⟨Nat.zero_le _, Nat.zero_le _⟩ (fun H locs hh => ?_)
  refine lv_if_eq (tgt := 23) hx hb dX5_build_4 (by decide) (fun c2 => ?_) (fun c2 => ?_)
  · replace hf := (if_pos c2).symm.trans hf
    refine lv_iconst (v := (0 : Int32)) hx hb dX5_build_23 (by decide) ?_
    exact hr2 24 ls H locs (0 : Int32) S hf rfl dX5_build_24 hh
  · replace hf := (if_neg c2).symm.trans hf
    refine lv_iload_n hx hb dX5_build_7 rfl (lv_at hl 3 rfl) ?_
    refine zcallS (As := [.int p3]) (rest := []) (wr := cSt K a0 a1 a2 a3 a4 a5 a6 a7 S) (ws' := cSt K a0 a1 a2 a3 a4 a5 a6 a7 S) (ov := some (.int (fX5_isKind p3))) X hh hl (kX5_isKind l K p3 (fX5_isKind p3) rfl) (fun ht => va_cwS 1 ht gX5_build_X5_isKind rfl rfl rfl hdX5_isKind ⟨Nat.le_of_ble_eq_true rfl, Nat.le_of_ble_eq_true rfl⟩) [] [0, 1, 2, 3, 4, 5, 6, 7] [0, 1, 2, 3, 4, 5, 6, 7] rfl rfl rfl rfl (by decide) rfl rfl rfl rfl (Nat.le_of_ble_eq_true rfl) dX5_build_8 ⟨Nat.zero_le _, Nat.zero_le _⟩ (fun H locs hh => ?_)
    refine lv_if_eq (tgt := 23) hx hb dX5_build_11 (by decide) (fun c4 => ?_) (fun c4 => ?_)
    · replace hf := (if_pos c4).symm.trans hf
      refine lv_iconst (v := (0 : Int32)) hx hb dX5_build_23 (by decide) ?_
      exact hr2 24 ls H locs (0 : Int32) S hf rfl dX5_build_24 hh
    · replace hf := (if_neg c4).symm.trans hf
      refine lv_aload_n hx hb dX5_build_14 rfl (lv_at hl 0 rfl) ?_
      refine lv_iload_n hx hb dX5_build_15 rfl (lv_at hl 1 rfl) ?_
      refine lv_iload_n hx hb dX5_build_16 rfl (lv_at hl 2 rfl) ?_
      obtain ⟨u5, hu5, hf⟩ := ob_bind hf
      refine zcallV (ci := 5) (q0 := 0) (As := [.int p1, .int p2]) (rest := []) (wr := []) (ws' := cSt K a0 a1 a2 a3 a4 a5 a6 a7 S) (ov := some (.int u5)) X hh hl (kX5_mayBe l K a0 a1 a2 a3 a4 a5 a6 a7 S p1 p2 u5 hu5) (fun ht => cwV 2 ht gX5_build_X5_mayBe rfl rfl rfl ⟨rfl, hdX5_mayBe⟩ ⟨Nat.le_of_ble_eq_true rfl, Nat.le_of_ble_eq_true rfl⟩) [0, 1, 2, 3, 4, 5, 6, 7] [] [0, 1, 2, 3, 4, 5, 6, 7] rfl rfl rfl rfl (by decide) rfl rfl rfl rfl rfl rfl (Nat.le_of_ble_eq_true rfl) dX5_build_17 ⟨Nat.zero_le _, Nat.zero_le _⟩ (fun H locs hh => ?_)
      refine lv_if_ne (tgt := 25) hx hb dX5_build_20 (by decide) (fun c6 => ?_) (fun c6 => ?_)
      · replace hf := (if_neg c6).symm.trans hf
        refine lv_aload_n hx hb dX5_build_25 rfl (lv_at hl 0 rfl) ?_
        refine lv_aload_n hx hb dX5_build_26 rfl (lv_at hl 0 rfl) ?_
        refine zget (v := .ref a3) (ref := "SumOfTwoThatStand$Street") (C := RX5) (T := TX5) (N := 11) (index := 18) X hh inX5_build_X5 0 rfl rfl 2 (by decide) mmX5_build_0 rfl rfl dX5_build_27 ?_
        refine lv_iload_n hx hb dX5_build_30 rfl (lv_at hl 1 rfl) ?_
        obtain ⟨g7, hf⟩ := ob_ix hf
        refine ziald (f := (st_numbers S)) X hh 3 rfl g7 dX5_build_31 ?_
        refine lv_aload_n hx hb dX5_build_32 rfl (lv_at hl 0 rfl) ?_
        refine zget (v := .ref a3) (ref := "SumOfTwoThatStand$Street") (C := RX5) (T := TX5) (N := 11) (index := 18) X hh inX5_build_X5 0 rfl rfl 2 (by decide) mmX5_build_0 rfl rfl dX5_build_33 ?_
        refine lv_iload_n hx hb dX5_build_36 rfl (lv_at hl 2 rfl) ?_
        obtain ⟨g8, hf⟩ := ob_ix hf
        refine ziald (f := (st_numbers S)) X hh 3 rfl g8 dX5_build_37 ?_
        refine lv_iadd hx hb dX5_build_38 ?_
        refine lv_iload_n hx hb dX5_build_39 rfl (lv_at hl 1 rfl) ?_
        refine lv_iload_n hx hb dX5_build_40 rfl (lv_at hl 2 rfl) ?_
        refine lv_iload_n hx hb dX5_build_41 rfl (lv_at hl 3 rfl) ?_
        refine lv_iload hx hb dX5_build_42 (lv_at hl 4 rfl) ?_
        obtain ⟨u9, hu9, hf⟩ := ob_bind hf
        refine zcallV (ci := 5) (q0 := 0) (As := [.int (((st_numbers S) p1.toNatClampNeg) + ((st_numbers S) p2.toNatClampNeg)), .int p1, .int p2, .int p3, .int p4]) (rest := []) (wr := []) (ws' := cSt K a0 a1 a2 a3 a4 a5 a6 a7 u9) (ov := none) X hh hl (kX5_place l K a0 a1 a2 a3 a4 a5 a6 a7 S (((st_numbers S) p1.toNatClampNeg) + ((st_numbers S) p2.toNatClampNeg)) p1 p2 p3 p4 u9 hu9) (fun ht => cwV 5 ht gX5_build_X5_place rfl rfl rfl ⟨rfl, hdX5_place⟩ ⟨Nat.le_of_ble_eq_true rfl, Nat.le_of_ble_eq_true rfl⟩) [0, 1, 2, 3, 4, 5, 6, 7] [] [0, 1, 2, 3, 4, 5, 6, 7] rfl rfl rfl rfl (by decide) rfl rfl rfl rfl rfl rfl (Nat.le_of_ble_eq_true rfl) dX5_build_44 ⟨Nat.zero_le _, Nat.zero_le _⟩ (fun H locs hh => ?_)
        refine lv_aload_n hx hb dX5_build_47 rfl (lv_at hl 0 rfl) ?_
        refine lv_iload_n hx hb dX5_build_48 rfl (lv_at hl 1 rfl) ?_
        obtain ⟨u10, hu10, hf⟩ := ob_bind hf
        refine zcallV (ci := 5) (q0 := 0) (As := [.int p1]) (rest := []) (wr := []) (ws' := cSt K a0 a1 a2 a3 a4 a5 a6 a7 u10) (ov := none) X hh hl (kX5_use l K a0 a1 a2 a3 a4 a5 a6 a7 u9 p1 u10 hu10) (fun ht => cwV 1 ht gX5_build_X5_use rfl rfl rfl ⟨rfl, hdX5_use⟩ ⟨Nat.le_of_ble_eq_true rfl, Nat.le_of_ble_eq_true rfl⟩) [0, 1, 2, 3, 4, 5, 6, 7] [] [0, 1, 2, 3, 4, 5, 6, 7] rfl rfl rfl rfl (by decide) rfl rfl rfl rfl rfl rfl (Nat.le_of_ble_eq_true rfl) dX5_build_49 ⟨Nat.zero_le _, Nat.zero_le _⟩ (fun H locs hh => ?_)
        refine lv_aload_n hx hb dX5_build_52 rfl (lv_at hl 0 rfl) ?_
        refine lv_iload_n hx hb dX5_build_53 rfl (lv_at hl 2 rfl) ?_
        obtain ⟨u11, hu11, hf⟩ := ob_bind hf
        refine zcallV (ci := 5) (q0 := 0) (As := [.int p2]) (rest := []) (wr := []) (ws' := cSt K a0 a1 a2 a3 a4 a5 a6 a7 u11) (ov := none) X hh hl (kX5_use l K a0 a1 a2 a3 a4 a5 a6 a7 u10 p2 u11 hu11) (fun ht => cwV 1 ht gX5_build_X5_use rfl rfl rfl ⟨rfl, hdX5_use⟩ ⟨Nat.le_of_ble_eq_true rfl, Nat.le_of_ble_eq_true rfl⟩) [0, 1, 2, 3, 4, 5, 6, 7] [] [0, 1, 2, 3, 4, 5, 6, 7] rfl rfl rfl rfl (by decide) rfl rfl rfl rfl rfl rfl (Nat.le_of_ble_eq_true rfl) dX5_build_54 ⟨Nat.zero_le _, Nat.zero_le _⟩ (fun H locs hh => ?_)
        refine lv_aload_n hx hb dX5_build_57 rfl (lv_at hl 0 rfl) ?_
        refine lv_iload_n hx hb dX5_build_58 rfl (lv_at hl 1 rfl) ?_
        obtain ⟨u12, hu12, hf⟩ := ob_bind hf
        refine zcallV (ci := 5) (q0 := 0) (As := [.int p1]) (rest := []) (wr := []) (ws' := cSt K a0 a1 a2 a3 a4 a5 a6 a7 u12) (ov := none) X hh hl (kX5_loseHut l K a0 a1 a2 a3 a4 a5 a6 a7 u11 p1 u12 hu12) (fun ht => cwV 1 ht gX5_build_X5_loseHut rfl rfl rfl ⟨rfl, hdX5_loseHut⟩ ⟨Nat.le_of_ble_eq_true rfl, Nat.le_of_ble_eq_true rfl⟩) [0, 1, 2, 3, 4, 5, 6, 7] [] [0, 1, 2, 3, 4, 5, 6, 7] rfl rfl rfl rfl (by decide) rfl rfl rfl rfl rfl rfl (Nat.le_of_ble_eq_true rfl) dX5_build_59 ⟨Nat.zero_le _, Nat.zero_le _⟩ (fun H locs hh => ?_)
        refine lv_aload_n hx hb dX5_build_62 rfl (lv_at hl 0 rfl) ?_
        refine lv_iload_n hx hb dX5_build_63 rfl (lv_at hl 2 rfl) ?_
        obtain ⟨u13, hu13, hf⟩ := ob_bind hf
        refine zcallV (ci := 5) (q0 := 0) (As := [.int p2]) (rest := []) (wr := []) (ws' := cSt K a0 a1 a2 a3 a4 a5 a6 a7 u13) (ov := none) X hh hl (kX5_loseHut l K a0 a1 a2 a3 a4 a5 a6 a7 u12 p2 u13 hu13) (fun ht => cwV 1 ht gX5_build_X5_loseHut rfl rfl rfl ⟨rfl, hdX5_loseHut⟩ ⟨Nat.le_of_ble_eq_true rfl, Nat.le_of_ble_eq_true rfl⟩) [0, 1, 2, 3, 4, 5, 6, 7] [] [0, 1, 2, 3, 4, 5, 6, 7] rfl rfl rfl rfl (by decide) rfl rfl rfl rfl rfl rfl (Nat.le_of_ble_eq_true rfl) dX5_build_64 ⟨Nat.zero_le _, Nat.zero_le _⟩ (fun H locs hh => ?_)
        refine lv_iconst (v := (1 : Int32)) hx hb dX5_build_67 (by decide) ?_
        exact hr2 68 ls H locs (1 : Int32) u13 hf rfl dX5_build_68 hh
      · replace hf := (if_pos c6).symm.trans hf
        refine lv_iconst (v := (0 : Int32)) hx hb dX5_build_23 (by decide) ?_
        exact hr2 24 ls H locs (0 : Int32) S hf rfl dX5_build_24 hh
theorem inX5_beginAnew_X5 : ∀ w ∈ wsX50, w ∈ wsX5_beginAnew := by decide +kernel
theorem mmX5_beginAnew_0 : Cond.fieldLink RX5 36 "SumOfTwoThatStand$Street" "came" "I" ∈ wsX5_beginAnew := by decide +kernel
theorem mmX5_beginAnew_1 : Cond.fieldLink RX5 40 "SumOfTwoThatStand$Street" "standing" "I" ∈ wsX5_beginAnew := by decide +kernel
theorem hdX5_beginAnew : yX5_beginAnew.cls ≠ "java/lang/invoke/MethodHandle" ∧ yX5_beginAnew.cls ≠ "java/lang/invoke/VarHandle" ∧ (parseMethodDescriptor yX5_beginAnew.desc).map (fun d => d.parameters.length) = some 0 := by decide +kernel
set_option maxHeartbeats 4000000 in
set_option maxRecDepth 100000 in
theorem kX5_beginAnew (l : Launch) (K : zK) (a0 a1 a2 a3 a4 a5 a6 a7 : Nat) (S : zSt) (R : zSt) (hf : fX5_beginAnew S = some R) : zC l yX5_beginAnew wsX5_beginAnew ({ frames := 2, cells := 0, slots := 0, locals := 45 } : Room) K [.ref a0] (cSt K a0 a1 a2 a3 a4 a5 a6 a7 S) none (cSt K a0 a1 a2 a3 a4 a5 a6 a7 R) := by
  refine zC_v (cc := cX5_beginAnew) (maxL := 1) (by decide +kernel) rfl (Nat.le_of_ble_eq_true rfl) rfl rfl ?_
  intro p e s m below meth c Q A X hret ls hl hh
  have X : zX p m c cX5_beginAnew 1 s ([.ref a0] : List Value).toArray wsX5_beginAnew RX5 K A := X
  have hx := X.1.1
  have hb := X.1.2.1
  have hr2 : ∀ (pc : Nat) (ls : Array Slot) (H : Heap) (locs : List Loc) (S : zSt), some S = some R → decode cX5_beginAnew pc = .ok (.return_, 1) → zW K A s H locs (cSt K a0 a1 a2 a3 a4 a5 a6 a7 S) → W p l e ({ frames := 2, cells := 0, slots := 0, locals := 45 } : Room) s m ([.ref a0] : List Value).toArray below meth c H locs 0 0 Q (F0 m pc ls []) := by
    intro pc ls H locs S h hd hh
    cases h; exact hret pc ls H locs hd hh
  have hl : lv_has ls 1 [(0, .ref a0)] := hl
  unfold fX5_beginAnew at hf
  refine (fun (hmain : ∀ (H : Heap) (locs : List Loc), zW K A s H locs (cSt K a0 a1 a2 a3 a4 a5 a6 a7 S) → W p l e ({ frames := 2, cells := 0, slots := 0, locals := 45 } : Room) s m ([.ref a0] : List Value).toArray below meth c H locs 0 0 Q (F0 m 0 ls [])) => hmain s.heap [] hh) (fun H locs hh => ?_)
  refine lv_aload_n hx hb dX5_beginAnew_0 rfl (lv_at hl 0 rfl) ?_
  refine lv_iconst (v := (0 : Int32)) hx hb dX5_beginAnew_1 (by decide) ?_
  refine zput (v := .int (0 : Int32)) (ty := .int) (ref := "SumOfTwoThatStand$Street") (C := RX5) (T := TX5) (N := 11) (index := 36) X hh inX5_beginAnew_X5 tyX5 tyX5_ok nmX5 0 rfl rfl 7 (by decide) mmX5_beginAnew_0 rfl rfl (by decide +kernel) rfl rfl (Nat.le_of_ble_eq_true rfl) dX5_beginAnew_2 (fun H locs hh => ?_)
  have hh : zW K A s H locs (cSt K a0 a1 a2 a3 a4 a5 a6 a7 (st_set_came S (0 : Int32))) := hh
  refine lv_aload_n hx hb dX5_beginAnew_5 rfl (lv_at hl 0 rfl) ?_
  refine lv_iconst (v := (0 : Int32)) hx hb dX5_beginAnew_6 (by decide) ?_
  refine zput (v := .int (0 : Int32)) (ty := .int) (ref := "SumOfTwoThatStand$Street") (C := RX5) (T := TX5) (N := 11) (index := 40) X hh inX5_beginAnew_X5 tyX5 tyX5_ok nmX5 0 rfl rfl 8 (by decide) mmX5_beginAnew_1 rfl rfl (by decide +kernel) rfl rfl (Nat.le_of_ble_eq_true rfl) dX5_beginAnew_7 (fun H locs hh => ?_)
  have hh : zW K A s H locs (cSt K a0 a1 a2 a3 a4 a5 a6 a7 (st_set_standing (st_set_came S (0 : Int32)) (0 : Int32))) := hh
  refine lv_aload_n hx hb dX5_beginAnew_10 rfl (lv_at hl 0 rfl) ?_
  refine lv_iconst (v := (1 : Int32)) hx hb dX5_beginAnew_11 (by decide) ?_
  refine lv_bipush (v := (-4 : Int32)) hx hb dX5_beginAnew_12 (by decide) ?_
  refine lv_bipush (v := (-4 : Int32)) hx hb dX5_beginAnew_14 (by decide) ?_
  refine lv_iconst (v := (0 : Int32)) hx hb dX5_beginAnew_16 (by decide) ?_
  refine lv_iconst (v := (0 : Int32)) hx hb dX5_beginAnew_17 (by decide) ?_
  obtain ⟨u1, hu1, hf⟩ := ob_bind hf
  refine zcallV (ci := 5) (q0 := 0) (As := [.int (1 : Int32), .int (-4 : Int32), .int (-4 : Int32), .int (0 : Int32), .int (0 : Int32)]) (rest := []) (wr := []) (ws' := cSt K a0 a1 a2 a3 a4 a5 a6 a7 u1) (ov := none) X hh hl (kX5_place l K a0 a1 a2 a3 a4 a5 a6 a7 (st_set_standing (st_set_came S (0 : Int32)) (0 : Int32)) (1 : Int32) (-4 : Int32) (-4 : Int32) (0 : Int32) (0 : Int32) u1 hu1) (fun ht => cwV 5 ht gX5_beginAnew_X5_place rfl rfl rfl ⟨rfl, hdX5_place⟩ ⟨Nat.le_of_ble_eq_true rfl, Nat.le_of_ble_eq_true rfl⟩) [0, 1, 2, 3, 4, 5, 6, 7] [] [0, 1, 2, 3, 4, 5, 6, 7] rfl rfl rfl rfl (by decide) rfl rfl rfl rfl rfl rfl (Nat.le_of_ble_eq_true rfl) dX5_beginAnew_18 ⟨Nat.zero_le _, Nat.zero_le _⟩ (fun H locs hh => ?_)
  exact hr2 21 ls H locs u1 hf dX5_beginAnew_21 hh
theorem inX5_fallsWith_X5 : ∀ w ∈ wsX50, w ∈ wsX5_fallsWith := by decide +kernel
theorem mmX5_fallsWith_0 : Cond.fieldLink RX5 21 "SumOfTwoThatStand$Street" "firsts" "[I" ∈ wsX5_fallsWith := by decide +kernel
theorem mmX5_fallsWith_1 : Cond.fieldLink RX5 24 "SumOfTwoThatStand$Street" "seconds" "[I" ∈ wsX5_fallsWith := by decide +kernel
theorem mmX5_fallsWith_2 : Cond.fieldLink RX5 36 "SumOfTwoThatStand$Street" "came" "I" ∈ wsX5_fallsWith := by decide +kernel
theorem mmX5_fallsWith_3 : Cond.fieldLink RX5 40 "SumOfTwoThatStand$Street" "standing" "I" ∈ wsX5_fallsWith := by decide +kernel
theorem mmX5_fallsWith_4 : Cond.fieldLink RX5 56 "SumOfTwoThatStand$Street" "falls" "I" ∈ wsX5_fallsWith := by decide +kernel
theorem mmX5_fallsWith_5 : Cond.fieldLink RX5 9 "SumOfTwoThatStand$Street" "kinds" "[I" ∈ wsX5_fallsWith := by decide +kernel
theorem hdX5_fallsWith : yX5_fallsWith.cls ≠ "java/lang/invoke/MethodHandle" ∧ yX5_fallsWith.cls ≠ "java/lang/invoke/VarHandle" ∧ (parseMethodDescriptor yX5_fallsWith.desc).map (fun d => d.parameters.length) = some 1 := by decide +kernel
set_option maxHeartbeats 4000000 in
set_option maxRecDepth 100000 in
theorem kX5_fallsWith (l : Launch) (K : zK) (a0 a1 a2 a3 a4 a5 a6 a7 : Nat) (S : zSt) (p1 : Int32) (R : Int32) (hf : fX5_fallsWith S p1 = some R) : zC l yX5_fallsWith wsX5_fallsWith ({ frames := 2, cells := 0, slots := 0, locals := 42 } : Room) K [.ref a0, .int p1] (cSt K a0 a1 a2 a3 a4 a5 a6 a7 S) (some (.int R)) (cSt K a0 a1 a2 a3 a4 a5 a6 a7 S) := by
  refine zC_i R (cc := cX5_fallsWith) (maxL := 5) (by decide +kernel) rfl (Nat.le_of_ble_eq_true rfl) rfl rfl ?_
  intro p e s m below meth c Q A X hret ls hl hh
  have X : zX p m c cX5_fallsWith 5 s ([.ref a0, .int p1] : List Value).toArray wsX5_fallsWith RX5 K A := X
  have hx := X.1.1
  have hb := X.1.2.1
  have hr2 : ∀ (pc : Nat) (ls : Array Slot) (H : Heap) (locs : List Loc) (v : Int32), some v = some R → decode cX5_fallsWith pc = .ok (.ireturn, 1) → zW K A s H locs (cSt K a0 a1 a2 a3 a4 a5 a6 a7 S) → W p l e ({ frames := 2, cells := 0, slots := 0, locals := 42 } : Room) s m ([.ref a0, .int p1] : List Value).toArray below meth c H locs 0 0 Q (F0 m pc ls [.int v]) := by
    intro pc ls H locs v h hd hh
    cases h; exact hret pc ls H locs _ rfl hd hh
  have hl : lv_has ls 5 [(0, .ref a0), (1, .int p1)] := hl
  have hJ87 : ∀ (v2 : Int32) (v3 : Int32) (k23 : (Int32) → (Int32) → Option (Int32)), (∀ (v2 : Int32) (v3 : Int32) (H : Heap) (locs : List Loc) (ls : Array Slot), k23 v2 v3 = some R → lv_has ls 5 [(0, .ref a0), (2, .int v2), (3, .int v3)] → zW K A s H locs (cSt K a0 a1 a2 a3 a4 a5 a6 a7 S) → W p l e ({ frames := 2, cells := 0, slots := 0, locals := 42 } : Room) s m ([.ref a0, .int p1] : List Value).toArray below meth c H locs 0 0 Q (F0 m 23 ls [])) → ∀ (H : Heap) (locs : List Loc) (ls : Array Slot), fX5_fallsWith_j87 S v2 v3 k23 = some R → lv_has ls 5 [(0, .ref a0), (2, .int v2), (3, .int v3)] → zW K A s H locs (cSt K a0 a1 a2 a3 a4 a5 a6 a7 S) → W p l e ({ frames := 2, cells := 0, slots := 0, locals := 42 } : Room) s m ([.ref a0, .int p1] : List Value).toArray below meth c H locs 0 0 Q (F0 m 87 ls []) := by
    intro v2 v3 k23 hk23 H locs ls hf hl hh
    unfold fX5_fallsWith_j87 at hf
    refine lv_iload_n hx hb dX5_fallsWith_87 rfl (lv_at hl 1 rfl) ?_
    refine lv_iconst (v := (1 : Int32)) hx hb dX5_fallsWith_88 (by decide) ?_
    refine lv_iload_n hx hb dX5_fallsWith_89 rfl (lv_at hl 2 rfl) ?_
    refine lv_ishl hx hb dX5_fallsWith_90 ?_
    refine lv_iconst (v := (-1 : Int32)) hx hb dX5_fallsWith_91 (by decide) ?_
    refine lv_ixor hx hb dX5_fallsWith_92 ?_
    refine lv_iand hx hb dX5_fallsWith_93 ?_
    refine lv_istore_n (lv' := [(2, .int (v2 &&& (((1 : Int32) <<< (v3 &&& 31)) ^^^ (-1 : Int32)))), (0, .ref a0), (3, .int v3)]) hx hb dX5_fallsWith_94 rfl hl (by decide) rfl (fun ls hl => ?_)
    refine lv_iinc (v := (v3 + (1 : Int32))) (lv' := [(3, .int (v3 + (1 : Int32))), (2, .int (v2 &&& (((1 : Int32) <<< (v3 &&& 31)) ^^^ (-1 : Int32)))), (0, .ref a0)]) hx hb dX5_fallsWith_95 hl (k := 2) rfl rfl (by decide) rfl (fun ls hl => ?_)
    refine lv_goto (tgt := 23) hx hb dX5_fallsWith_98 (by decide) ?_
    exact hk23 (v2 &&& (((1 : Int32) <<< (v3 &&& 31)) ^^^ (-1 : Int32))) (v3 + (1 : Int32)) H locs ls hf (lv_sub hl [2, 1, 0] rfl) hh
  have hJ54 : ∀ (v2 : Int32) (v3 : Int32) (t0 : Int32) (k23 : (Int32) → (Int32) → Option (Int32)), (∀ (v2 : Int32) (v3 : Int32) (H : Heap) (locs : List Loc) (ls : Array Slot), k23 v2 v3 = some R → lv_has ls 5 [(0, .ref a0), (2, .int v2), (3, .int v3)] → zW K A s H locs (cSt K a0 a1 a2 a3 a4 a5 a6 a7 S) → W p l e ({ frames := 2, cells := 0, slots := 0, locals := 42 } : Room) s m ([.ref a0, .int p1] : List Value).toArray below meth c H locs 0 0 Q (F0 m 23 ls [])) → ∀ (H : Heap) (locs : List Loc) (ls : Array Slot), fX5_fallsWith_j54 S v2 v3 t0 k23 = some R → lv_has ls 5 [(0, .ref a0), (2, .int v2), (3, .int v3)] → zW K A s H locs (cSt K a0 a1 a2 a3 a4 a5 a6 a7 S) → W p l e ({ frames := 2, cells := 0, slots := 0, locals := 42 } : Room) s m ([.ref a0, .int p1] : List Value).toArray below meth c H locs 0 0 Q (F0 m 54 ls [.int t0]) := by
    intro v2 v3 t0 k23 hk23 H locs ls hf hl hh
    unfold fX5_fallsWith_j54 at hf
    refine lv_istore (lv' := [(4, .int t0), (0, .ref a0), (2, .int v2), (3, .int v3)]) hx hb dX5_fallsWith_54 hl (by decide) rfl (fun ls hl => ?_)
    refine lv_iload hx hb dX5_fallsWith_56 (lv_at hl 0 rfl) ?_
    refine lv_if_eq (tgt := 95) hx hb dX5_fallsWith_58 (by decide) (fun c1 => ?_) (fun c1 => ?_)
    · replace hf := (if_pos c1).symm.trans hf
      refine lv_iinc (v := (v3 + (1 : Int32))) (lv' := [(3, .int (v3 + (1 : Int32))), (4, .int t0), (0, .ref a0), (2, .int v2)]) hx hb dX5_fallsWith_95 hl (k := 3) rfl rfl (by decide) rfl (fun ls hl => ?_)
      refine lv_goto (tgt := 23) hx hb dX5_fallsWith_98 (by decide) ?_
      exact hk23 v2 (v3 + (1 : Int32)) H locs ls hf (lv_sub hl [2, 3, 0] rfl) hh
    · replace hf := (if_neg c1).symm.trans hf
      refine lv_iload_n hx hb dX5_fallsWith_61 rfl (lv_at hl 2 rfl) ?_
      refine lv_aload_n hx hb dX5_fallsWith_62 rfl (lv_at hl 1 rfl) ?_
      refine zget (v := .ref a4) (ref := "SumOfTwoThatStand$Street") (C := RX5) (T := TX5) (N := 11) (index := 21) X hh inX5_fallsWith_X5 0 rfl rfl 3 (by decide) mmX5_fallsWith_0 rfl rfl dX5_fallsWith_63 ?_
      refine lv_iload_n hx hb dX5_fallsWith_66 rfl (lv_at hl 3 rfl) ?_
      obtain ⟨g2, hf⟩ := ob_ix hf
      refine ziald (f := (st_firsts S)) X hh 4 rfl g2 dX5_fallsWith_67 ?_
      refine zcallS (As := [.int v2, .int ((st_firsts S) v3.toNatClampNeg)]) (rest := []) (wr := cSt K a0 a1 a2 a3 a4 a5 a6 a7 S) (ws' := cSt K a0 a1 a2 a3 a4 a5 a6 a7 S) (ov := some (.int (fX5_isIn v2 ((st_firsts S) v3.toNatClampNeg)))) X hh hl (kX5_isIn l K v2 ((st_firsts S) v3.toNatClampNeg) (fX5_isIn v2 ((st_firsts S) v3.toNatClampNeg)) rfl) (fun ht => va_cwS 2 ht gX5_fallsWith_X5_isIn rfl rfl rfl hdX5_isIn ⟨Nat.le_of_ble_eq_true rfl, Nat.le_of_ble_eq_true rfl⟩) [] [0, 1, 2, 3, 4, 5, 6, 7] [0, 1, 2, 3, 4, 5, 6, 7] rfl rfl rfl rfl (by decide) rfl rfl rfl rfl (Nat.le_of_ble_eq_true rfl) dX5_fallsWith_68 ⟨Nat.zero_le _, Nat.zero_le _⟩ (fun H locs hh => ?_)
      refine lv_if_eq (tgt := 87) hx hb dX5_fallsWith_71 (by decide) (fun c4 => ?_) (fun c4 => ?_)
      · replace hf := (if_pos c4).symm.trans hf
        exact hJ87 v2 v3 (k23) (hk23) H locs ls hf (lv_sub hl [1, 2, 3] rfl) hh
      · replace hf := (if_neg c4).symm.trans hf
        refine lv_iload_n hx hb dX5_fallsWith_74 rfl (lv_at hl 2 rfl) ?_
        refine lv_aload_n hx hb dX5_fallsWith_75 rfl (lv_at hl 1 rfl) ?_
        refine zget (v := .ref a5) (ref := "SumOfTwoThatStand$Street") (C := RX5) (T := TX5) (N := 11) (index := 24) X hh inX5_fallsWith_X5 0 rfl rfl 4 (by decide) mmX5_fallsWith_1 rfl rfl dX5_fallsWith_76 ?_
        refine lv_iload_n hx hb dX5_fallsWith_79 rfl (lv_at hl 3 rfl) ?_
        refine ziald (f := (st_seconds S)) X hh 5 rfl g2 dX5_fallsWith_80 ?_
        refine zcallS (As := [.int v2, .int ((st_seconds S) v3.toNatClampNeg)]) (rest := []) (wr := cSt K a0 a1 a2 a3 a4 a5 a6 a7 S) (ws' := cSt K a0 a1 a2 a3 a4 a5 a6 a7 S) (ov := some (.int (fX5_isIn v2 ((st_seconds S) v3.toNatClampNeg)))) X hh hl (kX5_isIn l K v2 ((st_seconds S) v3.toNatClampNeg) (fX5_isIn v2 ((st_seconds S) v3.toNatClampNeg)) rfl) (fun ht => va_cwS 2 ht gX5_fallsWith_X5_isIn rfl rfl rfl hdX5_isIn ⟨Nat.le_of_ble_eq_true rfl, Nat.le_of_ble_eq_true rfl⟩) [] [0, 1, 2, 3, 4, 5, 6, 7] [0, 1, 2, 3, 4, 5, 6, 7] rfl rfl rfl rfl (by decide) rfl rfl rfl rfl (Nat.le_of_ble_eq_true rfl) dX5_fallsWith_81 ⟨Nat.zero_le _, Nat.zero_le _⟩ (fun H locs hh => ?_)
        refine lv_if_ne (tgt := 95) hx hb dX5_fallsWith_84 (by decide) (fun c6 => ?_) (fun c6 => ?_)
        · replace hf := (if_neg c6).symm.trans hf
          refine lv_iinc (v := (v3 + (1 : Int32))) (lv' := [(3, .int (v3 + (1 : Int32))), (4, .int t0), (0, .ref a0), (2, .int v2)]) hx hb dX5_fallsWith_95 hl (k := 3) rfl rfl (by decide) rfl (fun ls hl => ?_)
          refine lv_goto (tgt := 23) hx hb dX5_fallsWith_98 (by decide) ?_
          exact hk23 v2 (v3 + (1 : Int32)) H locs ls hf (lv_sub hl [2, 3, 0] rfl) hh
        · replace hf := (if_pos c6).symm.trans hf
          exact hJ87 v2 v3 (k23) (hk23) H locs ls hf (lv_sub hl [1, 2, 3] rfl) hh
  have hJ49 : ∀ (v2 : Int32) (v3 : Int32) (k23 : (Int32) → (Int32) → Option (Int32)), (∀ (v2 : Int32) (v3 : Int32) (H : Heap) (locs : List Loc) (ls : Array Slot), k23 v2 v3 = some R → lv_has ls 5 [(0, .ref a0), (2, .int v2), (3, .int v3)] → zW K A s H locs (cSt K a0 a1 a2 a3 a4 a5 a6 a7 S) → W p l e ({ frames := 2, cells := 0, slots := 0, locals := 42 } : Room) s m ([.ref a0, .int p1] : List Value).toArray below meth c H locs 0 0 Q (F0 m 23 ls [])) → ∀ (H : Heap) (locs : List Loc) (ls : Array Slot), fX5_fallsWith_j49 S v2 v3 k23 = some R → lv_has ls 5 [(0, .ref a0), (2, .int v2), (3, .int v3)] → zW K A s H locs (cSt K a0 a1 a2 a3 a4 a5 a6 a7 S) → W p l e ({ frames := 2, cells := 0, slots := 0, locals := 42 } : Room) s m ([.ref a0, .int p1] : List Value).toArray below meth c H locs 0 0 Q (F0 m 49 ls []) := by
    intro v2 v3 k23 hk23 H locs ls hf hl hh
    unfold fX5_fallsWith_j49 at hf
    refine lv_iconst (v := (1 : Int32)) hx hb dX5_fallsWith_49 (by decide) ?_
    refine lv_goto (tgt := 54) hx hb dX5_fallsWith_50 (by decide) ?_
    exact hJ54 v2 v3 (1 : Int32) (k23) (hk23) H locs ls hf (lv_sub hl [0, 1, 2] rfl) hh
  have hL23 : ∀ (n : Nat) (v2 : Int32) (v3 : Int32), ∀ (H : Heap) (locs : List Loc) (ls : Array Slot), fX5_fallsWith_l23 S n v2 v3 = some R → lv_has ls 5 [(0, .ref a0), (2, .int v2), (3, .int v3)] → zW K A s H locs (cSt K a0 a1 a2 a3 a4 a5 a6 a7 S) → W p l e ({ frames := 2, cells := 0, slots := 0, locals := 42 } : Room) s m ([.ref a0, .int p1] : List Value).toArray below meth c H locs 0 0 Q (F0 m 23 ls []) := by
    intro n
    induction n with
    | zero =>
      intro v2 v3 H locs ls hf hl hh
      rw [fX5_fallsWith_l23] at hf; cases hf
    | succ n ih =>
      intro v2 v3 H locs ls hf hl hh
      rw [fX5_fallsWith_l23] at hf
      refine lv_iload_n hx hb dX5_fallsWith_23 rfl (lv_at hl 2 rfl) ?_
      refine lv_aload_n hx hb dX5_fallsWith_24 rfl (lv_at hl 0 rfl) ?_
      refine zget (v := .int (st_came S)) (ref := "SumOfTwoThatStand$Street") (C := RX5) (T := TX5) (N := 11) (index := 36) X hh inX5_fallsWith_X5 0 rfl rfl 7 (by decide) mmX5_fallsWith_2 rfl rfl dX5_fallsWith_25 ?_
      refine lv_icmp_ge (tgt := 101) hx hb dX5_fallsWith_28 (by decide) (fun c7 => ?_) (fun c7 => ?_)
      · replace hf := (if_pos c7).symm.trans hf
        refine lv_aload_n hx hb dX5_fallsWith_101 rfl (lv_at hl 0 rfl) ?_
        refine zget (v := .int (st_standing S)) (ref := "SumOfTwoThatStand$Street") (C := RX5) (T := TX5) (N := 11) (index := 40) X hh inX5_fallsWith_X5 0 rfl rfl 8 (by decide) mmX5_fallsWith_3 rfl rfl dX5_fallsWith_102 ?_
        refine lv_iload_n hx hb dX5_fallsWith_105 rfl (lv_at hl 1 rfl) ?_
        refine lv_iconst (v := (-1 : Int32)) hx hb dX5_fallsWith_106 (by decide) ?_
        refine lv_ixor hx hb dX5_fallsWith_107 ?_
        refine lv_iand hx hb dX5_fallsWith_108 ?_
        exact hr2 109 ls H locs ((st_standing S) &&& (v2 ^^^ (-1 : Int32))) hf dX5_fallsWith_109 hh
      · replace hf := (if_neg c7).symm.trans hf
        refine lv_aload_n hx hb dX5_fallsWith_31 rfl (lv_at hl 0 rfl) ?_
        refine zget (v := .int (st_falls S)) (ref := "SumOfTwoThatStand$Street") (C := RX5) (T := TX5) (N := 11) (index := 56) X hh inX5_fallsWith_X5 0 rfl rfl 10 (by decide) mmX5_fallsWith_4 rfl rfl dX5_fallsWith_32 ?_
        refine lv_iconst (v := (1 : Int32)) hx hb dX5_fallsWith_35 (by decide) ?_
        refine lv_icmp_eq (tgt := 49) hx hb dX5_fallsWith_36 (by decide) (fun c8 => ?_) (fun c8 => ?_)
        · replace hf := (if_pos c8).symm.trans hf
          exact hJ49 v2 v3 (fX5_fallsWith_l23 S n) (ih) H locs ls hf (lv_sub hl [0, 1, 2] rfl) hh
        · replace hf := (if_neg c8).symm.trans hf
          refine lv_aload_n hx hb dX5_fallsWith_39 rfl (lv_at hl 0 rfl) ?_
          refine zget (v := .ref a1) (ref := "SumOfTwoThatStand$Street") (C := RX5) (T := TX5) (N := 11) (index := 9) X hh inX5_fallsWith_X5 0 rfl rfl 0 (by decide) mmX5_fallsWith_5 rfl rfl dX5_fallsWith_40 ?_
          refine lv_iload_n hx hb dX5_fallsWith_43 rfl (lv_at hl 2 rfl) ?_
          obtain ⟨g9, hf⟩ := ob_ix hf
          refine ziald (f := (st_kinds S)) X hh 1 rfl g9 dX5_fallsWith_44 ?_
          refine lv_iconst (v := (5 : Int32)) hx hb dX5_fallsWith_45 (by decide) ?_
          refine lv_icmp_ne (tgt := 53) hx hb dX5_fallsWith_46 (by decide) (fun c10 => ?_) (fun c10 => ?_)
          · replace hf := (if_neg c10).symm.trans hf
            refine lv_iconst (v := (0 : Int32)) hx hb dX5_fallsWith_53 (by decide) ?_
            exact hJ54 v2 v3 (0 : Int32) (fX5_fallsWith_l23 S n) (ih) H locs ls hf (lv_sub hl [0, 1, 2] rfl) hh
          · replace hf := (if_pos c10).symm.trans hf
            exact hJ49 v2 v3 (fX5_fallsWith_l23 S n) (ih) H locs ls hf (lv_sub hl [0, 1, 2] rfl) hh
  unfold fX5_fallsWith at hf
  refine (fun (hmain : ∀ (H : Heap) (locs : List Loc), zW K A s H locs (cSt K a0 a1 a2 a3 a4 a5 a6 a7 S) → W p l e ({ frames := 2, cells := 0, slots := 0, locals := 42 } : Room) s m ([.ref a0, .int p1] : List Value).toArray below meth c H locs 0 0 Q (F0 m 0 ls [])) => hmain s.heap [] hh) (fun H locs hh => ?_)
  refine lv_aload_n hx hb dX5_fallsWith_0 rfl (lv_at hl 0 rfl) ?_
  refine lv_iload_n hx hb dX5_fallsWith_1 rfl (lv_at hl 1 rfl) ?_
  refine zcallV (ci := 5) (q0 := 0) (As := [.int p1]) (rest := []) (wr := []) (ws' := cSt K a0 a1 a2 a3 a4 a5 a6 a7 S) (ov := some (.int (fX5_stands S p1))) X hh hl (kX5_stands l K a0 a1 a2 a3 a4 a5 a6 a7 S p1 (fX5_stands S p1) rfl) (fun ht => cwV 1 ht gX5_fallsWith_X5_stands rfl rfl rfl ⟨rfl, hdX5_stands⟩ ⟨Nat.le_of_ble_eq_true rfl, Nat.le_of_ble_eq_true rfl⟩) [0, 1, 2, 3, 4, 5, 6, 7] [] [0, 1, 2, 3, 4, 5, 6, 7] rfl rfl rfl rfl (by decide) rfl rfl rfl rfl rfl rfl (Nat.le_of_ble_eq_true rfl) dX5_fallsWith_2 ⟨Nat.zero_le _, Nat.zero_le _⟩ (fun H locs hh => ?_)
  refine lv_if_ne (tgt := 10) hx hb dX5_fallsWith_5 (by decide) (fun c12 => ?_) (fun c12 => ?_)
  · replace hf := (if_neg c12).symm.trans hf
    refine lv_aload_n hx hb dX5_fallsWith_10 rfl (lv_at hl 0 rfl) ?_
    refine zget (v := .int (st_standing S)) (ref := "SumOfTwoThatStand$Street") (C := RX5) (T := TX5) (N := 11) (index := 40) X hh inX5_fallsWith_X5 0 rfl rfl 8 (by decide) mmX5_fallsWith_3 rfl rfl dX5_fallsWith_11 ?_
    refine lv_iconst (v := (1 : Int32)) hx hb dX5_fallsWith_14 (by decide) ?_
    refine lv_iload_n hx hb dX5_fallsWith_15 rfl (lv_at hl 1 rfl) ?_
    refine lv_ishl hx hb dX5_fallsWith_16 ?_
    refine lv_iconst (v := (-1 : Int32)) hx hb dX5_fallsWith_17 (by decide) ?_
    refine lv_ixor hx hb dX5_fallsWith_18 ?_
    refine lv_iand hx hb dX5_fallsWith_19 ?_
    refine lv_istore_n (lv' := [(2, .int ((st_standing S) &&& (((1 : Int32) <<< (p1 &&& 31)) ^^^ (-1 : Int32)))), (0, .ref a0), (1, .int p1)]) hx hb dX5_fallsWith_20 rfl hl (by decide) rfl (fun ls hl => ?_)
    refine lv_iconst (v := (1 : Int32)) hx hb dX5_fallsWith_21 (by decide) ?_
    refine lv_istore_n (lv' := [(3, .int (1 : Int32)), (2, .int ((st_standing S) &&& (((1 : Int32) <<< (p1 &&& 31)) ^^^ (-1 : Int32)))), (0, .ref a0), (1, .int p1)]) hx hb dX5_fallsWith_22 rfl hl (by decide) rfl (fun ls hl => ?_)
    exact hL23 FU ((st_standing S) &&& (((1 : Int32) <<< (p1 &&& 31)) ^^^ (-1 : Int32))) (1 : Int32) H locs ls hf (lv_sub hl [2, 1, 0] rfl) hh
  · replace hf := (if_pos c12).symm.trans hf
    refine lv_iconst (v := (0 : Int32)) hx hb dX5_fallsWith_8 (by decide) ?_
    exact hr2 9 ls H locs (0 : Int32) hf dX5_fallsWith_9 hh
theorem inX5_fire_X5 : ∀ w ∈ wsX50, w ∈ wsX5_fire := by decide +kernel
theorem mmX5_fire_0 : Cond.fieldLink RX5 40 "SumOfTwoThatStand$Street" "standing" "I" ∈ wsX5_fire := by decide +kernel
theorem hdX5_fire : yX5_fire.cls ≠ "java/lang/invoke/MethodHandle" ∧ yX5_fire.cls ≠ "java/lang/invoke/VarHandle" ∧ (parseMethodDescriptor yX5_fire.desc).map (fun d => d.parameters.length) = some 1 := by decide +kernel
set_option maxHeartbeats 4000000 in
set_option maxRecDepth 100000 in
theorem kX5_fire (l : Launch) (K : zK) (a0 a1 a2 a3 a4 a5 a6 a7 : Nat) (S : zSt) (p1 : Int32) (R : Int32 × zSt) (hf : fX5_fire S p1 = some R) : zC l yX5_fire wsX5_fire ({ frames := 3, cells := 0, slots := 0, locals := 66 } : Room) K [.ref a0, .int p1] (cSt K a0 a1 a2 a3 a4 a5 a6 a7 S) (some (.int R.1)) (cSt K a0 a1 a2 a3 a4 a5 a6 a7 R.2) := by
  refine zC_i R.1 (cc := cX5_fire) (maxL := 3) (by decide +kernel) rfl (Nat.le_of_ble_eq_true rfl) rfl rfl ?_
  intro p e s m below meth c Q A X hret ls hl hh
  have X : zX p m c cX5_fire 3 s ([.ref a0, .int p1] : List Value).toArray wsX5_fire RX5 K A := X
  have hx := X.1.1
  have hb := X.1.2.1
  have hr2 : ∀ (pc : Nat) (ls : Array Slot) (H : Heap) (locs : List Loc) (v : Int32) (S : zSt), some (v, S) = some R → decode cX5_fire pc = .ok (.ireturn, 1) → zW K A s H locs (cSt K a0 a1 a2 a3 a4 a5 a6 a7 S) → W p l e ({ frames := 3, cells := 0, slots := 0, locals := 66 } : Room) s m ([.ref a0, .int p1] : List Value).toArray below meth c H locs 0 0 Q (F0 m pc ls [.int v]) := by
    intro pc ls H locs v S h hd hh
    cases h; exact hret pc ls H locs _ rfl hd hh
  have hl : lv_has ls 3 [(0, .ref a0), (1, .int p1)] := hl
  unfold fX5_fire at hf
  refine (fun (hmain : ∀ (H : Heap) (locs : List Loc), zW K A s H locs (cSt K a0 a1 a2 a3 a4 a5 a6 a7 S) → W p l e ({ frames := 3, cells := 0, slots := 0, locals := 66 } : Room) s m ([.ref a0, .int p1] : List Value).toArray below meth c H locs 0 0 Q (F0 m 0 ls [])) => hmain s.heap [] hh) (fun H locs hh => ?_)
  refine lv_aload_n hx hb dX5_fire_0 rfl (lv_at hl 0 rfl) ?_
  refine lv_iload_n hx hb dX5_fire_1 rfl (lv_at hl 1 rfl) ?_
  obtain ⟨u1, hu1, hf⟩ := ob_bind hf
  refine zcallV (ci := 5) (q0 := 0) (As := [.int p1]) (rest := []) (wr := []) (ws' := cSt K a0 a1 a2 a3 a4 a5 a6 a7 S) (ov := some (.int u1)) X hh hl (kX5_fallsWith l K a0 a1 a2 a3 a4 a5 a6 a7 S p1 u1 hu1) (fun ht => cwV 1 ht gX5_fire_X5_fallsWith rfl rfl rfl ⟨rfl, hdX5_fallsWith⟩ ⟨Nat.le_of_ble_eq_true rfl, Nat.le_of_ble_eq_true rfl⟩) [0, 1, 2, 3, 4, 5, 6, 7] [] [0, 1, 2, 3, 4, 5, 6, 7] rfl rfl rfl rfl (by decide) rfl rfl rfl rfl rfl rfl (Nat.le_of_ble_eq_true rfl) dX5_fire_2 ⟨Nat.zero_le _, Nat.zero_le _⟩ (fun H locs hh => ?_)
  refine lv_istore_n (lv' := [(2, .int u1), (0, .ref a0), (1, .int p1)]) hx hb dX5_fire_5 rfl hl (by decide) rfl (fun ls hl => ?_)
  refine lv_aload_n hx hb dX5_fire_6 rfl (lv_at hl 1 rfl) ?_
  refine lv_dup hx hb dX5_fire_7 rfl ?_
  refine zget (v := .int (st_standing S)) (ref := "SumOfTwoThatStand$Street") (C := RX5) (T := TX5) (N := 11) (index := 40) X hh inX5_fire_X5 0 rfl rfl 8 (by decide) mmX5_fire_0 rfl rfl dX5_fire_8 ?_
  refine lv_iload_n hx hb dX5_fire_11 rfl (lv_at hl 0 rfl) ?_
  refine lv_iconst (v := (-1 : Int32)) hx hb dX5_fire_12 (by decide) ?_
  refine lv_ixor hx hb dX5_fire_13 ?_
  refine lv_iand hx hb dX5_fire_14 ?_
  refine zput (v := .int ((st_standing S) &&& (u1 ^^^ (-1 : Int32)))) (ty := .int) (ref := "SumOfTwoThatStand$Street") (C := RX5) (T := TX5) (N := 11) (index := 40) X hh inX5_fire_X5 tyX5 tyX5_ok nmX5 0 rfl rfl 8 (by decide) mmX5_fire_0 rfl rfl (by decide +kernel) rfl rfl (Nat.le_of_ble_eq_true rfl) dX5_fire_15 (fun H locs hh => ?_)
  have hh : zW K A s H locs (cSt K a0 a1 a2 a3 a4 a5 a6 a7 (st_set_standing S ((st_standing S) &&& (u1 ^^^ (-1 : Int32))))) := hh
  refine lv_iload_n hx hb dX5_fire_18 rfl (lv_at hl 0 rfl) ?_
  refine zcallS (As := [.int u1]) (rest := []) (wr := cSt K a0 a1 a2 a3 a4 a5 a6 a7 (st_set_standing S ((st_standing S) &&& (u1 ^^^ (-1 : Int32))))) (ws' := cSt K a0 a1 a2 a3 a4 a5 a6 a7 (st_set_standing S ((st_standing S) &&& (u1 ^^^ (-1 : Int32))))) (ov := some (.int (fJ6_bitCount_0f7a4 u1))) X hh hl (kJ6_bitCount_0f7a4 l K u1 (fJ6_bitCount_0f7a4 u1) rfl) (fun ht => va_cwS 1 ht gX5_fire_J6_bitCount_0f7a4 rfl rfl rfl hdJ6_bitCount_0f7a4 ⟨Nat.le_of_ble_eq_true rfl, Nat.le_of_ble_eq_true rfl⟩) [] [0, 1, 2, 3, 4, 5, 6, 7] [0, 1, 2, 3, 4, 5, 6, 7] rfl rfl rfl rfl (by decide) rfl rfl rfl rfl (Nat.le_of_ble_eq_true rfl) dX5_fire_19 ⟨Nat.zero_le _, Nat.zero_le _⟩ (fun H locs hh => ?_)
  exact hr2 22 ls H locs (fJ6_bitCount_0f7a4 u1) (st_set_standing S ((st_standing S) &&& (u1 ^^^ (-1 : Int32)))) hf dX5_fire_22 hh
theorem hdX5_bitOf : yX5_bitOf.cls ≠ "java/lang/invoke/MethodHandle" ∧ yX5_bitOf.cls ≠ "java/lang/invoke/VarHandle" ∧ (parseMethodDescriptor yX5_bitOf.desc).map (fun d => d.parameters.length) = some 1 := by decide +kernel
set_option maxHeartbeats 4000000 in
set_option maxRecDepth 100000 in
theorem kX5_bitOf (l : Launch) (K : zK) (a0 a1 a2 a3 a4 a5 a6 a7 : Nat) (S : zSt) (p1 : Int32) (R : Int32) (hf : fX5_bitOf S p1 = R) : zC l yX5_bitOf wsX5_bitOf ({ frames := 2, cells := 0, slots := 0, locals := 42 } : Room) K [.ref a0, .int p1] (cSt K a0 a1 a2 a3 a4 a5 a6 a7 S) (some (.int R)) (cSt K a0 a1 a2 a3 a4 a5 a6 a7 S) := by
  refine zC_i R (cc := cX5_bitOf) (maxL := 2) (by decide +kernel) rfl (Nat.le_of_ble_eq_true rfl) rfl rfl ?_
  intro p e s m below meth c Q A X hret ls hl hh
  have X : zX p m c cX5_bitOf 2 s ([.ref a0, .int p1] : List Value).toArray wsX5_bitOf RX5 K A := X
  have hx := X.1.1
  have hb := X.1.2.1
  have hr2 : ∀ (pc : Nat) (ls : Array Slot) (H : Heap) (locs : List Loc) (v : Int32), v = R → decode cX5_bitOf pc = .ok (.ireturn, 1) → zW K A s H locs (cSt K a0 a1 a2 a3 a4 a5 a6 a7 S) → W p l e ({ frames := 2, cells := 0, slots := 0, locals := 42 } : Room) s m ([.ref a0, .int p1] : List Value).toArray below meth c H locs 0 0 Q (F0 m pc ls [.int v]) := by
    intro pc ls H locs v h hd hh
    cases h; exact hret pc ls H locs _ rfl hd hh
  have hl : lv_has ls 2 [(0, .ref a0), (1, .int p1)] := hl
  unfold fX5_bitOf at hf
  refine (fun (hmain : ∀ (H : Heap) (locs : List Loc), zW K A s H locs (cSt K a0 a1 a2 a3 a4 a5 a6 a7 S) → W p l e ({ frames := 2, cells := 0, slots := 0, locals := 42 } : Room) s m ([.ref a0, .int p1] : List Value).toArray below meth c H locs 0 0 Q (F0 m 0 ls [])) => hmain s.heap [] hh) (fun H locs hh => ?_)
  refine lv_aload_n hx hb dX5_bitOf_0 rfl (lv_at hl 0 rfl) ?_
  refine lv_iload_n hx hb dX5_bitOf_1 rfl (lv_at hl 1 rfl) ?_
  refine zcallV (ci := 5) (q0 := 0) (As := [.int p1]) (rest := []) (wr := []) (ws' := cSt K a0 a1 a2 a3 a4 a5 a6 a7 S) (ov := some (.int (fX5_stands S p1))) X hh hl (kX5_stands l K a0 a1 a2 a3 a4 a5 a6 a7 S p1 (fX5_stands S p1) rfl) (fun ht => cwV 1 ht gX5_bitOf_X5_stands rfl rfl rfl ⟨rfl, hdX5_stands⟩ ⟨Nat.le_of_ble_eq_true rfl, Nat.le_of_ble_eq_true rfl⟩) [0, 1, 2, 3, 4, 5, 6, 7] [] [0, 1, 2, 3, 4, 5, 6, 7] rfl rfl rfl rfl (by decide) rfl rfl rfl rfl rfl rfl (Nat.le_of_ble_eq_true rfl) dX5_bitOf_2 ⟨Nat.zero_le _, Nat.zero_le _⟩ (fun H locs hh => ?_)
  refine lv_if_eq (tgt := 14) hx hb dX5_bitOf_5 (by decide) (fun c2 => ?_) (fun c2 => ?_)
  · replace hf := (if_pos c2).symm.trans hf
    refine lv_iconst (v := (0 : Int32)) hx hb dX5_bitOf_14 (by decide) ?_
    exact hr2 15 ls H locs (0 : Int32) hf dX5_bitOf_15 hh
  · replace hf := (if_neg c2).symm.trans hf
    refine lv_iconst (v := (1 : Int32)) hx hb dX5_bitOf_8 (by decide) ?_
    refine lv_iload_n hx hb dX5_bitOf_9 rfl (lv_at hl 1 rfl) ?_
    refine lv_ishl hx hb dX5_bitOf_10 ?_
    refine lv_goto (tgt := 15) hx hb dX5_bitOf_11 (by decide) ?_
    exact hr2 15 ls H locs ((1 : Int32) <<< (p1 &&& 31)) hf dX5_bitOf_15 hh
theorem inX5_aheadOf_X5 : ∀ w ∈ wsX50, w ∈ wsX5_aheadOf := by decide +kernel
theorem mmX5_aheadOf_0 : Cond.fieldLink RX5 21 "SumOfTwoThatStand$Street" "firsts" "[I" ∈ wsX5_aheadOf := by decide +kernel
theorem mmX5_aheadOf_1 : Cond.fieldLink RX5 24 "SumOfTwoThatStand$Street" "seconds" "[I" ∈ wsX5_aheadOf := by decide +kernel
theorem hdX5_aheadOf : yX5_aheadOf.cls ≠ "java/lang/invoke/MethodHandle" ∧ yX5_aheadOf.cls ≠ "java/lang/invoke/VarHandle" ∧ (parseMethodDescriptor yX5_aheadOf.desc).map (fun d => d.parameters.length) = some 1 := by decide +kernel
set_option maxHeartbeats 4000000 in
set_option maxRecDepth 100000 in
theorem kX5_aheadOf (l : Launch) (K : zK) (a0 a1 a2 a3 a4 a5 a6 a7 : Nat) (S : zSt) (p1 : Int32) (R : Int32) (hf : fX5_aheadOf S p1 = some R) : zC l yX5_aheadOf wsX5_aheadOf ({ frames := 3, cells := 0, slots := 0, locals := 63 } : Room) K [.ref a0, .int p1] (cSt K a0 a1 a2 a3 a4 a5 a6 a7 S) (some (.int R)) (cSt K a0 a1 a2 a3 a4 a5 a6 a7 S) := by
  refine zC_i R (cc := cX5_aheadOf) (maxL := 2) (by decide +kernel) rfl (Nat.le_of_ble_eq_true rfl) rfl rfl ?_
  intro p e s m below meth c Q A X hret ls hl hh
  have X : zX p m c cX5_aheadOf 2 s ([.ref a0, .int p1] : List Value).toArray wsX5_aheadOf RX5 K A := X
  have hx := X.1.1
  have hb := X.1.2.1
  have hr2 : ∀ (pc : Nat) (ls : Array Slot) (H : Heap) (locs : List Loc) (v : Int32), some v = some R → decode cX5_aheadOf pc = .ok (.ireturn, 1) → zW K A s H locs (cSt K a0 a1 a2 a3 a4 a5 a6 a7 S) → W p l e ({ frames := 3, cells := 0, slots := 0, locals := 63 } : Room) s m ([.ref a0, .int p1] : List Value).toArray below meth c H locs 0 0 Q (F0 m pc ls [.int v]) := by
    intro pc ls H locs v h hd hh
    cases h; exact hret pc ls H locs _ rfl hd hh
  have hl : lv_has ls 2 [(0, .ref a0), (1, .int p1)] := hl
  unfold fX5_aheadOf at hf
  refine (fun (hmain : ∀ (H : Heap) (locs : List Loc), zW K A s H locs (cSt K a0 a1 a2 a3 a4 a5 a6 a7 S) → W p l e ({ frames := 3, cells := 0, slots := 0, locals := 63 } : Room) s m ([.ref a0, .int p1] : List Value).toArray below meth c H locs 0 0 Q (F0 m 0 ls [])) => hmain s.heap [] hh) (fun H locs hh => ?_)
  refine lv_aload_n hx hb dX5_aheadOf_0 rfl (lv_at hl 0 rfl) ?_
  refine lv_iload_n hx hb dX5_aheadOf_1 rfl (lv_at hl 1 rfl) ?_
  refine zcallV (ci := 5) (q0 := 0) (As := [.int p1]) (rest := []) (wr := []) (ws' := cSt K a0 a1 a2 a3 a4 a5 a6 a7 S) (ov := some (.int (fX5_has S p1))) X hh hl (kX5_has l K a0 a1 a2 a3 a4 a5 a6 a7 S p1 (fX5_has S p1) rfl) (fun ht => cwV 1 ht gX5_aheadOf_X5_has rfl rfl rfl ⟨rfl, hdX5_has⟩ ⟨Nat.le_of_ble_eq_true rfl, Nat.le_of_ble_eq_true rfl⟩) [0, 1, 2, 3, 4, 5, 6, 7] [] [0, 1, 2, 3, 4, 5, 6, 7] rfl rfl rfl rfl (by decide) rfl rfl rfl rfl rfl rfl (Nat.le_of_ble_eq_true rfl) dX5_aheadOf_2 ⟨Nat.zero_le _, Nat.zero_le _⟩ (fun H locs hh => ?_)
  refine lv_if_ne (tgt := 10) hx hb dX5_aheadOf_5 (by decide) (fun c2 => ?_) (fun c2 => ?_)
  · replace hf := (if_neg c2).symm.trans hf
    refine lv_aload_n hx hb dX5_aheadOf_10 rfl (lv_at hl 0 rfl) ?_
    refine lv_aload_n hx hb dX5_aheadOf_11 rfl (lv_at hl 0 rfl) ?_
    refine zget (v := .ref a4) (ref := "SumOfTwoThatStand$Street") (C := RX5) (T := TX5) (N := 11) (index := 21) X hh inX5_aheadOf_X5 0 rfl rfl 3 (by decide) mmX5_aheadOf_0 rfl rfl dX5_aheadOf_12 ?_
    refine lv_iload_n hx hb dX5_aheadOf_15 rfl (lv_at hl 1 rfl) ?_
    obtain ⟨g3, hf⟩ := ob_ix hf
    refine ziald (f := (st_firsts S)) X hh 4 rfl g3 dX5_aheadOf_16 ?_
    refine zcallV (ci := 5) (q0 := 0) (As := [.int ((st_firsts S) p1.toNatClampNeg)]) (rest := []) (wr := []) (ws' := cSt K a0 a1 a2 a3 a4 a5 a6 a7 S) (ov := some (.int (fX5_bitOf S ((st_firsts S) p1.toNatClampNeg)))) X hh hl (kX5_bitOf l K a0 a1 a2 a3 a4 a5 a6 a7 S ((st_firsts S) p1.toNatClampNeg) (fX5_bitOf S ((st_firsts S) p1.toNatClampNeg)) rfl) (fun ht => cwV 1 ht gX5_aheadOf_X5_bitOf rfl rfl rfl ⟨rfl, hdX5_bitOf⟩ ⟨Nat.le_of_ble_eq_true rfl, Nat.le_of_ble_eq_true rfl⟩) [0, 1, 2, 3, 4, 5, 6, 7] [] [0, 1, 2, 3, 4, 5, 6, 7] rfl rfl rfl rfl (by decide) rfl rfl rfl rfl rfl rfl (Nat.le_of_ble_eq_true rfl) dX5_aheadOf_17 ⟨Nat.zero_le _, Nat.zero_le _⟩ (fun H locs hh => ?_)
    refine lv_aload_n hx hb dX5_aheadOf_20 rfl (lv_at hl 0 rfl) ?_
    refine lv_aload_n hx hb dX5_aheadOf_21 rfl (lv_at hl 0 rfl) ?_
    refine zget (v := .ref a5) (ref := "SumOfTwoThatStand$Street") (C := RX5) (T := TX5) (N := 11) (index := 24) X hh inX5_aheadOf_X5 0 rfl rfl 4 (by decide) mmX5_aheadOf_1 rfl rfl dX5_aheadOf_22 ?_
    refine lv_iload_n hx hb dX5_aheadOf_25 rfl (lv_at hl 1 rfl) ?_
    refine ziald (f := (st_seconds S)) X hh 5 rfl g3 dX5_aheadOf_26 ?_
    refine zcallV (ci := 5) (q0 := 0) (As := [.int ((st_seconds S) p1.toNatClampNeg)]) (rest := [.int (fX5_bitOf S ((st_firsts S) p1.toNatClampNeg))]) (wr := []) (ws' := cSt K a0 a1 a2 a3 a4 a5 a6 a7 S) (ov := some (.int (fX5_bitOf S ((st_seconds S) p1.toNatClampNeg)))) X hh hl (kX5_bitOf l K a0 a1 a2 a3 a4 a5 a6 a7 S ((st_seconds S) p1.toNatClampNeg) (fX5_bitOf S ((st_seconds S) p1.toNatClampNeg)) rfl) (fun ht => cwV 1 ht gX5_aheadOf_X5_bitOf rfl rfl rfl ⟨rfl, hdX5_bitOf⟩ ⟨Nat.le_of_ble_eq_true rfl, Nat.le_of_ble_eq_true rfl⟩) [0, 1, 2, 3, 4, 5, 6, 7] [] [0, 1, 2, 3, 4, 5, 6, 7] rfl rfl rfl rfl (by decide) rfl rfl rfl rfl rfl rfl (Nat.le_of_ble_eq_true rfl) dX5_aheadOf_27 ⟨Nat.zero_le _, Nat.zero_le _⟩ (fun H locs hh => ?_)
    refine lv_ior hx hb dX5_aheadOf_30 ?_
    exact hr2 31 ls H locs ((fX5_bitOf S ((st_firsts S) p1.toNatClampNeg)) ||| (fX5_bitOf S ((st_seconds S) p1.toNatClampNeg))) hf dX5_aheadOf_31 hh
  · replace hf := (if_pos c2).symm.trans hf
    refine lv_iconst (v := (0 : Int32)) hx hb dX5_aheadOf_8 (by decide) ?_
    exact hr2 9 ls H locs (0 : Int32) hf dX5_aheadOf_9 hh
theorem inX5_comesNext_X5 : ∀ w ∈ wsX50, w ∈ wsX5_comesNext := by decide +kernel
theorem mmX5_comesNext_0 : Cond.fieldLink RX5 36 "SumOfTwoThatStand$Street" "came" "I" ∈ wsX5_comesNext := by decide +kernel
theorem mmX5_comesNext_1 : Cond.fieldLink RX5 18 "SumOfTwoThatStand$Street" "numbers" "[I" ∈ wsX5_comesNext := by decide +kernel
theorem hdX5_comesNext : yX5_comesNext.cls ≠ "java/lang/invoke/MethodHandle" ∧ yX5_comesNext.cls ≠ "java/lang/invoke/VarHandle" ∧ (parseMethodDescriptor yX5_comesNext.desc).map (fun d => d.parameters.length) = some 1 := by decide +kernel
set_option maxHeartbeats 4000000 in
set_option maxRecDepth 100000 in
theorem kX5_comesNext (l : Launch) (K : zK) (a0 a1 a2 a3 a4 a5 a6 a7 : Nat) (S : zSt) (p1 : Int32) (R : Int32) (hf : fX5_comesNext S p1 = some R) : zC l yX5_comesNext wsX5_comesNext ({ frames := 3, cells := 0, slots := 0, locals := 67 } : Room) K [.ref a0, .int p1] (cSt K a0 a1 a2 a3 a4 a5 a6 a7 S) (some (.int R)) (cSt K a0 a1 a2 a3 a4 a5 a6 a7 S) := by
  refine zC_z .boolean R (cc := cX5_comesNext) (maxL := 4) (by decide +kernel) rfl (Nat.le_of_ble_eq_true rfl) rfl rfl ?_
  intro p e s m below meth c Q A X hret ls hl hh
  have X : zX p m c cX5_comesNext 4 s ([.ref a0, .int p1] : List Value).toArray wsX5_comesNext RX5 K A := X
  have hx := X.1.1
  have hb := X.1.2.1
  have hr2 : ∀ (pc : Nat) (ls : Array Slot) (H : Heap) (locs : List Loc) (v : Int32), some v = some R → narrow .boolean (.int v) = .int v → decode cX5_comesNext pc = .ok (.ireturn, 1) → zW K A s H locs (cSt K a0 a1 a2 a3 a4 a5 a6 a7 S) → W p l e ({ frames := 3, cells := 0, slots := 0, locals := 67 } : Room) s m ([.ref a0, .int p1] : List Value).toArray below meth c H locs 0 0 Q (F0 m pc ls [.int v]) := by
    intro pc ls H locs v h hn hd hh
    cases h; exact hret pc ls H locs _ rfl hn hd hh
  have hl : lv_has ls 4 [(0, .ref a0), (1, .int p1)] := hl
  have hL21 : ∀ (v1 : Int32) (v2 : Int32) (k11 : (Int32) → Option (Int32)), (∀ (v2 : Int32) (H : Heap) (locs : List Loc) (ls : Array Slot), k11 v2 = some R → lv_has ls 4 [(0, .ref a0), (1, .int v1), (2, .int v2)] → zW K A s H locs (cSt K a0 a1 a2 a3 a4 a5 a6 a7 S) → W p l e ({ frames := 3, cells := 0, slots := 0, locals := 67 } : Room) s m ([.ref a0, .int p1] : List Value).toArray below meth c H locs 0 0 Q (F0 m 11 ls [])) → ∀ (n : Nat) (v3 : Int32), ∀ (H : Heap) (locs : List Loc) (ls : Array Slot), fX5_comesNext_l21 S v1 v2 k11 n v3 = some R → lv_has ls 4 [(0, .ref a0), (1, .int v1), (2, .int v2), (3, .int v3)] → zW K A s H locs (cSt K a0 a1 a2 a3 a4 a5 a6 a7 S) → W p l e ({ frames := 3, cells := 0, slots := 0, locals := 67 } : Room) s m ([.ref a0, .int p1] : List Value).toArray below meth c H locs 0 0 Q (F0 m 21 ls []) := by
    intro v1 v2 k11 hk11 n
    induction n with
    | zero =>
      intro v3 H locs ls hf hl hh
      rw [fX5_comesNext_l21] at hf; cases hf
    | succ n ih =>
      intro v3 H locs ls hf hl hh
      rw [fX5_comesNext_l21] at hf
      refine lv_iload_n hx hb dX5_comesNext_21 rfl (lv_at hl 3 rfl) ?_
      refine lv_aload_n hx hb dX5_comesNext_22 rfl (lv_at hl 0 rfl) ?_
      refine zget (v := .int (st_came S)) (ref := "SumOfTwoThatStand$Street") (C := RX5) (T := TX5) (N := 11) (index := 36) X hh inX5_comesNext_X5 0 rfl rfl 7 (by decide) mmX5_comesNext_0 rfl rfl dX5_comesNext_23 ?_
      refine lv_icmp_ge (tgt := 63) hx hb dX5_comesNext_26 (by decide) (fun c1 => ?_) (fun c1 => ?_)
      · replace hf := (if_pos c1).symm.trans hf
        refine lv_iinc (v := (v2 + (1 : Int32))) (lv' := [(2, .int (v2 + (1 : Int32))), (0, .ref a0), (1, .int v1), (3, .int v3)]) hx hb dX5_comesNext_63 hl (k := 2) rfl rfl (by decide) rfl (fun ls hl => ?_)
        refine lv_goto (tgt := 11) hx hb dX5_comesNext_66 (by decide) ?_
        exact hk11 (v2 + (1 : Int32)) H locs ls hf (lv_sub hl [1, 2, 0] rfl) hh
      · replace hf := (if_neg c1).symm.trans hf
        refine lv_aload_n hx hb dX5_comesNext_29 rfl (lv_at hl 0 rfl) ?_
        refine zget (v := .ref a3) (ref := "SumOfTwoThatStand$Street") (C := RX5) (T := TX5) (N := 11) (index := 18) X hh inX5_comesNext_X5 0 rfl rfl 2 (by decide) mmX5_comesNext_1 rfl rfl dX5_comesNext_30 ?_
        refine lv_iload_n hx hb dX5_comesNext_33 rfl (lv_at hl 2 rfl) ?_
        obtain ⟨g2, hf⟩ := ob_ix hf
        refine ziald (f := (st_numbers S)) X hh 3 rfl g2 dX5_comesNext_34 ?_
        refine lv_aload_n hx hb dX5_comesNext_35 rfl (lv_at hl 0 rfl) ?_
        refine zget (v := .ref a3) (ref := "SumOfTwoThatStand$Street") (C := RX5) (T := TX5) (N := 11) (index := 18) X hh inX5_comesNext_X5 0 rfl rfl 2 (by decide) mmX5_comesNext_1 rfl rfl dX5_comesNext_36 ?_
        refine lv_iload_n hx hb dX5_comesNext_39 rfl (lv_at hl 3 rfl) ?_
        obtain ⟨g3, hf⟩ := ob_ix hf
        refine ziald (f := (st_numbers S)) X hh 3 rfl g3 dX5_comesNext_40 ?_
        refine lv_iadd hx hb dX5_comesNext_41 ?_
        refine lv_iload_n hx hb dX5_comesNext_42 rfl (lv_at hl 1 rfl) ?_
        refine lv_icmp_ne (tgt := 57) hx hb dX5_comesNext_43 (by decide) (fun c4 => ?_) (fun c4 => ?_)
        · replace hf := (if_neg c4).symm.trans hf
          refine lv_iinc (v := (v3 + (1 : Int32))) (lv' := [(3, .int (v3 + (1 : Int32))), (0, .ref a0), (1, .int v1), (2, .int v2)]) hx hb dX5_comesNext_57 hl (k := 3) rfl rfl (by decide) rfl (fun ls hl => ?_)
          refine lv_goto (tgt := 21) hx hb dX5_comesNext_60 (by decide) ?_
          exact ih (v3 + (1 : Int32)) H locs ls hf (lv_sub hl [1, 2, 3, 0] rfl) hh
        · replace hf := (if_pos c4).symm.trans hf
          refine lv_aload_n hx hb dX5_comesNext_46 rfl (lv_at hl 0 rfl) ?_
          refine lv_iload_n hx hb dX5_comesNext_47 rfl (lv_at hl 2 rfl) ?_
          refine lv_iload_n hx hb dX5_comesNext_48 rfl (lv_at hl 3 rfl) ?_
          obtain ⟨u5, hu5, hf⟩ := ob_bind hf
          refine zcallV (ci := 5) (q0 := 0) (As := [.int v2, .int v3]) (rest := []) (wr := []) (ws' := cSt K a0 a1 a2 a3 a4 a5 a6 a7 S) (ov := some (.int u5)) X hh hl (kX5_mayBe l K a0 a1 a2 a3 a4 a5 a6 a7 S v2 v3 u5 hu5) (fun ht => cwV 2 ht gX5_comesNext_X5_mayBe rfl rfl rfl ⟨rfl, hdX5_mayBe⟩ ⟨Nat.le_of_ble_eq_true rfl, Nat.le_of_ble_eq_true rfl⟩) [0, 1, 2, 3, 4, 5, 6, 7] [] [0, 1, 2, 3, 4, 5, 6, 7] rfl rfl rfl rfl (by decide) rfl rfl rfl rfl rfl rfl (Nat.le_of_ble_eq_true rfl) dX5_comesNext_49 ⟨Nat.zero_le _, Nat.zero_le _⟩ (fun H locs hh => ?_)
          refine lv_if_eq (tgt := 57) hx hb dX5_comesNext_52 (by decide) (fun c6 => ?_) (fun c6 => ?_)
          · replace hf := (if_pos c6).symm.trans hf
            refine lv_iinc (v := (v3 + (1 : Int32))) (lv' := [(3, .int (v3 + (1 : Int32))), (0, .ref a0), (1, .int v1), (2, .int v2)]) hx hb dX5_comesNext_57 hl (k := 3) rfl rfl (by decide) rfl (fun ls hl => ?_)
            refine lv_goto (tgt := 21) hx hb dX5_comesNext_60 (by decide) ?_
            exact ih (v3 + (1 : Int32)) H locs ls hf (lv_sub hl [1, 2, 3, 0] rfl) hh
          · replace hf := (if_neg c6).symm.trans hf
            refine lv_iconst (v := (1 : Int32)) hx hb dX5_comesNext_55 (by decide) ?_
            exact hr2 56 ls H locs (1 : Int32) hf rfl dX5_comesNext_56 hh
  have hL11 : ∀ (v1 : Int32), ∀ (n : Nat) (v2 : Int32), ∀ (H : Heap) (locs : List Loc) (ls : Array Slot), fX5_comesNext_l11 S v1 n v2 = some R → lv_has ls 4 [(0, .ref a0), (1, .int v1), (2, .int v2)] → zW K A s H locs (cSt K a0 a1 a2 a3 a4 a5 a6 a7 S) → W p l e ({ frames := 3, cells := 0, slots := 0, locals := 67 } : Room) s m ([.ref a0, .int p1] : List Value).toArray below meth c H locs 0 0 Q (F0 m 11 ls []) := by
    intro v1 n
    induction n with
    | zero =>
      intro v2 H locs ls hf hl hh
      rw [fX5_comesNext_l11] at hf; cases hf
    | succ n ih =>
      intro v2 H locs ls hf hl hh
      rw [fX5_comesNext_l11] at hf
      refine lv_iload_n hx hb dX5_comesNext_11 rfl (lv_at hl 2 rfl) ?_
      refine lv_aload_n hx hb dX5_comesNext_12 rfl (lv_at hl 0 rfl) ?_
      refine zget (v := .int (st_came S)) (ref := "SumOfTwoThatStand$Street") (C := RX5) (T := TX5) (N := 11) (index := 36) X hh inX5_comesNext_X5 0 rfl rfl 7 (by decide) mmX5_comesNext_0 rfl rfl dX5_comesNext_13 ?_
      refine lv_icmp_ge (tgt := 69) hx hb dX5_comesNext_16 (by decide) (fun c7 => ?_) (fun c7 => ?_)
      · replace hf := (if_pos c7).symm.trans hf
        refine lv_iconst (v := (0 : Int32)) hx hb dX5_comesNext_69 (by decide) ?_
        exact hr2 70 ls H locs (0 : Int32) hf rfl dX5_comesNext_70 hh
      · replace hf := (if_neg c7).symm.trans hf
        refine lv_iload_n hx hb dX5_comesNext_19 rfl (lv_at hl 2 rfl) ?_
        refine lv_istore_n (lv' := [(3, .int v2), (0, .ref a0), (1, .int v1), (2, .int v2)]) hx hb dX5_comesNext_20 rfl hl (by decide) rfl (fun ls hl => ?_)
        exact hL21 v1 v2 (fX5_comesNext_l11 S v1 n) (ih) FU v2 H locs ls hf (lv_sub hl [1, 2, 3, 0] rfl) hh
  unfold fX5_comesNext at hf
  refine (fun (hmain : ∀ (H : Heap) (locs : List Loc), zW K A s H locs (cSt K a0 a1 a2 a3 a4 a5 a6 a7 S) → W p l e ({ frames := 3, cells := 0, slots := 0, locals := 67 } : Room) s m ([.ref a0, .int p1] : List Value).toArray below meth c H locs 0 0 Q (F0 m 0 ls [])) => hmain s.heap [] hh) (fun H locs hh => ?_)
  refine lv_aload_n hx hb dX5_comesNext_0 rfl (lv_at hl 0 rfl) ?_
  refine zcallV (ci := 5) (q0 := 0) (As := []) (rest := []) (wr := []) (ws' := cSt K a0 a1 a2 a3 a4 a5 a6 a7 S) (ov := some (.int (fX5_hasRoom S))) X hh hl (kX5_hasRoom l K a0 a1 a2 a3 a4 a5 a6 a7 S (fX5_hasRoom S) rfl) (fun ht => cwV 0 ht gX5_comesNext_X5_hasRoom rfl rfl rfl ⟨rfl, hdX5_hasRoom⟩ ⟨Nat.le_of_ble_eq_true rfl, Nat.le_of_ble_eq_true rfl⟩) [0, 1, 2, 3, 4, 5, 6, 7] [] [0, 1, 2, 3, 4, 5, 6, 7] rfl rfl rfl rfl (by decide) rfl rfl rfl rfl rfl rfl (Nat.le_of_ble_eq_true rfl) dX5_comesNext_1 ⟨Nat.zero_le _, Nat.zero_le _⟩ (fun H locs hh => ?_)
  refine lv_if_ne (tgt := 9) hx hb dX5_comesNext_4 (by decide) (fun c9 => ?_) (fun c9 => ?_)
  · replace hf := (if_neg c9).symm.trans hf
    refine lv_iconst (v := (0 : Int32)) hx hb dX5_comesNext_9 (by decide) ?_
    refine lv_istore_n (lv' := [(2, .int (0 : Int32)), (0, .ref a0), (1, .int p1)]) hx hb dX5_comesNext_10 rfl hl (by decide) rfl (fun ls hl => ?_)
    exact hL11 p1 FU (0 : Int32) H locs ls hf (lv_sub hl [1, 2, 0] rfl) hh
  · replace hf := (if_pos c9).symm.trans hf
    refine lv_iconst (v := (0 : Int32)) hx hb dX5_comesNext_7 (by decide) ?_
    exact hr2 8 ls H locs (0 : Int32) hf rfl dX5_comesNext_8 hh
theorem inX5_become_X5 : ∀ w ∈ wsX50, w ∈ wsX5_become := by decide +kernel
theorem mmX5_become_0 : Cond.fieldLink RX5 9 "SumOfTwoThatStand$Street" "kinds" "[I" ∈ wsX5_become := by decide +kernel
theorem mmX5_become_1 : Cond.methodLink RX5 47 arraycopyName ∈ wsX5_become := by decide +kernel
theorem mmX5_become_2 : Cond.native arraycopyName ∈ wsX5_become := by decide +kernel
theorem mmX5_become_3 : Cond.static arraycopyName ∈ wsX5_become := by decide +kernel
theorem mmX5_become_4 : Cond.initialized "java/lang/System" ∈ wsX5_become := by decide +kernel
theorem mmX5_become_5 : Cond.fieldLink RX5 15 "SumOfTwoThatStand$Street" "figures" "[I" ∈ wsX5_become := by decide +kernel
theorem mmX5_become_6 : Cond.fieldLink RX5 18 "SumOfTwoThatStand$Street" "numbers" "[I" ∈ wsX5_become := by decide +kernel
theorem mmX5_become_7 : Cond.fieldLink RX5 21 "SumOfTwoThatStand$Street" "firsts" "[I" ∈ wsX5_become := by decide +kernel
theorem mmX5_become_8 : Cond.fieldLink RX5 24 "SumOfTwoThatStand$Street" "seconds" "[I" ∈ wsX5_become := by decide +kernel
theorem mmX5_become_9 : Cond.fieldLink RX5 27 "SumOfTwoThatStand$Street" "uses" "[I" ∈ wsX5_become := by decide +kernel
theorem mmX5_become_10 : Cond.fieldLink RX5 30 "SumOfTwoThatStand$Street" "earned" "[I" ∈ wsX5_become := by decide +kernel
theorem mmX5_become_11 : Cond.fieldLink RX5 36 "SumOfTwoThatStand$Street" "came" "I" ∈ wsX5_become := by decide +kernel
theorem mmX5_become_12 : Cond.fieldLink RX5 40 "SumOfTwoThatStand$Street" "standing" "I" ∈ wsX5_become := by decide +kernel
theorem mmX5_become_13 : Cond.fieldLink RX5 53 "SumOfTwoThatStand$Street" "sums" "I" ∈ wsX5_become := by decide +kernel
theorem mmX5_become_14 : Cond.fieldLink RX5 56 "SumOfTwoThatStand$Street" "falls" "I" ∈ wsX5_become := by decide +kernel
theorem hdX5_become : yX5_become.cls ≠ "java/lang/invoke/MethodHandle" ∧ yX5_become.cls ≠ "java/lang/invoke/VarHandle" ∧ (parseMethodDescriptor yX5_become.desc).map (fun d => d.parameters.length) = some 1 := by decide +kernel
set_option maxHeartbeats 4000000 in
set_option maxRecDepth 100000 in
theorem kX5_become (l : Launch) (K : zK) (a0 a1 a2 a3 a4 a5 a6 a7 b0 b1 b2 b3 b4 b5 b6 b7 : Nat) (S : zSt) (T : zSt) (R : zSt) (hf : fX5_become S T = R) : zC l yX5_become wsX5_become ({ frames := 1, cells := 0, slots := 0, locals := 60 } : Room) K [.ref a0, .ref b0] (cSt K a0 a1 a2 a3 a4 a5 a6 a7 S ++ cSt K b0 b1 b2 b3 b4 b5 b6 b7 T) none (cSt K a0 a1 a2 a3 a4 a5 a6 a7 R ++ cSt K b0 b1 b2 b3 b4 b5 b6 b7 T) := by
  refine zC_v (cc := cX5_become) (maxL := 2) (by decide +kernel) rfl (Nat.le_of_ble_eq_true rfl) rfl rfl ?_
  intro p e s m below meth c Q A X hret ls hl hh
  have X : zX p m c cX5_become 2 s ([.ref a0, .ref b0] : List Value).toArray wsX5_become RX5 K A := X
  have hx := X.1.1
  have hb := X.1.2.1
  have hr2 : ∀ (pc : Nat) (ls : Array Slot) (H : Heap) (locs : List Loc) (S : zSt), S = R → decode cX5_become pc = .ok (.return_, 1) → zW K A s H locs (cSt K a0 a1 a2 a3 a4 a5 a6 a7 S ++ cSt K b0 b1 b2 b3 b4 b5 b6 b7 T) → W p l e ({ frames := 1, cells := 0, slots := 0, locals := 60 } : Room) s m ([.ref a0, .ref b0] : List Value).toArray below meth c H locs 0 0 Q (F0 m pc ls []) := by
    intro pc ls H locs S h hd hh
    cases h; exact hret pc ls H locs hd hh
  have hl : lv_has ls 2 [(0, .ref a0), (1, .ref b0)] := hl
  unfold fX5_become at hf
  refine (fun (hmain : ∀ (H : Heap) (locs : List Loc), zW K A s H locs (cSt K a0 a1 a2 a3 a4 a5 a6 a7 S ++ cSt K b0 b1 b2 b3 b4 b5 b6 b7 T) → W p l e ({ frames := 1, cells := 0, slots := 0, locals := 60 } : Room) s m ([.ref a0, .ref b0] : List Value).toArray below meth c H locs 0 0 Q (F0 m 0 ls [])) => hmain s.heap [] hh) (fun H locs hh => ?_)
  refine lv_aload_n hx hb dX5_become_0 rfl (lv_at hl 1 rfl) ?_
  refine zget (v := .ref b1) (ref := "SumOfTwoThatStand$Street") (C := RX5) (T := TX5) (N := 11) (index := 9) X hh inX5_become_X5 8 rfl rfl 0 (by decide) mmX5_become_0 rfl rfl dX5_become_1 ?_
  refine lv_iconst (v := (0 : Int32)) hx hb dX5_become_4 (by decide) ?_
  refine lv_aload_n hx hb dX5_become_5 rfl (lv_at hl 0 rfl) ?_
  refine zget (v := .ref a1) (ref := "SumOfTwoThatStand$Street") (C := RX5) (T := TX5) (N := 11) (index := 9) X hh inX5_become_X5 0 rfl rfl 0 (by decide) mmX5_become_0 rfl rfl dX5_become_6 ?_
  refine lv_iconst (v := (0 : Int32)) hx hb dX5_become_9 (by decide) ?_
  refine lv_bipush (v := (12 : Int32)) hx hb dX5_become_10 (by decide) ?_
  refine va_copyi hx hb (X.1.2.2.1.trans hl.1.symm) X.1.2.2.2.1 (X.1.2.2.2.2 _ mmX5_become_1) (X.1.2.2.2.2 _ mmX5_become_2) (X.1.2.2.2.2 _ mmX5_become_3) (X.1.2.2.2.2 _ mmX5_become_4) X.2.1 hh.1 hh.2.1 hh.2.2 9 1 0 0 rfl rfl rfl rfl rfl (by decide) (by decide) (by decide) (by decide) (by decide) (fun _ _ => rfl) (Nat.le_of_ble_eq_true rfl) (Nat.le_of_ble_eq_true rfl) dX5_become_12 (fun H locs h1 h2 h3 => ?_)
  have hh : zW K A s H locs (cSt K a0 a1 a2 a3 a4 a5 a6 a7 (st_set_kinds S (va_cpy (st_kinds T) (st_kinds S) (0 : Int32).toNatClampNeg (0 : Int32).toNatClampNeg (12 : Int32).toNatClampNeg)) ++ cSt K b0 b1 b2 b3 b4 b5 b6 b7 T) := ⟨h1, h2, h3⟩
  refine lv_aload_n hx hb dX5_become_15 rfl (lv_at hl 1 rfl) ?_
  refine zget (v := .ref b2) (ref := "SumOfTwoThatStand$Street") (C := RX5) (T := TX5) (N := 11) (index := 15) X hh inX5_become_X5 8 rfl rfl 1 (by decide) mmX5_become_5 rfl rfl dX5_become_16 ?_
  refine lv_iconst (v := (0 : Int32)) hx hb dX5_become_19 (by decide) ?_
  refine lv_aload_n hx hb dX5_become_20 rfl (lv_at hl 0 rfl) ?_
  refine zget (v := .ref a2) (ref := "SumOfTwoThatStand$Street") (C := RX5) (T := TX5) (N := 11) (index := 15) X hh inX5_become_X5 0 rfl rfl 1 (by decide) mmX5_become_5 rfl rfl dX5_become_21 ?_
  refine lv_iconst (v := (0 : Int32)) hx hb dX5_become_24 (by decide) ?_
  refine lv_bipush (v := (12 : Int32)) hx hb dX5_become_25 (by decide) ?_
  refine va_copyi hx hb (X.1.2.2.1.trans hl.1.symm) X.1.2.2.2.1 (X.1.2.2.2.2 _ mmX5_become_1) (X.1.2.2.2.2 _ mmX5_become_2) (X.1.2.2.2.2 _ mmX5_become_3) (X.1.2.2.2.2 _ mmX5_become_4) X.2.1 hh.1 hh.2.1 hh.2.2 10 2 0 0 rfl rfl rfl rfl rfl (by decide) (by decide) (by decide) (by decide) (by decide) (fun _ _ => rfl) (Nat.le_of_ble_eq_true rfl) (Nat.le_of_ble_eq_true rfl) dX5_become_27 (fun H locs h1 h2 h3 => ?_)
  have hh : zW K A s H locs (cSt K a0 a1 a2 a3 a4 a5 a6 a7 (st_set_figures (st_set_kinds S (va_cpy (st_kinds T) (st_kinds S) (0 : Int32).toNatClampNeg (0 : Int32).toNatClampNeg (12 : Int32).toNatClampNeg)) (va_cpy (st_figures T) (st_figures S) (0 : Int32).toNatClampNeg (0 : Int32).toNatClampNeg (12 : Int32).toNatClampNeg)) ++ cSt K b0 b1 b2 b3 b4 b5 b6 b7 T) := ⟨h1, h2, h3⟩
  refine lv_aload_n hx hb dX5_become_30 rfl (lv_at hl 1 rfl) ?_
  refine zget (v := .ref b3) (ref := "SumOfTwoThatStand$Street") (C := RX5) (T := TX5) (N := 11) (index := 18) X hh inX5_become_X5 8 rfl rfl 2 (by decide) mmX5_become_6 rfl rfl dX5_become_31 ?_
  refine lv_iconst (v := (0 : Int32)) hx hb dX5_become_34 (by decide) ?_
  refine lv_aload_n hx hb dX5_become_35 rfl (lv_at hl 0 rfl) ?_
  refine zget (v := .ref a3) (ref := "SumOfTwoThatStand$Street") (C := RX5) (T := TX5) (N := 11) (index := 18) X hh inX5_become_X5 0 rfl rfl 2 (by decide) mmX5_become_6 rfl rfl dX5_become_36 ?_
  refine lv_iconst (v := (0 : Int32)) hx hb dX5_become_39 (by decide) ?_
  refine lv_bipush (v := (12 : Int32)) hx hb dX5_become_40 (by decide) ?_
  refine va_copyi hx hb (X.1.2.2.1.trans hl.1.symm) X.1.2.2.2.1 (X.1.2.2.2.2 _ mmX5_become_1) (X.1.2.2.2.2 _ mmX5_become_2) (X.1.2.2.2.2 _ mmX5_become_3) (X.1.2.2.2.2 _ mmX5_become_4) X.2.1 hh.1 hh.2.1 hh.2.2 11 3 0 0 rfl rfl rfl rfl rfl (by decide) (by decide) (by decide) (by decide) (by decide) (fun _ _ => rfl) (Nat.le_of_ble_eq_true rfl) (Nat.le_of_ble_eq_true rfl) dX5_become_42 (fun H locs h1 h2 h3 => ?_)
  have hh : zW K A s H locs (cSt K a0 a1 a2 a3 a4 a5 a6 a7 (st_set_numbers (st_set_figures (st_set_kinds S (va_cpy (st_kinds T) (st_kinds S) (0 : Int32).toNatClampNeg (0 : Int32).toNatClampNeg (12 : Int32).toNatClampNeg)) (va_cpy (st_figures T) (st_figures S) (0 : Int32).toNatClampNeg (0 : Int32).toNatClampNeg (12 : Int32).toNatClampNeg)) (va_cpy (st_numbers T) (st_numbers S) (0 : Int32).toNatClampNeg (0 : Int32).toNatClampNeg (12 : Int32).toNatClampNeg)) ++ cSt K b0 b1 b2 b3 b4 b5 b6 b7 T) := ⟨h1, h2, h3⟩
  refine lv_aload_n hx hb dX5_become_45 rfl (lv_at hl 1 rfl) ?_
  refine zget (v := .ref b4) (ref := "SumOfTwoThatStand$Street") (C := RX5) (T := TX5) (N := 11) (index := 21) X hh inX5_become_X5 8 rfl rfl 3 (by decide) mmX5_become_7 rfl rfl dX5_become_46 ?_
  refine lv_iconst (v := (0 : Int32)) hx hb dX5_become_49 (by decide) ?_
  refine lv_aload_n hx hb dX5_become_50 rfl (lv_at hl 0 rfl) ?_
  refine zget (v := .ref a4) (ref := "SumOfTwoThatStand$Street") (C := RX5) (T := TX5) (N := 11) (index := 21) X hh inX5_become_X5 0 rfl rfl 3 (by decide) mmX5_become_7 rfl rfl dX5_become_51 ?_
  refine lv_iconst (v := (0 : Int32)) hx hb dX5_become_54 (by decide) ?_
  refine lv_bipush (v := (12 : Int32)) hx hb dX5_become_55 (by decide) ?_
  refine va_copyi hx hb (X.1.2.2.1.trans hl.1.symm) X.1.2.2.2.1 (X.1.2.2.2.2 _ mmX5_become_1) (X.1.2.2.2.2 _ mmX5_become_2) (X.1.2.2.2.2 _ mmX5_become_3) (X.1.2.2.2.2 _ mmX5_become_4) X.2.1 hh.1 hh.2.1 hh.2.2 12 4 0 0 rfl rfl rfl rfl rfl (by decide) (by decide) (by decide) (by decide) (by decide) (fun _ _ => rfl) (Nat.le_of_ble_eq_true rfl) (Nat.le_of_ble_eq_true rfl) dX5_become_57 (fun H locs h1 h2 h3 => ?_)
  have hh : zW K A s H locs (cSt K a0 a1 a2 a3 a4 a5 a6 a7 (st_set_firsts (st_set_numbers (st_set_figures (st_set_kinds S (va_cpy (st_kinds T) (st_kinds S) (0 : Int32).toNatClampNeg (0 : Int32).toNatClampNeg (12 : Int32).toNatClampNeg)) (va_cpy (st_figures T) (st_figures S) (0 : Int32).toNatClampNeg (0 : Int32).toNatClampNeg (12 : Int32).toNatClampNeg)) (va_cpy (st_numbers T) (st_numbers S) (0 : Int32).toNatClampNeg (0 : Int32).toNatClampNeg (12 : Int32).toNatClampNeg)) (va_cpy (st_firsts T) (st_firsts S) (0 : Int32).toNatClampNeg (0 : Int32).toNatClampNeg (12 : Int32).toNatClampNeg)) ++ cSt K b0 b1 b2 b3 b4 b5 b6 b7 T) := ⟨h1, h2, h3⟩
  refine lv_aload_n hx hb dX5_become_60 rfl (lv_at hl 1 rfl) ?_
  refine zget (v := .ref b5) (ref := "SumOfTwoThatStand$Street") (C := RX5) (T := TX5) (N := 11) (index := 24) X hh inX5_become_X5 8 rfl rfl 4 (by decide) mmX5_become_8 rfl rfl dX5_become_61 ?_
  refine lv_iconst (v := (0 : Int32)) hx hb dX5_become_64 (by decide) ?_
  refine lv_aload_n hx hb dX5_become_65 rfl (lv_at hl 0 rfl) ?_
  refine zget (v := .ref a5) (ref := "SumOfTwoThatStand$Street") (C := RX5) (T := TX5) (N := 11) (index := 24) X hh inX5_become_X5 0 rfl rfl 4 (by decide) mmX5_become_8 rfl rfl dX5_become_66 ?_
  refine lv_iconst (v := (0 : Int32)) hx hb dX5_become_69 (by decide) ?_
  refine lv_bipush (v := (12 : Int32)) hx hb dX5_become_70 (by decide) ?_
  refine va_copyi hx hb (X.1.2.2.1.trans hl.1.symm) X.1.2.2.2.1 (X.1.2.2.2.2 _ mmX5_become_1) (X.1.2.2.2.2 _ mmX5_become_2) (X.1.2.2.2.2 _ mmX5_become_3) (X.1.2.2.2.2 _ mmX5_become_4) X.2.1 hh.1 hh.2.1 hh.2.2 13 5 0 0 rfl rfl rfl rfl rfl (by decide) (by decide) (by decide) (by decide) (by decide) (fun _ _ => rfl) (Nat.le_of_ble_eq_true rfl) (Nat.le_of_ble_eq_true rfl) dX5_become_72 (fun H locs h1 h2 h3 => ?_)
  have hh : zW K A s H locs (cSt K a0 a1 a2 a3 a4 a5 a6 a7 (st_set_seconds (st_set_firsts (st_set_numbers (st_set_figures (st_set_kinds S (va_cpy (st_kinds T) (st_kinds S) (0 : Int32).toNatClampNeg (0 : Int32).toNatClampNeg (12 : Int32).toNatClampNeg)) (va_cpy (st_figures T) (st_figures S) (0 : Int32).toNatClampNeg (0 : Int32).toNatClampNeg (12 : Int32).toNatClampNeg)) (va_cpy (st_numbers T) (st_numbers S) (0 : Int32).toNatClampNeg (0 : Int32).toNatClampNeg (12 : Int32).toNatClampNeg)) (va_cpy (st_firsts T) (st_firsts S) (0 : Int32).toNatClampNeg (0 : Int32).toNatClampNeg (12 : Int32).toNatClampNeg)) (va_cpy (st_seconds T) (st_seconds S) (0 : Int32).toNatClampNeg (0 : Int32).toNatClampNeg (12 : Int32).toNatClampNeg)) ++ cSt K b0 b1 b2 b3 b4 b5 b6 b7 T) := ⟨h1, h2, h3⟩
  refine lv_aload_n hx hb dX5_become_75 rfl (lv_at hl 1 rfl) ?_
  refine zget (v := .ref b6) (ref := "SumOfTwoThatStand$Street") (C := RX5) (T := TX5) (N := 11) (index := 27) X hh inX5_become_X5 8 rfl rfl 5 (by decide) mmX5_become_9 rfl rfl dX5_become_76 ?_
  refine lv_iconst (v := (0 : Int32)) hx hb dX5_become_79 (by decide) ?_
  refine lv_aload_n hx hb dX5_become_80 rfl (lv_at hl 0 rfl) ?_
  refine zget (v := .ref a6) (ref := "SumOfTwoThatStand$Street") (C := RX5) (T := TX5) (N := 11) (index := 27) X hh inX5_become_X5 0 rfl rfl 5 (by decide) mmX5_become_9 rfl rfl dX5_become_81 ?_
  refine lv_iconst (v := (0 : Int32)) hx hb dX5_become_84 (by decide) ?_
  refine lv_bipush (v := (12 : Int32)) hx hb dX5_become_85 (by decide) ?_
  refine va_copyi hx hb (X.1.2.2.1.trans hl.1.symm) X.1.2.2.2.1 (X.1.2.2.2.2 _ mmX5_become_1) (X.1.2.2.2.2 _ mmX5_become_2) (X.1.2.2.2.2 _ mmX5_become_3) (X.1.2.2.2.2 _ mmX5_become_4) X.2.1 hh.1 hh.2.1 hh.2.2 14 6 0 0 rfl rfl rfl rfl rfl (by decide) (by decide) (by decide) (by decide) (by decide) (fun _ _ => rfl) (Nat.le_of_ble_eq_true rfl) (Nat.le_of_ble_eq_true rfl) dX5_become_87 (fun H locs h1 h2 h3 => ?_)
  have hh : zW K A s H locs (cSt K a0 a1 a2 a3 a4 a5 a6 a7 (st_set_uses (st_set_seconds (st_set_firsts (st_set_numbers (st_set_figures (st_set_kinds S (va_cpy (st_kinds T) (st_kinds S) (0 : Int32).toNatClampNeg (0 : Int32).toNatClampNeg (12 : Int32).toNatClampNeg)) (va_cpy (st_figures T) (st_figures S) (0 : Int32).toNatClampNeg (0 : Int32).toNatClampNeg (12 : Int32).toNatClampNeg)) (va_cpy (st_numbers T) (st_numbers S) (0 : Int32).toNatClampNeg (0 : Int32).toNatClampNeg (12 : Int32).toNatClampNeg)) (va_cpy (st_firsts T) (st_firsts S) (0 : Int32).toNatClampNeg (0 : Int32).toNatClampNeg (12 : Int32).toNatClampNeg)) (va_cpy (st_seconds T) (st_seconds S) (0 : Int32).toNatClampNeg (0 : Int32).toNatClampNeg (12 : Int32).toNatClampNeg)) (va_cpy (st_uses T) (st_uses S) (0 : Int32).toNatClampNeg (0 : Int32).toNatClampNeg (12 : Int32).toNatClampNeg)) ++ cSt K b0 b1 b2 b3 b4 b5 b6 b7 T) := ⟨h1, h2, h3⟩
  refine lv_aload_n hx hb dX5_become_90 rfl (lv_at hl 1 rfl) ?_
  refine zget (v := .ref b7) (ref := "SumOfTwoThatStand$Street") (C := RX5) (T := TX5) (N := 11) (index := 30) X hh inX5_become_X5 8 rfl rfl 6 (by decide) mmX5_become_10 rfl rfl dX5_become_91 ?_
  refine lv_iconst (v := (0 : Int32)) hx hb dX5_become_94 (by decide) ?_
  refine lv_aload_n hx hb dX5_become_95 rfl (lv_at hl 0 rfl) ?_
  refine zget (v := .ref a7) (ref := "SumOfTwoThatStand$Street") (C := RX5) (T := TX5) (N := 11) (index := 30) X hh inX5_become_X5 0 rfl rfl 6 (by decide) mmX5_become_10 rfl rfl dX5_become_96 ?_
  refine lv_iconst (v := (0 : Int32)) hx hb dX5_become_99 (by decide) ?_
  refine lv_bipush (v := (12 : Int32)) hx hb dX5_become_100 (by decide) ?_
  refine va_copyi hx hb (X.1.2.2.1.trans hl.1.symm) X.1.2.2.2.1 (X.1.2.2.2.2 _ mmX5_become_1) (X.1.2.2.2.2 _ mmX5_become_2) (X.1.2.2.2.2 _ mmX5_become_3) (X.1.2.2.2.2 _ mmX5_become_4) X.2.1 hh.1 hh.2.1 hh.2.2 15 7 0 0 rfl rfl rfl rfl rfl (by decide) (by decide) (by decide) (by decide) (by decide) (fun _ _ => rfl) (Nat.le_of_ble_eq_true rfl) (Nat.le_of_ble_eq_true rfl) dX5_become_102 (fun H locs h1 h2 h3 => ?_)
  have hh : zW K A s H locs (cSt K a0 a1 a2 a3 a4 a5 a6 a7 (st_set_earned (st_set_uses (st_set_seconds (st_set_firsts (st_set_numbers (st_set_figures (st_set_kinds S (va_cpy (st_kinds T) (st_kinds S) (0 : Int32).toNatClampNeg (0 : Int32).toNatClampNeg (12 : Int32).toNatClampNeg)) (va_cpy (st_figures T) (st_figures S) (0 : Int32).toNatClampNeg (0 : Int32).toNatClampNeg (12 : Int32).toNatClampNeg)) (va_cpy (st_numbers T) (st_numbers S) (0 : Int32).toNatClampNeg (0 : Int32).toNatClampNeg (12 : Int32).toNatClampNeg)) (va_cpy (st_firsts T) (st_firsts S) (0 : Int32).toNatClampNeg (0 : Int32).toNatClampNeg (12 : Int32).toNatClampNeg)) (va_cpy (st_seconds T) (st_seconds S) (0 : Int32).toNatClampNeg (0 : Int32).toNatClampNeg (12 : Int32).toNatClampNeg)) (va_cpy (st_uses T) (st_uses S) (0 : Int32).toNatClampNeg (0 : Int32).toNatClampNeg (12 : Int32).toNatClampNeg)) (va_cpy (st_earned T) (st_earned S) (0 : Int32).toNatClampNeg (0 : Int32).toNatClampNeg (12 : Int32).toNatClampNeg)) ++ cSt K b0 b1 b2 b3 b4 b5 b6 b7 T) := ⟨h1, h2, h3⟩
  refine lv_aload_n hx hb dX5_become_105 rfl (lv_at hl 0 rfl) ?_
  refine lv_aload_n hx hb dX5_become_106 rfl (lv_at hl 1 rfl) ?_
  refine zget (v := .int (st_came T)) (ref := "SumOfTwoThatStand$Street") (C := RX5) (T := TX5) (N := 11) (index := 36) X hh inX5_become_X5 8 rfl rfl 7 (by decide) mmX5_become_11 rfl rfl dX5_become_107 ?_
  refine zput (v := .int (st_came T)) (ty := .int) (ref := "SumOfTwoThatStand$Street") (C := RX5) (T := TX5) (N := 11) (index := 36) X hh inX5_become_X5 tyX5 tyX5_ok nmX5 0 rfl rfl 7 (by decide) mmX5_become_11 rfl rfl (by decide +kernel) rfl rfl (Nat.le_of_ble_eq_true rfl) dX5_become_110 (fun H locs hh => ?_)
  have hh : zW K A s H locs (cSt K a0 a1 a2 a3 a4 a5 a6 a7 (st_set_came (st_set_earned (st_set_uses (st_set_seconds (st_set_firsts (st_set_numbers (st_set_figures (st_set_kinds S (va_cpy (st_kinds T) (st_kinds S) (0 : Int32).toNatClampNeg (0 : Int32).toNatClampNeg (12 : Int32).toNatClampNeg)) (va_cpy (st_figures T) (st_figures S) (0 : Int32).toNatClampNeg (0 : Int32).toNatClampNeg (12 : Int32).toNatClampNeg)) (va_cpy (st_numbers T) (st_numbers S) (0 : Int32).toNatClampNeg (0 : Int32).toNatClampNeg (12 : Int32).toNatClampNeg)) (va_cpy (st_firsts T) (st_firsts S) (0 : Int32).toNatClampNeg (0 : Int32).toNatClampNeg (12 : Int32).toNatClampNeg)) (va_cpy (st_seconds T) (st_seconds S) (0 : Int32).toNatClampNeg (0 : Int32).toNatClampNeg (12 : Int32).toNatClampNeg)) (va_cpy (st_uses T) (st_uses S) (0 : Int32).toNatClampNeg (0 : Int32).toNatClampNeg (12 : Int32).toNatClampNeg)) (va_cpy (st_earned T) (st_earned S) (0 : Int32).toNatClampNeg (0 : Int32).toNatClampNeg (12 : Int32).toNatClampNeg)) (st_came T)) ++ cSt K b0 b1 b2 b3 b4 b5 b6 b7 T) := hh
  refine lv_aload_n hx hb dX5_become_113 rfl (lv_at hl 0 rfl) ?_
  refine lv_aload_n hx hb dX5_become_114 rfl (lv_at hl 1 rfl) ?_
  refine zget (v := .int (st_standing T)) (ref := "SumOfTwoThatStand$Street") (C := RX5) (T := TX5) (N := 11) (index := 40) X hh inX5_become_X5 8 rfl rfl 8 (by decide) mmX5_become_12 rfl rfl dX5_become_115 ?_
  refine zput (v := .int (st_standing T)) (ty := .int) (ref := "SumOfTwoThatStand$Street") (C := RX5) (T := TX5) (N := 11) (index := 40) X hh inX5_become_X5 tyX5 tyX5_ok nmX5 0 rfl rfl 8 (by decide) mmX5_become_12 rfl rfl (by decide +kernel) rfl rfl (Nat.le_of_ble_eq_true rfl) dX5_become_118 (fun H locs hh => ?_)
  have hh : zW K A s H locs (cSt K a0 a1 a2 a3 a4 a5 a6 a7 (st_set_standing (st_set_came (st_set_earned (st_set_uses (st_set_seconds (st_set_firsts (st_set_numbers (st_set_figures (st_set_kinds S (va_cpy (st_kinds T) (st_kinds S) (0 : Int32).toNatClampNeg (0 : Int32).toNatClampNeg (12 : Int32).toNatClampNeg)) (va_cpy (st_figures T) (st_figures S) (0 : Int32).toNatClampNeg (0 : Int32).toNatClampNeg (12 : Int32).toNatClampNeg)) (va_cpy (st_numbers T) (st_numbers S) (0 : Int32).toNatClampNeg (0 : Int32).toNatClampNeg (12 : Int32).toNatClampNeg)) (va_cpy (st_firsts T) (st_firsts S) (0 : Int32).toNatClampNeg (0 : Int32).toNatClampNeg (12 : Int32).toNatClampNeg)) (va_cpy (st_seconds T) (st_seconds S) (0 : Int32).toNatClampNeg (0 : Int32).toNatClampNeg (12 : Int32).toNatClampNeg)) (va_cpy (st_uses T) (st_uses S) (0 : Int32).toNatClampNeg (0 : Int32).toNatClampNeg (12 : Int32).toNatClampNeg)) (va_cpy (st_earned T) (st_earned S) (0 : Int32).toNatClampNeg (0 : Int32).toNatClampNeg (12 : Int32).toNatClampNeg)) (st_came T)) (st_standing T)) ++ cSt K b0 b1 b2 b3 b4 b5 b6 b7 T) := hh
  refine lv_aload_n hx hb dX5_become_121 rfl (lv_at hl 0 rfl) ?_
  refine lv_aload_n hx hb dX5_become_122 rfl (lv_at hl 1 rfl) ?_
  refine zget (v := .int (st_sums T)) (ref := "SumOfTwoThatStand$Street") (C := RX5) (T := TX5) (N := 11) (index := 53) X hh inX5_become_X5 8 rfl rfl 9 (by decide) mmX5_become_13 rfl rfl dX5_become_123 ?_
  refine zput (v := .int (st_sums T)) (ty := .int) (ref := "SumOfTwoThatStand$Street") (C := RX5) (T := TX5) (N := 11) (index := 53) X hh inX5_become_X5 tyX5 tyX5_ok nmX5 0 rfl rfl 9 (by decide) mmX5_become_13 rfl rfl (by decide +kernel) rfl rfl (Nat.le_of_ble_eq_true rfl) dX5_become_126 (fun H locs hh => ?_)
  have hh : zW K A s H locs (cSt K a0 a1 a2 a3 a4 a5 a6 a7 (st_set_sums (st_set_standing (st_set_came (st_set_earned (st_set_uses (st_set_seconds (st_set_firsts (st_set_numbers (st_set_figures (st_set_kinds S (va_cpy (st_kinds T) (st_kinds S) (0 : Int32).toNatClampNeg (0 : Int32).toNatClampNeg (12 : Int32).toNatClampNeg)) (va_cpy (st_figures T) (st_figures S) (0 : Int32).toNatClampNeg (0 : Int32).toNatClampNeg (12 : Int32).toNatClampNeg)) (va_cpy (st_numbers T) (st_numbers S) (0 : Int32).toNatClampNeg (0 : Int32).toNatClampNeg (12 : Int32).toNatClampNeg)) (va_cpy (st_firsts T) (st_firsts S) (0 : Int32).toNatClampNeg (0 : Int32).toNatClampNeg (12 : Int32).toNatClampNeg)) (va_cpy (st_seconds T) (st_seconds S) (0 : Int32).toNatClampNeg (0 : Int32).toNatClampNeg (12 : Int32).toNatClampNeg)) (va_cpy (st_uses T) (st_uses S) (0 : Int32).toNatClampNeg (0 : Int32).toNatClampNeg (12 : Int32).toNatClampNeg)) (va_cpy (st_earned T) (st_earned S) (0 : Int32).toNatClampNeg (0 : Int32).toNatClampNeg (12 : Int32).toNatClampNeg)) (st_came T)) (st_standing T)) (st_sums T)) ++ cSt K b0 b1 b2 b3 b4 b5 b6 b7 T) := hh
  refine lv_aload_n hx hb dX5_become_129 rfl (lv_at hl 0 rfl) ?_
  refine lv_aload_n hx hb dX5_become_130 rfl (lv_at hl 1 rfl) ?_
  refine zget (v := .int (st_falls T)) (ref := "SumOfTwoThatStand$Street") (C := RX5) (T := TX5) (N := 11) (index := 56) X hh inX5_become_X5 8 rfl rfl 10 (by decide) mmX5_become_14 rfl rfl dX5_become_131 ?_
  refine zput (v := .int (st_falls T)) (ty := .int) (ref := "SumOfTwoThatStand$Street") (C := RX5) (T := TX5) (N := 11) (index := 56) X hh inX5_become_X5 tyX5 tyX5_ok nmX5 0 rfl rfl 10 (by decide) mmX5_become_14 rfl rfl (by decide +kernel) rfl rfl (Nat.le_of_ble_eq_true rfl) dX5_become_134 (fun H locs hh => ?_)
  have hh : zW K A s H locs (cSt K a0 a1 a2 a3 a4 a5 a6 a7 (st_set_falls (st_set_sums (st_set_standing (st_set_came (st_set_earned (st_set_uses (st_set_seconds (st_set_firsts (st_set_numbers (st_set_figures (st_set_kinds S (va_cpy (st_kinds T) (st_kinds S) (0 : Int32).toNatClampNeg (0 : Int32).toNatClampNeg (12 : Int32).toNatClampNeg)) (va_cpy (st_figures T) (st_figures S) (0 : Int32).toNatClampNeg (0 : Int32).toNatClampNeg (12 : Int32).toNatClampNeg)) (va_cpy (st_numbers T) (st_numbers S) (0 : Int32).toNatClampNeg (0 : Int32).toNatClampNeg (12 : Int32).toNatClampNeg)) (va_cpy (st_firsts T) (st_firsts S) (0 : Int32).toNatClampNeg (0 : Int32).toNatClampNeg (12 : Int32).toNatClampNeg)) (va_cpy (st_seconds T) (st_seconds S) (0 : Int32).toNatClampNeg (0 : Int32).toNatClampNeg (12 : Int32).toNatClampNeg)) (va_cpy (st_uses T) (st_uses S) (0 : Int32).toNatClampNeg (0 : Int32).toNatClampNeg (12 : Int32).toNatClampNeg)) (va_cpy (st_earned T) (st_earned S) (0 : Int32).toNatClampNeg (0 : Int32).toNatClampNeg (12 : Int32).toNatClampNeg)) (st_came T)) (st_standing T)) (st_sums T)) (st_falls T)) ++ cSt K b0 b1 b2 b3 b4 b5 b6 b7 T) := hh
  exact hr2 137 ls H locs (st_set_falls (st_set_sums (st_set_standing (st_set_came (st_set_earned (st_set_uses (st_set_seconds (st_set_firsts (st_set_numbers (st_set_figures (st_set_kinds S (va_cpy (st_kinds T) (st_kinds S) (0 : Int32).toNatClampNeg (0 : Int32).toNatClampNeg (12 : Int32).toNatClampNeg)) (va_cpy (st_figures T) (st_figures S) (0 : Int32).toNatClampNeg (0 : Int32).toNatClampNeg (12 : Int32).toNatClampNeg)) (va_cpy (st_numbers T) (st_numbers S) (0 : Int32).toNatClampNeg (0 : Int32).toNatClampNeg (12 : Int32).toNatClampNeg)) (va_cpy (st_firsts T) (st_firsts S) (0 : Int32).toNatClampNeg (0 : Int32).toNatClampNeg (12 : Int32).toNatClampNeg)) (va_cpy (st_seconds T) (st_seconds S) (0 : Int32).toNatClampNeg (0 : Int32).toNatClampNeg (12 : Int32).toNatClampNeg)) (va_cpy (st_uses T) (st_uses S) (0 : Int32).toNatClampNeg (0 : Int32).toNatClampNeg (12 : Int32).toNatClampNeg)) (va_cpy (st_earned T) (st_earned S) (0 : Int32).toNatClampNeg (0 : Int32).toNatClampNeg (12 : Int32).toNatClampNeg)) (st_came T)) (st_standing T)) (st_sums T)) (st_falls T)) hf dX5_become_137 hh
