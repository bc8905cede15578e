theorem inX6_howMany_L_X2 : ∀ w ∈ wsX20, w ∈ wsX6_howMany := by decide +kernel
theorem mmX6_howMany_L_0 : Cond.fieldLink RX6 19 "SumOfTwoThatStand$Told" "length" "I" ∈ wsX6_howMany := by decide +kernel
theorem hdX6_howMany : yX6_howMany.cls ≠ "java/lang/invoke/MethodHandle" ∧ yX6_howMany.cls ≠ "java/lang/invoke/VarHandle" ∧ (parseMethodDescriptor yX6_howMany.desc).map (fun d => d.parameters.length) = some 0 := by decide +kernel
set_option maxHeartbeats 4000000 in
set_option maxRecDepth 100000 in
theorem kX6_howMany_L (l : Launch) (K : zK) (a0 a1 a2 : Nat) (S : zLt) (R : Int32) (hf : fX6_howMany_L S = R) : zC l yX6_howMany wsX6_howMany ({ frames := 0, cells := 0, slots := 0, locals := 0 } : Room) K [.ref a0] (cLt K a0 a1 a2 S) (some (.int R)) (cLt K a0 a1 a2 S) := by
  refine zC_i R (cc := cX6_howMany) (maxL := 1) (by decide +kernel) rfl (Nat.le_of_ble_eq_true rfl) rfl rfl ?_
  intro p e s m below meth c Q A X hret ls hl hh
  have X : zX p m c cX6_howMany 1 s ([.ref a0] : List Value).toArray wsX6_howMany RX6 K A := X
  have hx := X.1.1
  have hb := X.1.2.1
  have hr2 : ∀ (pc : Nat) (ls : Array Slot) (H : Heap) (locs : List Loc) (v : Int32), v = R → decode cX6_howMany pc = .ok (.ireturn, 1) → zW K A s H locs (cLt K a0 a1 a2 S) → W p l e ({ frames := 0, cells := 0, slots := 0, locals := 0 } : Room) s m ([.ref a0] : List Value).toArray below meth c H locs 0 0 Q (F0 m pc ls [.int v]) := by
    intro pc ls H locs v h hd hh
    cases h; exact hret pc ls H locs _ rfl hd hh
  have hl : lv_has ls 1 [(0, .ref a0)] := hl
  unfold fX6_howMany_L at hf
  refine (fun (hmain : ∀ (H : Heap) (locs : List Loc), zW K A s H locs (cLt K a0 a1 a2 S) → W p l e ({ frames := 0, cells := 0, slots := 0, locals := 0 } : Room) s m ([.ref a0] : List Value).toArray below meth c H locs 0 0 Q (F0 m 0 ls [])) => hmain s.heap [] hh) (fun H locs hh => ?_)
  refine lv_aload_n hx hb dX6_howMany_0 rfl (lv_at hl 0 rfl) ?_
  refine zget (v := .int (lt_length S)) (ref := "SumOfTwoThatStand$Told") (C := RX2) (T := TX2) (N := 7) (index := 19) X hh inX6_howMany_L_X2 0 rfl rfl 1 (by decide) mmX6_howMany_L_0 rfl rfl dX6_howMany_1 ?_
  exact hr2 4 ls H locs (lt_length S) hf dX6_howMany_4 hh
theorem inX6_hasRoom_L_X2 : ∀ w ∈ wsX20, w ∈ wsX6_hasRoom := by decide +kernel
theorem mmX6_hasRoom_L_0 : Cond.fieldLink RX6 19 "SumOfTwoThatStand$Told" "length" "I" ∈ wsX6_hasRoom := by decide +kernel
theorem mmX6_hasRoom_L_1 : Cond.fieldLink RX6 13 "SumOfTwoThatStand$Told" "all" "[I" ∈ wsX6_hasRoom := by decide +kernel
theorem hdX6_hasRoom : yX6_hasRoom.cls ≠ "java/lang/invoke/MethodHandle" ∧ yX6_hasRoom.cls ≠ "java/lang/invoke/VarHandle" ∧ (parseMethodDescriptor yX6_hasRoom.desc).map (fun d => d.parameters.length) = some 0 := by decide +kernel
set_option maxHeartbeats 4000000 in
set_option maxRecDepth 100000 in
theorem kX6_hasRoom_L (l : Launch) (K : zK) (a0 a1 a2 : Nat) (S : zLt) (R : Int32) (hf : fX6_hasRoom_L S = R) : zC l yX6_hasRoom wsX6_hasRoom ({ frames := 0, cells := 0, slots := 0, locals := 0 } : Room) K [.ref a0] (cLt K a0 a1 a2 S) (some (.int R)) (cLt K a0 a1 a2 S) := by
  refine zC_z .boolean R (cc := cX6_hasRoom) (maxL := 1) (by decide +kernel) rfl (Nat.le_of_ble_eq_true rfl) rfl rfl ?_
  intro p e s m below meth c Q A X hret ls hl hh
  have X : zX p m c cX6_hasRoom 1 s ([.ref a0] : List Value).toArray wsX6_hasRoom RX6 K A := X
  have hx := X.1.1
  have hb := X.1.2.1
  have hr2 : ∀ (pc : Nat) (ls : Array Slot) (H : Heap) (locs : List Loc) (v : Int32), v = R → narrow .boolean (.int v) = .int v → decode cX6_hasRoom pc = .ok (.ireturn, 1) → zW K A s H locs (cLt K a0 a1 a2 S) → W p l e ({ frames := 0, cells := 0, slots := 0, locals := 0 } : Room) s m ([.ref a0] : List Value).toArray below meth c H locs 0 0 Q (F0 m pc ls [.int v]) := by
    intro pc ls H locs v h hn hd hh
    cases h; exact hret pc ls H locs _ rfl hn hd hh
  have hl : lv_has ls 1 [(0, .ref a0)] := hl
  unfold fX6_hasRoom_L at hf
  refine (fun (hmain : ∀ (H : Heap) (locs : List Loc), zW K A s H locs (cLt K a0 a1 a2 S) → W p l e ({ frames := 0, cells := 0, slots := 0, locals := 0 } : Room) s m ([.ref a0] : List Value).toArray below meth c H locs 0 0 Q (F0 m 0 ls [])) => hmain s.heap [] hh) (fun H locs hh => ?_)
  refine lv_aload_n hx hb dX6_hasRoom_0 rfl (lv_at hl 0 rfl) ?_
  refine zget (v := .int (lt_length S)) (ref := "SumOfTwoThatStand$Told") (C := RX2) (T := TX2) (N := 7) (index := 19) X hh inX6_hasRoom_L_X2 0 rfl rfl 1 (by decide) mmX6_hasRoom_L_0 rfl rfl dX6_hasRoom_1 ?_
  refine lv_aload_n hx hb dX6_hasRoom_4 rfl (lv_at hl 0 rfl) ?_
  refine zget (v := .ref a1) (ref := "SumOfTwoThatStand$Told") (C := RX2) (T := TX2) (N := 7) (index := 13) X hh inX6_hasRoom_L_X2 0 rfl rfl 0 (by decide) mmX6_hasRoom_L_1 rfl rfl dX6_hasRoom_5 ?_
  refine zalenI (v := (64 : Int32)) X hh 1 rfl rfl dX6_hasRoom_8 ?_
  refine lv_icmp_ge (tgt := 16) hx hb dX6_hasRoom_9 (by decide) (fun c1 => ?_) (fun c1 => ?_)
  · replace hf := (if_pos c1).symm.trans hf
    refine lv_iconst (v := (0 : Int32)) hx hb dX6_hasRoom_16 (by decide) ?_
    exact hr2 17 ls H locs (0 : Int32) hf rfl dX6_hasRoom_17 hh
  · replace hf := (if_neg c1).symm.trans hf
    refine lv_iconst (v := (1 : Int32)) hx hb dX6_hasRoom_12 (by decide) ?_
    refine lv_goto (tgt := 17) hx hb dX6_hasRoom_13 (by decide) ?_
    exact hr2 17 ls H locs (1 : Int32) hf rfl dX6_hasRoom_17 hh
theorem inX6_take_L_X2 : ∀ w ∈ wsX20, w ∈ wsX6_take := by decide +kernel
theorem mmX6_take_L_0 : Cond.fieldLink RX6 19 "SumOfTwoThatStand$Told" "length" "I" ∈ wsX6_take := by decide +kernel
theorem mmX6_take_L_1 : Cond.fieldLink RX6 13 "SumOfTwoThatStand$Told" "all" "[I" ∈ wsX6_take := by decide +kernel
theorem hdX6_take : yX6_take.cls ≠ "java/lang/invoke/MethodHandle" ∧ yX6_take.cls ≠ "java/lang/invoke/VarHandle" ∧ (parseMethodDescriptor yX6_take.desc).map (fun d => d.parameters.length) = some 1 := by decide +kernel
set_option maxHeartbeats 4000000 in
set_option maxRecDepth 100000 in
theorem kX6_take_L (l : Launch) (K : zK) (a0 a1 a2 : Nat) (S : zLt) (p1 : Int32) (R : Int32 × zLt) (hf : fX6_take_L S p1 = some R) : zC l yX6_take wsX6_take ({ frames := 1, cells := 0, slots := 0, locals := 20 } : Room) K [.ref a0, .int p1] (cLt K a0 a1 a2 S) (some (.int R.1)) (cLt K a0 a1 a2 R.2) := by
  refine zC_i R.1 (cc := cX6_take) (maxL := 2) (by decide +kernel) rfl (Nat.le_of_ble_eq_true rfl) rfl rfl ?_
  intro p e s m below meth c Q A X hret ls hl hh
  have X : zX p m c cX6_take 2 s ([.ref a0, .int p1] : List Value).toArray wsX6_take RX6 K A := X
  have hx := X.1.1
  have hb := X.1.2.1
  have hr2 : ∀ (pc : Nat) (ls : Array Slot) (H : Heap) (locs : List Loc) (v : Int32) (S : zLt), some (v, S) = some R → decode cX6_take pc = .ok (.ireturn, 1) → zW K A s H locs (cLt K a0 a1 a2 S) → W p l e ({ frames := 1, cells := 0, slots := 0, locals := 20 } : Room) s m ([.ref a0, .int p1] : List Value).toArray below meth c H locs 0 0 Q (F0 m pc ls [.int v]) := by
    intro pc ls H locs v S h hd hh
    cases h; exact hret pc ls H locs _ rfl hd hh
  have hl : lv_has ls 2 [(0, .ref a0), (1, .int p1)] := hl
  unfold fX6_take_L at hf
  refine (fun (hmain : ∀ (H : Heap) (locs : List Loc), zW K A s H locs (cLt K a0 a1 a2 S) → W p l e ({ frames := 1, cells := 0, slots := 0, locals := 20 } : Room) s m ([.ref a0, .int p1] : List Value).toArray below meth c H locs 0 0 Q (F0 m 0 ls [])) => hmain s.heap [] hh) (fun H locs hh => ?_)
  refine lv_aload_n hx hb dX6_take_0 rfl (lv_at hl 0 rfl) ?_
  refine zcallU (owner := "SumOfTwoThatStand$Told") (x := ⟨"SumOfTwoThatStand$Told", "hasRoom", "()Z"⟩) (ci := 2) (q0 := 0) (As := []) (rest := []) (wr := []) (ws' := cLt K a0 a1 a2 S) (ov := some (.int (fX6_hasRoom_L S))) X hh hl (kX6_hasRoom_L l K a0 a1 a2 S (fX6_hasRoom_L S) rfl) (fun ht => va_cwU 0 ht gX6_take_X6_hasRoom_u23X2 rfl rfl rfl rfl hdX6_hasRoom ⟨Nat.le_of_ble_eq_true rfl, Nat.le_of_ble_eq_true rfl⟩) [0, 1, 2] [] [0, 1, 2] rfl rfl rfl rfl (by decide) rfl rfl rfl rfl rfl rfl (Nat.le_of_ble_eq_true rfl) dX6_take_1 ⟨Nat.zero_le _, Nat.zero_le _⟩ (fun H locs hh => ?_)
  refine lv_if_eq (tgt := 27) hx hb dX6_take_4 (by decide) (fun c2 => ?_) (fun c2 => ?_)
  · replace hf := (if_pos c2).symm.trans hf
    refine lv_aload_n hx hb dX6_take_27 rfl (lv_at hl 0 rfl) ?_
    refine zget (v := .int (lt_length S)) (ref := "SumOfTwoThatStand$Told") (C := RX2) (T := TX2) (N := 7) (index := 19) X hh inX6_take_L_X2 0 rfl rfl 1 (by decide) mmX6_take_L_0 rfl rfl dX6_take_28 ?_
    exact hr2 31 ls H locs (lt_length S) S hf dX6_take_31 hh
  · replace hf := (if_neg c2).symm.trans hf
    refine lv_aload_n hx hb dX6_take_7 rfl (lv_at hl 0 rfl) ?_
    refine zget (v := .ref a1) (ref := "SumOfTwoThatStand$Told") (C := RX2) (T := TX2) (N := 7) (index := 13) X hh inX6_take_L_X2 0 rfl rfl 0 (by decide) mmX6_take_L_1 rfl rfl dX6_take_8 ?_
    refine lv_aload_n hx hb dX6_take_11 rfl (lv_at hl 0 rfl) ?_
    refine zget (v := .int (lt_length S)) (ref := "SumOfTwoThatStand$Told") (C := RX2) (T := TX2) (N := 7) (index := 19) X hh inX6_take_L_X2 0 rfl rfl 1 (by decide) mmX6_take_L_0 rfl rfl dX6_take_12 ?_
    refine lv_iload_n hx hb dX6_take_15 rfl (lv_at hl 1 rfl) ?_
    obtain ⟨g3, hf⟩ := ob_ix hf
    refine ziast (f := (lt_all S)) X hh 1 rfl g3 dX6_take_16 (fun H locs hh => ?_)
    have hh : zW K A s H locs (cLt K a0 a1 a2 (lt_set_all S (upd (lt_all S) (lt_length S).toNatClampNeg p1))) := hh
    refine lv_aload_n hx hb dX6_take_17 rfl (lv_at hl 0 rfl) ?_
    refine lv_dup hx hb dX6_take_18 rfl ?_
    refine zget (v := .int (lt_length S)) (ref := "SumOfTwoThatStand$Told") (C := RX2) (T := TX2) (N := 7) (index := 19) X hh inX6_take_L_X2 0 rfl rfl 1 (by decide) mmX6_take_L_0 rfl rfl dX6_take_19 ?_
    refine lv_iconst (v := (1 : Int32)) hx hb dX6_take_22 (by decide) ?_
    refine lv_iadd hx hb dX6_take_23 ?_
    refine zput (v := .int ((lt_length S) + (1 : Int32))) (ty := .int) (ref := "SumOfTwoThatStand$Told") (C := RX2) (T := TX2) (N := 7) (index := 19) X hh inX6_take_L_X2 tyX2 tyX2_ok nmX2 0 rfl rfl 1 (by decide) mmX6_take_L_0 rfl rfl (by decide +kernel) rfl rfl (Nat.le_of_ble_eq_true rfl) dX6_take_24 (fun H locs hh => ?_)
    have hh : zW K A s H locs (cLt K a0 a1 a2 (lt_set_length (lt_set_all S (upd (lt_all S) (lt_length S).toNatClampNeg p1)) ((lt_length S) + (1 : Int32)))) := hh
    refine lv_aload_n hx hb dX6_take_27 rfl (lv_at hl 0 rfl) ?_
    refine zget (v := .int ((lt_length S) + (1 : Int32))) (ref := "SumOfTwoThatStand$Told") (C := RX2) (T := TX2) (N := 7) (index := 19) X hh inX6_take_L_X2 0 rfl rfl 1 (by decide) mmX6_take_L_0 rfl rfl dX6_take_28 ?_
    exact hr2 31 ls H locs ((lt_length S) + (1 : Int32)) (lt_set_length (lt_set_all S (upd (lt_all S) (lt_length S).toNatClampNeg p1)) ((lt_length S) + (1 : Int32))) hf dX6_take_31 hh
theorem inX6_forget_L_X2 : ∀ w ∈ wsX20, w ∈ wsX6_forget := by decide +kernel
theorem mmX6_forget_L_0 : Cond.fieldLink RX6 19 "SumOfTwoThatStand$Told" "length" "I" ∈ wsX6_forget := by decide +kernel
theorem hdX6_forget : yX6_forget.cls ≠ "java/lang/invoke/MethodHandle" ∧ yX6_forget.cls ≠ "java/lang/invoke/VarHandle" ∧ (parseMethodDescriptor yX6_forget.desc).map (fun d => d.parameters.length) = some 0 := by decide +kernel
set_option maxHeartbeats 4000000 in
set_option maxRecDepth 100000 in
theorem kX6_forget_L (l : Launch) (K : zK) (a0 a1 a2 : Nat) (S : zLt) (R : zLt) (hf : fX6_forget_L S = R) : zC l yX6_forget wsX6_forget ({ frames := 0, cells := 0, slots := 0, locals := 0 } : Room) K [.ref a0] (cLt K a0 a1 a2 S) none (cLt K a0 a1 a2 R) := by
  refine zC_v (cc := cX6_forget) (maxL := 1) (by decide +kernel) rfl (Nat.le_of_ble_eq_true rfl) rfl rfl ?_
  intro p e s m below meth c Q A X hret ls hl hh
  have X : zX p m c cX6_forget 1 s ([.ref a0] : List Value).toArray wsX6_forget RX6 K A := X
  have hx := X.1.1
  have hb := X.1.2.1
  have hr2 : ∀ (pc : Nat) (ls : Array Slot) (H : Heap) (locs : List Loc) (S : zLt), S = R → decode cX6_forget pc = .ok (.return_, 1) → zW K A s H locs (cLt K a0 a1 a2 S) → W p l e ({ frames := 0, cells := 0, slots := 0, locals := 0 } : Room) s m ([.ref a0] : List Value).toArray below meth c H locs 0 0 Q (F0 m pc ls []) := by
    intro pc ls H locs S h hd hh
    cases h; exact hret pc ls H locs hd hh
  have hl : lv_has ls 1 [(0, .ref a0)] := hl
  unfold fX6_forget_L at hf
  refine (fun (hmain : ∀ (H : Heap) (locs : List Loc), zW K A s H locs (cLt K a0 a1 a2 S) → W p l e ({ frames := 0, cells := 0, slots := 0, locals := 0 } : Room) s m ([.ref a0] : List Value).toArray below meth c H locs 0 0 Q (F0 m 0 ls [])) => hmain s.heap [] hh) (fun H locs hh => ?_)
  refine lv_aload_n hx hb dX6_forget_0 rfl (lv_at hl 0 rfl) ?_
  refine lv_iconst (v := (0 : Int32)) hx hb dX6_forget_1 (by decide) ?_
  refine zput (v := .int (0 : Int32)) (ty := .int) (ref := "SumOfTwoThatStand$Told") (C := RX2) (T := TX2) (N := 7) (index := 19) X hh inX6_forget_L_X2 tyX2 tyX2_ok nmX2 0 rfl rfl 1 (by decide) mmX6_forget_L_0 rfl rfl (by decide +kernel) rfl rfl (Nat.le_of_ble_eq_true rfl) dX6_forget_2 (fun H locs hh => ?_)
  have hh : zW K A s H locs (cLt K a0 a1 a2 (lt_set_length S (0 : Int32))) := hh
  exact hr2 5 ls H locs (lt_set_length S (0 : Int32)) hf dX6_forget_5 hh
theorem inX6_toldAt_L_X2 : ∀ w ∈ wsX20, w ∈ wsX6_toldAt := by decide +kernel
theorem mmX6_toldAt_L_0 : Cond.fieldLink RX6 19 "SumOfTwoThatStand$Told" "length" "I" ∈ wsX6_toldAt := by decide +kernel
theorem mmX6_toldAt_L_1 : Cond.fieldLink RX6 13 "SumOfTwoThatStand$Told" "all" "[I" ∈ wsX6_toldAt := by decide +kernel
theorem hdX6_toldAt : yX6_toldAt.cls ≠ "java/lang/invoke/MethodHandle" ∧ yX6_toldAt.cls ≠ "java/lang/invoke/VarHandle" ∧ (parseMethodDescriptor yX6_toldAt.desc).map (fun d => d.parameters.length) = some 1 := by decide +kernel
set_option maxHeartbeats 4000000 in
set_option maxRecDepth 100000 in
theorem kX6_toldAt_L (l : Launch) (K : zK) (a0 a1 a2 : Nat) (S : zLt) (p1 : Int32) (R : Int32) (hf : fX6_toldAt_L S p1 = some R) : zC l yX6_toldAt wsX6_toldAt ({ frames := 0, cells := 0, slots := 0, locals := 0 } : Room) K [.ref a0, .int p1] (cLt K a0 a1 a2 S) (some (.int R)) (cLt K a0 a1 a2 S) := by
  refine zC_i R (cc := cX6_toldAt) (maxL := 2) (by decide +kernel) rfl (Nat.le_of_ble_eq_true rfl) rfl rfl ?_
  intro p e s m below meth c Q A X hret ls hl hh
  have X : zX p m c cX6_toldAt 2 s ([.ref a0, .int p1] : List Value).toArray wsX6_toldAt RX6 K A := X
  have hx := X.1.1
  have hb := X.1.2.1
  have hr2 : ∀ (pc : Nat) (ls : Array Slot) (H : Heap) (locs : List Loc) (v : Int32), some v = some R → decode cX6_toldAt pc = .ok (.ireturn, 1) → zW K A s H locs (cLt K a0 a1 a2 S) → W p l e ({ frames := 0, cells := 0, slots := 0, locals := 0 } : Room) s m ([.ref a0, .int p1] : List Value).toArray below meth c H locs 0 0 Q (F0 m pc ls [.int v]) := by
    intro pc ls H locs v h hd hh
    cases h; exact hret pc ls H locs _ rfl hd hh
  have hl : lv_has ls 2 [(0, .ref a0), (1, .int p1)] := hl
  unfold fX6_toldAt_L at hf
  refine (fun (hmain : ∀ (H : Heap) (locs : List Loc), zW K A s H locs (cLt K a0 a1 a2 S) → W p l e ({ frames := 0, cells := 0, slots := 0, locals := 0 } : Room) s m ([.ref a0, .int p1] : List Value).toArray below meth c H locs 0 0 Q (F0 m 0 ls [])) => hmain s.heap [] hh) (fun H locs hh => ?_)
  refine lv_iload_n hx hb dX6_toldAt_0 rfl (lv_at hl 1 rfl) ?_
  refine lv_if_lt (tgt := 21) hx hb dX6_toldAt_1 (by decide) (fun c1 => ?_) (fun c1 => ?_)
  · replace hf := (if_pos c1).symm.trans hf
    refine lv_iconst (v := (-1 : Int32)) hx hb dX6_toldAt_21 (by decide) ?_
    exact hr2 22 ls H locs (-1 : Int32) hf dX6_toldAt_22 hh
  · replace hf := (if_neg c1).symm.trans hf
    refine lv_iload_n hx hb dX6_toldAt_4 rfl (lv_at hl 1 rfl) ?_
    refine lv_aload_n hx hb dX6_toldAt_5 rfl (lv_at hl 0 rfl) ?_
    refine zget (v := .int (lt_length S)) (ref := "SumOfTwoThatStand$Told") (C := RX2) (T := TX2) (N := 7) (index := 19) X hh inX6_toldAt_L_X2 0 rfl rfl 1 (by decide) mmX6_toldAt_L_0 rfl rfl dX6_toldAt_6 ?_
    refine lv_icmp_ge (tgt := 21) hx hb dX6_toldAt_9 (by decide) (fun c2 => ?_) (fun c2 => ?_)
    · replace hf := (if_pos c2).symm.trans hf
      refine lv_iconst (v := (-1 : Int32)) hx hb dX6_toldAt_21 (by decide) ?_
      exact hr2 22 ls H locs (-1 : Int32) hf dX6_toldAt_22 hh
    · replace hf := (if_neg c2).symm.trans hf
      refine lv_aload_n hx hb dX6_toldAt_12 rfl (lv_at hl 0 rfl) ?_
      refine zget (v := .ref a1) (ref := "SumOfTwoThatStand$Told") (C := RX2) (T := TX2) (N := 7) (index := 13) X hh inX6_toldAt_L_X2 0 rfl rfl 0 (by decide) mmX6_toldAt_L_1 rfl rfl dX6_toldAt_13 ?_
      refine lv_iload_n hx hb dX6_toldAt_16 rfl (lv_at hl 1 rfl) ?_
      obtain ⟨g3, hf⟩ := ob_ix hf
      refine ziald (f := (lt_all S)) X hh 1 rfl g3 dX6_toldAt_17 ?_
      refine lv_goto (tgt := 22) hx hb dX6_toldAt_18 (by decide) ?_
      exact hr2 22 ls H locs ((lt_all S) p1.toNatClampNeg) hf dX6_toldAt_22 hh
theorem inX6_howMany_R_X4 : ∀ w ∈ wsX40, w ∈ wsX6_howMany := by decide +kernel
theorem mmX6_howMany_R_0 : Cond.fieldLink RX6 19 "SumOfTwoThatStand$Told" "length" "I" ∈ wsX6_howMany := by decide +kernel
set_option maxHeartbeats 4000000 in
set_option maxRecDepth 100000 in
theorem kX6_howMany_R (l : Launch) (K : zK) (a0 a1 : Nat) (S : zRw) (R : Int32) (hf : fX6_howMany_R S = R) : zC l yX6_howMany wsX6_howMany ({ frames := 0, cells := 0, slots := 0, locals := 0 } : Room) K [.ref a0] (cRw K a0 a1 S) (some (.int R)) (cRw K a0 a1 S) := by
  refine zC_i R (cc := cX6_howMany) (maxL := 1) (by decide +kernel) rfl (Nat.le_of_ble_eq_true rfl) rfl rfl ?_
  intro p e s m below meth c Q A X hret ls hl hh
  have X : zX p m c cX6_howMany 1 s ([.ref a0] : List Value).toArray wsX6_howMany RX6 K A := X
  have hx := X.1.1
  have hb := X.1.2.1
  have hr2 : ∀ (pc : Nat) (ls : Array Slot) (H : Heap) (locs : List Loc) (v : Int32), v = R → decode cX6_howMany pc = .ok (.ireturn, 1) → zW K A s H locs (cRw K a0 a1 S) → W p l e ({ frames := 0, cells := 0, slots := 0, locals := 0 } : Room) s m ([.ref a0] : List Value).toArray below meth c H locs 0 0 Q (F0 m pc ls [.int v]) := by
    intro pc ls H locs v h hd hh
    cases h; exact hret pc ls H locs _ rfl hd hh
  have hl : lv_has ls 1 [(0, .ref a0)] := hl
  unfold fX6_howMany_R at hf
  refine (fun (hmain : ∀ (H : Heap) (locs : List Loc), zW K A s H locs (cRw K a0 a1 S) → W p l e ({ frames := 0, cells := 0, slots := 0, locals := 0 } : Room) s m ([.ref a0] : List Value).toArray below meth c H locs 0 0 Q (F0 m 0 ls [])) => hmain s.heap [] hh) (fun H locs hh => ?_)
  refine lv_aload_n hx hb dX6_howMany_0 rfl (lv_at hl 0 rfl) ?_
  refine zget (v := .int (rw_length S)) (ref := "SumOfTwoThatStand$Told") (C := RX4) (T := TX4) (N := 2) (index := 19) X hh inX6_howMany_R_X4 0 rfl rfl 1 (by decide) mmX6_howMany_R_0 rfl rfl dX6_howMany_1 ?_
  exact hr2 4 ls H locs (rw_length S) hf dX6_howMany_4 hh
theorem inX6_hasRoom_R_X4 : ∀ w ∈ wsX40, w ∈ wsX6_hasRoom := by decide +kernel
theorem mmX6_hasRoom_R_0 : Cond.fieldLink RX6 19 "SumOfTwoThatStand$Told" "length" "I" ∈ wsX6_hasRoom := by decide +kernel
theorem mmX6_hasRoom_R_1 : Cond.fieldLink RX6 13 "SumOfTwoThatStand$Told" "all" "[I" ∈ wsX6_hasRoom := by decide +kernel
set_option maxHeartbeats 4000000 in
set_option maxRecDepth 100000 in
theorem kX6_hasRoom_R (l : Launch) (K : zK) (a0 a1 : Nat) (S : zRw) (R : Int32) (hf : fX6_hasRoom_R S = R) : zC l yX6_hasRoom wsX6_hasRoom ({ frames := 0, cells := 0, slots := 0, locals := 0 } : Room) K [.ref a0] (cRw K a0 a1 S) (some (.int R)) (cRw K a0 a1 S) := by
  refine zC_z .boolean R (cc := cX6_hasRoom) (maxL := 1) (by decide +kernel) rfl (Nat.le_of_ble_eq_true rfl) rfl rfl ?_
  intro p e s m below meth c Q A X hret ls hl hh
  have X : zX p m c cX6_hasRoom 1 s ([.ref a0] : List Value).toArray wsX6_hasRoom RX6 K A := X
  have hx := X.1.1
  have hb := X.1.2.1
  have hr2 : ∀ (pc : Nat) (ls : Array Slot) (H : Heap) (locs : List Loc) (v : Int32), v = R → narrow .boolean (.int v) = .int v → decode cX6_hasRoom pc = .ok (.ireturn, 1) → zW K A s H locs (cRw K a0 a1 S) → W p l e ({ frames := 0, cells := 0, slots := 0, locals := 0 } : Room) s m ([.ref a0] : List Value).toArray below meth c H locs 0 0 Q (F0 m pc ls [.int v]) := by
    intro pc ls H locs v h hn hd hh
    cases h; exact hret pc ls H locs _ rfl hn hd hh
  have hl : lv_has ls 1 [(0, .ref a0)] := hl
  unfold fX6_hasRoom_R at hf
  refine (fun (hmain : ∀ (H : Heap) (locs : List Loc), zW K A s H locs (cRw K a0 a1 S) → W p l e ({ frames := 0, cells := 0, slots := 0, locals := 0 } : Room) s m ([.ref a0] : List Value).toArray below meth c H locs 0 0 Q (F0 m 0 ls [])) => hmain s.heap [] hh) (fun H locs hh => ?_)
  refine lv_aload_n hx hb dX6_hasRoom_0 rfl (lv_at hl 0 rfl) ?_
  refine zget (v := .int (rw_length S)) (ref := "SumOfTwoThatStand$Told") (C := RX4) (T := TX4) (N := 2) (index := 19) X hh inX6_hasRoom_R_X4 0 rfl rfl 1 (by decide) mmX6_hasRoom_R_0 rfl rfl dX6_hasRoom_1 ?_
  refine lv_aload_n hx hb dX6_hasRoom_4 rfl (lv_at hl 0 rfl) ?_
  refine zget (v := .ref a1) (ref := "SumOfTwoThatStand$Told") (C := RX4) (T := TX4) (N := 2) (index := 13) X hh inX6_hasRoom_R_X4 0 rfl rfl 0 (by decide) mmX6_hasRoom_R_1 rfl rfl dX6_hasRoom_5 ?_
  refine zalenI (v := (12 : Int32)) X hh 1 rfl rfl dX6_hasRoom_8 ?_
  refine lv_icmp_ge (tgt := 16) hx hb dX6_hasRoom_9 (by decide) (fun c1 => ?_) (fun c1 => ?_)
  · replace hf := (if_pos c1).symm.trans hf
    refine lv_iconst (v := (0 : Int32)) hx hb dX6_hasRoom_16 (by decide) ?_
    exact hr2 17 ls H locs (0 : Int32) hf rfl dX6_hasRoom_17 hh
  · replace hf := (if_neg c1).symm.trans hf
    refine lv_iconst (v := (1 : Int32)) hx hb dX6_hasRoom_12 (by decide) ?_
    refine lv_goto (tgt := 17) hx hb dX6_hasRoom_13 (by decide) ?_
    exact hr2 17 ls H locs (1 : Int32) hf rfl dX6_hasRoom_17 hh
theorem inX6_take_R_X4 : ∀ w ∈ wsX40, w ∈ wsX6_take := by decide +kernel
theorem mmX6_take_R_0 : Cond.fieldLink RX6 19 "SumOfTwoThatStand$Told" "length" "I" ∈ wsX6_take := by decide +kernel
theorem mmX6_take_R_1 : Cond.fieldLink RX6 13 "SumOfTwoThatStand$Told" "all" "[I" ∈ wsX6_take := by decide +kernel
set_option maxHeartbeats 4000000 in
set_option maxRecDepth 100000 in
theorem kX6_take_R (l : Launch) (K : zK) (a0 a1 : Nat) (S : zRw) (p1 : Int32) (R : Int32 × zRw) (hf : fX6_take_R S p1 = some R) : zC l yX6_take wsX6_take ({ frames := 1, cells := 0, slots := 0, locals := 20 } : Room) K [.ref a0, .int p1] (cRw K a0 a1 S) (some (.int R.1)) (cRw K a0 a1 R.2) := by
  refine zC_i R.1 (cc := cX6_take) (maxL := 2) (by decide +kernel) rfl (Nat.le_of_ble_eq_true rfl) rfl rfl ?_
  intro p e s m below meth c Q A X hret ls hl hh
  have X : zX p m c cX6_take 2 s ([.ref a0, .int p1] : List Value).toArray wsX6_take RX6 K A := X
  have hx := X.1.1
  have hb := X.1.2.1
  have hr2 : ∀ (pc : Nat) (ls : Array Slot) (H : Heap) (locs : List Loc) (v : Int32) (S : zRw), some (v, S) = some R → decode cX6_take pc = .ok (.ireturn, 1) → zW K A s H locs (cRw K a0 a1 S) → W p l e ({ frames := 1, cells := 0, slots := 0, locals := 20 } : Room) s m ([.ref a0, .int p1] : List Value).toArray below meth c H locs 0 0 Q (F0 m pc ls [.int v]) := by
    intro pc ls H locs v S h hd hh
    cases h; exact hret pc ls H locs _ rfl hd hh
  have hl : lv_has ls 2 [(0, .ref a0), (1, .int p1)] := hl
  unfold fX6_take_R at hf
  refine (fun (hmain : ∀ (H : Heap) (locs : List Loc), zW K A s H locs (cRw K a0 a1 S) → W p l e ({ frames := 1, cells := 0, slots := 0, locals := 20 } : Room) s m ([.ref a0, .int p1] : List Value).toArray below meth c H locs 0 0 Q (F0 m 0 ls [])) => hmain s.heap [] hh) (fun H locs hh => ?_)
  refine lv_aload_n hx hb dX6_take_0 rfl (lv_at hl 0 rfl) ?_
  refine zcallU (owner := "SumOfTwoThatStand$Told") (x := ⟨"SumOfTwoThatStand$Told", "hasRoom", "()Z"⟩) (ci := 4) (q0 := 0) (As := []) (rest := []) (wr := []) (ws' := cRw K a0 a1 S) (ov := some (.int (fX6_hasRoom_R S))) X hh hl (kX6_hasRoom_R l K a0 a1 S (fX6_hasRoom_R S) rfl) (fun ht => va_cwU 0 ht gX6_take_X6_hasRoom_u23X4 rfl rfl rfl rfl hdX6_hasRoom ⟨Nat.le_of_ble_eq_true rfl, Nat.le_of_ble_eq_true rfl⟩) [0, 1] [] [0, 1] rfl rfl rfl rfl (by decide) rfl rfl rfl rfl rfl rfl (Nat.le_of_ble_eq_true rfl) dX6_take_1 ⟨Nat.zero_le _, Nat.zero_le _⟩ (fun H locs hh => ?_)
  refine lv_if_eq (tgt := 27) hx hb dX6_take_4 (by decide) (fun c2 => ?_) (fun c2 => ?_)
  · replace hf := (if_pos c2).symm.trans hf
    refine lv_aload_n hx hb dX6_take_27 rfl (lv_at hl 0 rfl) ?_
    refine zget (v := .int (rw_length S)) (ref := "SumOfTwoThatStand$Told") (C := RX4) (T := TX4) (N := 2) (index := 19) X hh inX6_take_R_X4 0 rfl rfl 1 (by decide) mmX6_take_R_0 rfl rfl dX6_take_28 ?_
    exact hr2 31 ls H locs (rw_length S) S hf dX6_take_31 hh
  · replace hf := (if_neg c2).symm.trans hf
    refine lv_aload_n hx hb dX6_take_7 rfl (lv_at hl 0 rfl) ?_
    refine zget (v := .ref a1) (ref := "SumOfTwoThatStand$Told") (C := RX4) (T := TX4) (N := 2) (index := 13) X hh inX6_take_R_X4 0 rfl rfl 0 (by decide) mmX6_take_R_1 rfl rfl dX6_take_8 ?_
    refine lv_aload_n hx hb dX6_take_11 rfl (lv_at hl 0 rfl) ?_
    refine zget (v := .int (rw_length S)) (ref := "SumOfTwoThatStand$Told") (C := RX4) (T := TX4) (N := 2) (index := 19) X hh inX6_take_R_X4 0 rfl rfl 1 (by decide) mmX6_take_R_0 rfl rfl dX6_take_12 ?_
    refine lv_iload_n hx hb dX6_take_15 rfl (lv_at hl 1 rfl) ?_
    obtain ⟨g3, hf⟩ := ob_ix hf
    refine ziast (f := (rw_all S)) X hh 1 rfl g3 dX6_take_16 (fun H locs hh => ?_)
    have hh : zW K A s H locs (cRw K a0 a1 (rw_set_all S (upd (rw_all S) (rw_length S).toNatClampNeg p1))) := hh
    refine lv_aload_n hx hb dX6_take_17 rfl (lv_at hl 0 rfl) ?_
    refine lv_dup hx hb dX6_take_18 rfl ?_
    refine zget (v := .int (rw_length S)) (ref := "SumOfTwoThatStand$Told") (C := RX4) (T := TX4) (N := 2) (index := 19) X hh inX6_take_R_X4 0 rfl rfl 1 (by decide) mmX6_take_R_0 rfl rfl dX6_take_19 ?_
    refine lv_iconst (v := (1 : Int32)) hx hb dX6_take_22 (by decide) ?_
    refine lv_iadd hx hb dX6_take_23 ?_
    refine zput (v := .int ((rw_length S) + (1 : Int32))) (ty := .int) (ref := "SumOfTwoThatStand$Told") (C := RX4) (T := TX4) (N := 2) (index := 19) X hh inX6_take_R_X4 tyX4 tyX4_ok nmX4 0 rfl rfl 1 (by decide) mmX6_take_R_0 rfl rfl (by decide +kernel) rfl rfl (Nat.le_of_ble_eq_true rfl) dX6_take_24 (fun H locs hh => ?_)
    have hh : zW K A s H locs (cRw K a0 a1 (rw_set_length (rw_set_all S (upd (rw_all S) (rw_length S).toNatClampNeg p1)) ((rw_length S) + (1 : Int32)))) := hh
    refine lv_aload_n hx hb dX6_take_27 rfl (lv_at hl 0 rfl) ?_
    refine zget (v := .int ((rw_length S) + (1 : Int32))) (ref := "SumOfTwoThatStand$Told") (C := RX4) (T := TX4) (N := 2) (index := 19) X hh inX6_take_R_X4 0 rfl rfl 1 (by decide) mmX6_take_R_0 rfl rfl dX6_take_28 ?_
    exact hr2 31 ls H locs ((rw_length S) + (1 : Int32)) (rw_set_length (rw_set_all S (upd (rw_all S) (rw_length S).toNatClampNeg p1)) ((rw_length S) + (1 : Int32))) hf dX6_take_31 hh
theorem inX6_forget_R_X4 : ∀ w ∈ wsX40, w ∈ wsX6_forget := by decide +kernel
theorem mmX6_forget_R_0 : Cond.fieldLink RX6 19 "SumOfTwoThatStand$Told" "length" "I" ∈ wsX6_forget := by decide +kernel
set_option maxHeartbeats 4000000 in
set_option maxRecDepth 100000 in
theorem kX6_forget_R (l : Launch) (K : zK) (a0 a1 : Nat) (S : zRw) (R : zRw) (hf : fX6_forget_R S = R) : zC l yX6_forget wsX6_forget ({ frames := 0, cells := 0, slots := 0, locals := 0 } : Room) K [.ref a0] (cRw K a0 a1 S) none (cRw K a0 a1 R) := by
  refine zC_v (cc := cX6_forget) (maxL := 1) (by decide +kernel) rfl (Nat.le_of_ble_eq_true rfl) rfl rfl ?_
  intro p e s m below meth c Q A X hret ls hl hh
  have X : zX p m c cX6_forget 1 s ([.ref a0] : List Value).toArray wsX6_forget RX6 K A := X
  have hx := X.1.1
  have hb := X.1.2.1
  have hr2 : ∀ (pc : Nat) (ls : Array Slot) (H : Heap) (locs : List Loc) (S : zRw), S = R → decode cX6_forget pc = .ok (.return_, 1) → zW K A s H locs (cRw K a0 a1 S) → W p l e ({ frames := 0, cells := 0, slots := 0, locals := 0 } : Room) s m ([.ref a0] : List Value).toArray below meth c H locs 0 0 Q (F0 m pc ls []) := by
    intro pc ls H locs S h hd hh
    cases h; exact hret pc ls H locs hd hh
  have hl : lv_has ls 1 [(0, .ref a0)] := hl
  unfold fX6_forget_R at hf
  refine (fun (hmain : ∀ (H : Heap) (locs : List Loc), zW K A s H locs (cRw K a0 a1 S) → W p l e ({ frames := 0, cells := 0, slots := 0, locals := 0 } : Room) s m ([.ref a0] : List Value).toArray below meth c H locs 0 0 Q (F0 m 0 ls [])) => hmain s.heap [] hh) (fun H locs hh => ?_)
  refine lv_aload_n hx hb dX6_forget_0 rfl (lv_at hl 0 rfl) ?_
  refine lv_iconst (v := (0 : Int32)) hx hb dX6_forget_1 (by decide) ?_
  refine zput (v := .int (0 : Int32)) (ty := .int) (ref := "SumOfTwoThatStand$Told") (C := RX4) (T := TX4) (N := 2) (index := 19) X hh inX6_forget_R_X4 tyX4 tyX4_ok nmX4 0 rfl rfl 1 (by decide) mmX6_forget_R_0 rfl rfl (by decide +kernel) rfl rfl (Nat.le_of_ble_eq_true rfl) dX6_forget_2 (fun H locs hh => ?_)
  have hh : zW K A s H locs (cRw K a0 a1 (rw_set_length S (0 : Int32))) := hh
  exact hr2 5 ls H locs (rw_set_length S (0 : Int32)) hf dX6_forget_5 hh
theorem inX6_toldAt_R_X4 : ∀ w ∈ wsX40, w ∈ wsX6_toldAt := by decide +kernel
theorem mmX6_toldAt_R_0 : Cond.fieldLink RX6 19 "SumOfTwoThatStand$Told" "length" "I" ∈ wsX6_toldAt := by decide +kernel
theorem mmX6_toldAt_R_1 : Cond.fieldLink RX6 13 "SumOfTwoThatStand$Told" "all" "[I" ∈ wsX6_toldAt := by decide +kernel
set_option maxHeartbeats 4000000 in
set_option maxRecDepth 100000 in
theorem kX6_toldAt_R (l : Launch) (K : zK) (a0 a1 : Nat) (S : zRw) (p1 : Int32) (R : Int32) (hf : fX6_toldAt_R S p1 = some R) : zC l yX6_toldAt wsX6_toldAt ({ frames := 0, cells := 0, slots := 0, locals := 0 } : Room) K [.ref a0, .int p1] (cRw K a0 a1 S) (some (.int R)) (cRw K a0 a1 S) := by
  refine zC_i R (cc := cX6_toldAt) (maxL := 2) (by decide +kernel) rfl (Nat.le_of_ble_eq_true rfl) rfl rfl ?_
  intro p e s m below meth c Q A X hret ls hl hh
  have X : zX p m c cX6_toldAt 2 s ([.ref a0, .int p1] : List Value).toArray wsX6_toldAt RX6 K A := X
  have hx := X.1.1
  have hb := X.1.2.1
  have hr2 : ∀ (pc : Nat) (ls : Array Slot) (H : Heap) (locs : List Loc) (v : Int32), some v = some R → decode cX6_toldAt pc = .ok (.ireturn, 1) → zW K A s H locs (cRw K a0 a1 S) → W p l e ({ frames := 0, cells := 0, slots := 0, locals := 0 } : Room) s m ([.ref a0, .int p1] : List Value).toArray below meth c H locs 0 0 Q (F0 m pc ls [.int v]) := by
    intro pc ls H locs v h hd hh
    cases h; exact hret pc ls H locs _ rfl hd hh
  have hl : lv_has ls 2 [(0, .ref a0), (1, .int p1)] := hl
  unfold fX6_toldAt_R at hf
  refine (fun (hmain : ∀ (H : Heap) (locs : List Loc), zW K A s H locs (cRw K a0 a1 S) → W p l e ({ frames := 0, cells := 0, slots := 0, locals := 0 } : Room) s m ([.ref a0, .int p1] : List Value).toArray below meth c H locs 0 0 Q (F0 m 0 ls [])) => hmain s.heap [] hh) (fun H locs hh => ?_)
  refine lv_iload_n hx hb dX6_toldAt_0 rfl (lv_at hl 1 rfl) ?_
  refine lv_if_lt (tgt := 21) hx hb dX6_toldAt_1 (by decide) (fun c1 => ?_) (fun c1 => ?_)
  · replace hf := (if_pos c1).symm.trans hf
    refine lv_iconst (v := (-1 : Int32)) hx hb dX6_toldAt_21 (by decide) ?_
    exact hr2 22 ls H locs (-1 : Int32) hf dX6_toldAt_22 hh
  · replace hf := (if_neg c1).symm.trans hf
    refine lv_iload_n hx hb dX6_toldAt_4 rfl (lv_at hl 1 rfl) ?_
    refine lv_aload_n hx hb dX6_toldAt_5 rfl (lv_at hl 0 rfl) ?_
    refine zget (v := .int (rw_length S)) (ref := "SumOfTwoThatStand$Told") (C := RX4) (T := TX4) (N := 2) (index := 19) X hh inX6_toldAt_R_X4 0 rfl rfl 1 (by decide) mmX6_toldAt_R_0 rfl rfl dX6_toldAt_6 ?_
    refine lv_icmp_ge (tgt := 21) hx hb dX6_toldAt_9 (by decide) (fun c2 => ?_) (fun c2 => ?_)
    · replace hf := (if_pos c2).symm.trans hf
      refine lv_iconst (v := (-1 : Int32)) hx hb dX6_toldAt_21 (by decide) ?_
      exact hr2 22 ls H locs (-1 : Int32) hf dX6_toldAt_22 hh
    · replace hf := (if_neg c2).symm.trans hf
      refine lv_aload_n hx hb dX6_toldAt_12 rfl (lv_at hl 0 rfl) ?_
      refine zget (v := .ref a1) (ref := "SumOfTwoThatStand$Told") (C := RX4) (T := TX4) (N := 2) (index := 13) X hh inX6_toldAt_R_X4 0 rfl rfl 0 (by decide) mmX6_toldAt_R_1 rfl rfl dX6_toldAt_13 ?_
      refine lv_iload_n hx hb dX6_toldAt_16 rfl (lv_at hl 1 rfl) ?_
      obtain ⟨g3, hf⟩ := ob_ix hf
      refine ziald (f := (rw_all S)) X hh 1 rfl g3 dX6_toldAt_17 ?_
      refine lv_goto (tgt := 22) hx hb dX6_toldAt_18 (by decide) ?_
      exact hr2 22 ls H locs ((rw_all S) p1.toNatClampNeg) hf dX6_toldAt_22 hh
theorem mmX0_isSum_0 : Cond.methodLink RX0 19 Lib.Math.min.name ∈ wsX0_isSum := by decide +kernel
theorem mmX0_isSum_1 : Cond.static Lib.Math.min.name ∈ wsX0_isSum := by decide +kernel
theorem mmX0_isSum_2 : Cond.initialized "java/lang/Math" ∈ wsX0_isSum := by decide +kernel
theorem mmX0_isSum_3 : Cond.code Lib.Math.min.name Lib.Math.min.code 2 (some .int) ∈ wsX0_isSum := by decide +kernel
theorem hdX0_isSum : yX0_isSum.cls ≠ "java/lang/invoke/MethodHandle" ∧ yX0_isSum.cls ≠ "java/lang/invoke/VarHandle" ∧ (parseMethodDescriptor yX0_isSum.desc).map (fun d => d.parameters.length) = some 3 := by decide +kernel
set_option maxHeartbeats 4000000 in
set_option maxRecDepth 100000 in
theorem kX0_isSum (l : Launch) (K : zK) (a0 : Nat) (S : (Nat → Int32)) (p1 : Int32) (p2 : Int32) (R : Int32) (hf : fX0_isSum S p1 p2 = some R) : zC l yX0_isSum wsX0_isSum ({ frames := 1, cells := 0, slots := 0, locals := 40 } : Room) K [.ref a0, .int p1, .int p2] (cA12 K a0 S) (some (.int R)) (cA12 K a0 S) := by
  refine zC_z .boolean R (cc := cX0_isSum) (maxL := 6) (by decide +kernel) rfl (Nat.le_of_ble_eq_true rfl) rfl rfl ?_
  intro p e s m below meth c Q A X hret ls hl hh
  have X : zX p m c cX0_isSum 6 s ([.ref a0, .int p1, .int p2] : List Value).toArray wsX0_isSum RX0 K A := X
  have hx := X.1.1
  have hb := X.1.2.1
  have hr2 : ∀ (pc : Nat) (ls : Array Slot) (H : Heap) (locs : List Loc) (v : Int32), some v = some R → narrow .boolean (.int v) = .int v → decode cX0_isSum pc = .ok (.ireturn, 1) → zW K A s H locs (cA12 K a0 S) → W p l e ({ frames := 1, cells := 0, slots := 0, locals := 40 } : Room) s m ([.ref a0, .int p1, .int p2] : List Value).toArray below meth c H locs 0 0 Q (F0 m pc ls [.int v]) := by
    intro pc ls H locs v h hn hd hh
    cases h; exact hret pc ls H locs _ rfl hn hd hh
  have hl : lv_has ls 6 [(0, .ref a0), (1, .int p1), (2, .int p2)] := hl
  have hL12 : ∀ (v2 : Int32), ∀ (n : Nat) (v3 : Int32) (v4 : Int32), ∀ (H : Heap) (locs : List Loc) (ls : Array Slot), fX0_isSum_l12 S v2 n v3 v4 = some R → lv_has ls 6 [(0, .ref a0), (2, .int v2), (3, .int v3), (4, .int v4)] → zW K A s H locs (cA12 K a0 S) → W p l e ({ frames := 1, cells := 0, slots := 0, locals := 40 } : Room) s m ([.ref a0, .int p1, .int p2] : List Value).toArray below meth c H locs 0 0 Q (F0 m 12 ls []) := by
    intro v2 n
    induction n with
    | zero =>
      intro v3 v4 H locs ls hf hl hh
      rw [fX0_isSum_l12] at hf; cases hf
    | succ n ih =>
      intro v3 v4 H locs ls hf hl hh
      rw [fX0_isSum_l12] at hf
      refine lv_iload_n hx hb dX0_isSum_12 rfl (lv_at hl 2 rfl) ?_
      refine lv_iload hx hb dX0_isSum_13 (lv_at hl 3 rfl) ?_
      refine lv_icmp_gt (tgt := 54) hx hb dX0_isSum_15 (by decide) (fun c1 => ?_) (fun c1 => ?_)
      · replace hf := (if_pos c1).symm.trans hf
        refine lv_iconst (v := (0 : Int32)) hx hb dX0_isSum_54 (by decide) ?_
        exact hr2 55 ls H locs (0 : Int32) hf rfl dX0_isSum_55 hh
      · replace hf := (if_neg c1).symm.trans hf
        refine lv_aload_n hx hb dX0_isSum_18 rfl (lv_at hl 0 rfl) ?_
        refine lv_iload_n hx hb dX0_isSum_19 rfl (lv_at hl 2 rfl) ?_
        obtain ⟨g2, hf⟩ := ob_ix hf
        refine ziald (f := S) X hh 0 rfl g2 dX0_isSum_20 ?_
        refine lv_aload_n hx hb dX0_isSum_21 rfl (lv_at hl 0 rfl) ?_
        refine lv_iload hx hb dX0_isSum_22 (lv_at hl 3 rfl) ?_
        obtain ⟨g3, hf⟩ := ob_ix hf
        refine ziald (f := S) X hh 0 rfl g3 dX0_isSum_24 ?_
        refine lv_iadd hx hb dX0_isSum_25 ?_
        refine lv_istore (lv' := [(5, .int ((S v3.toNatClampNeg) + (S v4.toNatClampNeg))), (0, .ref a0), (2, .int v2), (3, .int v3), (4, .int v4)]) hx hb dX0_isSum_26 hl (by decide) rfl (fun ls hl => ?_)
        refine lv_iload hx hb dX0_isSum_28 (lv_at hl 0 rfl) ?_
        refine lv_iload_n hx hb dX0_isSum_30 rfl (lv_at hl 2 rfl) ?_
        refine lv_icmp_ne (tgt := 36) hx hb dX0_isSum_31 (by decide) (fun c4 => ?_) (fun c4 => ?_)
        · replace hf := (if_neg c4).symm.trans hf
          refine lv_iload hx hb dX0_isSum_36 (lv_at hl 0 rfl) ?_
          refine lv_iload_n hx hb dX0_isSum_38 rfl (lv_at hl 2 rfl) ?_
          refine lv_icmp_ge (tgt := 48) hx hb dX0_isSum_39 (by decide) (fun c5 => ?_) (fun c5 => ?_)
          · replace hf := (if_pos c5).symm.trans hf
            refine lv_iinc (v := (v4 + (-1 : Int32))) (lv' := [(4, .int (v4 + (-1 : Int32))), (5, .int ((S v3.toNatClampNeg) + (S v4.toNatClampNeg))), (0, .ref a0), (2, .int v2), (3, .int v3)]) hx hb dX0_isSum_48 hl (k := 4) rfl rfl (by decide) rfl (fun ls hl => ?_)
            refine lv_goto (tgt := 12) hx hb dX0_isSum_51 (by decide) ?_
            exact ih v3 (v4 + (-1 : Int32)) H locs ls hf (lv_sub hl [2, 3, 4, 0] rfl) hh
          · replace hf := (if_neg c5).symm.trans hf
            refine lv_iinc (v := (v3 + (1 : Int32))) (lv' := [(3, .int (v3 + (1 : Int32))), (5, .int ((S v3.toNatClampNeg) + (S v4.toNatClampNeg))), (0, .ref a0), (2, .int v2), (4, .int v4)]) hx hb dX0_isSum_42 hl (k := 3) rfl rfl (by decide) rfl (fun ls hl => ?_)
            refine lv_goto (tgt := 51) hx hb dX0_isSum_45 (by decide) ?_
            refine lv_goto (tgt := 12) hx hb dX0_isSum_51 (by decide) ?_
            exact ih (v3 + (1 : Int32)) v4 H locs ls hf (lv_sub hl [2, 3, 0, 4] rfl) hh
        · replace hf := (if_pos c4).symm.trans hf
          refine lv_iconst (v := (1 : Int32)) hx hb dX0_isSum_34 (by decide) ?_
          exact hr2 35 ls H locs (1 : Int32) hf rfl dX0_isSum_35 hh
  unfold fX0_isSum at hf
  refine (fun (hmain : ∀ (H : Heap) (locs : List Loc), zW K A s H locs (cA12 K a0 S) → W p l e ({ frames := 1, cells := 0, slots := 0, locals := 40 } : Room) s m ([.ref a0, .int p1, .int p2] : List Value).toArray below meth c H locs 0 0 Q (F0 m 0 ls [])) => hmain s.heap [] hh) (fun H locs hh => ?_)
  refine lv_iconst (v := (0 : Int32)) hx hb dX0_isSum_0 (by decide) ?_
  refine lv_istore_n (lv' := [(3, .int (0 : Int32)), (0, .ref a0), (1, .int p1), (2, .int p2)]) hx hb dX0_isSum_1 rfl hl (by decide) rfl (fun ls hl => ?_)
  refine lv_iload_n hx hb dX0_isSum_2 rfl (lv_at hl 2 rfl) ?_
  refine lv_aload_n hx hb dX0_isSum_3 rfl (lv_at hl 1 rfl) ?_
  refine zalenI (v := (12 : Int32)) X hh 0 rfl rfl dX0_isSum_4 ?_
  refine va_mmin hx hb (X.1.2.2.1.trans hl.1.symm) X.1.2.2.2.1 (X.1.2.2.2.2 _ mmX0_isSum_0) (X.1.2.2.2.2 _ mmX0_isSum_1) (X.1.2.2.2.2 _ mmX0_isSum_2) (X.1.2.2.2.2 _ mmX0_isSum_3) (Nat.le_of_ble_eq_true rfl) (Nat.le_of_ble_eq_true rfl) (Nat.zero_le _) (Nat.zero_le _) dX0_isSum_5 ?_
  refine lv_iconst (v := (1 : Int32)) hx hb dX0_isSum_8 (by decide) ?_
  refine lv_isub hx hb dX0_isSum_9 ?_
  refine lv_istore (lv' := [(4, .int ((if (12 : Int32) < p1 then (12 : Int32) else p1) - (1 : Int32))), (3, .int (0 : Int32)), (0, .ref a0), (1, .int p1), (2, .int p2)]) hx hb dX0_isSum_10 hl (by decide) rfl (fun ls hl => ?_)
  exact hL12 p2 FU (0 : Int32) ((if (12 : Int32) < p1 then (12 : Int32) else p1) - (1 : Int32)) H locs ls hf (lv_sub hl [2, 4, 1, 0] rfl) hh
theorem mmX0_leastUseful_0 : Cond.methodLink RX0 33 Lib.Math.max.name ∈ wsX0_leastUseful := by decide +kernel
theorem mmX0_leastUseful_1 : Cond.static Lib.Math.max.name ∈ wsX0_leastUseful := by decide +kernel
theorem mmX0_leastUseful_2 : Cond.initialized "java/lang/Math" ∈ wsX0_leastUseful := by decide +kernel
theorem mmX0_leastUseful_3 : Cond.code Lib.Math.max.name Lib.Math.max.code 2 (some .int) ∈ wsX0_leastUseful := by decide +kernel
theorem hdX0_leastUseful : yX0_leastUseful.cls ≠ "java/lang/invoke/MethodHandle" ∧ yX0_leastUseful.cls ≠ "java/lang/invoke/VarHandle" ∧ (parseMethodDescriptor yX0_leastUseful.desc).map (fun d => d.parameters.length) = some 3 := by decide +kernel
set_option maxHeartbeats 4000000 in
set_option maxRecDepth 100000 in
theorem kX0_leastUseful (l : Launch) (K : zK) (p0 : Int32) (p1 : Int32) (p2 : Int32) (R : Int32) (hf : fX0_leastUseful p0 p1 p2 = R) : zC l yX0_leastUseful wsX0_leastUseful ({ frames := 1, cells := 0, slots := 0, locals := 40 } : Room) K [.int p0, .int p1, .int p2] ([]) (some (.int R)) ([]) := by
  refine zC_i R (cc := cX0_leastUseful) (maxL := 4) (by decide +kernel) rfl (Nat.le_of_ble_eq_true rfl) rfl rfl ?_
  intro p e s m below meth c Q A X hret ls hl hh
  have X : zX p m c cX0_leastUseful 4 s ([.int p0, .int p1, .int p2] : List Value).toArray wsX0_leastUseful RX0 K A := X
  have hx := X.1.1
  have hb := X.1.2.1
  have hr2 : ∀ (pc : Nat) (ls : Array Slot) (H : Heap) (locs : List Loc) (v : Int32), v = R → decode cX0_leastUseful pc = .ok (.ireturn, 1) → zW K A s H locs ([]) → W p l e ({ frames := 1, cells := 0, slots := 0, locals := 40 } : Room) s m ([.int p0, .int p1, .int p2] : List Value).toArray below meth c H locs 0 0 Q (F0 m pc ls [.int v]) := by
    intro pc ls H locs v h hd hh
    cases h; exact hret pc ls H locs _ rfl hd hh
  have hl : lv_has ls 4 [(0, .int p0), (1, .int p1), (2, .int p2)] := hl
  unfold fX0_leastUseful at hf
  refine (fun (hmain : ∀ (H : Heap) (locs : List Loc), zW K A s H locs ([]) → W p l e ({ frames := 1, cells := 0, slots := 0, locals := 40 } : Room) s m ([.int p0, .int p1, .int p2] : List Value).toArray below meth c H locs 0 0 Q (F0 m 0 ls [])) => hmain s.heap [] hh) (fun H locs hh => ?_)
  refine lv_iconst (v := (1 : Int32)) hx hb dX0_leastUseful_0 (by decide) ?_
  refine lv_iload_n hx hb dX0_leastUseful_1 rfl (lv_at hl 1 rfl) ?_
  refine lv_ishl hx hb dX0_leastUseful_2 ?_
  refine lv_istore_n (lv' := [(3, .int ((1 : Int32) <<< (p1 &&& 31))), (0, .int p0), (1, .int p1), (2, .int p2)]) hx hb dX0_leastUseful_3 rfl hl (by decide) rfl (fun ls hl => ?_)
  refine lv_iload_n hx hb dX0_leastUseful_4 rfl (lv_at hl 1 rfl) ?_
  refine lv_iconst (v := (1 : Int32)) hx hb dX0_leastUseful_5 (by decide) ?_
  refine lv_iadd hx hb dX0_leastUseful_6 ?_
  refine lv_iload_n hx hb dX0_leastUseful_7 rfl (lv_at hl 3 rfl) ?_
  refine lv_iload_n hx hb dX0_leastUseful_8 rfl (lv_at hl 0 rfl) ?_
  refine lv_iadd hx hb dX0_leastUseful_9 ?_
  refine lv_iconst (v := (1 : Int32)) hx hb dX0_leastUseful_10 (by decide) ?_
  refine lv_isub hx hb dX0_leastUseful_11 ?_
  refine lv_iload_n hx hb dX0_leastUseful_12 rfl (lv_at hl 2 rfl) ?_
  refine lv_ishr hx hb dX0_leastUseful_13 ?_
  refine va_mmax hx hb (X.1.2.2.1.trans hl.1.symm) X.1.2.2.2.1 (X.1.2.2.2.2 _ mmX0_leastUseful_0) (X.1.2.2.2.2 _ mmX0_leastUseful_1) (X.1.2.2.2.2 _ mmX0_leastUseful_2) (X.1.2.2.2.2 _ mmX0_leastUseful_3) (Nat.le_of_ble_eq_true rfl) (Nat.le_of_ble_eq_true rfl) (Nat.zero_le _) (Nat.zero_le _) dX0_leastUseful_14 ?_
  exact hr2 17 ls H locs (if (p0 + (1 : Int32)) < (((p2 + ((1 : Int32) <<< (p1 &&& 31))) - (1 : Int32)) >>> (p1 &&& 31)) then (((p2 + ((1 : Int32) <<< (p1 &&& 31))) - (1 : Int32)) >>> (p1 &&& 31)) else (p0 + (1 : Int32))) hf dX0_leastUseful_17 hh
theorem mmX0_reaches_0 : Cond.methodLink RX0 19 Lib.Math.min.name ∈ wsX0_reaches := by decide +kernel
theorem mmX0_reaches_1 : Cond.static Lib.Math.min.name ∈ wsX0_reaches := by decide +kernel
theorem mmX0_reaches_2 : Cond.initialized "java/lang/Math" ∈ wsX0_reaches := by decide +kernel
theorem mmX0_reaches_3 : Cond.code Lib.Math.min.name Lib.Math.min.code 2 (some .int) ∈ wsX0_reaches := by decide +kernel
theorem hdX0_reaches : yX0_reaches.cls ≠ "java/lang/invoke/MethodHandle" ∧ yX0_reaches.cls ≠ "java/lang/invoke/VarHandle" ∧ (parseMethodDescriptor yX0_reaches.desc).map (fun d => d.parameters.length) = some 5 := by decide +kernel
set_option maxHeartbeats 4000000 in
set_option maxRecDepth 100000 in
theorem kX0_reaches (l : Launch) (K : zK) : ∀ (d : Nat) (a0 : Nat) (S : (Nat → Int32)) (p1 : Int32) (p2 : Int32) (p3 : Int32) (p4 : Int32) (R : Int32 × (Nat → Int32)) (hf : fX0_reaches d S p1 p2 p3 p4 = some R), zC l yX0_reaches wsX0_reaches ({ frames := 2 + d, cells := 0, slots := 0, locals := 65 + 27 * d } : Room) K [.ref a0, .int p1, .int p2, .int p3, .int p4] (cA12 K a0 S) (some (.int R.1)) (cA12 K a0 R.2) := by
  intro d
  induction d with
  | zero =>
    intro a0 S p1 p2 p3 p4 R hf
    rw [fX0_reaches] at hf; cases hf
  | succ d ih_rec =>
    intro a0 S p1 p2 p3 p4 R hf
    rw [fX0_reaches] at hf
    refine zC_z .boolean R.1 (cc := cX0_reaches) (maxL := 8) (by decide +kernel) rfl (Nat.le_of_ble_eq_true rfl) rfl rfl ?_
    intro p e s m below meth c Q A X hret ls hl hh
    have X : zX p m c cX0_reaches 8 s ([.ref a0, .int p1, .int p2, .int p3, .int p4] : List Value).toArray wsX0_reaches RX0 K A := X
    have hx := X.1.1
    have hb := X.1.2.1
    have hr2 : ∀ (pc : Nat) (ls : Array Slot) (H : Heap) (locs : List Loc) (v : Int32) (S : (Nat → Int32)), some (v, S) = some R → narrow .boolean (.int v) = .int v → decode cX0_reaches pc = .ok (.ireturn, 1) → zW K A s H locs (cA12 K a0 S) → W p l e ({ frames := 2 + (d + 1), cells := 0, slots := 0, locals := 65 + 27 * (d + 1) } : Room) s m ([.ref a0, .int p1, .int p2, .int p3, .int p4] : List Value).toArray below meth c H locs 0 0 Q (F0 m pc ls [.int v]) := by
      intro pc ls H locs v S h hn hd hh
      cases h; exact hret pc ls H locs _ rfl hn hd hh
    have hl : lv_has ls 8 [(0, .ref a0), (1, .int p1), (2, .int p2), (3, .int p3), (4, .int p4)] := hl
    have hL77 : ∀ (v1 : Int32) (v2 : Int32) (v3 : Int32) (v4 : Int32) (v6 : Int32), ∀ (n : Nat) (v7 : Int32) (S : (Nat → Int32)), ∀ (H : Heap) (locs : List Loc) (ls : Array Slot), fX0_reaches_l77 (fX0_reaches d) v1 v2 v3 v4 v6 n v7 S = some R → lv_has ls 8 [(0, .ref a0), (1, .int v1), (2, .int v2), (3, .int v3), (4, .int v4), (6, .int v6), (7, .int v7)] → zW K A s H locs (cA12 K a0 S) → W p l e ({ frames := 2 + (d + 1), cells := 0, slots := 0, locals := 65 + 27 * (d + 1) } : Room) s m ([.ref a0, .int p1, .int p2, .int p3, .int p4] : List Value).toArray below meth c H locs 0 0 Q (F0 m 77 ls []) := by
      intro v1 v2 v3 v4 v6 n
      induction n with
      | zero =>
        intro v7 S H locs ls hf hl hh
        rw [fX0_reaches_l77] at hf; cases hf
      | succ n ih =>
        intro v7 S H locs ls hf hl hh
        rw [fX0_reaches_l77] at hf
        refine lv_iload hx hb dX0_reaches_77 (lv_at hl 6 rfl) ?_
        refine lv_iload hx hb dX0_reaches_79 (lv_at hl 5 rfl) ?_
        refine lv_icmp_gt (tgt := 121) hx hb dX0_reaches_81 (by decide) (fun c1 => ?_) (fun c1 => ?_)
        · replace hf := (if_pos c1).symm.trans hf
          refine lv_iconst (v := (0 : Int32)) hx hb dX0_reaches_121 (by decide) ?_
          exact hr2 122 ls H locs (0 : Int32) S hf rfl dX0_reaches_122 hh
        · replace hf := (if_neg c1).symm.trans hf
          refine lv_aload_n hx hb dX0_reaches_84 rfl (lv_at hl 0 rfl) ?_
          refine lv_iload_n hx hb dX0_reaches_85 rfl (lv_at hl 1 rfl) ?_
          refine lv_iload hx hb dX0_reaches_86 (lv_at hl 6 rfl) ?_
          obtain ⟨u2, hu2, hf⟩ := ob_bind hf
          refine zcallS (As := [.ref a0, .int v1, .int v7]) (rest := []) (wr := []) (ws' := cA12 K a0 S) (ov := some (.int u2)) X hh hl (kX0_isSum l K a0 S v1 v7 u2 hu2) (fun ht => va_cwS 3 ht gX0_reaches_X0_isSum rfl rfl rfl hdX0_isSum ⟨by dsimp only; omega, by dsimp only; omega⟩) [0] [] [0] rfl rfl rfl rfl (by decide) rfl rfl rfl rfl (Nat.le_of_ble_eq_true rfl) dX0_reaches_88 ⟨Nat.zero_le _, Nat.zero_le _⟩ (fun H locs hh => ?_)
          refine lv_if_eq (tgt := 115) hx hb dX0_reaches_91 (by decide) (fun c3 => ?_) (fun c3 => ?_)
          · replace hf := (if_pos c3).symm.trans hf
            refine lv_iinc (v := (v7 + (1 : Int32))) (lv' := [(7, .int (v7 + (1 : Int32))), (0, .ref a0), (1, .int v1), (2, .int v2), (3, .int v3), (4, .int v4), (6, .int v6)]) hx hb dX0_reaches_115 hl (k := 6) rfl rfl (by decide) rfl (fun ls hl => ?_)
            refine lv_goto (tgt := 77) hx hb dX0_reaches_118 (by decide) ?_
            exact ih (v7 + (1 : Int32)) S H locs ls hf (lv_sub hl [1, 2, 3, 4, 5, 6, 0] rfl) hh
          · replace hf := (if_neg c3).symm.trans hf
            refine lv_aload_n hx hb dX0_reaches_94 rfl (lv_at hl 0 rfl) ?_
            refine lv_iload_n hx hb dX0_reaches_95 rfl (lv_at hl 1 rfl) ?_
            refine lv_iload hx hb dX0_reaches_96 (lv_at hl 6 rfl) ?_
            obtain ⟨g4, hf⟩ := ob_ix hf
            refine ziast (f := S) X hh 0 rfl g4 dX0_reaches_98 (fun H locs hh => ?_)
            have hh : zW K A s H locs (cA12 K a0 (upd S v1.toNatClampNeg v7)) := hh
            refine lv_aload_n hx hb dX0_reaches_99 rfl (lv_at hl 0 rfl) ?_
            refine lv_iload_n hx hb dX0_reaches_100 rfl (lv_at hl 1 rfl) ?_
            refine lv_iconst (v := (1 : Int32)) hx hb dX0_reaches_101 (by decide) ?_
            refine lv_iadd hx hb dX0_reaches_102 ?_
            refine lv_iload_n hx hb dX0_reaches_103 rfl (lv_at hl 2 rfl) ?_
            refine lv_iload_n hx hb dX0_reaches_104 rfl (lv_at hl 3 rfl) ?_
            refine lv_iload hx hb dX0_reaches_105 (lv_at hl 4 rfl) ?_
            obtain ⟨u5, hu5, hf⟩ := ob_bind hf
            refine zcallS (As := [.ref a0, .int (v1 + (1 : Int32)), .int v2, .int v3, .int v4]) (rest := []) (wr := []) (ws' := cA12 K a0 u5.2) (ov := some (.int u5.1)) X hh hl (ih_rec a0 (upd S v1.toNatClampNeg v7) (v1 + (1 : Int32)) v2 v3 v4 u5 hu5) (fun ht => va_cwS 5 ht gX0_reaches_X0_reaches rfl rfl rfl hdX0_reaches ⟨by dsimp only; omega, by dsimp only; omega⟩) [0] [] [0] rfl rfl rfl rfl (by decide) rfl rfl rfl rfl (Nat.le_of_ble_eq_true rfl) dX0_reaches_107 ⟨Nat.zero_le _, Nat.zero_le _⟩ (fun H locs hh => ?_)
            refine lv_if_eq (tgt := 115) hx hb dX0_reaches_110 (by decide) (fun c6 => ?_) (fun c6 => ?_)
            · replace hf := (if_pos c6).symm.trans hf
              refine lv_iinc (v := (v7 + (1 : Int32))) (lv' := [(7, .int (v7 + (1 : Int32))), (0, .ref a0), (1, .int v1), (2, .int v2), (3, .int v3), (4, .int v4), (6, .int v6)]) hx hb dX0_reaches_115 hl (k := 6) rfl rfl (by decide) rfl (fun ls hl => ?_)
              refine lv_goto (tgt := 77) hx hb dX0_reaches_118 (by decide) ?_
              exact ih (v7 + (1 : Int32)) u5.2 H locs ls hf (lv_sub hl [1, 2, 3, 4, 5, 6, 0] rfl) hh
            · replace hf := (if_neg c6).symm.trans hf
              refine lv_iconst (v := (1 : Int32)) hx hb dX0_reaches_113 (by decide) ?_
              exact hr2 114 ls H locs (1 : Int32) u5.2 hf rfl dX0_reaches_114 hh
    have hJ58 : ∀ (v1 : Int32) (v2 : Int32) (v3 : Int32) (v4 : Int32) (v5 : Int32) (t0 : Int32) (t1 : Int32) (S : (Nat → Int32)), ∀ (H : Heap) (locs : List Loc) (ls : Array Slot), fX0_reaches_j58 (fX0_reaches d) v1 v2 v3 v4 v5 t0 t1 S = some R → lv_has ls 8 [(0, .ref a0), (1, .int v1), (2, .int v2), (3, .int v3), (4, .int v4), (5, .int v5)] → zW K A s H locs (cA12 K a0 S) → W p l e ({ frames := 2 + (d + 1), cells := 0, slots := 0, locals := 65 + 27 * (d + 1) } : Room) s m ([.ref a0, .int p1, .int p2, .int p3, .int p4] : List Value).toArray below meth c H locs 0 0 Q (F0 m 58 ls [.int t1, .int t0]) := by
      intro v1 v2 v3 v4 v5 t0 t1 S H locs ls hf hl hh
      unfold fX0_reaches_j58 at hf
      refine va_mmin hx hb (X.1.2.2.1.trans hl.1.symm) X.1.2.2.2.1 (X.1.2.2.2.2 _ mmX0_reaches_0) (X.1.2.2.2.2 _ mmX0_reaches_1) (X.1.2.2.2.2 _ mmX0_reaches_2) (X.1.2.2.2.2 _ mmX0_reaches_3) (by dsimp only; omega) (by dsimp only [List.map, List.sum, List.foldr, Value.category]; omega) (Nat.zero_le _) (Nat.zero_le _) dX0_reaches_58 ?_
      refine lv_istore (lv' := [(6, .int (if t1 < t0 then t1 else t0)), (0, .ref a0), (1, .int v1), (2, .int v2), (3, .int v3), (4, .int v4), (5, .int v5)]) hx hb dX0_reaches_61 hl (by decide) rfl (fun ls hl => ?_)
      refine lv_iload hx hb dX0_reaches_63 (lv_at hl 6 rfl) ?_
      refine lv_iload_n hx hb dX0_reaches_65 rfl (lv_at hl 3 rfl) ?_
      refine lv_iload_n hx hb dX0_reaches_66 rfl (lv_at hl 2 rfl) ?_
      refine lv_isub hx hb dX0_reaches_67 ?_
      refine lv_iconst (v := (1 : Int32)) hx hb dX0_reaches_68 (by decide) ?_
      refine lv_isub hx hb dX0_reaches_69 ?_
      refine lv_iload hx hb dX0_reaches_70 (lv_at hl 5 rfl) ?_
      refine zcallS (As := [.int v5, .int ((v2 - v1) - (1 : Int32)), .int v4]) (rest := []) (wr := cA12 K a0 S) (ws' := cA12 K a0 S) (ov := some (.int (fX0_leastUseful v5 ((v2 - v1) - (1 : Int32)) v4))) X hh hl (kX0_leastUseful l K v5 ((v2 - v1) - (1 : Int32)) v4 (fX0_leastUseful v5 ((v2 - v1) - (1 : Int32)) v4) rfl) (fun ht => va_cwS 3 ht gX0_reaches_X0_leastUseful rfl rfl rfl hdX0_leastUseful ⟨by dsimp only; omega, by dsimp only; omega⟩) [] [0] [0] rfl rfl rfl rfl (by decide) rfl rfl rfl rfl (Nat.le_of_ble_eq_true rfl) dX0_reaches_72 ⟨Nat.zero_le _, Nat.zero_le _⟩ (fun H locs hh => ?_)
      refine lv_istore (lv' := [(7, .int (fX0_leastUseful v5 ((v2 - v1) - (1 : Int32)) v4)), (6, .int (if t1 < t0 then t1 else t0)), (0, .ref a0), (1, .int v1), (2, .int v2), (3, .int v3), (4, .int v4), (5, .int v5)]) hx hb dX0_reaches_75 hl (by decide) rfl (fun ls hl => ?_)
      exact hL77 v1 v2 v3 v4 (if t1 < t0 then t1 else t0) FU (fX0_leastUseful v5 ((v2 - v1) - (1 : Int32)) v4) S H locs ls hf (lv_sub hl [2, 3, 4, 5, 6, 1, 0] rfl) hh
    unfold fX0_reaches_e at hf
    refine (fun (hmain : ∀ (H : Heap) (locs : List Loc), zW K A s H locs (cA12 K a0 S) → W p l e ({ frames := 2 + (d + 1), cells := 0, slots := 0, locals := 65 + 27 * (d + 1) } : Room) s m ([.ref a0, .int p1, .int p2, .int p3, .int p4] : List Value).toArray below meth c H locs 0 0 Q (F0 m 0 ls [])) => hmain s.heap [] hh) (fun H locs hh => ?_)
    refine lv_iload_n hx hb dX0_reaches_0 rfl (lv_at hl 1 rfl) ?_
    refine lv_iconst (v := (1 : Int32)) hx hb dX0_reaches_1 (by decide) ?_
    refine lv_icmp_lt (tgt := 11) hx hb dX0_reaches_2 (by decide) (fun c8 => ?_) (fun c8 => ?_)
    · replace hf := (if_pos c8).symm.trans hf
      refine lv_iconst (v := (0 : Int32)) hx hb dX0_reaches_11 (by decide) ?_
      exact hr2 12 ls H locs (0 : Int32) S hf rfl dX0_reaches_12 hh
    · replace hf := (if_neg c8).symm.trans hf
      refine lv_iload_n hx hb dX0_reaches_5 rfl (lv_at hl 1 rfl) ?_
      refine lv_aload_n hx hb dX0_reaches_6 rfl (lv_at hl 0 rfl) ?_
      refine zalenI (v := (12 : Int32)) X hh 0 rfl rfl dX0_reaches_7 ?_
      refine lv_icmp_le (tgt := 13) hx hb dX0_reaches_8 (by decide) (fun c9 => ?_) (fun c9 => ?_)
      · replace hf := (if_pos c9).symm.trans hf
        refine lv_aload_n hx hb dX0_reaches_13 rfl (lv_at hl 0 rfl) ?_
        refine lv_iload_n hx hb dX0_reaches_14 rfl (lv_at hl 1 rfl) ?_
        refine lv_iconst (v := (1 : Int32)) hx hb dX0_reaches_15 (by decide) ?_
        refine lv_isub hx hb dX0_reaches_16 ?_
        obtain ⟨g10, hf⟩ := ob_ix hf
        refine ziald (f := S) X hh 0 rfl g10 dX0_reaches_17 ?_
        refine lv_istore (lv' := [(5, .int (S (p1 - (1 : Int32)).toNatClampNeg)), (0, .ref a0), (1, .int p1), (2, .int p2), (3, .int p3), (4, .int p4)]) hx hb dX0_reaches_18 hl (by decide) rfl (fun ls hl => ?_)
        refine lv_iload hx hb dX0_reaches_20 (lv_at hl 0 rfl) ?_
        refine lv_iload hx hb dX0_reaches_22 (lv_at hl 5 rfl) ?_
        refine lv_icmp_ne (tgt := 29) hx hb dX0_reaches_24 (by decide) (fun c11 => ?_) (fun c11 => ?_)
        · replace hf := (if_neg c11).symm.trans hf
          refine lv_iload_n hx hb dX0_reaches_29 rfl (lv_at hl 2 rfl) ?_
          refine lv_iload_n hx hb dX0_reaches_30 rfl (lv_at hl 3 rfl) ?_
          refine lv_icmp_ge (tgt := 40) hx hb dX0_reaches_31 (by decide) (fun c12 => ?_) (fun c12 => ?_)
          · replace hf := (if_pos c12).symm.trans hf
            refine lv_iconst (v := (0 : Int32)) hx hb dX0_reaches_40 (by decide) ?_
            exact hr2 41 ls H locs (0 : Int32) S hf rfl dX0_reaches_41 hh
          · replace hf := (if_neg c12).symm.trans hf
            refine lv_iload_n hx hb dX0_reaches_34 rfl (lv_at hl 2 rfl) ?_
            refine lv_aload_n hx hb dX0_reaches_35 rfl (lv_at hl 1 rfl) ?_
            refine zalenI (v := (12 : Int32)) X hh 0 rfl rfl dX0_reaches_36 ?_
            refine lv_icmp_lt (tgt := 42) hx hb dX0_reaches_37 (by decide) (fun c13 => ?_) (fun c13 => ?_)
            · replace hf := (if_pos c13).symm.trans hf
              refine lv_iconst (v := (2 : Int32)) hx hb dX0_reaches_42 (by decide) ?_
              refine lv_iload hx hb dX0_reaches_43 (lv_at hl 0 rfl) ?_
              refine lv_imul hx hb dX0_reaches_45 ?_
              refine lv_iload hx hb dX0_reaches_46 (lv_at hl 0 rfl) ?_
              refine lv_iload_n hx hb dX0_reaches_48 rfl (lv_at hl 4 rfl) ?_
              refine lv_icmp_ge (tgt := 56) hx hb dX0_reaches_49 (by decide) (fun c14 => ?_) (fun c14 => ?_)
              · replace hf := (if_pos c14).symm.trans hf
                refine lv_iload hx hb dX0_reaches_56 (lv_at hl 5 rfl) ?_
                exact hJ58 p1 p2 p3 p4 (S (p1 - (1 : Int32)).toNatClampNeg) ((2 : Int32) * (S (p1 - (1 : Int32)).toNatClampNeg)) p4 S H locs ls hf (lv_sub hl [1, 2, 3, 4, 5, 0] rfl) hh
              · replace hf := (if_neg c14).symm.trans hf
                refine lv_iload_n hx hb dX0_reaches_52 rfl (lv_at hl 4 rfl) ?_
                refine lv_goto (tgt := 58) hx hb dX0_reaches_53 (by decide) ?_
                exact hJ58 p1 p2 p3 p4 (S (p1 - (1 : Int32)).toNatClampNeg) ((2 : Int32) * (S (p1 - (1 : Int32)).toNatClampNeg)) p3 S H locs ls hf (lv_sub hl [1, 2, 3, 4, 5, 0] rfl) hh
            · replace hf := (if_neg c13).symm.trans hf
              refine lv_iconst (v := (0 : Int32)) hx hb dX0_reaches_40 (by decide) ?_
              exact hr2 41 ls H locs (0 : Int32) S hf rfl dX0_reaches_41 hh
        · replace hf := (if_pos c11).symm.trans hf
          refine lv_iconst (v := (1 : Int32)) hx hb dX0_reaches_27 (by decide) ?_
          exact hr2 28 ls H locs (1 : Int32) S hf rfl dX0_reaches_28 hh
      · replace hf := (if_neg c9).symm.trans hf
        refine lv_iconst (v := (0 : Int32)) hx hb dX0_reaches_11 (by decide) ?_
        exact hr2 12 ls H locs (0 : Int32) S hf rfl dX0_reaches_12 hh
theorem inX0_shortest_X0 : ∀ w ∈ wsX00, w ∈ wsX0_shortest := by decide +kernel
theorem mmX0_shortest_0 : Cond.fieldLink RX0 11 "SumOfTwoThatStand$Chains" "numbers" "[I" ∈ wsX0_shortest := by decide +kernel
theorem hdX0_shortest : yX0_shortest.cls ≠ "java/lang/invoke/MethodHandle" ∧ yX0_shortest.cls ≠ "java/lang/invoke/VarHandle" ∧ (parseMethodDescriptor yX0_shortest.desc).map (fun d => d.parameters.length) = some 2 := by decide +kernel
set_option maxHeartbeats 4000000 in
set_option maxRecDepth 100000 in
theorem kX0_shortest (l : Launch) (K : zK) (a0 a1 : Nat) (S : zCh) (p1 : Int32) (p2 : Int32) (R : Int32 × zCh) (hf : fX0_shortest S p1 p2 = some R) : zC l yX0_shortest wsX0_shortest ({ frames := 17, cells := 0, slots := 0, locals := 470 } : Room) K [.ref a0, .int p1, .int p2] (cCh K a0 a1 S) (some (.int R.1)) (cCh K a0 a1 R.2) := by
  refine zC_i R.1 (cc := cX0_shortest) (maxL := 4) (by decide +kernel) rfl (Nat.le_of_ble_eq_true rfl) rfl rfl ?_
  intro p e s m below meth c Q A X hret ls hl hh
  have X : zX p m c cX0_shortest 4 s ([.ref a0, .int p1, .int p2] : List Value).toArray wsX0_shortest RX0 K A := X
  have hx := X.1.1
  have hb := X.1.2.1
  have hr2 : ∀ (pc : Nat) (ls : Array Slot) (H : Heap) (locs : List Loc) (v : Int32) (S : zCh), some (v, S) = some R → decode cX0_shortest pc = .ok (.ireturn, 1) → zW K A s H locs (cCh K a0 a1 S) → W p l e ({ frames := 17, cells := 0, slots := 0, locals := 470 } : Room) s m ([.ref a0, .int p1, .int p2] : List Value).toArray below meth c H locs 0 0 Q (F0 m pc ls [.int v]) := by
    intro pc ls H locs v S h hd hh
    cases h; exact hret pc ls H locs _ rfl hd hh
  have hl : lv_has ls 4 [(0, .ref a0), (1, .int p1), (2, .int p2)] := hl
  have hL2 : ∀ (v1 : Int32) (v2 : Int32), ∀ (n : Nat) (v3 : Int32) (S : zCh), ∀ (H : Heap) (locs : List Loc) (ls : Array Slot), fX0_shortest_l2 v1 v2 n v3 S = some R → lv_has ls 4 [(0, .ref a0), (1, .int v1), (2, .int v2), (3, .int v3)] → zW K A s H locs (cCh K a0 a1 S) → W p l e ({ frames := 17, cells := 0, slots := 0, locals := 470 } : Room) s m ([.ref a0, .int p1, .int p2] : List Value).toArray below meth c H locs 0 0 Q (F0 m 2 ls []) := by
    intro v1 v2 n
    induction n with
    | zero =>
      intro v3 S H locs ls hf hl hh
      rw [fX0_shortest_l2] at hf; cases hf
    | succ n ih =>
      intro v3 S H locs ls hf hl hh
      rw [fX0_shortest_l2] at hf
      refine lv_iload_n hx hb dX0_shortest_2 rfl (lv_at hl 3 rfl) ?_
      refine lv_bipush (v := (12 : Int32)) hx hb dX0_shortest_3 (by decide) ?_
      refine lv_icmp_gt (tgt := 30) hx hb dX0_shortest_5 (by decide) (fun c1 => ?_) (fun c1 => ?_)
      · replace hf := (if_pos c1).symm.trans hf
        refine lv_iconst (v := (0 : Int32)) hx hb dX0_shortest_30 (by decide) ?_
        exact hr2 31 ls H locs (0 : Int32) S hf dX0_shortest_31 hh
      · replace hf := (if_neg c1).symm.trans hf
        refine lv_aload_n hx hb dX0_shortest_8 rfl (lv_at hl 0 rfl) ?_
        refine zget (v := .ref a1) (ref := "SumOfTwoThatStand$Chains") (C := RX0) (T := TX0) (N := 1) (index := 11) X hh inX0_shortest_X0 0 rfl rfl 0 (by decide) mmX0_shortest_0 rfl rfl dX0_shortest_9 ?_
        refine lv_iconst (v := (1 : Int32)) hx hb dX0_shortest_12 (by decide) ?_
        refine lv_iload_n hx hb dX0_shortest_13 rfl (lv_at hl 3 rfl) ?_
        refine lv_iload_n hx hb dX0_shortest_14 rfl (lv_at hl 1 rfl) ?_
        refine lv_iload_n hx hb dX0_shortest_15 rfl (lv_at hl 2 rfl) ?_
        obtain ⟨u2, hu2, hf⟩ := ob_bind hf
        refine zcallS (As := [.ref a1, .int (1 : Int32), .int v3, .int v1, .int v2]) (rest := []) (wr := zsel (cCh K a0 a1 S) [0]) (ws' := cCh K a0 a1 (ch_set_numbers S u2.2)) (ov := some (.int u2.1)) X hh hl (kX0_reaches l K 14 a1 (ch_numbers S) (1 : Int32) v3 v1 v2 u2 hu2) (fun ht => va_cwS 5 ht gX0_shortest_X0_reaches rfl rfl rfl hdX0_reaches ⟨by decide, by decide⟩) [1] [0] [0, 1] rfl rfl rfl rfl (by decide) rfl rfl rfl rfl (Nat.le_of_ble_eq_true rfl) dX0_shortest_16 ⟨Nat.zero_le _, Nat.zero_le _⟩ (fun H locs hh => ?_)
        refine lv_if_eq (tgt := 24) hx hb dX0_shortest_19 (by decide) (fun c3 => ?_) (fun c3 => ?_)
        · replace hf := (if_pos c3).symm.trans hf
          refine lv_iinc (v := (v3 + (1 : Int32))) (lv' := [(3, .int (v3 + (1 : Int32))), (0, .ref a0), (1, .int v1), (2, .int v2)]) hx hb dX0_shortest_24 hl (k := 3) rfl rfl (by decide) rfl (fun ls hl => ?_)
          refine lv_goto (tgt := 2) hx hb dX0_shortest_27 (by decide) ?_
          exact ih (v3 + (1 : Int32)) (ch_set_numbers S u2.2) H locs ls hf (lv_sub hl [1, 2, 3, 0] rfl) hh
        · replace hf := (if_neg c3).symm.trans hf
          refine lv_iload_n hx hb dX0_shortest_22 rfl (lv_at hl 3 rfl) ?_
          exact hr2 23 ls H locs v3 (ch_set_numbers S u2.2) hf dX0_shortest_23 hh
  unfold fX0_shortest at hf
  refine (fun (hmain : ∀ (H : Heap) (locs : List Loc), zW K A s H locs (cCh K a0 a1 S) → W p l e ({ frames := 17, cells := 0, slots := 0, locals := 470 } : Room) s m ([.ref a0, .int p1, .int p2] : List Value).toArray below meth c H locs 0 0 Q (F0 m 0 ls [])) => hmain s.heap [] hh) (fun H locs hh => ?_)
  refine lv_iconst (v := (1 : Int32)) hx hb dX0_shortest_0 (by decide) ?_
  refine lv_istore_n (lv' := [(3, .int (1 : Int32)), (0, .ref a0), (1, .int p1), (2, .int p2)]) hx hb dX0_shortest_1 rfl hl (by decide) rfl (fun ls hl => ?_)
  exact hL2 p1 p2 FU (1 : Int32) S H locs ls hf (lv_sub hl [1, 2, 3, 0] rfl) hh
theorem inX0_numberAt_X0 : ∀ w ∈ wsX00, w ∈ wsX0_numberAt := by decide +kernel
theorem mmX0_numberAt_0 : Cond.fieldLink RX0 11 "SumOfTwoThatStand$Chains" "numbers" "[I" ∈ wsX0_numberAt := by decide +kernel
theorem hdX0_numberAt : yX0_numberAt.cls ≠ "java/lang/invoke/MethodHandle" ∧ yX0_numberAt.cls ≠ "java/lang/invoke/VarHandle" ∧ (parseMethodDescriptor yX0_numberAt.desc).map (fun d => d.parameters.length) = some 1 := by decide +kernel
set_option maxHeartbeats 4000000 in
set_option maxRecDepth 100000 in
theorem kX0_numberAt (l : Launch) (K : zK) (a0 a1 : Nat) (S : zCh) (p1 : Int32) (R : Int32) (hf : fX0_numberAt S p1 = some R) : zC l yX0_numberAt wsX0_numberAt ({ frames := 0, cells := 0, slots := 0, locals := 0 } : Room) K [.ref a0, .int p1] (cCh K a0 a1 S) (some (.int R)) (cCh K a0 a1 S) := by
  refine zC_i R (cc := cX0_numberAt) (maxL := 2) (by decide +kernel) rfl (Nat.le_of_ble_eq_true rfl) rfl rfl ?_
  intro p e s m below meth c Q A X hret ls hl hh
  have X : zX p m c cX0_numberAt 2 s ([.ref a0, .int p1] : List Value).toArray wsX0_numberAt RX0 K A := X
  have hx := X.1.1
  have hb := X.1.2.1
  have hr2 : ∀ (pc : Nat) (ls : Array Slot) (H : Heap) (locs : List Loc) (v : Int32), some v = some R → decode cX0_numberAt pc = .ok (.ireturn, 1) → zW K A s H locs (cCh K a0 a1 S) → W p l e ({ frames := 0, cells := 0, slots := 0, locals := 0 } : Room) s m ([.ref a0, .int p1] : List Value).toArray below meth c H locs 0 0 Q (F0 m pc ls [.int v]) := by
    intro pc ls H locs v h hd hh
    cases h; exact hret pc ls H locs _ rfl hd hh
  have hl : lv_has ls 2 [(0, .ref a0), (1, .int p1)] := hl
  unfold fX0_numberAt at hf
  refine (fun (hmain : ∀ (H : Heap) (locs : List Loc), zW K A s H locs (cCh K a0 a1 S) → W p l e ({ frames := 0, cells := 0, slots := 0, locals := 0 } : Room) s m ([.ref a0, .int p1] : List Value).toArray below meth c H locs 0 0 Q (F0 m 0 ls [])) => hmain s.heap [] hh) (fun H locs hh => ?_)
  refine lv_iload_n hx hb dX0_numberAt_0 rfl (lv_at hl 1 rfl) ?_
  refine lv_if_lt (tgt := 22) hx hb dX0_numberAt_1 (by decide) (fun c1 => ?_) (fun c1 => ?_)
  · replace hf := (if_pos c1).symm.trans hf
    refine lv_bipush (v := (-9 : Int32)) hx hb dX0_numberAt_22 (by decide) ?_
    exact hr2 24 ls H locs (-9 : Int32) hf dX0_numberAt_24 hh
  · replace hf := (if_neg c1).symm.trans hf
    refine lv_iload_n hx hb dX0_numberAt_4 rfl (lv_at hl 1 rfl) ?_
    refine lv_aload_n hx hb dX0_numberAt_5 rfl (lv_at hl 0 rfl) ?_
    refine zget (v := .ref a1) (ref := "SumOfTwoThatStand$Chains") (C := RX0) (T := TX0) (N := 1) (index := 11) X hh inX0_numberAt_X0 0 rfl rfl 0 (by decide) mmX0_numberAt_0 rfl rfl dX0_numberAt_6 ?_
    refine zalenI (v := (12 : Int32)) X hh 1 rfl rfl dX0_numberAt_9 ?_
    refine lv_icmp_ge (tgt := 22) hx hb dX0_numberAt_10 (by decide) (fun c2 => ?_) (fun c2 => ?_)
    · replace hf := (if_pos c2).symm.trans hf
      refine lv_bipush (v := (-9 : Int32)) hx hb dX0_numberAt_22 (by decide) ?_
      exact hr2 24 ls H locs (-9 : Int32) hf dX0_numberAt_24 hh
    · replace hf := (if_neg c2).symm.trans hf
      refine lv_aload_n hx hb dX0_numberAt_13 rfl (lv_at hl 0 rfl) ?_
      refine zget (v := .ref a1) (ref := "SumOfTwoThatStand$Chains") (C := RX0) (T := TX0) (N := 1) (index := 11) X hh inX0_numberAt_X0 0 rfl rfl 0 (by decide) mmX0_numberAt_0 rfl rfl dX0_numberAt_14 ?_
      refine lv_iload_n hx hb dX0_numberAt_17 rfl (lv_at hl 1 rfl) ?_
      obtain ⟨g3, hf⟩ := ob_ix hf
      refine ziald (f := (ch_numbers S)) X hh 1 rfl g3 dX0_numberAt_18 ?_
      refine lv_goto (tgt := 24) hx hb dX0_numberAt_19 (by decide) ?_
      exact hr2 24 ls H locs ((ch_numbers S) p1.toNatClampNeg) hf dX0_numberAt_24 hh
theorem hdX0_reached : yX0_reached.cls ≠ "java/lang/invoke/MethodHandle" ∧ yX0_reached.cls ≠ "java/lang/invoke/VarHandle" ∧ (parseMethodDescriptor yX0_reached.desc).map (fun d => d.parameters.length) = some 3 := by decide +kernel
set_option maxHeartbeats 4000000 in
set_option maxRecDepth 100000 in
theorem kX0_reached (l : Launch) (K : zK) : ∀ (d : Nat) (a0 : Nat) (S : (Nat → Int32)) (p1 : Int32) (p2 : Int32) (R : Int64 × (Nat → Int32)) (hf : fX0_reached d S p1 p2 = some R), zC l yX0_reached wsX0_reached ({ frames := 2 + d, cells := 0, slots := 0, locals := 65 + 26 * d } : Room) K [.ref a0, .int p1, .int p2] (cA12 K a0 S) (some (.long R.1)) (cA12 K a0 R.2) := by
  intro d
  induction d with
  | zero =>
    intro a0 S p1 p2 R hf
    rw [fX0_reached] at hf; cases hf
  | succ d ih_rec =>
    intro a0 S p1 p2 R hf
    rw [fX0_reached] at hf
    refine zC_l R.1 (cc := cX0_reached) (maxL := 7) (by decide +kernel) rfl (Nat.le_of_ble_eq_true rfl) rfl rfl ?_
    intro p e s m below meth c Q A X hret ls hl hh
    have X : zX p m c cX0_reached 7 s ([.ref a0, .int p1, .int p2] : List Value).toArray wsX0_reached RX0 K A := X
    have hx := X.1.1
    have hb := X.1.2.1
    have hr2 : ∀ (pc : Nat) (ls : Array Slot) (H : Heap) (locs : List Loc) (v : Int64) (S : (Nat → Int32)), some (v, S) = some R → decode cX0_reached pc = .ok (.lreturn, 1) → zW K A s H locs (cA12 K a0 S) → W p l e ({ frames := 2 + (d + 1), cells := 0, slots := 0, locals := 65 + 26 * (d + 1) } : Room) s m ([.ref a0, .int p1, .int p2] : List Value).toArray below meth c H locs 0 0 Q (F0 m pc ls [.long v]) := by
      intro pc ls H locs v S h hd hh
      cases h; exact hret pc ls H locs _ rfl hd hh
    have hl : lv_has ls 7 [(0, .ref a0), (1, .int p1), (2, .int p2)] := hl
    have hL45 : ∀ (v1 : Int32) (v2 : Int32) (v3 : Int32), ∀ (n : Nat) (v4 : Int64) (v6 : Int32) (S : (Nat → Int32)), ∀ (H : Heap) (locs : List Loc) (ls : Array Slot), fX0_reached_l45 (fX0_reached d) v1 v2 v3 n v4 v6 S = some R → lv_has ls 7 [(0, .ref a0), (1, .int v1), (2, .int v2), (3, .int v3), (4, .long v4), (6, .int v6)] → zW K A s H locs (cA12 K a0 S) → W p l e ({ frames := 2 + (d + 1), cells := 0, slots := 0, locals := 65 + 26 * (d + 1) } : Room) s m ([.ref a0, .int p1, .int p2] : List Value).toArray below meth c H locs 0 0 Q (F0 m 45 ls []) := by
      intro v1 v2 v3 n
      induction n with
      | zero =>
        intro v4 v6 S H locs ls hf hl hh
        rw [fX0_reached_l45] at hf; cases hf
      | succ n ih =>
        intro v4 v6 S H locs ls hf hl hh
        rw [fX0_reached_l45] at hf
        refine lv_iload hx hb dX0_reached_45 (lv_at hl 5 rfl) ?_
        refine lv_iconst (v := (2 : Int32)) hx hb dX0_reached_47 (by decide) ?_
        refine lv_iload_n hx hb dX0_reached_48 rfl (lv_at hl 3 rfl) ?_
        refine lv_imul hx hb dX0_reached_49 ?_
        refine lv_icmp_gt (tgt := 87) hx hb dX0_reached_50 (by decide) (fun c1 => ?_) (fun c1 => ?_)
        · replace hf := (if_pos c1).symm.trans hf
          refine lv_lload hx hb dX0_reached_87 (lv_at hl 4 rfl) ?_
          exact hr2 89 ls H locs v4 S hf dX0_reached_89 hh
        · replace hf := (if_neg c1).symm.trans hf
          refine lv_aload_n hx hb dX0_reached_53 rfl (lv_at hl 0 rfl) ?_
          refine lv_iload_n hx hb dX0_reached_54 rfl (lv_at hl 1 rfl) ?_
          refine lv_iload hx hb dX0_reached_55 (lv_at hl 5 rfl) ?_
          obtain ⟨u2, hu2, hf⟩ := ob_bind hf
          refine zcallS (As := [.ref a0, .int v1, .int v6]) (rest := []) (wr := []) (ws' := cA12 K a0 S) (ov := some (.int u2)) X hh hl (kX0_isSum l K a0 S v1 v6 u2 hu2) (fun ht => va_cwS 3 ht gX0_reached_X0_isSum rfl rfl rfl hdX0_isSum ⟨by dsimp only; omega, by dsimp only; omega⟩) [0] [] [0] rfl rfl rfl rfl (by decide) rfl rfl rfl rfl (Nat.le_of_ble_eq_true rfl) dX0_reached_57 ⟨Nat.zero_le _, Nat.zero_le _⟩ (fun H locs hh => ?_)
          refine lv_if_eq (tgt := 81) hx hb dX0_reached_60 (by decide) (fun c3 => ?_) (fun c3 => ?_)
          · replace hf := (if_pos c3).symm.trans hf
            refine lv_iinc (v := (v6 + (1 : Int32))) (lv' := [(6, .int (v6 + (1 : Int32))), (0, .ref a0), (1, .int v1), (2, .int v2), (3, .int v3), (4, .long v4)]) hx hb dX0_reached_81 hl (k := 5) rfl rfl (by decide) rfl (fun ls hl => ?_)
            refine lv_goto (tgt := 45) hx hb dX0_reached_84 (by decide) ?_
            exact ih v4 (v6 + (1 : Int32)) S H locs ls hf (lv_sub hl [1, 2, 3, 4, 5, 0] rfl) hh
          · replace hf := (if_neg c3).symm.trans hf
            refine lv_aload_n hx hb dX0_reached_63 rfl (lv_at hl 0 rfl) ?_
            refine lv_iload_n hx hb dX0_reached_64 rfl (lv_at hl 1 rfl) ?_
            refine lv_iload hx hb dX0_reached_65 (lv_at hl 5 rfl) ?_
            obtain ⟨g4, hf⟩ := ob_ix hf
            refine ziast (f := S) X hh 0 rfl g4 dX0_reached_67 (fun H locs hh => ?_)
            have hh : zW K A s H locs (cA12 K a0 (upd S v1.toNatClampNeg v6)) := hh
            refine lv_lload hx hb dX0_reached_68 (lv_at hl 4 rfl) ?_
            refine lv_aload_n hx hb dX0_reached_70 rfl (lv_at hl 0 rfl) ?_
            refine lv_iload_n hx hb dX0_reached_71 rfl (lv_at hl 1 rfl) ?_
            refine lv_iconst (v := (1 : Int32)) hx hb dX0_reached_72 (by decide) ?_
            refine lv_iadd hx hb dX0_reached_73 ?_
            refine lv_iload_n hx hb dX0_reached_74 rfl (lv_at hl 2 rfl) ?_
            obtain ⟨u5, hu5, hf⟩ := ob_bind hf
            refine zcallS (As := [.ref a0, .int (v1 + (1 : Int32)), .int v2]) (rest := [.long v4]) (wr := []) (ws' := cA12 K a0 u5.2) (ov := some (.long u5.1)) X hh hl (ih_rec a0 (upd S v1.toNatClampNeg v6) (v1 + (1 : Int32)) v2 u5 hu5) (fun ht => va_cwS 3 ht gX0_reached_X0_reached rfl rfl rfl hdX0_reached ⟨by dsimp only; omega, by dsimp only; omega⟩) [0] [] [0] rfl rfl rfl rfl (by decide) rfl rfl rfl rfl (Nat.le_of_ble_eq_true rfl) dX0_reached_75 ⟨Nat.zero_le _, Nat.zero_le _⟩ (fun H locs hh => ?_)
            refine lv_lor hx hb dX0_reached_78 ?_
            refine lv_lstore (lv' := [(4, .long (v4 ||| u5.1)), (0, .ref a0), (1, .int v1), (2, .int v2), (3, .int v3), (6, .int v6)]) hx hb dX0_reached_79 hl (by decide) rfl (fun ls hl => ?_)
            refine lv_iinc (v := (v6 + (1 : Int32))) (lv' := [(6, .int (v6 + (1 : Int32))), (4, .long (v4 ||| u5.1)), (0, .ref a0), (1, .int v1), (2, .int v2), (3, .int v3)]) hx hb dX0_reached_81 hl (k := 5) rfl rfl (by decide) rfl (fun ls hl => ?_)
            refine lv_goto (tgt := 45) hx hb dX0_reached_84 (by decide) ?_
            exact ih (v4 ||| u5.1) (v6 + (1 : Int32)) u5.2 H locs ls hf (lv_sub hl [2, 3, 4, 5, 1, 0] rfl) hh
    unfold fX0_reached_e at hf
    refine (fun (hmain : ∀ (H : Heap) (locs : List Loc), zW K A s H locs (cA12 K a0 S) → W p l e ({ frames := 2 + (d + 1), cells := 0, slots := 0, locals := 65 + 26 * (d + 1) } : Room) s m ([.ref a0, .int p1, .int p2] : List Value).toArray below meth c H locs 0 0 Q (F0 m 0 ls [])) => hmain s.heap [] hh) (fun H locs hh => ?_)
    refine lv_iload_n hx hb dX0_reached_0 rfl (lv_at hl 1 rfl) ?_
    refine lv_iconst (v := (1 : Int32)) hx hb dX0_reached_1 (by decide) ?_
    refine lv_icmp_lt (tgt := 11) hx hb dX0_reached_2 (by decide) (fun c6 => ?_) (fun c6 => ?_)
    · replace hf := (if_pos c6).symm.trans hf
      refine lv_lconst (v := (0 : Int64)) hx hb dX0_reached_11 (by decide) ?_
      exact hr2 12 ls H locs (0 : Int64) S hf dX0_reached_12 hh
    · replace hf := (if_neg c6).symm.trans hf
      refine lv_iload_n hx hb dX0_reached_5 rfl (lv_at hl 1 rfl) ?_
      refine lv_aload_n hx hb dX0_reached_6 rfl (lv_at hl 0 rfl) ?_
      refine zalenI (v := (12 : Int32)) X hh 0 rfl rfl dX0_reached_7 ?_
      refine lv_icmp_le (tgt := 13) hx hb dX0_reached_8 (by decide) (fun c7 => ?_) (fun c7 => ?_)
      · replace hf := (if_pos c7).symm.trans hf
        refine lv_aload_n hx hb dX0_reached_13 rfl (lv_at hl 0 rfl) ?_
        refine lv_iload_n hx hb dX0_reached_14 rfl (lv_at hl 1 rfl) ?_
        refine lv_iconst (v := (1 : Int32)) hx hb dX0_reached_15 (by decide) ?_
        refine lv_isub hx hb dX0_reached_16 ?_
        obtain ⟨g8, hf⟩ := ob_ix hf
        refine ziald (f := S) X hh 0 rfl g8 dX0_reached_17 ?_
        refine lv_istore_n (lv' := [(3, .int (S (p1 - (1 : Int32)).toNatClampNeg)), (0, .ref a0), (1, .int p1), (2, .int p2)]) hx hb dX0_reached_18 rfl hl (by decide) rfl (fun ls hl => ?_)
        refine lv_lconst (v := (1 : Int64)) hx hb dX0_reached_19 (by decide) ?_
        refine lv_iload_n hx hb dX0_reached_20 rfl (lv_at hl 0 rfl) ?_
        refine lv_iconst (v := (1 : Int32)) hx hb dX0_reached_21 (by decide) ?_
        refine lv_isub hx hb dX0_reached_22 ?_
        refine lv_lshl (v := ((1 : Int64) <<< (((S (p1 - (1 : Int32)).toNatClampNeg) - (1 : Int32)).toInt64 &&& 63))) hx hb dX0_reached_23 rfl ?_
        refine lv_lstore (lv' := [(4, .long ((1 : Int64) <<< (((S (p1 - (1 : Int32)).toNatClampNeg) - (1 : Int32)).toInt64 &&& 63))), (3, .int (S (p1 - (1 : Int32)).toNatClampNeg)), (0, .ref a0), (1, .int p1), (2, .int p2)]) hx hb dX0_reached_24 hl (by decide) rfl (fun ls hl => ?_)
        refine lv_iload_n hx hb dX0_reached_26 rfl (lv_at hl 3 rfl) ?_
        refine lv_iload_n hx hb dX0_reached_27 rfl (lv_at hl 4 rfl) ?_
        refine lv_icmp_ge (tgt := 37) hx hb dX0_reached_28 (by decide) (fun c9 => ?_) (fun c9 => ?_)
        · replace hf := (if_pos c9).symm.trans hf
          refine lv_lload hx hb dX0_reached_37 (lv_at hl 0 rfl) ?_
          exact hr2 39 ls H locs ((1 : Int64) <<< (((S (p1 - (1 : Int32)).toNatClampNeg) - (1 : Int32)).toInt64 &&& 63)) S hf dX0_reached_39 hh
        · replace hf := (if_neg c9).symm.trans hf
          refine lv_iload_n hx hb dX0_reached_31 rfl (lv_at hl 3 rfl) ?_
          refine lv_aload_n hx hb dX0_reached_32 rfl (lv_at hl 2 rfl) ?_
          refine zalenI (v := (12 : Int32)) X hh 0 rfl rfl dX0_reached_33 ?_
          refine lv_icmp_lt (tgt := 40) hx hb dX0_reached_34 (by decide) (fun c10 => ?_) (fun c10 => ?_)
          · replace hf := (if_pos c10).symm.trans hf
            refine lv_iload_n hx hb dX0_reached_40 rfl (lv_at hl 1 rfl) ?_
            refine lv_iconst (v := (1 : Int32)) hx hb dX0_reached_41 (by decide) ?_
            refine lv_iadd hx hb dX0_reached_42 ?_
            refine lv_istore (lv' := [(6, .int ((S (p1 - (1 : Int32)).toNatClampNeg) + (1 : Int32))), (4, .long ((1 : Int64) <<< (((S (p1 - (1 : Int32)).toNatClampNeg) - (1 : Int32)).toInt64 &&& 63))), (3, .int (S (p1 - (1 : Int32)).toNatClampNeg)), (0, .ref a0), (1, .int p1), (2, .int p2)]) hx hb dX0_reached_43 hl (by decide) rfl (fun ls hl => ?_)
            exact hL45 p1 p2 (S (p1 - (1 : Int32)).toNatClampNeg) FU ((1 : Int64) <<< (((S (p1 - (1 : Int32)).toNatClampNeg) - (1 : Int32)).toInt64 &&& 63)) ((S (p1 - (1 : Int32)).toNatClampNeg) + (1 : Int32)) S H locs ls hf (lv_sub hl [3, 4, 5, 2, 1, 0] rfl) hh
          · replace hf := (if_neg c10).symm.trans hf
            refine lv_lload hx hb dX0_reached_37 (lv_at hl 0 rfl) ?_
            exact hr2 39 ls H locs ((1 : Int64) <<< (((S (p1 - (1 : Int32)).toNatClampNeg) - (1 : Int32)).toInt64 &&& 63)) S hf dX0_reached_39 hh
      · replace hf := (if_neg c7).symm.trans hf
        refine lv_lconst (v := (0 : Int64)) hx hb dX0_reached_11 (by decide) ?_
        exact hr2 12 ls H locs (0 : Int64) S hf dX0_reached_12 hh
theorem inX0_reachable_X0 : ∀ w ∈ wsX00, w ∈ wsX0_reachable := by decide +kernel
theorem mmX0_reachable_0 : Cond.fieldLink RX0 11 "SumOfTwoThatStand$Chains" "numbers" "[I" ∈ wsX0_reachable := by decide +kernel
theorem mmX0_reachable_1 : Cond.methodLink RX0 19 Lib.Math.min.name ∈ wsX0_reachable := by decide +kernel
theorem mmX0_reachable_2 : Cond.static Lib.Math.min.name ∈ wsX0_reachable := by decide +kernel
theorem mmX0_reachable_3 : Cond.initialized "java/lang/Math" ∈ wsX0_reachable := by decide +kernel
theorem mmX0_reachable_4 : Cond.code Lib.Math.min.name Lib.Math.min.code 2 (some .int) ∈ wsX0_reachable := by decide +kernel
theorem hdX0_reachable : yX0_reachable.cls ≠ "java/lang/invoke/MethodHandle" ∧ yX0_reachable.cls ≠ "java/lang/invoke/VarHandle" ∧ (parseMethodDescriptor yX0_reachable.desc).map (fun d => d.parameters.length) = some 1 := by decide +kernel
set_option maxHeartbeats 4000000 in
set_option maxRecDepth 100000 in
theorem kX0_reachable (l : Launch) (K : zK) (a0 a1 : Nat) (S : zCh) (p1 : Int32) (R : Int64 × zCh) (hf : fX0_reachable S p1 = some R) : zC l yX0_reachable wsX0_reachable ({ frames := 17, cells := 0, slots := 0, locals := 455 } : Room) K [.ref a0, .int p1] (cCh K a0 a1 S) (some (.long R.1)) (cCh K a0 a1 R.2) := by
  refine zC_l R.1 (cc := cX0_reachable) (maxL := 2) (by decide +kernel) rfl (Nat.le_of_ble_eq_true rfl) rfl rfl ?_
  intro p e s m below meth c Q A X hret ls hl hh
  have X : zX p m c cX0_reachable 2 s ([.ref a0, .int p1] : List Value).toArray wsX0_reachable RX0 K A := X
  have hx := X.1.1
  have hb := X.1.2.1
  have hr2 : ∀ (pc : Nat) (ls : Array Slot) (H : Heap) (locs : List Loc) (v : Int64) (S : zCh), some (v, S) = some R → decode cX0_reachable pc = .ok (.lreturn, 1) → zW K A s H locs (cCh K a0 a1 S) → W p l e ({ frames := 17, cells := 0, slots := 0, locals := 455 } : Room) s m ([.ref a0, .int p1] : List Value).toArray below meth c H locs 0 0 Q (F0 m pc ls [.long v]) := by
    intro pc ls H locs v S h hd hh
    cases h; exact hret pc ls H locs _ rfl hd hh
  have hl : lv_has ls 2 [(0, .ref a0), (1, .int p1)] := hl
  unfold fX0_reachable at hf
  refine (fun (hmain : ∀ (H : Heap) (locs : List Loc), zW K A s H locs (cCh K a0 a1 S) → W p l e ({ frames := 17, cells := 0, slots := 0, locals := 455 } : Room) s m ([.ref a0, .int p1] : List Value).toArray below meth c H locs 0 0 Q (F0 m 0 ls [])) => hmain s.heap [] hh) (fun H locs hh => ?_)
  refine lv_aload_n hx hb dX0_reachable_0 rfl (lv_at hl 0 rfl) ?_
  refine zget (v := .ref a1) (ref := "SumOfTwoThatStand$Chains") (C := RX0) (T := TX0) (N := 1) (index := 11) X hh inX0_reachable_X0 0 rfl rfl 0 (by decide) mmX0_reachable_0 rfl rfl dX0_reachable_1 ?_
  refine lv_iconst (v := (1 : Int32)) hx hb dX0_reachable_4 (by decide) ?_
  refine lv_iload_n hx hb dX0_reachable_5 rfl (lv_at hl 1 rfl) ?_
  refine lv_bipush (v := (7 : Int32)) hx hb dX0_reachable_6 (by decide) ?_
  refine va_mmin hx hb (X.1.2.2.1.trans hl.1.symm) X.1.2.2.2.1 (X.1.2.2.2.2 _ mmX0_reachable_1) (X.1.2.2.2.2 _ mmX0_reachable_2) (X.1.2.2.2.2 _ mmX0_reachable_3) (X.1.2.2.2.2 _ mmX0_reachable_4) (Nat.le_of_ble_eq_true rfl) (Nat.le_of_ble_eq_true rfl) (Nat.zero_le _) (Nat.zero_le _) dX0_reachable_8 ?_
  obtain ⟨u1, hu1, hf⟩ := ob_bind hf
  refine zcallS (As := [.ref a1, .int (1 : Int32), .int (if (7 : Int32) < p1 then (7 : Int32) else p1)]) (rest := []) (wr := zsel (cCh K a0 a1 S) [0]) (ws' := cCh K a0 a1 (ch_set_numbers S u1.2)) (ov := some (.long u1.1)) X hh hl (kX0_reached l K 14 a1 (ch_numbers S) (1 : Int32) (if (7 : Int32) < p1 then (7 : Int32) else p1) u1 hu1) (fun ht => va_cwS 3 ht gX0_reachable_X0_reached rfl rfl rfl hdX0_reached ⟨by decide, by decide⟩) [1] [0] [0, 1] rfl rfl rfl rfl (by decide) rfl rfl rfl rfl (Nat.le_of_ble_eq_true rfl) dX0_reachable_11 ⟨Nat.zero_le _, Nat.zero_le _⟩ (fun H locs hh => ?_)
  exact hr2 14 ls H locs u1.1 (ch_set_numbers S u1.2) hf dX0_reachable_14 hh
theorem hdX0_byHalves : yX0_byHalves.cls ≠ "java/lang/invoke/MethodHandle" ∧ yX0_byHalves.cls ≠ "java/lang/invoke/VarHandle" ∧ (parseMethodDescriptor yX0_byHalves.desc).map (fun d => d.parameters.length) = some 1 := by decide +kernel
set_option maxHeartbeats 4000000 in
set_option maxRecDepth 100000 in
theorem kX0_byHalves (l : Launch) (K : zK) (p0 : Int32) (R : Int32) (hf : fX0_byHalves p0 = R) : zC l yX0_byHalves wsX0_byHalves ({ frames := 1, cells := 0, slots := 0, locals := 21 } : Room) K [.int p0] ([]) (some (.int R)) ([]) := by
  refine zC_i R (cc := cX0_byHalves) (maxL := 1) (by decide +kernel) rfl (Nat.le_of_ble_eq_true rfl) rfl rfl ?_
  intro p e s m below meth c Q A X hret ls hl hh
  have X : zX p m c cX0_byHalves 1 s ([.int p0] : List Value).toArray wsX0_byHalves RX0 K A := X
  have hx := X.1.1
  have hb := X.1.2.1
  have hr2 : ∀ (pc : Nat) (ls : Array Slot) (H : Heap) (locs : List Loc) (v : Int32), v = R → decode cX0_byHalves pc = .ok (.ireturn, 1) → zW K A s H locs ([]) → W p l e ({ frames := 1, cells := 0, slots := 0, locals := 21 } : Room) s m ([.int p0] : List Value).toArray below meth c H locs 0 0 Q (F0 m pc ls [.int v]) := by
    intro pc ls H locs v h hd hh
    cases h; exact hret pc ls H locs _ rfl hd hh
  have hl : lv_has ls 1 [(0, .int p0)] := hl
  unfold fX0_byHalves at hf
  refine (fun (hmain : ∀ (H : Heap) (locs : List Loc), zW K A s H locs ([]) → W p l e ({ frames := 1, cells := 0, slots := 0, locals := 21 } : Room) s m ([.int p0] : List Value).toArray below meth c H locs 0 0 Q (F0 m 0 ls [])) => hmain s.heap [] hh) (fun H locs hh => ?_)
  refine lv_iload_n hx hb dX0_byHalves_0 rfl (lv_at hl 0 rfl) ?_
  refine lv_iconst (v := (1 : Int32)) hx hb dX0_byHalves_1 (by decide) ?_
  refine lv_icmp_ge (tgt := 9) hx hb dX0_byHalves_2 (by decide) (fun c1 => ?_) (fun c1 => ?_)
  · replace hf := (if_pos c1).symm.trans hf
    refine lv_bipush (v := (31 : Int32)) hx hb dX0_byHalves_9 (by decide) ?_
    refine lv_iload_n hx hb dX0_byHalves_11 rfl (lv_at hl 0 rfl) ?_
    refine zcallS (As := [.int p0]) (rest := [.int (31 : Int32)]) (wr := []) (ws' := []) (ov := some (.int (fJ6_numberOfLeadingZeros_0f7a4 p0))) X hh hl (kJ6_numberOfLeadingZeros_0f7a4 l K p0 (fJ6_numberOfLeadingZeros_0f7a4 p0) rfl) (fun ht => va_cwS 1 ht gX0_byHalves_J6_numberOfLeadingZeros_0f7a4 rfl rfl rfl hdJ6_numberOfLeadingZeros_0f7a4 ⟨Nat.le_of_ble_eq_true rfl, Nat.le_of_ble_eq_true rfl⟩) [] [] [] rfl rfl rfl rfl (by decide) rfl rfl rfl rfl (Nat.le_of_ble_eq_true rfl) dX0_byHalves_12 ⟨Nat.zero_le _, Nat.zero_le _⟩ (fun H locs hh => ?_)
    refine lv_isub hx hb dX0_byHalves_15 ?_
    refine lv_iload_n hx hb dX0_byHalves_16 rfl (lv_at hl 0 rfl) ?_
    refine zcallS (As := [.int p0]) (rest := [.int ((31 : Int32) - (fJ6_numberOfLeadingZeros_0f7a4 p0))]) (wr := []) (ws' := []) (ov := some (.int (fJ6_bitCount_0f7a4 p0))) X hh hl (kJ6_bitCount_0f7a4 l K p0 (fJ6_bitCount_0f7a4 p0) rfl) (fun ht => va_cwS 1 ht gX0_byHalves_J6_bitCount_0f7a4 rfl rfl rfl hdJ6_bitCount_0f7a4 ⟨Nat.le_of_ble_eq_true rfl, Nat.le_of_ble_eq_true rfl⟩) [] [] [] rfl rfl rfl rfl (by decide) rfl rfl rfl rfl (Nat.le_of_ble_eq_true rfl) dX0_byHalves_17 ⟨Nat.zero_le _, Nat.zero_le _⟩ (fun H locs hh => ?_)
    refine lv_iadd hx hb dX0_byHalves_20 ?_
    exact hr2 21 ls H locs (((31 : Int32) - (fJ6_numberOfLeadingZeros_0f7a4 p0)) + (fJ6_bitCount_0f7a4 p0)) hf dX0_byHalves_21 hh
  · replace hf := (if_neg c1).symm.trans hf
    refine lv_iconst (v := (0 : Int32)) hx hb dX0_byHalves_5 (by decide) ?_
    refine lv_goto (tgt := 21) hx hb dX0_byHalves_6 (by decide) ?_
    exact hr2 21 ls H locs (0 : Int32) hf dX0_byHalves_21 hh
theorem hdX0_leastFactor : yX0_leastFactor.cls ≠ "java/lang/invoke/MethodHandle" ∧ yX0_leastFactor.cls ≠ "java/lang/invoke/VarHandle" ∧ (parseMethodDescriptor yX0_leastFactor.desc).map (fun d => d.parameters.length) = some 1 := by decide +kernel
set_option maxHeartbeats 4000000 in
set_option maxRecDepth 100000 in
theorem kX0_leastFactor (l : Launch) (K : zK) (p0 : Int32) (R : Int32) (hf : fX0_leastFactor p0 = some R) : zC l yX0_leastFactor wsX0_leastFactor ({ frames := 0, cells := 0, slots := 0, locals := 0 } : Room) K [.int p0] ([]) (some (.int R)) ([]) := by
  refine zC_i R (cc := cX0_leastFactor) (maxL := 2) (by decide +kernel) rfl (Nat.le_of_ble_eq_true rfl) rfl rfl ?_
  intro p e s m below meth c Q A X hret ls hl hh
  have X : zX p m c cX0_leastFactor 2 s ([.int p0] : List Value).toArray wsX0_leastFactor RX0 K A := X
  have hx := X.1.1
  have hb := X.1.2.1
  have hr2 : ∀ (pc : Nat) (ls : Array Slot) (H : Heap) (locs : List Loc) (v : Int32), some v = some R → decode cX0_leastFactor pc = .ok (.ireturn, 1) → zW K A s H locs ([]) → W p l e ({ frames := 0, cells := 0, slots := 0, locals := 0 } : Room) s m ([.int p0] : List Value).toArray below meth c H locs 0 0 Q (F0 m pc ls [.int v]) := by
    intro pc ls H locs v h hd hh
    cases h; exact hret pc ls H locs _ rfl hd hh
  have hl : lv_has ls 2 [(0, .int p0)] := hl
  have hL2 : ∀ (v0 : Int32), ∀ (n : Nat) (v1 : Int32), ∀ (H : Heap) (locs : List Loc) (ls : Array Slot), fX0_leastFactor_l2 v0 n v1 = some R → lv_has ls 2 [(0, .int v0), (1, .int v1)] → zW K A s H locs ([]) → W p l e ({ frames := 0, cells := 0, slots := 0, locals := 0 } : Room) s m ([.int p0] : List Value).toArray below meth c H locs 0 0 Q (F0 m 2 ls []) := by
    intro v0 n
    induction n with
    | zero =>
      intro v1 H locs ls hf hl hh
      rw [fX0_leastFactor_l2] at hf; cases hf
    | succ n ih =>
      intro v1 H locs ls hf hl hh
      rw [fX0_leastFactor_l2] at hf
      refine lv_iload_n hx hb dX0_leastFactor_2 rfl (lv_at hl 1 rfl) ?_
      refine lv_iload_n hx hb dX0_leastFactor_3 rfl (lv_at hl 1 rfl) ?_
      refine lv_imul hx hb dX0_leastFactor_4 ?_
      refine lv_iload_n hx hb dX0_leastFactor_5 rfl (lv_at hl 0 rfl) ?_
      refine lv_icmp_gt (tgt := 23) hx hb dX0_leastFactor_6 (by decide) (fun c1 => ?_) (fun c1 => ?_)
      · replace hf := (if_pos c1).symm.trans hf
        refine lv_iload_n hx hb dX0_leastFactor_23 rfl (lv_at hl 0 rfl) ?_
        exact hr2 24 ls H locs v0 hf dX0_leastFactor_24 hh
      · replace hf := (if_neg c1).symm.trans hf
        refine lv_iload_n hx hb dX0_leastFactor_9 rfl (lv_at hl 0 rfl) ?_
        refine lv_iload_n hx hb dX0_leastFactor_10 rfl (lv_at hl 1 rfl) ?_
        obtain ⟨g2, hf⟩ := ob_gd hf
        refine lv_irem hx hb dX0_leastFactor_11 g2 ?_
        refine lv_if_ne (tgt := 17) hx hb dX0_leastFactor_12 (by decide) (fun c3 => ?_) (fun c3 => ?_)
        · replace hf := (if_neg c3).symm.trans hf
          refine lv_iinc (v := (v1 + (1 : Int32))) (lv' := [(1, .int (v1 + (1 : Int32))), (0, .int v0)]) hx hb dX0_leastFactor_17 hl (k := 1) rfl rfl (by decide) rfl (fun ls hl => ?_)
          refine lv_goto (tgt := 2) hx hb dX0_leastFactor_20 (by decide) ?_
          exact ih (v1 + (1 : Int32)) H locs ls hf (lv_sub hl [1, 0] rfl) hh
        · replace hf := (if_pos c3).symm.trans hf
          refine lv_iload_n hx hb dX0_leastFactor_15 rfl (lv_at hl 1 rfl) ?_
          exact hr2 16 ls H locs v1 hf dX0_leastFactor_16 hh
  unfold fX0_leastFactor at hf
  refine (fun (hmain : ∀ (H : Heap) (locs : List Loc), zW K A s H locs ([]) → W p l e ({ frames := 0, cells := 0, slots := 0, locals := 0 } : Room) s m ([.int p0] : List Value).toArray below meth c H locs 0 0 Q (F0 m 0 ls [])) => hmain s.heap [] hh) (fun H locs hh => ?_)
  refine lv_iconst (v := (2 : Int32)) hx hb dX0_leastFactor_0 (by decide) ?_
  refine lv_istore_n (lv' := [(1, .int (2 : Int32)), (0, .int p0)]) hx hb dX0_leastFactor_1 rfl hl (by decide) rfl (fun ls hl => ?_)
  exact hL2 p0 FU (2 : Int32) H locs ls hf (lv_sub hl [1, 0] rfl) hh
theorem hdX0_splitDown : yX0_splitDown.cls ≠ "java/lang/invoke/MethodHandle" ∧ yX0_splitDown.cls ≠ "java/lang/invoke/VarHandle" ∧ (parseMethodDescriptor yX0_splitDown.desc).map (fun d => d.parameters.length) = some 2 := by decide +kernel
set_option maxHeartbeats 4000000 in
set_option maxRecDepth 100000 in
theorem kX0_splitDown (l : Launch) (K : zK) : ∀ (d : Nat) (p0 : Int32) (p1 : Int32) (R : Int32) (hf : fX0_splitDown d p0 p1 = some R), zC l yX0_splitDown wsX0_splitDown ({ frames := 1 + d, cells := 0, slots := 0, locals := 21 + 22 * d } : Room) K [.int p0, .int p1] ([]) (some (.int R)) ([]) := by
  intro d
  induction d with
  | zero =>
    intro p0 p1 R hf
    rw [fX0_splitDown] at hf; cases hf
  | succ d ih_rec =>
    intro p0 p1 R hf
    rw [fX0_splitDown] at hf
    refine zC_i R (cc := cX0_splitDown) (maxL := 3) (by decide +kernel) rfl (Nat.le_of_ble_eq_true rfl) rfl rfl ?_
    intro p e s m below meth c Q A X hret ls hl hh
    have X : zX p m c cX0_splitDown 3 s ([.int p0, .int p1] : List Value).toArray wsX0_splitDown RX0 K A := X
    have hx := X.1.1
    have hb := X.1.2.1
    have hr2 : ∀ (pc : Nat) (ls : Array Slot) (H : Heap) (locs : List Loc) (v : Int32), some v = some R → decode cX0_splitDown pc = .ok (.ireturn, 1) → zW K A s H locs ([]) → W p l e ({ frames := 1 + (d + 1), cells := 0, slots := 0, locals := 21 + 22 * (d + 1) } : Room) s m ([.int p0, .int p1] : List Value).toArray below meth c H locs 0 0 Q (F0 m pc ls [.int v]) := by
      intro pc ls H locs v h hd hh
      cases h; exact hret pc ls H locs _ rfl hd hh
    have hl : lv_has ls 3 [(0, .int p0), (1, .int p1)] := hl
    have hJ28 : ∀ (v0 : Int32) (v1 : Int32), ∀ (H : Heap) (locs : List Loc) (ls : Array Slot), fX0_splitDown_j28 (fX0_splitDown d) v0 v1 = some R → lv_has ls 3 [(0, .int v0), (1, .int v1)] → zW K A s H locs ([]) → W p l e ({ frames := 1 + (d + 1), cells := 0, slots := 0, locals := 21 + 22 * (d + 1) } : Room) s m ([.int p0, .int p1] : List Value).toArray below meth c H locs 0 0 Q (F0 m 28 ls []) := by
      intro v0 v1 H locs ls hf hl hh
      unfold fX0_splitDown_j28 at hf
      refine lv_iload_n hx hb dX0_splitDown_28 rfl (lv_at hl 0 rfl) ?_
      refine lv_iconst (v := (1 : Int32)) hx hb dX0_splitDown_29 (by decide) ?_
      refine lv_isub hx hb dX0_splitDown_30 ?_
      refine lv_iload_n hx hb dX0_splitDown_31 rfl (lv_at hl 1 rfl) ?_
      refine lv_iconst (v := (1 : Int32)) hx hb dX0_splitDown_32 (by decide) ?_
      refine lv_iadd hx hb dX0_splitDown_33 ?_
      obtain ⟨u1, hu1, hf⟩ := ob_bind hf
      refine zcallS (As := [.int (v0 - (1 : Int32)), .int (v1 + (1 : Int32))]) (rest := []) (wr := []) (ws' := []) (ov := some (.int u1)) X hh hl (ih_rec (v0 - (1 : Int32)) (v1 + (1 : Int32)) u1 hu1) (fun ht => va_cwS 2 ht gX0_splitDown_X0_splitDown rfl rfl rfl hdX0_splitDown ⟨by dsimp only; omega, by dsimp only; omega⟩) [] [] [] rfl rfl rfl rfl (by decide) rfl rfl rfl rfl (Nat.le_of_ble_eq_true rfl) dX0_splitDown_34 ⟨Nat.zero_le _, Nat.zero_le _⟩ (fun H locs hh => ?_)
      refine lv_iconst (v := (1 : Int32)) hx hb dX0_splitDown_37 (by decide) ?_
      refine lv_iadd hx hb dX0_splitDown_38 ?_
      exact hr2 39 ls H locs (u1 + (1 : Int32)) hf dX0_splitDown_39 hh
    unfold fX0_splitDown_e at hf
    refine (fun (hmain : ∀ (H : Heap) (locs : List Loc), zW K A s H locs ([]) → W p l e ({ frames := 1 + (d + 1), cells := 0, slots := 0, locals := 21 + 22 * (d + 1) } : Room) s m ([.int p0, .int p1] : List Value).toArray below meth c H locs 0 0 Q (F0 m 0 ls [])) => hmain s.heap [] hh) (fun H locs hh => ?_)
    refine lv_iload_n hx hb dX0_splitDown_0 rfl (lv_at hl 0 rfl) ?_
    refine lv_iconst (v := (1 : Int32)) hx hb dX0_splitDown_1 (by decide) ?_
    refine lv_icmp_le (tgt := 11) hx hb dX0_splitDown_2 (by decide) (fun c2 => ?_) (fun c2 => ?_)
    · replace hf := (if_pos c2).symm.trans hf
      refine lv_iconst (v := (1 : Int32)) hx hb dX0_splitDown_11 (by decide) ?_
      exact hr2 12 ls H locs (1 : Int32) hf dX0_splitDown_12 hh
    · replace hf := (if_neg c2).symm.trans hf
      refine lv_iload_n hx hb dX0_splitDown_5 rfl (lv_at hl 1 rfl) ?_
      refine lv_bipush (v := (40 : Int32)) hx hb dX0_splitDown_6 (by decide) ?_
      refine lv_icmp_le (tgt := 13) hx hb dX0_splitDown_8 (by decide) (fun c3 => ?_) (fun c3 => ?_)
      · replace hf := (if_pos c3).symm.trans hf
        refine lv_iload_n hx hb dX0_splitDown_13 rfl (lv_at hl 0 rfl) ?_
        obtain ⟨u4, hu4, hf⟩ := ob_bind hf
        refine zcallS (As := [.int p0]) (rest := []) (wr := []) (ws' := []) (ov := some (.int u4)) X hh hl (kX0_leastFactor l K p0 u4 hu4) (fun ht => va_cwS 1 ht gX0_splitDown_X0_leastFactor rfl rfl rfl hdX0_leastFactor ⟨by dsimp only; omega, by dsimp only; omega⟩) [] [] [] rfl rfl rfl rfl (by decide) rfl rfl rfl rfl (Nat.le_of_ble_eq_true rfl) dX0_splitDown_14 ⟨Nat.zero_le _, Nat.zero_le _⟩ (fun H locs hh => ?_)
        refine lv_istore_n (lv' := [(2, .int u4), (0, .int p0), (1, .int p1)]) hx hb dX0_splitDown_17 rfl hl (by decide) rfl (fun ls hl => ?_)
        refine lv_iload_n hx hb dX0_splitDown_18 rfl (lv_at hl 0 rfl) ?_
        refine lv_iconst (v := (2 : Int32)) hx hb dX0_splitDown_19 (by decide) ?_
        refine lv_icmp_lt (tgt := 28) hx hb dX0_splitDown_20 (by decide) (fun c5 => ?_) (fun c5 => ?_)
        · replace hf := (if_pos c5).symm.trans hf
          exact hJ28 p0 p1 H locs ls hf (lv_sub hl [1, 2] rfl) hh
        · replace hf := (if_neg c5).symm.trans hf
          refine lv_iload_n hx hb dX0_splitDown_23 rfl (lv_at hl 0 rfl) ?_
          refine lv_iload_n hx hb dX0_splitDown_24 rfl (lv_at hl 1 rfl) ?_
          refine lv_icmp_ne (tgt := 40) hx hb dX0_splitDown_25 (by decide) (fun c6 => ?_) (fun c6 => ?_)
          · replace hf := (if_neg c6).symm.trans hf
            refine lv_iload_n hx hb dX0_splitDown_40 rfl (lv_at hl 0 rfl) ?_
            refine lv_iload_n hx hb dX0_splitDown_41 rfl (lv_at hl 2 rfl) ?_
            refine lv_iconst (v := (1 : Int32)) hx hb dX0_splitDown_42 (by decide) ?_
            refine lv_iadd hx hb dX0_splitDown_43 ?_
            obtain ⟨u7, hu7, hf⟩ := ob_bind hf
            refine zcallS (As := [.int u4, .int (p1 + (1 : Int32))]) (rest := []) (wr := []) (ws' := []) (ov := some (.int u7)) X hh hl (ih_rec u4 (p1 + (1 : Int32)) u7 hu7) (fun ht => va_cwS 2 ht gX0_splitDown_X0_splitDown rfl rfl rfl hdX0_splitDown ⟨by dsimp only; omega, by dsimp only; omega⟩) [] [] [] rfl rfl rfl rfl (by decide) rfl rfl rfl rfl (Nat.le_of_ble_eq_true rfl) dX0_splitDown_44 ⟨Nat.zero_le _, Nat.zero_le _⟩ (fun H locs hh => ?_)
            refine lv_iload_n hx hb dX0_splitDown_47 rfl (lv_at hl 1 rfl) ?_
            refine lv_iload_n hx hb dX0_splitDown_48 rfl (lv_at hl 0 rfl) ?_
            obtain ⟨g8, hf⟩ := ob_gd hf
            refine lv_idiv hx hb dX0_splitDown_49 g8 ?_
            refine lv_iload_n hx hb dX0_splitDown_50 rfl (lv_at hl 2 rfl) ?_
            refine lv_iconst (v := (1 : Int32)) hx hb dX0_splitDown_51 (by decide) ?_
            refine lv_iadd hx hb dX0_splitDown_52 ?_
            obtain ⟨u9, hu9, hf⟩ := ob_bind hf
            refine zcallS (As := [.int (p0 / u4), .int (p1 + (1 : Int32))]) (rest := [.int u7]) (wr := []) (ws' := []) (ov := some (.int u9)) X hh hl (ih_rec (p0 / u4) (p1 + (1 : Int32)) u9 hu9) (fun ht => va_cwS 2 ht gX0_splitDown_X0_splitDown rfl rfl rfl hdX0_splitDown ⟨by dsimp only; omega, by dsimp only; omega⟩) [] [] [] rfl rfl rfl rfl (by decide) rfl rfl rfl rfl (Nat.le_of_ble_eq_true rfl) dX0_splitDown_53 ⟨Nat.zero_le _, Nat.zero_le _⟩ (fun H locs hh => ?_)
            refine lv_iadd hx hb dX0_splitDown_56 ?_
            refine lv_iconst (v := (1 : Int32)) hx hb dX0_splitDown_57 (by decide) ?_
            refine lv_isub hx hb dX0_splitDown_58 ?_
            exact hr2 59 ls H locs ((u7 + u9) - (1 : Int32)) hf dX0_splitDown_59 hh
          · replace hf := (if_pos c6).symm.trans hf
            exact hJ28 p0 p1 H locs ls hf (lv_sub hl [1, 2] rfl) hh
      · replace hf := (if_neg c3).symm.trans hf
        refine lv_iconst (v := (1 : Int32)) hx hb dX0_splitDown_11 (by decide) ?_
        exact hr2 12 ls H locs (1 : Int32) hf dX0_splitDown_12 hh
theorem hdX0_byFactors : yX0_byFactors.cls ≠ "java/lang/invoke/MethodHandle" ∧ yX0_byFactors.cls ≠ "java/lang/invoke/VarHandle" ∧ (parseMethodDescriptor yX0_byFactors.desc).map (fun d => d.parameters.length) = some 1 := by decide +kernel
set_option maxHeartbeats 4000000 in
set_option maxRecDepth 100000 in
theorem kX0_byFactors (l : Launch) (K : zK) (p0 : Int32) (R : Int32) (hf : fX0_byFactors p0 = some R) : zC l yX0_byFactors wsX0_byFactors ({ frames := 46, cells := 0, slots := 0, locals := 1011 } : Room) K [.int p0] ([]) (some (.int R)) ([]) := by
  refine zC_i R (cc := cX0_byFactors) (maxL := 1) (by decide +kernel) rfl (Nat.le_of_ble_eq_true rfl) rfl rfl ?_
  intro p e s m below meth c Q A X hret ls hl hh
  have X : zX p m c cX0_byFactors 1 s ([.int p0] : List Value).toArray wsX0_byFactors RX0 K A := X
  have hx := X.1.1
  have hb := X.1.2.1
  have hr2 : ∀ (pc : Nat) (ls : Array Slot) (H : Heap) (locs : List Loc) (v : Int32), some v = some R → decode cX0_byFactors pc = .ok (.ireturn, 1) → zW K A s H locs ([]) → W p l e ({ frames := 46, cells := 0, slots := 0, locals := 1011 } : Room) s m ([.int p0] : List Value).toArray below meth c H locs 0 0 Q (F0 m pc ls [.int v]) := by
    intro pc ls H locs v h hd hh
    cases h; exact hret pc ls H locs _ rfl hd hh
  have hl : lv_has ls 1 [(0, .int p0)] := hl
  unfold fX0_byFactors at hf
  refine (fun (hmain : ∀ (H : Heap) (locs : List Loc), zW K A s H locs ([]) → W p l e ({ frames := 46, cells := 0, slots := 0, locals := 1011 } : Room) s m ([.int p0] : List Value).toArray below meth c H locs 0 0 Q (F0 m 0 ls [])) => hmain s.heap [] hh) (fun H locs hh => ?_)
  refine lv_iload_n hx hb dX0_byFactors_0 rfl (lv_at hl 0 rfl) ?_
  refine lv_iconst (v := (0 : Int32)) hx hb dX0_byFactors_1 (by decide) ?_
  obtain ⟨u1, hu1, hf⟩ := ob_bind hf
  refine zcallS (As := [.int p0, .int (0 : Int32)]) (rest := []) (wr := []) (ws' := []) (ov := some (.int u1)) X hh hl (kX0_splitDown l K 44 p0 (0 : Int32) u1 hu1) (fun ht => va_cwS 2 ht gX0_byFactors_X0_splitDown rfl rfl rfl hdX0_splitDown ⟨by decide, by decide⟩) [] [] [] rfl rfl rfl rfl (by decide) rfl rfl rfl rfl (Nat.le_of_ble_eq_true rfl) dX0_byFactors_2 ⟨Nat.zero_le _, Nat.zero_le _⟩ (fun H locs hh => ?_)
  exact hr2 5 ls H locs u1 hf dX0_byFactors_5 hh
theorem hdX1_sumsOf : yX1_sumsOf.cls ≠ "java/lang/invoke/MethodHandle" ∧ yX1_sumsOf.cls ≠ "java/lang/invoke/VarHandle" ∧ (parseMethodDescriptor yX1_sumsOf.desc).map (fun d => d.parameters.length) = some 2 := by decide +kernel
set_option maxHeartbeats 4000000 in
set_option maxRecDepth 100000 in
theorem kX1_sumsOf (l : Launch) (K : zK) (p0 : Int32) (p1 : Int32) (R : Int32) (hf : fX1_sumsOf p0 p1 = some R) : zC l yX1_sumsOf wsX1_sumsOf ({ frames := 0, cells := 0, slots := 0, locals := 0 } : Room) K [.int p0, .int p1] ([]) (some (.int R)) ([]) := by
  refine zC_i R (cc := cX1_sumsOf) (maxL := 4) (by decide +kernel) rfl (Nat.le_of_ble_eq_true rfl) rfl rfl ?_
  intro p e s m below meth c Q A X hret ls hl hh
  have X : zX p m c cX1_sumsOf 4 s ([.int p0, .int p1] : List Value).toArray wsX1_sumsOf RX1 K A := X
  have hx := X.1.1
  have hb := X.1.2.1
  have hr2 : ∀ (pc : Nat) (ls : Array Slot) (H : Heap) (locs : List Loc) (v : Int32), some v = some R → decode cX1_sumsOf pc = .ok (.ireturn, 1) → zW K A s H locs ([]) → W p l e ({ frames := 0, cells := 0, slots := 0, locals := 0 } : Room) s m ([.int p0, .int p1] : List Value).toArray below meth c H locs 0 0 Q (F0 m pc ls [.int v]) := by
    intro pc ls H locs v h hd hh
    cases h; exact hret pc ls H locs _ rfl hd hh
  have hl : lv_has ls 4 [(0, .int p0), (1, .int p1)] := hl
  have hL4 : ∀ (v0 : Int32) (v1 : Int32), ∀ (n : Nat) (v2 : Int32) (v3 : Int32), ∀ (H : Heap) (locs : List Loc) (ls : Array Slot), fX1_sumsOf_l4 v0 v1 n v2 v3 = some R → lv_has ls 4 [(0, .int v0), (1, .int v1), (2, .int v2), (3, .int v3)] → zW K A s H locs ([]) → W p l e ({ frames := 0, cells := 0, slots := 0, locals := 0 } : Room) s m ([.int p0, .int p1] : List Value).toArray below meth c H locs 0 0 Q (F0 m 4 ls []) := by
    intro v0 v1 n
    induction n with
    | zero =>
      intro v2 v3 H locs ls hf hl hh
      rw [fX1_sumsOf_l4] at hf; cases hf
    | succ n ih =>
      intro v2 v3 H locs ls hf hl hh
      rw [fX1_sumsOf_l4] at hf
      refine lv_iload_n hx hb dX1_sumsOf_4 rfl (lv_at hl 3 rfl) ?_
      refine lv_iload_n hx hb dX1_sumsOf_5 rfl (lv_at hl 1 rfl) ?_
      refine lv_icmp_ge (tgt := 30) hx hb dX1_sumsOf_6 (by decide) (fun c1 => ?_) (fun c1 => ?_)
      · replace hf := (if_pos c1).symm.trans hf
        refine lv_iload_n hx hb dX1_sumsOf_30 rfl (lv_at hl 2 rfl) ?_
        exact hr2 31 ls H locs v2 hf dX1_sumsOf_31 hh
      · replace hf := (if_neg c1).symm.trans hf
        refine lv_iload_n hx hb dX1_sumsOf_9 rfl (lv_at hl 0 rfl) ?_
        refine lv_iload_n hx hb dX1_sumsOf_10 rfl (lv_at hl 3 rfl) ?_
        refine lv_ishr hx hb dX1_sumsOf_11 ?_
        refine lv_iconst (v := (1 : Int32)) hx hb dX1_sumsOf_12 (by decide) ?_
        refine lv_iand hx hb dX1_sumsOf_13 ?_
        refine lv_iconst (v := (1 : Int32)) hx hb dX1_sumsOf_14 (by decide) ?_
        refine lv_icmp_ne (tgt := 24) hx hb dX1_sumsOf_15 (by decide) (fun c2 => ?_) (fun c2 => ?_)
        · replace hf := (if_neg c2).symm.trans hf
          refine lv_iinc (v := (v3 + (1 : Int32))) (lv' := [(3, .int (v3 + (1 : Int32))), (0, .int v0), (1, .int v1), (2, .int v2)]) hx hb dX1_sumsOf_24 hl (k := 3) rfl rfl (by decide) rfl (fun ls hl => ?_)
          refine lv_goto (tgt := 4) hx hb dX1_sumsOf_27 (by decide) ?_
          exact ih v2 (v3 + (1 : Int32)) H locs ls hf (lv_sub hl [1, 2, 3, 0] rfl) hh
        · replace hf := (if_pos c2).symm.trans hf
          refine lv_iload_n hx hb dX1_sumsOf_18 rfl (lv_at hl 2 rfl) ?_
          refine lv_iload_n hx hb dX1_sumsOf_19 rfl (lv_at hl 0 rfl) ?_
          refine lv_iload_n hx hb dX1_sumsOf_20 rfl (lv_at hl 3 rfl) ?_
          refine lv_ishl hx hb dX1_sumsOf_21 ?_
          refine lv_ior hx hb dX1_sumsOf_22 ?_
          refine lv_istore_n (lv' := [(2, .int (v2 ||| (v0 <<< (v3 &&& 31)))), (0, .int v0), (1, .int v1), (3, .int v3)]) hx hb dX1_sumsOf_23 rfl hl (by decide) rfl (fun ls hl => ?_)
          refine lv_iinc (v := (v3 + (1 : Int32))) (lv' := [(3, .int (v3 + (1 : Int32))), (2, .int (v2 ||| (v0 <<< (v3 &&& 31)))), (0, .int v0), (1, .int v1)]) hx hb dX1_sumsOf_24 hl (k := 3) rfl rfl (by decide) rfl (fun ls hl => ?_)
          refine lv_goto (tgt := 4) hx hb dX1_sumsOf_27 (by decide) ?_
          exact ih (v2 ||| (v0 <<< (v3 &&& 31))) (v3 + (1 : Int32)) H locs ls hf (lv_sub hl [2, 3, 1, 0] rfl) hh
  unfold fX1_sumsOf at hf
  refine (fun (hmain : ∀ (H : Heap) (locs : List Loc), zW K A s H locs ([]) → W p l e ({ frames := 0, cells := 0, slots := 0, locals := 0 } : Room) s m ([.int p0, .int p1] : List Value).toArray below meth c H locs 0 0 Q (F0 m 0 ls [])) => hmain s.heap [] hh) (fun H locs hh => ?_)
  refine lv_iconst (v := (0 : Int32)) hx hb dX1_sumsOf_0 (by decide) ?_
  refine lv_istore_n (lv' := [(2, .int (0 : Int32)), (0, .int p0), (1, .int p1)]) hx hb dX1_sumsOf_1 rfl hl (by decide) rfl (fun ls hl => ?_)
  refine lv_iconst (v := (1 : Int32)) hx hb dX1_sumsOf_2 (by decide) ?_
  refine lv_istore_n (lv' := [(3, .int (1 : Int32)), (2, .int (0 : Int32)), (0, .int p0), (1, .int p1)]) hx hb dX1_sumsOf_3 rfl hl (by decide) rfl (fun ls hl => ?_)
  exact hL4 p0 p1 FU (0 : Int32) (1 : Int32) H locs ls hf (lv_sub hl [2, 3, 1, 0] rfl) hh
theorem inX1_isWon_X1 : ∀ w ∈ wsX10, w ∈ wsX1_isWon := by decide +kernel
theorem mmX1_isWon_0 : Cond.fieldLink RX1 9 "SumOfTwoThatStand$Game" "wins" "[Z" ∈ wsX1_isWon := by decide +kernel
theorem hdX1_isWon : yX1_isWon.cls ≠ "java/lang/invoke/MethodHandle" ∧ yX1_isWon.cls ≠ "java/lang/invoke/VarHandle" ∧ (parseMethodDescriptor yX1_isWon.desc).map (fun d => d.parameters.length) = some 2 := by decide +kernel
set_option maxHeartbeats 4000000 in
set_option maxRecDepth 100000 in
theorem kX1_isWon (l : Launch) (K : zK) (a0 a1 : Nat) (S : zGm) (p1 : Int32) (p2 : Int32) (R : Int32) (hf : fX1_isWon S p1 p2 = some R) : zC l yX1_isWon wsX1_isWon ({ frames := 1, cells := 0, slots := 0, locals := 23 } : Room) K [.ref a0, .int p1, .int p2] (cGm K a0 a1 S) (some (.int R)) (cGm K a0 a1 S) := by
  refine zC_z .boolean R (cc := cX1_isWon) (maxL := 6) (by decide +kernel) rfl (Nat.le_of_ble_eq_true rfl) rfl rfl ?_
  intro p e s m below meth c Q A X hret ls hl hh
  have X : zX p m c cX1_isWon 6 s ([.ref a0, .int p1, .int p2] : List Value).toArray wsX1_isWon RX1 K A := X
  have hx := X.1.1
  have hb := X.1.2.1
  have hr2 : ∀ (pc : Nat) (ls : Array Slot) (H : Heap) (locs : List Loc) (v : Int32), some v = some R → narrow .boolean (.int v) = .int v → decode cX1_isWon pc = .ok (.ireturn, 1) → zW K A s H locs (cGm K a0 a1 S) → W p l e ({ frames := 1, cells := 0, slots := 0, locals := 23 } : Room) s m ([.ref a0, .int p1, .int p2] : List Value).toArray below meth c H locs 0 0 Q (F0 m pc ls [.int v]) := by
    intro pc ls H locs v h hn hd hh
    cases h; exact hret pc ls H locs _ rfl hn hd hh
  have hl : lv_has ls 6 [(0, .ref a0), (1, .int p1), (2, .int p2)] := hl
  have hL24 : ∀ (v1 : Int32) (v2 : Int32) (v3 : Int32), ∀ (n : Nat) (v4 : Int32), ∀ (H : Heap) (locs : List Loc) (ls : Array Slot), fX1_isWon_l24 S v1 v2 v3 n v4 = some R → lv_has ls 6 [(0, .ref a0), (1, .int v1), (2, .int v2), (3, .int v3), (4, .int v4)] → zW K A s H locs (cGm K a0 a1 S) → W p l e ({ frames := 1, cells := 0, slots := 0, locals := 23 } : Room) s m ([.ref a0, .int p1, .int p2] : List Value).toArray below meth c H locs 0 0 Q (F0 m 24 ls []) := by
    intro v1 v2 v3 n
    induction n with
    | zero =>
      intro v4 H locs ls hf hl hh
      rw [fX1_isWon_l24] at hf; cases hf
    | succ n ih =>
      intro v4 H locs ls hf hl hh
      rw [fX1_isWon_l24] at hf
      refine lv_iload hx hb dX1_isWon_24 (lv_at hl 4 rfl) ?_
      refine lv_iload_n hx hb dX1_isWon_26 rfl (lv_at hl 2 rfl) ?_
      refine lv_icmp_ge (tgt := 78) hx hb dX1_isWon_27 (by decide) (fun c1 => ?_) (fun c1 => ?_)
      · replace hf := (if_pos c1).symm.trans hf
        refine lv_iconst (v := (0 : Int32)) hx hb dX1_isWon_78 (by decide) ?_
        exact hr2 79 ls H locs (0 : Int32) hf rfl dX1_isWon_79 hh
      · replace hf := (if_neg c1).symm.trans hf
        refine lv_iload_n hx hb dX1_isWon_30 rfl (lv_at hl 1 rfl) ?_
        refine lv_iconst (v := (1 : Int32)) hx hb dX1_isWon_31 (by decide) ?_
        refine lv_iload hx hb dX1_isWon_32 (lv_at hl 4 rfl) ?_
        refine lv_ishl hx hb dX1_isWon_34 ?_
        refine lv_ior hx hb dX1_isWon_35 ?_
        refine lv_iconst (v := (2 : Int32)) hx hb dX1_isWon_36 (by decide) ?_
        refine lv_ishr hx hb dX1_isWon_37 ?_
        refine lv_istore (lv' := [(5, .int ((v1 ||| ((1 : Int32) <<< (v4 &&& 31))) >>> ((2 : Int32) &&& 31))), (0, .ref a0), (1, .int v1), (2, .int v2), (3, .int v3), (4, .int v4)]) hx hb dX1_isWon_38 hl (by decide) rfl (fun ls hl => ?_)
        refine lv_iload_n hx hb dX1_isWon_40 rfl (lv_at hl 4 rfl) ?_
        refine lv_iload hx hb dX1_isWon_41 (lv_at hl 5 rfl) ?_
        refine lv_ishr hx hb dX1_isWon_43 ?_
        refine lv_iconst (v := (1 : Int32)) hx hb dX1_isWon_44 (by decide) ?_
        refine lv_iand hx hb dX1_isWon_45 ?_
        refine lv_iconst (v := (1 : Int32)) hx hb dX1_isWon_46 (by decide) ?_
        refine lv_icmp_ne (tgt := 72) hx hb dX1_isWon_47 (by decide) (fun c2 => ?_) (fun c2 => ?_)
        · replace hf := (if_neg c2).symm.trans hf
          refine lv_iinc (v := (v4 + (1 : Int32))) (lv' := [(4, .int (v4 + (1 : Int32))), (5, .int ((v1 ||| ((1 : Int32) <<< (v4 &&& 31))) >>> ((2 : Int32) &&& 31))), (0, .ref a0), (1, .int v1), (2, .int v2), (3, .int v3)]) hx hb dX1_isWon_72 hl (k := 5) rfl rfl (by decide) rfl (fun ls hl => ?_)
          refine lv_goto (tgt := 24) hx hb dX1_isWon_75 (by decide) ?_
          exact ih (v4 + (1 : Int32)) H locs ls hf (lv_sub hl [2, 3, 4, 5, 0] rfl) hh
        · replace hf := (if_pos c2).symm.trans hf
          refine lv_iload hx hb dX1_isWon_50 (lv_at hl 0 rfl) ?_
          refine lv_aload_n hx hb dX1_isWon_52 rfl (lv_at hl 1 rfl) ?_
          refine zget (v := .ref a1) (ref := "SumOfTwoThatStand$Game") (C := RX1) (T := TX1) (N := 1) (index := 9) X hh inX1_isWon_X1 0 rfl rfl 0 (by decide) mmX1_isWon_0 rfl rfl dX1_isWon_53 ?_
          refine zalenZ (v := (1024 : Int32)) X hh 1 rfl rfl dX1_isWon_56 ?_
          refine lv_icmp_ge (tgt := 72) hx hb dX1_isWon_57 (by decide) (fun c3 => ?_) (fun c3 => ?_)
          · replace hf := (if_pos c3).symm.trans hf
            refine lv_iinc (v := (v4 + (1 : Int32))) (lv' := [(4, .int (v4 + (1 : Int32))), (5, .int ((v1 ||| ((1 : Int32) <<< (v4 &&& 31))) >>> ((2 : Int32) &&& 31))), (0, .ref a0), (1, .int v1), (2, .int v2), (3, .int v3)]) hx hb dX1_isWon_72 hl (k := 5) rfl rfl (by decide) rfl (fun ls hl => ?_)
            refine lv_goto (tgt := 24) hx hb dX1_isWon_75 (by decide) ?_
            exact ih (v4 + (1 : Int32)) H locs ls hf (lv_sub hl [2, 3, 4, 5, 0] rfl) hh
          · replace hf := (if_neg c3).symm.trans hf
            refine lv_aload_n hx hb dX1_isWon_60 rfl (lv_at hl 1 rfl) ?_
            refine zget (v := .ref a1) (ref := "SumOfTwoThatStand$Game") (C := RX1) (T := TX1) (N := 1) (index := 9) X hh inX1_isWon_X1 0 rfl rfl 0 (by decide) mmX1_isWon_0 rfl rfl dX1_isWon_61 ?_
            refine lv_iload hx hb dX1_isWon_64 (lv_at hl 0 rfl) ?_
            obtain ⟨g4, hf⟩ := ob_ix hf
            refine zzald (f := (gm_wins S)) X hh 1 rfl g4 dX1_isWon_66 ?_
            refine lv_if_ne (tgt := 72) hx hb dX1_isWon_67 (by decide) (fun c5 => ?_) (fun c5 => ?_)
            · replace hf := (if_neg c5).symm.trans hf
              refine lv_iinc (v := (v4 + (1 : Int32))) (lv' := [(4, .int (v4 + (1 : Int32))), (5, .int ((v1 ||| ((1 : Int32) <<< (v4 &&& 31))) >>> ((2 : Int32) &&& 31))), (0, .ref a0), (1, .int v1), (2, .int v2), (3, .int v3)]) hx hb dX1_isWon_72 hl (k := 5) rfl rfl (by decide) rfl (fun ls hl => ?_)
              refine lv_goto (tgt := 24) hx hb dX1_isWon_75 (by decide) ?_
              exact ih (v4 + (1 : Int32)) H locs ls hf (lv_sub hl [2, 3, 4, 5, 0] rfl) hh
            · replace hf := (if_pos c5).symm.trans hf
              refine lv_iconst (v := (1 : Int32)) hx hb dX1_isWon_70 (by decide) ?_
              exact hr2 71 ls H locs (1 : Int32) hf rfl dX1_isWon_71 hh
  unfold fX1_isWon at hf
  refine (fun (hmain : ∀ (H : Heap) (locs : List Loc), zW K A s H locs (cGm K a0 a1 S) → W p l e ({ frames := 1, cells := 0, slots := 0, locals := 23 } : Room) s m ([.ref a0, .int p1, .int p2] : List Value).toArray below meth c H locs 0 0 Q (F0 m 0 ls [])) => hmain s.heap [] hh) (fun H locs hh => ?_)
  refine lv_iload_n hx hb dX1_isWon_0 rfl (lv_at hl 1 rfl) ?_
  refine lv_iload_n hx hb dX1_isWon_1 rfl (lv_at hl 2 rfl) ?_
  obtain ⟨u6, hu6, hf⟩ := ob_bind hf
  refine zcallS (As := [.int p1, .int p2]) (rest := []) (wr := cGm K a0 a1 S) (ws' := cGm K a0 a1 S) (ov := some (.int u6)) X hh hl (kX1_sumsOf l K p1 p2 u6 hu6) (fun ht => va_cwS 2 ht gX1_isWon_X1_sumsOf rfl rfl rfl hdX1_sumsOf ⟨Nat.le_of_ble_eq_true rfl, Nat.le_of_ble_eq_true rfl⟩) [] [0, 1] [0, 1] rfl rfl rfl rfl (by decide) rfl rfl rfl rfl (Nat.le_of_ble_eq_true rfl) dX1_isWon_2 ⟨Nat.zero_le _, Nat.zero_le _⟩ (fun H locs hh => ?_)
  refine lv_iload_n hx hb dX1_isWon_5 rfl (lv_at hl 1 rfl) ?_
  refine lv_iconst (v := (-1 : Int32)) hx hb dX1_isWon_6 (by decide) ?_
  refine lv_ixor hx hb dX1_isWon_7 ?_
  refine lv_iand hx hb dX1_isWon_8 ?_
  refine lv_istore_n (lv' := [(3, .int (u6 &&& (p1 ^^^ (-1 : Int32)))), (0, .ref a0), (1, .int p1), (2, .int p2)]) hx hb dX1_isWon_9 rfl hl (by decide) rfl (fun ls hl => ?_)
  refine lv_iload_n hx hb dX1_isWon_10 rfl (lv_at hl 0 rfl) ?_
  refine lv_iload_n hx hb dX1_isWon_11 rfl (lv_at hl 3 rfl) ?_
  refine lv_ishr hx hb dX1_isWon_12 ?_
  refine lv_iconst (v := (1 : Int32)) hx hb dX1_isWon_13 (by decide) ?_
  refine lv_iand hx hb dX1_isWon_14 ?_
  refine lv_iconst (v := (1 : Int32)) hx hb dX1_isWon_15 (by decide) ?_
  refine lv_icmp_ne (tgt := 21) hx hb dX1_isWon_16 (by decide) (fun c7 => ?_) (fun c7 => ?_)
  · replace hf := (if_neg c7).symm.trans hf
    refine lv_iconst (v := (2 : Int32)) hx hb dX1_isWon_21 (by decide) ?_
    refine lv_istore (lv' := [(4, .int (2 : Int32)), (3, .int (u6 &&& (p1 ^^^ (-1 : Int32)))), (0, .ref a0), (1, .int p1), (2, .int p2)]) hx hb dX1_isWon_22 hl (by decide) rfl (fun ls hl => ?_)
    exact hL24 p1 p2 (u6 &&& (p1 ^^^ (-1 : Int32))) FU (2 : Int32) H locs ls hf (lv_sub hl [2, 3, 4, 1, 0] rfl) hh
  · replace hf := (if_pos c7).symm.trans hf
    refine lv_iconst (v := (1 : Int32)) hx hb dX1_isWon_19 (by decide) ?_
    exact hr2 20 ls H locs (1 : Int32) hf rfl dX1_isWon_20 hh
theorem inX1_isWonByFirst_X1 : ∀ w ∈ wsX10, w ∈ wsX1_isWonByFirst := by decide +kernel
theorem mmX1_isWonByFirst_0 : Cond.fieldLink RX1 9 "SumOfTwoThatStand$Game" "wins" "[Z" ∈ wsX1_isWonByFirst := by decide +kernel
theorem hdX1_isWonByFirst : yX1_isWonByFirst.cls ≠ "java/lang/invoke/MethodHandle" ∧ yX1_isWonByFirst.cls ≠ "java/lang/invoke/VarHandle" ∧ (parseMethodDescriptor yX1_isWonByFirst.desc).map (fun d => d.parameters.length) = some 1 := by decide +kernel
set_option maxHeartbeats 4000000 in
set_option maxRecDepth 100000 in
theorem kX1_isWonByFirst (l : Launch) (K : zK) (a0 a1 : Nat) (S : zGm) (p1 : Int32) (R : Int32 × zGm) (hf : fX1_isWonByFirst S p1 = some R) : zC l yX1_isWonByFirst wsX1_isWonByFirst ({ frames := 2, cells := 0, slots := 0, locals := 48 } : Room) K [.ref a0, .int p1] (cGm K a0 a1 S) (some (.int R.1)) (cGm K a0 a1 R.2) := by
  refine zC_z .boolean R.1 (cc := cX1_isWonByFirst) (maxL := 3) (by decide +kernel) rfl (Nat.le_of_ble_eq_true rfl) rfl rfl ?_
  intro p e s m below meth c Q A X hret ls hl hh
  have X : zX p m c cX1_isWonByFirst 3 s ([.ref a0, .int p1] : List Value).toArray wsX1_isWonByFirst RX1 K A := X
  have hx := X.1.1
  have hb := X.1.2.1
  have hr2 : ∀ (pc : Nat) (ls : Array Slot) (H : Heap) (locs : List Loc) (v : Int32) (S : zGm), some (v, S) = some R → narrow .boolean (.int v) = .int v → decode cX1_isWonByFirst pc = .ok (.ireturn, 1) → zW K A s H locs (cGm K a0 a1 S) → W p l e ({ frames := 2, cells := 0, slots := 0, locals := 48 } : Room) s m ([.ref a0, .int p1] : List Value).toArray below meth c H locs 0 0 Q (F0 m pc ls [.int v]) := by
    intro pc ls H locs v S h hn hd hh
    cases h; exact hret pc ls H locs _ rfl hn hd hh
  have hl : lv_has ls 3 [(0, .ref a0), (1, .int p1)] := hl
  have hL21 : ∀ (v1 : Int32), ∀ (n : Nat) (v2 : Int32) (S : zGm), ∀ (H : Heap) (locs : List Loc) (ls : Array Slot), fX1_isWonByFirst_l21 v1 n v2 S = some R → lv_has ls 3 [(0, .ref a0), (1, .int v1), (2, .int v2)] → zW K A s H locs (cGm K a0 a1 S) → W p l e ({ frames := 2, cells := 0, slots := 0, locals := 48 } : Room) s m ([.ref a0, .int p1] : List Value).toArray below meth c H locs 0 0 Q (F0 m 21 ls []) := by
    intro v1 n
    induction n with
    | zero =>
      intro v2 S H locs ls hf hl hh
      rw [fX1_isWonByFirst_l21] at hf; cases hf
    | succ n ih =>
      intro v2 S H locs ls hf hl hh
      rw [fX1_isWonByFirst_l21] at hf
      refine lv_iload_n hx hb dX1_isWonByFirst_21 rfl (lv_at hl 2 rfl) ?_
      refine lv_if_lt (tgt := 47) hx hb dX1_isWonByFirst_22 (by decide) (fun c1 => ?_) (fun c1 => ?_)
      · replace hf := (if_pos c1).symm.trans hf
        refine lv_aload_n hx hb dX1_isWonByFirst_47 rfl (lv_at hl 0 rfl) ?_
        refine zget (v := .ref a1) (ref := "SumOfTwoThatStand$Game") (C := RX1) (T := TX1) (N := 1) (index := 9) X hh inX1_isWonByFirst_X1 0 rfl rfl 0 (by decide) mmX1_isWonByFirst_0 rfl rfl dX1_isWonByFirst_48 ?_
        refine lv_iconst (v := (0 : Int32)) hx hb dX1_isWonByFirst_51 (by decide) ?_
        obtain ⟨g2, hf⟩ := ob_ix hf
        refine zzald (f := (gm_wins S)) X hh 1 rfl g2 dX1_isWonByFirst_52 ?_
        obtain ⟨g3, hf⟩ := ob_ck hf
        exact hr2 53 ls H locs ((gm_wins S) (0 : Int32).toNatClampNeg) S hf (nar_ok g3) dX1_isWonByFirst_53 hh
      · replace hf := (if_neg c1).symm.trans hf
        refine lv_aload_n hx hb dX1_isWonByFirst_25 rfl (lv_at hl 0 rfl) ?_
        refine zget (v := .ref a1) (ref := "SumOfTwoThatStand$Game") (C := RX1) (T := TX1) (N := 1) (index := 9) X hh inX1_isWonByFirst_X1 0 rfl rfl 0 (by decide) mmX1_isWonByFirst_0 rfl rfl dX1_isWonByFirst_26 ?_
        refine lv_iload_n hx hb dX1_isWonByFirst_29 rfl (lv_at hl 2 rfl) ?_
        refine lv_aload_n hx hb dX1_isWonByFirst_30 rfl (lv_at hl 0 rfl) ?_
        refine lv_iload_n hx hb dX1_isWonByFirst_31 rfl (lv_at hl 2 rfl) ?_
        refine lv_iconst (v := (2 : Int32)) hx hb dX1_isWonByFirst_32 (by decide) ?_
        refine lv_ishl hx hb dX1_isWonByFirst_33 ?_
        refine lv_iconst (v := (2 : Int32)) hx hb dX1_isWonByFirst_34 (by decide) ?_
        refine lv_ior hx hb dX1_isWonByFirst_35 ?_
        refine lv_iload_n hx hb dX1_isWonByFirst_36 rfl (lv_at hl 1 rfl) ?_
        obtain ⟨u4, hu4, hf⟩ := ob_bind hf
        refine zcallV (ci := 1) (q0 := 0) (As := [.int ((v2 <<< ((2 : Int32) &&& 31)) ||| (2 : Int32)), .int v1]) (rest := [.int v2, .ref a1]) (wr := []) (ws' := cGm K a0 a1 S) (ov := some (.int u4)) X hh hl (kX1_isWon l K a0 a1 S ((v2 <<< ((2 : Int32) &&& 31)) ||| (2 : Int32)) v1 u4 hu4) (fun ht => cwV 2 ht gX1_isWonByFirst_X1_isWon rfl rfl rfl ⟨rfl, hdX1_isWon⟩ ⟨Nat.le_of_ble_eq_true rfl, Nat.le_of_ble_eq_true rfl⟩) [0, 1] [] [0, 1] rfl rfl rfl rfl (by decide) rfl rfl rfl rfl rfl rfl (Nat.le_of_ble_eq_true rfl) dX1_isWonByFirst_37 ⟨Nat.zero_le _, Nat.zero_le _⟩ (fun H locs hh => ?_)
        obtain ⟨g5, hf⟩ := ob_ix hf
        refine zzast (f := (gm_wins S)) X hh 1 rfl g5 dX1_isWonByFirst_40 (fun H locs hh => ?_)
        have hh : zW K A s H locs (cGm K a0 a1 (gm_set_wins S (upd (gm_wins S) v2.toNatClampNeg (u4 &&& 1)))) := hh
        refine lv_iinc (v := (v2 + (-1 : Int32))) (lv' := [(2, .int (v2 + (-1 : Int32))), (0, .ref a0), (1, .int v1)]) hx hb dX1_isWonByFirst_41 hl (k := 2) rfl rfl (by decide) rfl (fun ls hl => ?_)
        refine lv_goto (tgt := 21) hx hb dX1_isWonByFirst_44 (by decide) ?_
        exact ih (v2 + (-1 : Int32)) (gm_set_wins S (upd (gm_wins S) v2.toNatClampNeg (u4 &&& 1))) H locs ls hf (lv_sub hl [1, 2, 0] rfl) hh
  unfold fX1_isWonByFirst at hf
  refine (fun (hmain : ∀ (H : Heap) (locs : List Loc), zW K A s H locs (cGm K a0 a1 S) → W p l e ({ frames := 2, cells := 0, slots := 0, locals := 48 } : Room) s m ([.ref a0, .int p1] : List Value).toArray below meth c H locs 0 0 Q (F0 m 0 ls [])) => hmain s.heap [] hh) (fun H locs hh => ?_)
  refine lv_iload_n hx hb dX1_isWonByFirst_0 rfl (lv_at hl 1 rfl) ?_
  refine lv_iconst (v := (2 : Int32)) hx hb dX1_isWonByFirst_1 (by decide) ?_
  refine lv_icmp_lt (tgt := 11) hx hb dX1_isWonByFirst_2 (by decide) (fun c6 => ?_) (fun c6 => ?_)
  · replace hf := (if_pos c6).symm.trans hf
    refine lv_iconst (v := (0 : Int32)) hx hb dX1_isWonByFirst_11 (by decide) ?_
    exact hr2 12 ls H locs (0 : Int32) S hf rfl dX1_isWonByFirst_12 hh
  · replace hf := (if_neg c6).symm.trans hf
    refine lv_iload_n hx hb dX1_isWonByFirst_5 rfl (lv_at hl 1 rfl) ?_
    refine lv_bipush (v := (12 : Int32)) hx hb dX1_isWonByFirst_6 (by decide) ?_
    refine lv_icmp_le (tgt := 13) hx hb dX1_isWonByFirst_8 (by decide) (fun c7 => ?_) (fun c7 => ?_)
    · replace hf := (if_pos c7).symm.trans hf
      refine lv_iconst (v := (1 : Int32)) hx hb dX1_isWonByFirst_13 (by decide) ?_
      refine lv_iload_n hx hb dX1_isWonByFirst_14 rfl (lv_at hl 1 rfl) ?_
      refine lv_iconst (v := (2 : Int32)) hx hb dX1_isWonByFirst_15 (by decide) ?_
      refine lv_isub hx hb dX1_isWonByFirst_16 ?_
      refine lv_ishl hx hb dX1_isWonByFirst_17 ?_
      refine lv_iconst (v := (1 : Int32)) hx hb dX1_isWonByFirst_18 (by decide) ?_
      refine lv_isub hx hb dX1_isWonByFirst_19 ?_
      refine lv_istore_n (lv' := [(2, .int (((1 : Int32) <<< ((p1 - (2 : Int32)) &&& 31)) - (1 : Int32))), (0, .ref a0), (1, .int p1)]) hx hb dX1_isWonByFirst_20 rfl hl (by decide) rfl (fun ls hl => ?_)
      exact hL21 p1 FU (((1 : Int32) <<< ((p1 - (2 : Int32)) &&& 31)) - (1 : Int32)) S H locs ls hf (lv_sub hl [1, 2, 0] rfl) hh
    · replace hf := (if_neg c7).symm.trans hf
      refine lv_iconst (v := (0 : Int32)) hx hb dX1_isWonByFirst_11 (by decide) ?_
      exact hr2 12 ls H locs (0 : Int32) S hf rfl dX1_isWonByFirst_12 hh
theorem inX3_letNextCome_X3 : ∀ w ∈ wsX30, w ∈ wsX3_letNextCome := by decide +kernel
theorem mmX3_letNextCome_0 : Cond.fieldLink RX3 9 "SumOfTwoThatStand$Orders" "ways" "[I" ∈ wsX3_letNextCome := by decide +kernel
theorem hdX3_letNextCome : yX3_letNextCome.cls ≠ "java/lang/invoke/MethodHandle" ∧ yX3_letNextCome.cls ≠ "java/lang/invoke/VarHandle" ∧ (parseMethodDescriptor yX3_letNextCome.desc).map (fun d => d.parameters.length) = some 3 := by decide +kernel
set_option maxHeartbeats 4000000 in
set_option maxRecDepth 100000 in
theorem kX3_letNextCome (l : Launch) (K : zK) (a0 a1 b0 b1 b2 b3 b4 b5 b6 b7 : Nat) (S : zOr) (T : zSt) (p2 : Int32) (p3 : Int32) (R : zOr) (hf : fX3_letNextCome S T p2 p3 = some R) : zC l yX3_letNextCome wsX3_letNextCome ({ frames := 4, cells := 0, slots := 0, locals := 84 } : Room) K [.ref a0, .ref b0, .int p2, .int p3] (cOr K a0 a1 S ++ cSt K b0 b1 b2 b3 b4 b5 b6 b7 T) none (cOr K a0 a1 R ++ cSt K b0 b1 b2 b3 b4 b5 b6 b7 T) := by
  refine zC_v (cc := cX3_letNextCome) (maxL := 8) (by decide +kernel) rfl (Nat.le_of_ble_eq_true rfl) rfl rfl ?_
  intro p e s m below meth c Q A X hret ls hl hh
  have X : zX p m c cX3_letNextCome 8 s ([.ref a0, .ref b0, .int p2, .int p3] : List Value).toArray wsX3_letNextCome RX3 K A := X
  have hx := X.1.1
  have hb := X.1.2.1
  have hr2 : ∀ (pc : Nat) (ls : Array Slot) (H : Heap) (locs : List Loc) (S : zOr), some S = some R → decode cX3_letNextCome pc = .ok (.return_, 1) → zW K A s H locs (cOr K a0 a1 S ++ cSt K b0 b1 b2 b3 b4 b5 b6 b7 T) → W p l e ({ frames := 4, cells := 0, slots := 0, locals := 84 } : Room) s m ([.ref a0, .ref b0, .int p2, .int p3] : List Value).toArray below meth c H locs 0 0 Q (F0 m pc ls []) := by
    intro pc ls H locs S h hd hh
    cases h; exact hret pc ls H locs hd hh
  have hl : lv_has ls 8 [(0, .ref a0), (1, .ref b0), (2, .int p2), (3, .int p3)] := hl
  have hJ46 : ∀ (v2 : Int32) (v4 : Int32) (v5 : Int32) (t0 : Int32) (S : zOr) (k10 : (Int32) → (zOr) → Option (zOr)), (∀ (v5 : Int32) (S : zOr) (H : Heap) (locs : List Loc) (ls : Array Slot), k10 v5 S = some R → lv_has ls 8 [(0, .ref a0), (1, .ref b0), (2, .int v2), (4, .int v4), (5, .int v5)] → zW K A s H locs (cOr K a0 a1 S ++ cSt K b0 b1 b2 b3 b4 b5 b6 b7 T) → W p l e ({ frames := 4, cells := 0, slots := 0, locals := 84 } : Room) s m ([.ref a0, .ref b0, .int p2, .int p3] : List Value).toArray below meth c H locs 0 0 Q (F0 m 10 ls [])) → ∀ (H : Heap) (locs : List Loc) (ls : Array Slot), fX3_letNextCome_j46 T v2 v4 v5 t0 S k10 = some R → lv_has ls 8 [(0, .ref a0), (1, .ref b0), (2, .int v2), (4, .int v4), (5, .int v5)] → zW K A s H locs (cOr K a0 a1 S ++ cSt K b0 b1 b2 b3 b4 b5 b6 b7 T) → W p l e ({ frames := 4, cells := 0, slots := 0, locals := 84 } : Room) s m ([.ref a0, .ref b0, .int p2, .int p3] : List Value).toArray below meth c H locs 0 0 Q (F0 m 46 ls [.int t0]) := by
    intro v2 v4 v5 t0 S k10 hk10 H locs ls hf hl hh
    unfold fX3_letNextCome_j46 at hf
    refine lv_istore (lv' := [(6, .int t0), (0, .ref a0), (1, .ref b0), (2, .int v2), (4, .int v4), (5, .int v5)]) hx hb dX3_letNextCome_46 hl (by decide) rfl (fun ls hl => ?_)
    refine lv_iload_n hx hb dX3_letNextCome_48 rfl (lv_at hl 3 rfl) ?_
    refine lv_iconst (v := (1 : Int32)) hx hb dX3_letNextCome_49 (by decide) ?_
    refine lv_iload hx hb dX3_letNextCome_50 (lv_at hl 5 rfl) ?_
    refine lv_ishl hx hb dX3_letNextCome_52 ?_
    refine lv_ior hx hb dX3_letNextCome_53 ?_
    refine lv_istore (lv' := [(7, .int (v2 ||| ((1 : Int32) <<< (v5 &&& 31)))), (6, .int t0), (0, .ref a0), (1, .ref b0), (2, .int v2), (4, .int v4), (5, .int v5)]) hx hb dX3_letNextCome_54 hl (by decide) rfl (fun ls hl => ?_)
    refine lv_iload hx hb dX3_letNextCome_56 (lv_at hl 1 rfl) ?_
    refine lv_if_eq (tgt := 87) hx hb dX3_letNextCome_58 (by decide) (fun c1 => ?_) (fun c1 => ?_)
    · replace hf := (if_pos c1).symm.trans hf
      refine lv_iinc (v := (v5 + (1 : Int32))) (lv' := [(5, .int (v5 + (1 : Int32))), (7, .int (v2 ||| ((1 : Int32) <<< (v5 &&& 31)))), (6, .int t0), (0, .ref a0), (1, .ref b0), (2, .int v2), (4, .int v4)]) hx hb dX3_letNextCome_87 hl (k := 6) rfl rfl (by decide) rfl (fun ls hl => ?_)
      refine lv_goto (tgt := 10) hx hb dX3_letNextCome_90 (by decide) ?_
      exact hk10 (v5 + (1 : Int32)) S H locs ls hf (lv_sub hl [3, 4, 5, 6, 0] rfl) hh
    · replace hf := (if_neg c1).symm.trans hf
      refine lv_iload hx hb dX3_letNextCome_61 (lv_at hl 0 rfl) ?_
      refine lv_aload_n hx hb dX3_letNextCome_63 rfl (lv_at hl 2 rfl) ?_
      refine zget (v := .ref a1) (ref := "SumOfTwoThatStand$Orders") (C := RX3) (T := TX3) (N := 1) (index := 9) X hh inX3_letNextCome_X3 0 rfl rfl 0 (by decide) mmX3_letNextCome_0 rfl rfl dX3_letNextCome_64 ?_
      refine zalenI (v := (4096 : Int32)) X hh 1 rfl rfl dX3_letNextCome_67 ?_
      refine lv_icmp_ge (tgt := 87) hx hb dX3_letNextCome_68 (by decide) (fun c2 => ?_) (fun c2 => ?_)
      · replace hf := (if_pos c2).symm.trans hf
        refine lv_iinc (v := (v5 + (1 : Int32))) (lv' := [(5, .int (v5 + (1 : Int32))), (7, .int (v2 ||| ((1 : Int32) <<< (v5 &&& 31)))), (6, .int t0), (0, .ref a0), (1, .ref b0), (2, .int v2), (4, .int v4)]) hx hb dX3_letNextCome_87 hl (k := 6) rfl rfl (by decide) rfl (fun ls hl => ?_)
        refine lv_goto (tgt := 10) hx hb dX3_letNextCome_90 (by decide) ?_
        exact hk10 (v5 + (1 : Int32)) S H locs ls hf (lv_sub hl [3, 4, 5, 6, 0] rfl) hh
      · replace hf := (if_neg c2).symm.trans hf
        refine lv_aload_n hx hb dX3_letNextCome_71 rfl (lv_at hl 2 rfl) ?_
        refine zget (v := .ref a1) (ref := "SumOfTwoThatStand$Orders") (C := RX3) (T := TX3) (N := 1) (index := 9) X hh inX3_letNextCome_X3 0 rfl rfl 0 (by decide) mmX3_letNextCome_0 rfl rfl dX3_letNextCome_72 ?_
        refine lv_iload hx hb dX3_letNextCome_75 (lv_at hl 0 rfl) ?_
        refine lv_dup2_11 hx hb dX3_letNextCome_77 rfl rfl ?_
        obtain ⟨g3, hf⟩ := ob_ix hf
        refine ziald (f := (or_ways S)) X hh 1 rfl g3 dX3_letNextCome_78 ?_
        refine lv_aload_n hx hb dX3_letNextCome_79 rfl (lv_at hl 2 rfl) ?_
        refine zget (v := .ref a1) (ref := "SumOfTwoThatStand$Orders") (C := RX3) (T := TX3) (N := 1) (index := 9) X hh inX3_letNextCome_X3 0 rfl rfl 0 (by decide) mmX3_letNextCome_0 rfl rfl dX3_letNextCome_80 ?_
        refine lv_iload_n hx hb dX3_letNextCome_83 rfl (lv_at hl 4 rfl) ?_
        obtain ⟨g4, hf⟩ := ob_ix hf
        refine ziald (f := (or_ways S)) X hh 1 rfl g4 dX3_letNextCome_84 ?_
        refine lv_iadd hx hb dX3_letNextCome_85 ?_
        refine ziast (f := (or_ways S)) X hh 1 rfl g3 dX3_letNextCome_86 (fun H locs hh => ?_)
        have hh : zW K A s H locs (cOr K a0 a1 (or_set_ways S (upd (or_ways S) (v2 ||| ((1 : Int32) <<< (v5 &&& 31))).toNatClampNeg (((or_ways S) (v2 ||| ((1 : Int32) <<< (v5 &&& 31))).toNatClampNeg) + ((or_ways S) v2.toNatClampNeg)))) ++ cSt K b0 b1 b2 b3 b4 b5 b6 b7 T) := hh
        refine lv_iinc (v := (v5 + (1 : Int32))) (lv' := [(5, .int (v5 + (1 : Int32))), (7, .int (v2 ||| ((1 : Int32) <<< (v5 &&& 31)))), (6, .int t0), (0, .ref a0), (1, .ref b0), (2, .int v2), (4, .int v4)]) hx hb dX3_letNextCome_87 hl (k := 6) rfl rfl (by decide) rfl (fun ls hl => ?_)
        refine lv_goto (tgt := 10) hx hb dX3_letNextCome_90 (by decide) ?_
        exact hk10 (v5 + (1 : Int32)) (or_set_ways S (upd (or_ways S) (v2 ||| ((1 : Int32) <<< (v5 &&& 31))).toNatClampNeg (((or_ways S) (v2 ||| ((1 : Int32) <<< (v5 &&& 31))).toNatClampNeg) + ((or_ways S) v2.toNatClampNeg)))) H locs ls hf (lv_sub hl [3, 4, 5, 6, 0] rfl) hh
  have hJ45 : ∀ (v2 : Int32) (v4 : Int32) (v5 : Int32) (S : zOr) (k10 : (Int32) → (zOr) → Option (zOr)), (∀ (v5 : Int32) (S : zOr) (H : Heap) (locs : List Loc) (ls : Array Slot), k10 v5 S = some R → lv_has ls 8 [(0, .ref a0), (1, .ref b0), (2, .int v2), (4, .int v4), (5, .int v5)] → zW K A s H locs (cOr K a0 a1 S ++ cSt K b0 b1 b2 b3 b4 b5 b6 b7 T) → W p l e ({ frames := 4, cells := 0, slots := 0, locals := 84 } : Room) s m ([.ref a0, .ref b0, .int p2, .int p3] : List Value).toArray below meth c H locs 0 0 Q (F0 m 10 ls [])) → ∀ (H : Heap) (locs : List Loc) (ls : Array Slot), fX3_letNextCome_j45 T v2 v4 v5 S k10 = some R → lv_has ls 8 [(0, .ref a0), (1, .ref b0), (2, .int v2), (4, .int v4), (5, .int v5)] → zW K A s H locs (cOr K a0 a1 S ++ cSt K b0 b1 b2 b3 b4 b5 b6 b7 T) → W p l e ({ frames := 4, cells := 0, slots := 0, locals := 84 } : Room) s m ([.ref a0, .ref b0, .int p2, .int p3] : List Value).toArray below meth c H locs 0 0 Q (F0 m 45 ls []) := by
    intro v2 v4 v5 S k10 hk10 H locs ls hf hl hh
    unfold fX3_letNextCome_j45 at hf
    refine lv_iconst (v := (0 : Int32)) hx hb dX3_letNextCome_45 (by decide) ?_
    exact hJ46 v2 v4 v5 (0 : Int32) S (k10) (hk10) H locs ls hf (lv_sub hl [0, 1, 2, 3, 4] rfl) hh
  have hL10 : ∀ (v2 : Int32) (v4 : Int32), ∀ (n : Nat) (v5 : Int32) (S : zOr), ∀ (H : Heap) (locs : List Loc) (ls : Array Slot), fX3_letNextCome_l10 T v2 v4 n v5 S = some R → lv_has ls 8 [(0, .ref a0), (1, .ref b0), (2, .int v2), (4, .int v4), (5, .int v5)] → zW K A s H locs (cOr K a0 a1 S ++ cSt K b0 b1 b2 b3 b4 b5 b6 b7 T) → W p l e ({ frames := 4, cells := 0, slots := 0, locals := 84 } : Room) s m ([.ref a0, .ref b0, .int p2, .int p3] : List Value).toArray below meth c H locs 0 0 Q (F0 m 10 ls []) := by
    intro v2 v4 n
    induction n with
    | zero =>
      intro v5 S H locs ls hf hl hh
      rw [fX3_letNextCome_l10] at hf; cases hf
    | succ n ih =>
      intro v5 S H locs ls hf hl hh
      rw [fX3_letNextCome_l10] at hf
      refine lv_iload hx hb dX3_letNextCome_10 (lv_at hl 4 rfl) ?_
      refine lv_bipush (v := (12 : Int32)) hx hb dX3_letNextCome_12 (by decide) ?_
      refine lv_icmp_ge (tgt := 93) hx hb dX3_letNextCome_14 (by decide) (fun c5 => ?_) (fun c5 => ?_)
      · replace hf := (if_pos c5).symm.trans hf
        exact hr2 93 ls H locs S hf dX3_letNextCome_93 hh
      · replace hf := (if_neg c5).symm.trans hf
        refine lv_iload hx hb dX3_letNextCome_17 (lv_at hl 3 rfl) ?_
        refine lv_iload hx hb dX3_letNextCome_19 (lv_at hl 4 rfl) ?_
        refine lv_ishr hx hb dX3_letNextCome_21 ?_
        refine lv_iconst (v := (1 : Int32)) hx hb dX3_letNextCome_22 (by decide) ?_
        refine lv_iand hx hb dX3_letNextCome_23 ?_
        refine lv_iconst (v := (1 : Int32)) hx hb dX3_letNextCome_24 (by decide) ?_
        refine lv_icmp_ne (tgt := 45) hx hb dX3_letNextCome_25 (by decide) (fun c6 => ?_) (fun c6 => ?_)
        · replace hf := (if_neg c6).symm.trans hf
          exact hJ45 v2 v4 v5 S (fX3_letNextCome_l10 T v2 v4 n) (ih) H locs ls hf (lv_sub hl [0, 1, 2, 3, 4] rfl) hh
        · replace hf := (if_pos c6).symm.trans hf
          refine lv_aload_n hx hb dX3_letNextCome_28 rfl (lv_at hl 1 rfl) ?_
          refine lv_iload hx hb dX3_letNextCome_29 (lv_at hl 4 rfl) ?_
          obtain ⟨u7, hu7, hf⟩ := ob_bind hf
          refine zcallV (ci := 5) (q0 := 2) (As := [.int v5]) (rest := []) (wr := zsel (cOr K a0 a1 S ++ cSt K b0 b1 b2 b3 b4 b5 b6 b7 T) [0, 1]) (ws' := cOr K a0 a1 S ++ cSt K b0 b1 b2 b3 b4 b5 b6 b7 T) (ov := some (.int u7)) X hh hl (kX5_aheadOf l K b0 b1 b2 b3 b4 b5 b6 b7 T v5 u7 hu7) (fun ht => cwV 1 ht gX3_letNextCome_X5_aheadOf rfl rfl rfl ⟨rfl, hdX5_aheadOf⟩ ⟨Nat.le_of_ble_eq_true rfl, Nat.le_of_ble_eq_true rfl⟩) [2, 3, 4, 5, 6, 7, 8, 9] [0, 1] [0, 1, 2, 3, 4, 5, 6, 7, 8, 9] rfl rfl rfl rfl (by decide) rfl rfl rfl rfl rfl rfl (Nat.le_of_ble_eq_true rfl) dX3_letNextCome_31 ⟨Nat.zero_le _, Nat.zero_le _⟩ (fun H locs hh => ?_)
          refine lv_iload_n hx hb dX3_letNextCome_34 rfl (lv_at hl 2 rfl) ?_
          refine lv_iconst (v := (-1 : Int32)) hx hb dX3_letNextCome_35 (by decide) ?_
          refine lv_ixor hx hb dX3_letNextCome_36 ?_
          refine lv_iand hx hb dX3_letNextCome_37 ?_
          refine lv_if_ne (tgt := 45) hx hb dX3_letNextCome_38 (by decide) (fun c8 => ?_) (fun c8 => ?_)
          · replace hf := (if_neg c8).symm.trans hf
            exact hJ45 v2 v4 v5 S (fX3_letNextCome_l10 T v2 v4 n) (ih) H locs ls hf (lv_sub hl [0, 1, 2, 3, 4] rfl) hh
          · replace hf := (if_pos c8).symm.trans hf
            refine lv_iconst (v := (1 : Int32)) hx hb dX3_letNextCome_41 (by decide) ?_
            refine lv_goto (tgt := 46) hx hb dX3_letNextCome_42 (by decide) ?_
            exact hJ46 v2 v4 v5 (1 : Int32) S (fX3_letNextCome_l10 T v2 v4 n) (ih) H locs ls hf (lv_sub hl [0, 1, 2, 3, 4] rfl) hh
  unfold fX3_letNextCome at hf
  refine (fun (hmain : ∀ (H : Heap) (locs : List Loc), zW K A s H locs (cOr K a0 a1 S ++ cSt K b0 b1 b2 b3 b4 b5 b6 b7 T) → W p l e ({ frames := 4, cells := 0, slots := 0, locals := 84 } : Room) s m ([.ref a0, .ref b0, .int p2, .int p3] : List Value).toArray below meth c H locs 0 0 Q (F0 m 0 ls [])) => hmain s.heap [] hh) (fun H locs hh => ?_)
  refine lv_iload_n hx hb dX3_letNextCome_0 rfl (lv_at hl 3 rfl) ?_
  refine lv_iload_n hx hb dX3_letNextCome_1 rfl (lv_at hl 2 rfl) ?_
  refine lv_iconst (v := (-1 : Int32)) hx hb dX3_letNextCome_2 (by decide) ?_
  refine lv_ixor hx hb dX3_letNextCome_3 ?_
  refine lv_iand hx hb dX3_letNextCome_4 ?_
  refine lv_istore (lv' := [(4, .int (p3 &&& (p2 ^^^ (-1 : Int32)))), (0, .ref a0), (1, .ref b0), (2, .int p2), (3, .int p3)]) hx hb dX3_letNextCome_5 hl (by decide) rfl (fun ls hl => ?_)
  refine lv_iconst (v := (0 : Int32)) hx hb dX3_letNextCome_7 (by decide) ?_
  refine lv_istore (lv' := [(5, .int (0 : Int32)), (4, .int (p3 &&& (p2 ^^^ (-1 : Int32)))), (0, .ref a0), (1, .ref b0), (2, .int p2), (3, .int p3)]) hx hb dX3_letNextCome_8 hl (by decide) rfl (fun ls hl => ?_)
  exact hL10 p2 (p3 &&& (p2 ^^^ (-1 : Int32))) FU (0 : Int32) S H locs ls hf (lv_sub hl [2, 3, 4, 1, 0] rfl) hh
theorem inX3_of_X3 : ∀ w ∈ wsX30, w ∈ wsX3_of := by decide +kernel
theorem mmX3_of_0 : Cond.fieldLink RX3 9 "SumOfTwoThatStand$Orders" "ways" "[I" ∈ wsX3_of := by decide +kernel
theorem hdX3_of : yX3_of.cls ≠ "java/lang/invoke/MethodHandle" ∧ yX3_of.cls ≠ "java/lang/invoke/VarHandle" ∧ (parseMethodDescriptor yX3_of.desc).map (fun d => d.parameters.length) = some 1 := by decide +kernel
set_option maxHeartbeats 4000000 in
set_option maxRecDepth 100000 in
theorem kX3_of (l : Launch) (K : zK) (a0 a1 b0 b1 b2 b3 b4 b5 b6 b7 : Nat) (S : zOr) (T : zSt) (R : Int32 × zOr) (hf : fX3_of S T = some R) : zC l yX3_of wsX3_of ({ frames := 5, cells := 0, slots := 0, locals := 111 } : Room) K [.ref a0, .ref b0] (cOr K a0 a1 S ++ cSt K b0 b1 b2 b3 b4 b5 b6 b7 T) (some (.int R.1)) (cOr K a0 a1 R.2 ++ cSt K b0 b1 b2 b3 b4 b5 b6 b7 T) := by
  refine zC_i R.1 (cc := cX3_of) (maxL := 4) (by decide +kernel) rfl (Nat.le_of_ble_eq_true rfl) rfl rfl ?_
  intro p e s m below meth c Q A X hret ls hl hh
  have X : zX p m c cX3_of 4 s ([.ref a0, .ref b0] : List Value).toArray wsX3_of RX3 K A := X
  have hx := X.1.1
  have hb := X.1.2.1
  have hr2 : ∀ (pc : Nat) (ls : Array Slot) (H : Heap) (locs : List Loc) (v : Int32) (S : zOr), some (v, S) = some R → decode cX3_of pc = .ok (.ireturn, 1) → zW K A s H locs (cOr K a0 a1 S ++ cSt K b0 b1 b2 b3 b4 b5 b6 b7 T) → W p l e ({ frames := 5, cells := 0, slots := 0, locals := 111 } : Room) s m ([.ref a0, .ref b0] : List Value).toArray below meth c H locs 0 0 Q (F0 m pc ls [.int v]) := by
    intro pc ls H locs v S h hd hh
    cases h; exact hret pc ls H locs _ rfl hd hh
  have hl : lv_has ls 4 [(0, .ref a0), (1, .ref b0)] := hl
  have hL42 : ∀ (v2 : Int32), ∀ (n : Nat) (v3 : Int32) (S : zOr), ∀ (H : Heap) (locs : List Loc) (ls : Array Slot), fX3_of_l42 T v2 n v3 S = some R → lv_has ls 4 [(0, .ref a0), (1, .ref b0), (2, .int v2), (3, .int v3)] → zW K A s H locs (cOr K a0 a1 S ++ cSt K b0 b1 b2 b3 b4 b5 b6 b7 T) → W p l e ({ frames := 5, cells := 0, slots := 0, locals := 111 } : Room) s m ([.ref a0, .ref b0] : List Value).toArray below meth c H locs 0 0 Q (F0 m 42 ls []) := by
    intro v2 n
    induction n with
    | zero =>
      intro v3 S H locs ls hf hl hh
      rw [fX3_of_l42] at hf; cases hf
    | succ n ih =>
      intro v3 S H locs ls hf hl hh
      rw [fX3_of_l42] at hf
      refine lv_iload_n hx hb dX3_of_42 rfl (lv_at hl 3 rfl) ?_
      refine lv_iload_n hx hb dX3_of_43 rfl (lv_at hl 2 rfl) ?_
      refine lv_icmp_ge (tgt := 69) hx hb dX3_of_44 (by decide) (fun c1 => ?_) (fun c1 => ?_)
      · replace hf := (if_pos c1).symm.trans hf
        refine lv_aload_n hx hb dX3_of_69 rfl (lv_at hl 0 rfl) ?_
        refine zget (v := .ref a1) (ref := "SumOfTwoThatStand$Orders") (C := RX3) (T := TX3) (N := 1) (index := 9) X hh inX3_of_X3 0 rfl rfl 0 (by decide) mmX3_of_0 rfl rfl dX3_of_70 ?_
        refine lv_iload_n hx hb dX3_of_73 rfl (lv_at hl 2 rfl) ?_
        obtain ⟨g2, hf⟩ := ob_ix hf
        refine ziald (f := (or_ways S)) X hh 1 rfl g2 dX3_of_74 ?_
        exact hr2 75 ls H locs ((or_ways S) v2.toNatClampNeg) S hf dX3_of_75 hh
      · replace hf := (if_neg c1).symm.trans hf
        refine lv_aload_n hx hb dX3_of_47 rfl (lv_at hl 0 rfl) ?_
        refine zget (v := .ref a1) (ref := "SumOfTwoThatStand$Orders") (C := RX3) (T := TX3) (N := 1) (index := 9) X hh inX3_of_X3 0 rfl rfl 0 (by decide) mmX3_of_0 rfl rfl dX3_of_48 ?_
        refine lv_iload_n hx hb dX3_of_51 rfl (lv_at hl 3 rfl) ?_
        obtain ⟨g3, hf⟩ := ob_ix hf
        refine ziald (f := (or_ways S)) X hh 1 rfl g3 dX3_of_52 ?_
        refine lv_if_le (tgt := 63) hx hb dX3_of_53 (by decide) (fun c4 => ?_) (fun c4 => ?_)
        · replace hf := (if_pos c4).symm.trans hf
          refine lv_iinc (v := (v3 + (1 : Int32))) (lv' := [(3, .int (v3 + (1 : Int32))), (0, .ref a0), (1, .ref b0), (2, .int v2)]) hx hb dX3_of_63 hl (k := 3) rfl rfl (by decide) rfl (fun ls hl => ?_)
          refine lv_goto (tgt := 42) hx hb dX3_of_66 (by decide) ?_
          exact ih (v3 + (1 : Int32)) S H locs ls hf (lv_sub hl [1, 2, 3, 0] rfl) hh
        · replace hf := (if_neg c4).symm.trans hf
          refine lv_aload_n hx hb dX3_of_56 rfl (lv_at hl 0 rfl) ?_
          refine lv_aload_n hx hb dX3_of_57 rfl (lv_at hl 1 rfl) ?_
          refine lv_iload_n hx hb dX3_of_58 rfl (lv_at hl 3 rfl) ?_
          refine lv_iload_n hx hb dX3_of_59 rfl (lv_at hl 2 rfl) ?_
          obtain ⟨u5, hu5, hf⟩ := ob_bind hf
          refine zcallV (ci := 3) (q0 := 0) (As := [.ref b0, .int v3, .int v2]) (rest := []) (wr := []) (ws' := cOr K a0 a1 u5 ++ cSt K b0 b1 b2 b3 b4 b5 b6 b7 T) (ov := none) X hh hl (kX3_letNextCome l K a0 a1 b0 b1 b2 b3 b4 b5 b6 b7 S T v3 v2 u5 hu5) (fun ht => cwV 3 ht gX3_of_X3_letNextCome rfl rfl rfl ⟨rfl, hdX3_letNextCome⟩ ⟨Nat.le_of_ble_eq_true rfl, Nat.le_of_ble_eq_true rfl⟩) [0, 1, 2, 3, 4, 5, 6, 7, 8, 9] [] [0, 1, 2, 3, 4, 5, 6, 7, 8, 9] rfl rfl rfl rfl (by decide) rfl rfl rfl rfl rfl rfl (Nat.le_of_ble_eq_true rfl) dX3_of_60 ⟨Nat.zero_le _, Nat.zero_le _⟩ (fun H locs hh => ?_)
          refine lv_iinc (v := (v3 + (1 : Int32))) (lv' := [(3, .int (v3 + (1 : Int32))), (0, .ref a0), (1, .ref b0), (2, .int v2)]) hx hb dX3_of_63 hl (k := 3) rfl rfl (by decide) rfl (fun ls hl => ?_)
          refine lv_goto (tgt := 42) hx hb dX3_of_66 (by decide) ?_
          exact ih (v3 + (1 : Int32)) u5 H locs ls hf (lv_sub hl [1, 2, 3, 0] rfl) hh
  have hL15 : ∀ (v2 : Int32), ∀ (n : Nat) (v3 : Int32) (S : zOr), ∀ (H : Heap) (locs : List Loc) (ls : Array Slot), fX3_of_l15 T v2 n v3 S = some R → lv_has ls 4 [(0, .ref a0), (1, .ref b0), (2, .int v2), (3, .int v3)] → zW K A s H locs (cOr K a0 a1 S ++ cSt K b0 b1 b2 b3 b4 b5 b6 b7 T) → W p l e ({ frames := 5, cells := 0, slots := 0, locals := 111 } : Room) s m ([.ref a0, .ref b0] : List Value).toArray below meth c H locs 0 0 Q (F0 m 15 ls []) := by
    intro v2 n
    induction n with
    | zero =>
      intro v3 S H locs ls hf hl hh
      rw [fX3_of_l15] at hf; cases hf
    | succ n ih =>
      intro v3 S H locs ls hf hl hh
      rw [fX3_of_l15] at hf
      refine lv_iload_n hx hb dX3_of_15 rfl (lv_at hl 3 rfl) ?_
      refine lv_iload_n hx hb dX3_of_16 rfl (lv_at hl 2 rfl) ?_
      refine lv_icmp_gt (tgt := 33) hx hb dX3_of_17 (by decide) (fun c6 => ?_) (fun c6 => ?_)
      · replace hf := (if_pos c6).symm.trans hf
        refine lv_aload_n hx hb dX3_of_33 rfl (lv_at hl 0 rfl) ?_
        refine zget (v := .ref a1) (ref := "SumOfTwoThatStand$Orders") (C := RX3) (T := TX3) (N := 1) (index := 9) X hh inX3_of_X3 0 rfl rfl 0 (by decide) mmX3_of_0 rfl rfl dX3_of_34 ?_
        refine lv_iconst (v := (0 : Int32)) hx hb dX3_of_37 (by decide) ?_
        refine lv_iconst (v := (1 : Int32)) hx hb dX3_of_38 (by decide) ?_
        obtain ⟨g7, hf⟩ := ob_ix hf
        refine ziast (f := (or_ways S)) X hh 1 rfl g7 dX3_of_39 (fun H locs hh => ?_)
        have hh : zW K A s H locs (cOr K a0 a1 (or_set_ways S (upd (or_ways S) (0 : Int32).toNatClampNeg (1 : Int32))) ++ cSt K b0 b1 b2 b3 b4 b5 b6 b7 T) := hh
        refine lv_iconst (v := (0 : Int32)) hx hb dX3_of_40 (by decide) ?_
        refine lv_istore_n (lv' := [(3, .int (0 : Int32)), (0, .ref a0), (1, .ref b0), (2, .int v2)]) hx hb dX3_of_41 rfl hl (by decide) rfl (fun ls hl => ?_)
        exact hL42 v2 FU (0 : Int32) (or_set_ways S (upd (or_ways S) (0 : Int32).toNatClampNeg (1 : Int32))) H locs ls hf (lv_sub hl [1, 2, 3, 0] rfl) hh
      · replace hf := (if_neg c6).symm.trans hf
        refine lv_aload_n hx hb dX3_of_20 rfl (lv_at hl 0 rfl) ?_
        refine zget (v := .ref a1) (ref := "SumOfTwoThatStand$Orders") (C := RX3) (T := TX3) (N := 1) (index := 9) X hh inX3_of_X3 0 rfl rfl 0 (by decide) mmX3_of_0 rfl rfl dX3_of_21 ?_
        refine lv_iload_n hx hb dX3_of_24 rfl (lv_at hl 3 rfl) ?_
        refine lv_iconst (v := (0 : Int32)) hx hb dX3_of_25 (by decide) ?_
        obtain ⟨g8, hf⟩ := ob_ix hf
        refine ziast (f := (or_ways S)) X hh 1 rfl g8 dX3_of_26 (fun H locs hh => ?_)
        have hh : zW K A s H locs (cOr K a0 a1 (or_set_ways S (upd (or_ways S) v3.toNatClampNeg (0 : Int32))) ++ cSt K b0 b1 b2 b3 b4 b5 b6 b7 T) := hh
        refine lv_iinc (v := (v3 + (1 : Int32))) (lv' := [(3, .int (v3 + (1 : Int32))), (0, .ref a0), (1, .ref b0), (2, .int v2)]) hx hb dX3_of_27 hl (k := 3) rfl rfl (by decide) rfl (fun ls hl => ?_)
        refine lv_goto (tgt := 15) hx hb dX3_of_30 (by decide) ?_
        exact ih (v3 + (1 : Int32)) (or_set_ways S (upd (or_ways S) v3.toNatClampNeg (0 : Int32))) H locs ls hf (lv_sub hl [1, 2, 3, 0] rfl) hh
  unfold fX3_of at hf
  refine (fun (hmain : ∀ (H : Heap) (locs : List Loc), zW K A s H locs (cOr K a0 a1 S ++ cSt K b0 b1 b2 b3 b4 b5 b6 b7 T) → W p l e ({ frames := 5, cells := 0, slots := 0, locals := 111 } : Room) s m ([.ref a0, .ref b0] : List Value).toArray below meth c H locs 0 0 Q (F0 m 0 ls [])) => hmain s.heap [] hh) (fun H locs hh => ?_)
  refine lv_aload_n hx hb dX3_of_0 rfl (lv_at hl 1 rfl) ?_
  refine zcallV (ci := 5) (q0 := 2) (As := []) (rest := []) (wr := zsel (cOr K a0 a1 S ++ cSt K b0 b1 b2 b3 b4 b5 b6 b7 T) [0, 1]) (ws' := cOr K a0 a1 S ++ cSt K b0 b1 b2 b3 b4 b5 b6 b7 T) (ov := some (.int (fX5_standingBits T))) X hh hl (kX5_standingBits l K b0 b1 b2 b3 b4 b5 b6 b7 T (fX5_standingBits T) rfl) (fun ht => cwV 0 ht gX3_of_X5_standingBits rfl rfl rfl ⟨rfl, hdX5_standingBits⟩ ⟨Nat.le_of_ble_eq_true rfl, Nat.le_of_ble_eq_true rfl⟩) [2, 3, 4, 5, 6, 7, 8, 9] [0, 1] [0, 1, 2, 3, 4, 5, 6, 7, 8, 9] rfl rfl rfl rfl (by decide) rfl rfl rfl rfl rfl rfl (Nat.le_of_ble_eq_true rfl) dX3_of_1 ⟨Nat.zero_le _, Nat.zero_le _⟩ (fun H locs hh => ?_)
  refine lv_aload_n hx hb dX3_of_4 rfl (lv_at hl 0 rfl) ?_
  refine zget (v := .ref a1) (ref := "SumOfTwoThatStand$Orders") (C := RX3) (T := TX3) (N := 1) (index := 9) X hh inX3_of_X3 0 rfl rfl 0 (by decide) mmX3_of_0 rfl rfl dX3_of_5 ?_
  refine zalenI (v := (4096 : Int32)) X hh 1 rfl rfl dX3_of_8 ?_
  refine lv_iconst (v := (1 : Int32)) hx hb dX3_of_9 (by decide) ?_
  refine lv_isub hx hb dX3_of_10 ?_
  refine lv_iand hx hb dX3_of_11 ?_
  refine lv_istore_n (lv' := [(2, .int ((fX5_standingBits T) &&& ((4096 : Int32) - (1 : Int32)))), (0, .ref a0), (1, .ref b0)]) hx hb dX3_of_12 rfl hl (by decide) rfl (fun ls hl => ?_)
  refine lv_iconst (v := (0 : Int32)) hx hb dX3_of_13 (by decide) ?_
  refine lv_istore_n (lv' := [(3, .int (0 : Int32)), (2, .int ((fX5_standingBits T) &&& ((4096 : Int32) - (1 : Int32)))), (0, .ref a0), (1, .ref b0)]) hx hb dX3_of_14 rfl hl (by decide) rfl (fun ls hl => ?_)
  exact hL15 ((fX5_standingBits T) &&& ((4096 : Int32) - (1 : Int32))) FU (0 : Int32) S H locs ls hf (lv_sub hl [2, 3, 1, 0] rfl) hh
theorem hdX4_isNew : yX4_isNew.cls ≠ "java/lang/invoke/MethodHandle" ∧ yX4_isNew.cls ≠ "java/lang/invoke/VarHandle" ∧ (parseMethodDescriptor yX4_isNew.desc).map (fun d => d.parameters.length) = some 1 := by decide +kernel
set_option maxHeartbeats 4000000 in
set_option maxRecDepth 100000 in
theorem kX4_isNew (l : Launch) (K : zK) (a0 a1 : Nat) (S : zRw) (p1 : Int32) (R : Int32) (hf : fX4_isNew S p1 = some R) : zC l yX4_isNew wsX4_isNew ({ frames := 1, cells := 0, slots := 0, locals := 21 } : Room) K [.ref a0, .int p1] (cRw K a0 a1 S) (some (.int R)) (cRw K a0 a1 S) := by
  refine zC_z .boolean R (cc := cX4_isNew) (maxL := 3) (by decide +kernel) rfl (Nat.le_of_ble_eq_true rfl) rfl rfl ?_
  intro p e s m below meth c Q A X hret ls hl hh
  have X : zX p m c cX4_isNew 3 s ([.ref a0, .int p1] : List Value).toArray wsX4_isNew RX4 K A := X
  have hx := X.1.1
  have hb := X.1.2.1
  have hr2 : ∀ (pc : Nat) (ls : Array Slot) (H : Heap) (locs : List Loc) (v : Int32), some v = some R → narrow .boolean (.int v) = .int v → decode cX4_isNew pc = .ok (.ireturn, 1) → zW K A s H locs (cRw K a0 a1 S) → W p l e ({ frames := 1, cells := 0, slots := 0, locals := 21 } : Room) s m ([.ref a0, .int p1] : List Value).toArray below meth c H locs 0 0 Q (F0 m pc ls [.int v]) := by
    intro pc ls H locs v h hn hd hh
    cases h; exact hret pc ls H locs _ rfl hn hd hh
  have hl : lv_has ls 3 [(0, .ref a0), (1, .int p1)] := hl
  have hL2 : ∀ (v1 : Int32), ∀ (n : Nat) (v2 : Int32), ∀ (H : Heap) (locs : List Loc) (ls : Array Slot), fX4_isNew_l2 S v1 n v2 = some R → lv_has ls 3 [(0, .ref a0), (1, .int v1), (2, .int v2)] → zW K A s H locs (cRw K a0 a1 S) → W p l e ({ frames := 1, cells := 0, slots := 0, locals := 21 } : Room) s m ([.ref a0, .int p1] : List Value).toArray below meth c H locs 0 0 Q (F0 m 2 ls []) := by
    intro v1 n
    induction n with
    | zero =>
      intro v2 H locs ls hf hl hh
      rw [fX4_isNew_l2] at hf; cases hf
    | succ n ih =>
      intro v2 H locs ls hf hl hh
      rw [fX4_isNew_l2] at hf
      refine lv_iload_n hx hb dX4_isNew_2 rfl (lv_at hl 2 rfl) ?_
      refine lv_iload_n hx hb dX4_isNew_3 rfl (lv_at hl 1 rfl) ?_
      refine lv_icmp_ge (tgt := 28) hx hb dX4_isNew_4 (by decide) (fun c1 => ?_) (fun c1 => ?_)
      · replace hf := (if_pos c1).symm.trans hf
        refine lv_iconst (v := (1 : Int32)) hx hb dX4_isNew_28 (by decide) ?_
        exact hr2 29 ls H locs (1 : Int32) hf rfl dX4_isNew_29 hh
      · replace hf := (if_neg c1).symm.trans hf
        refine lv_aload_n hx hb dX4_isNew_7 rfl (lv_at hl 0 rfl) ?_
        refine lv_iload_n hx hb dX4_isNew_8 rfl (lv_at hl 2 rfl) ?_
        obtain ⟨u2, hu2, hf⟩ := ob_bind hf
        refine zcallU (owner := "SumOfTwoThatStand$Told") (x := ⟨"SumOfTwoThatStand$Row", "toldAt", "(I)I"⟩) (ci := 4) (q0 := 0) (As := [.int v2]) (rest := []) (wr := []) (ws' := cRw K a0 a1 S) (ov := some (.int u2)) X hh hl (kX6_toldAt_R l K a0 a1 S v2 u2 hu2) (fun ht => va_cwU 1 ht gX4_isNew_X6_toldAt_u15X4 rfl rfl rfl rfl hdX6_toldAt ⟨Nat.le_of_ble_eq_true rfl, Nat.le_of_ble_eq_true rfl⟩) [0, 1] [] [0, 1] rfl rfl rfl rfl (by decide) rfl rfl rfl rfl rfl rfl (Nat.le_of_ble_eq_true rfl) dX4_isNew_9 ⟨Nat.zero_le _, Nat.zero_le _⟩ (fun H locs hh => ?_)
        refine lv_aload_n hx hb dX4_isNew_12 rfl (lv_at hl 0 rfl) ?_
        refine lv_iload_n hx hb dX4_isNew_13 rfl (lv_at hl 1 rfl) ?_
        obtain ⟨u3, hu3, hf⟩ := ob_bind hf
        refine zcallU (owner := "SumOfTwoThatStand$Told") (x := ⟨"SumOfTwoThatStand$Row", "toldAt", "(I)I"⟩) (ci := 4) (q0 := 0) (As := [.int v1]) (rest := [.int u2]) (wr := []) (ws' := cRw K a0 a1 S) (ov := some (.int u3)) X hh hl (kX6_toldAt_R l K a0 a1 S v1 u3 hu3) (fun ht => va_cwU 1 ht gX4_isNew_X6_toldAt_u15X4 rfl rfl rfl rfl hdX6_toldAt ⟨Nat.le_of_ble_eq_true rfl, Nat.le_of_ble_eq_true rfl⟩) [0, 1] [] [0, 1] rfl rfl rfl rfl (by decide) rfl rfl rfl rfl rfl rfl (Nat.le_of_ble_eq_true rfl) dX4_isNew_14 ⟨Nat.zero_le _, Nat.zero_le _⟩ (fun H locs hh => ?_)
        refine lv_icmp_ne (tgt := 22) hx hb dX4_isNew_17 (by decide) (fun c4 => ?_) (fun c4 => ?_)
        · replace hf := (if_neg c4).symm.trans hf
          refine lv_iinc (v := (v2 + (1 : Int32))) (lv' := [(2, .int (v2 + (1 : Int32))), (0, .ref a0), (1, .int v1)]) hx hb dX4_isNew_22 hl (k := 2) rfl rfl (by decide) rfl (fun ls hl => ?_)
          refine lv_goto (tgt := 2) hx hb dX4_isNew_25 (by decide) ?_
          exact ih (v2 + (1 : Int32)) H locs ls hf (lv_sub hl [1, 2, 0] rfl) hh
        · replace hf := (if_pos c4).symm.trans hf
          refine lv_iconst (v := (0 : Int32)) hx hb dX4_isNew_20 (by decide) ?_
          exact hr2 21 ls H locs (0 : Int32) hf rfl dX4_isNew_21 hh
  unfold fX4_isNew at hf
  refine (fun (hmain : ∀ (H : Heap) (locs : List Loc), zW K A s H locs (cRw K a0 a1 S) → W p l e ({ frames := 1, cells := 0, slots := 0, locals := 21 } : Room) s m ([.ref a0, .int p1] : List Value).toArray below meth c H locs 0 0 Q (F0 m 0 ls [])) => hmain s.heap [] hh) (fun H locs hh => ?_)
  refine lv_iconst (v := (0 : Int32)) hx hb dX4_isNew_0 (by decide) ?_
  refine lv_istore_n (lv' := [(2, .int (0 : Int32)), (0, .ref a0), (1, .int p1)]) hx hb dX4_isNew_1 rfl hl (by decide) rfl (fun ls hl => ?_)
  exact hL2 p1 FU (0 : Int32) H locs ls hf (lv_sub hl [1, 2, 0] rfl) hh
theorem hdX4_isSum : yX4_isSum.cls ≠ "java/lang/invoke/MethodHandle" ∧ yX4_isSum.cls ≠ "java/lang/invoke/VarHandle" ∧ (parseMethodDescriptor yX4_isSum.desc).map (fun d => d.parameters.length) = some 1 := by decide +kernel
set_option maxHeartbeats 4000000 in
set_option maxRecDepth 100000 in
theorem kX4_isSum (l : Launch) (K : zK) (a0 a1 : Nat) (S : zRw) (p1 : Int32) (R : Int32) (hf : fX4_isSum S p1 = some R) : zC l yX4_isSum wsX4_isSum ({ frames := 1, cells := 0, slots := 0, locals := 21 } : Room) K [.ref a0, .int p1] (cRw K a0 a1 S) (some (.int R)) (cRw K a0 a1 S) := by
  refine zC_z .boolean R (cc := cX4_isSum) (maxL := 4) (by decide +kernel) rfl (Nat.le_of_ble_eq_true rfl) rfl rfl ?_
  intro p e s m below meth c Q A X hret ls hl hh
  have X : zX p m c cX4_isSum 4 s ([.ref a0, .int p1] : List Value).toArray wsX4_isSum RX4 K A := X
  have hx := X.1.1
  have hb := X.1.2.1
  have hr2 : ∀ (pc : Nat) (ls : Array Slot) (H : Heap) (locs : List Loc) (v : Int32), some v = some R → narrow .boolean (.int v) = .int v → decode cX4_isSum pc = .ok (.ireturn, 1) → zW K A s H locs (cRw K a0 a1 S) → W p l e ({ frames := 1, cells := 0, slots := 0, locals := 21 } : Room) s m ([.ref a0, .int p1] : List Value).toArray below meth c H locs 0 0 Q (F0 m pc ls [.int v]) := by
    intro pc ls H locs v h hn hd hh
    cases h; exact hret pc ls H locs _ rfl hn hd hh
  have hl : lv_has ls 4 [(0, .ref a0), (1, .int p1)] := hl
  have hL9 : ∀ (v1 : Int32) (v2 : Int32) (k2 : (Int32) → Option (Int32)), (∀ (v2 : Int32) (H : Heap) (locs : List Loc) (ls : Array Slot), k2 v2 = some R → lv_has ls 4 [(0, .ref a0), (1, .int v1), (2, .int v2)] → zW K A s H locs (cRw K a0 a1 S) → W p l e ({ frames := 1, cells := 0, slots := 0, locals := 21 } : Room) s m ([.ref a0, .int p1] : List Value).toArray below meth c H locs 0 0 Q (F0 m 2 ls [])) → ∀ (n : Nat) (v3 : Int32), ∀ (H : Heap) (locs : List Loc) (ls : Array Slot), fX4_isSum_l9 S v1 v2 k2 n v3 = some R → lv_has ls 4 [(0, .ref a0), (1, .int v1), (2, .int v2), (3, .int v3)] → zW K A s H locs (cRw K a0 a1 S) → W p l e ({ frames := 1, cells := 0, slots := 0, locals := 21 } : Room) s m ([.ref a0, .int p1] : List Value).toArray below meth c H locs 0 0 Q (F0 m 9 ls []) := by
    intro v1 v2 k2 hk2 n
    induction n with
    | zero =>
      intro v3 H locs ls hf hl hh
      rw [fX4_isSum_l9] at hf; cases hf
    | succ n ih =>
      intro v3 H locs ls hf hl hh
      rw [fX4_isSum_l9] at hf
      refine lv_iload_n hx hb dX4_isSum_9 rfl (lv_at hl 3 rfl) ?_
      refine lv_iload_n hx hb dX4_isSum_10 rfl (lv_at hl 1 rfl) ?_
      refine lv_icmp_ge (tgt := 41) hx hb dX4_isSum_11 (by decide) (fun c1 => ?_) (fun c1 => ?_)
      · replace hf := (if_pos c1).symm.trans hf
        refine lv_iinc (v := (v2 + (1 : Int32))) (lv' := [(2, .int (v2 + (1 : Int32))), (0, .ref a0), (1, .int v1), (3, .int v3)]) hx hb dX4_isSum_41 hl (k := 2) rfl rfl (by decide) rfl (fun ls hl => ?_)
        refine lv_goto (tgt := 2) hx hb dX4_isSum_44 (by decide) ?_
        exact hk2 (v2 + (1 : Int32)) H locs ls hf (lv_sub hl [1, 2, 0] rfl) hh
      · replace hf := (if_neg c1).symm.trans hf
        refine lv_aload_n hx hb dX4_isSum_14 rfl (lv_at hl 0 rfl) ?_
        refine lv_iload_n hx hb dX4_isSum_15 rfl (lv_at hl 2 rfl) ?_
        obtain ⟨u2, hu2, hf⟩ := ob_bind hf
        refine zcallU (owner := "SumOfTwoThatStand$Told") (x := ⟨"SumOfTwoThatStand$Row", "toldAt", "(I)I"⟩) (ci := 4) (q0 := 0) (As := [.int v2]) (rest := []) (wr := []) (ws' := cRw K a0 a1 S) (ov := some (.int u2)) X hh hl (kX6_toldAt_R l K a0 a1 S v2 u2 hu2) (fun ht => va_cwU 1 ht gX4_isSum_X6_toldAt_u15X4 rfl rfl rfl rfl hdX6_toldAt ⟨Nat.le_of_ble_eq_true rfl, Nat.le_of_ble_eq_true rfl⟩) [0, 1] [] [0, 1] rfl rfl rfl rfl (by decide) rfl rfl rfl rfl rfl rfl (Nat.le_of_ble_eq_true rfl) dX4_isSum_16 ⟨Nat.zero_le _, Nat.zero_le _⟩ (fun H locs hh => ?_)
        refine lv_aload_n hx hb dX4_isSum_19 rfl (lv_at hl 0 rfl) ?_
        refine lv_iload_n hx hb dX4_isSum_20 rfl (lv_at hl 3 rfl) ?_
        obtain ⟨u3, hu3, hf⟩ := ob_bind hf
        refine zcallU (owner := "SumOfTwoThatStand$Told") (x := ⟨"SumOfTwoThatStand$Row", "toldAt", "(I)I"⟩) (ci := 4) (q0 := 0) (As := [.int v3]) (rest := [.int u2]) (wr := []) (ws' := cRw K a0 a1 S) (ov := some (.int u3)) X hh hl (kX6_toldAt_R l K a0 a1 S v3 u3 hu3) (fun ht => va_cwU 1 ht gX4_isSum_X6_toldAt_u15X4 rfl rfl rfl rfl hdX6_toldAt ⟨Nat.le_of_ble_eq_true rfl, Nat.le_of_ble_eq_true rfl⟩) [0, 1] [] [0, 1] rfl rfl rfl rfl (by decide) rfl rfl rfl rfl rfl rfl (Nat.le_of_ble_eq_true rfl) dX4_isSum_21 ⟨Nat.zero_le _, Nat.zero_le _⟩ (fun H locs hh => ?_)
        refine lv_iadd hx hb dX4_isSum_24 ?_
        refine lv_aload_n hx hb dX4_isSum_25 rfl (lv_at hl 0 rfl) ?_
        refine lv_iload_n hx hb dX4_isSum_26 rfl (lv_at hl 1 rfl) ?_
        obtain ⟨u4, hu4, hf⟩ := ob_bind hf
        refine zcallU (owner := "SumOfTwoThatStand$Told") (x := ⟨"SumOfTwoThatStand$Row", "toldAt", "(I)I"⟩) (ci := 4) (q0 := 0) (As := [.int v1]) (rest := [.int (u2 + u3)]) (wr := []) (ws' := cRw K a0 a1 S) (ov := some (.int u4)) X hh hl (kX6_toldAt_R l K a0 a1 S v1 u4 hu4) (fun ht => va_cwU 1 ht gX4_isSum_X6_toldAt_u15X4 rfl rfl rfl rfl hdX6_toldAt ⟨Nat.le_of_ble_eq_true rfl, Nat.le_of_ble_eq_true rfl⟩) [0, 1] [] [0, 1] rfl rfl rfl rfl (by decide) rfl rfl rfl rfl rfl rfl (Nat.le_of_ble_eq_true rfl) dX4_isSum_27 ⟨Nat.zero_le _, Nat.zero_le _⟩ (fun H locs hh => ?_)
        refine lv_icmp_ne (tgt := 35) hx hb dX4_isSum_30 (by decide) (fun c5 => ?_) (fun c5 => ?_)
        · replace hf := (if_neg c5).symm.trans hf
          refine lv_iinc (v := (v3 + (1 : Int32))) (lv' := [(3, .int (v3 + (1 : Int32))), (0, .ref a0), (1, .int v1), (2, .int v2)]) hx hb dX4_isSum_35 hl (k := 3) rfl rfl (by decide) rfl (fun ls hl => ?_)
          refine lv_goto (tgt := 9) hx hb dX4_isSum_38 (by decide) ?_
          exact ih (v3 + (1 : Int32)) H locs ls hf (lv_sub hl [1, 2, 3, 0] rfl) hh
        · replace hf := (if_pos c5).symm.trans hf
          refine lv_iconst (v := (1 : Int32)) hx hb dX4_isSum_33 (by decide) ?_
          exact hr2 34 ls H locs (1 : Int32) hf rfl dX4_isSum_34 hh
  have hL2 : ∀ (v1 : Int32), ∀ (n : Nat) (v2 : Int32), ∀ (H : Heap) (locs : List Loc) (ls : Array Slot), fX4_isSum_l2 S v1 n v2 = some R → lv_has ls 4 [(0, .ref a0), (1, .int v1), (2, .int v2)] → zW K A s H locs (cRw K a0 a1 S) → W p l e ({ frames := 1, cells := 0, slots := 0, locals := 21 } : Room) s m ([.ref a0, .int p1] : List Value).toArray below meth c H locs 0 0 Q (F0 m 2 ls []) := by
    intro v1 n
    induction n with
    | zero =>
      intro v2 H locs ls hf hl hh
      rw [fX4_isSum_l2] at hf; cases hf
    | succ n ih =>
      intro v2 H locs ls hf hl hh
      rw [fX4_isSum_l2] at hf
      refine lv_iload_n hx hb dX4_isSum_2 rfl (lv_at hl 2 rfl) ?_
      refine lv_iload_n hx hb dX4_isSum_3 rfl (lv_at hl 1 rfl) ?_
      refine lv_icmp_ge (tgt := 47) hx hb dX4_isSum_4 (by decide) (fun c6 => ?_) (fun c6 => ?_)
      · replace hf := (if_pos c6).symm.trans hf
        refine lv_iconst (v := (0 : Int32)) hx hb dX4_isSum_47 (by decide) ?_
        exact hr2 48 ls H locs (0 : Int32) hf rfl dX4_isSum_48 hh
      · replace hf := (if_neg c6).symm.trans hf
        refine lv_iload_n hx hb dX4_isSum_7 rfl (lv_at hl 2 rfl) ?_
        refine lv_istore_n (lv' := [(3, .int v2), (0, .ref a0), (1, .int v1), (2, .int v2)]) hx hb dX4_isSum_8 rfl hl (by decide) rfl (fun ls hl => ?_)
        exact hL9 v1 v2 (fX4_isSum_l2 S v1 n) (ih) FU v2 H locs ls hf (lv_sub hl [1, 2, 3, 0] rfl) hh
  unfold fX4_isSum at hf
  refine (fun (hmain : ∀ (H : Heap) (locs : List Loc), zW K A s H locs (cRw K a0 a1 S) → W p l e ({ frames := 1, cells := 0, slots := 0, locals := 21 } : Room) s m ([.ref a0, .int p1] : List Value).toArray below meth c H locs 0 0 Q (F0 m 0 ls [])) => hmain s.heap [] hh) (fun H locs hh => ?_)
  refine lv_iconst (v := (0 : Int32)) hx hb dX4_isSum_0 (by decide) ?_
  refine lv_istore_n (lv' := [(2, .int (0 : Int32)), (0, .ref a0), (1, .int p1)]) hx hb dX4_isSum_1 rfl hl (by decide) rfl (fun ls hl => ?_)
  exact hL2 p1 FU (0 : Int32) H locs ls hf (lv_sub hl [1, 2, 0] rfl) hh
theorem hdX4_firstWrong : yX4_firstWrong.cls ≠ "java/lang/invoke/MethodHandle" ∧ yX4_firstWrong.cls ≠ "java/lang/invoke/VarHandle" ∧ (parseMethodDescriptor yX4_firstWrong.desc).map (fun d => d.parameters.length) = some 0 := by decide +kernel
set_option maxHeartbeats 4000000 in
set_option maxRecDepth 100000 in
theorem kX4_firstWrong (l : Launch) (K : zK) (a0 a1 : Nat) (S : zRw) (R : Int32) (hf : fX4_firstWrong S = some R) : zC l yX4_firstWrong wsX4_firstWrong ({ frames := 2, cells := 0, slots := 0, locals := 44 } : Room) K [.ref a0] (cRw K a0 a1 S) (some (.int R)) (cRw K a0 a1 S) := by
  refine zC_i R (cc := cX4_firstWrong) (maxL := 3) (by decide +kernel) rfl (Nat.le_of_ble_eq_true rfl) rfl rfl ?_
  intro p e s m below meth c Q A X hret ls hl hh
  have X : zX p m c cX4_firstWrong 3 s ([.ref a0] : List Value).toArray wsX4_firstWrong RX4 K A := X
  have hx := X.1.1
  have hb := X.1.2.1
  have hr2 : ∀ (pc : Nat) (ls : Array Slot) (H : Heap) (locs : List Loc) (v : Int32), some v = some R → decode cX4_firstWrong pc = .ok (.ireturn, 1) → zW K A s H locs (cRw K a0 a1 S) → W p l e ({ frames := 2, cells := 0, slots := 0, locals := 44 } : Room) s m ([.ref a0] : List Value).toArray below meth c H locs 0 0 Q (F0 m pc ls [.int v]) := by
    intro pc ls H locs v h hd hh
    cases h; exact hret pc ls H locs _ rfl hd hh
  have hl : lv_has ls 3 [(0, .ref a0)] := hl
  have hJ52 : ∀ (v1 : Int32) (t0 : Int32) (k2 : (Int32) → Option (Int32)), (∀ (v1 : Int32) (H : Heap) (locs : List Loc) (ls : Array Slot), k2 v1 = some R → lv_has ls 3 [(0, .ref a0), (1, .int v1)] → zW K A s H locs (cRw K a0 a1 S) → W p l e ({ frames := 2, cells := 0, slots := 0, locals := 44 } : Room) s m ([.ref a0] : List Value).toArray below meth c H locs 0 0 Q (F0 m 2 ls [])) → ∀ (H : Heap) (locs : List Loc) (ls : Array Slot), fX4_firstWrong_j52 S v1 t0 k2 = some R → lv_has ls 3 [(0, .ref a0), (1, .int v1)] → zW K A s H locs (cRw K a0 a1 S) → W p l e ({ frames := 2, cells := 0, slots := 0, locals := 44 } : Room) s m ([.ref a0] : List Value).toArray below meth c H locs 0 0 Q (F0 m 52 ls [.int t0]) := by
    intro v1 t0 k2 hk2 H locs ls hf hl hh
    unfold fX4_firstWrong_j52 at hf
    refine lv_istore_n (lv' := [(2, .int t0), (0, .ref a0), (1, .int v1)]) hx hb dX4_firstWrong_52 rfl hl (by decide) rfl (fun ls hl => ?_)
    refine lv_iload_n hx hb dX4_firstWrong_53 rfl (lv_at hl 0 rfl) ?_
    refine lv_if_ne (tgt := 59) hx hb dX4_firstWrong_54 (by decide) (fun c1 => ?_) (fun c1 => ?_)
    · replace hf := (if_neg c1).symm.trans hf
      refine lv_iinc (v := (v1 + (1 : Int32))) (lv' := [(1, .int (v1 + (1 : Int32))), (2, .int t0), (0, .ref a0)]) hx hb dX4_firstWrong_59 hl (k := 2) rfl rfl (by decide) rfl (fun ls hl => ?_)
      refine lv_goto (tgt := 2) hx hb dX4_firstWrong_62 (by decide) ?_
      exact hk2 (v1 + (1 : Int32)) H locs ls hf (lv_sub hl [2, 0] rfl) hh
    · replace hf := (if_pos c1).symm.trans hf
      refine lv_iload_n hx hb dX4_firstWrong_57 rfl (lv_at hl 2 rfl) ?_
      exact hr2 58 ls H locs v1 hf dX4_firstWrong_58 hh
  have hJ51 : ∀ (v1 : Int32) (k2 : (Int32) → Option (Int32)), (∀ (v1 : Int32) (H : Heap) (locs : List Loc) (ls : Array Slot), k2 v1 = some R → lv_has ls 3 [(0, .ref a0), (1, .int v1)] → zW K A s H locs (cRw K a0 a1 S) → W p l e ({ frames := 2, cells := 0, slots := 0, locals := 44 } : Room) s m ([.ref a0] : List Value).toArray below meth c H locs 0 0 Q (F0 m 2 ls [])) → ∀ (H : Heap) (locs : List Loc) (ls : Array Slot), fX4_firstWrong_j51 S v1 k2 = some R → lv_has ls 3 [(0, .ref a0), (1, .int v1)] → zW K A s H locs (cRw K a0 a1 S) → W p l e ({ frames := 2, cells := 0, slots := 0, locals := 44 } : Room) s m ([.ref a0] : List Value).toArray below meth c H locs 0 0 Q (F0 m 51 ls []) := by
    intro v1 k2 hk2 H locs ls hf hl hh
    unfold fX4_firstWrong_j51 at hf
    refine lv_iconst (v := (0 : Int32)) hx hb dX4_firstWrong_51 (by decide) ?_
    exact hJ52 v1 (0 : Int32) (k2) (hk2) H locs ls hf (lv_sub hl [0, 1] rfl) hh
  have hL2 : ∀ (n : Nat) (v1 : Int32), ∀ (H : Heap) (locs : List Loc) (ls : Array Slot), fX4_firstWrong_l2 S n v1 = some R → lv_has ls 3 [(0, .ref a0), (1, .int v1)] → zW K A s H locs (cRw K a0 a1 S) → W p l e ({ frames := 2, cells := 0, slots := 0, locals := 44 } : Room) s m ([.ref a0] : List Value).toArray below meth c H locs 0 0 Q (F0 m 2 ls []) := by
    intro n
    induction n with
    | zero =>
      intro v1 H locs ls hf hl hh
      rw [fX4_firstWrong_l2] at hf; cases hf
    | succ n ih =>
      intro v1 H locs ls hf hl hh
      rw [fX4_firstWrong_l2] at hf
      refine lv_iload_n hx hb dX4_firstWrong_2 rfl (lv_at hl 1 rfl) ?_
      refine lv_aload_n hx hb dX4_firstWrong_3 rfl (lv_at hl 0 rfl) ?_
      refine zcallU (owner := "SumOfTwoThatStand$Told") (x := ⟨"SumOfTwoThatStand$Row", "howMany", "()I"⟩) (ci := 4) (q0 := 0) (As := []) (rest := [.int v1]) (wr := []) (ws' := cRw K a0 a1 S) (ov := some (.int (fX6_howMany_R S))) X hh hl (kX6_howMany_R l K a0 a1 S (fX6_howMany_R S) rfl) (fun ht => va_cwU 0 ht gX4_firstWrong_X6_howMany_u9X4 rfl rfl rfl rfl hdX6_howMany ⟨Nat.le_of_ble_eq_true rfl, Nat.le_of_ble_eq_true rfl⟩) [0, 1] [] [0, 1] rfl rfl rfl rfl (by decide) rfl rfl rfl rfl rfl rfl (Nat.le_of_ble_eq_true rfl) dX4_firstWrong_4 ⟨Nat.zero_le _, Nat.zero_le _⟩ (fun H locs hh => ?_)
      refine lv_icmp_ge (tgt := 65) hx hb dX4_firstWrong_7 (by decide) (fun c3 => ?_) (fun c3 => ?_)
      · replace hf := (if_pos c3).symm.trans hf
        refine lv_bipush (v := (-9 : Int32)) hx hb dX4_firstWrong_65 (by decide) ?_
        exact hr2 67 ls H locs (-9 : Int32) hf dX4_firstWrong_67 hh
      · replace hf := (if_neg c3).symm.trans hf
        refine lv_iload_n hx hb dX4_firstWrong_10 rfl (lv_at hl 1 rfl) ?_
        refine lv_if_ne (tgt := 31) hx hb dX4_firstWrong_11 (by decide) (fun c4 => ?_) (fun c4 => ?_)
        · replace hf := (if_neg c4).symm.trans hf
          refine lv_aload_n hx hb dX4_firstWrong_31 rfl (lv_at hl 0 rfl) ?_
          refine lv_iload_n hx hb dX4_firstWrong_32 rfl (lv_at hl 1 rfl) ?_
          obtain ⟨u5, hu5, hf⟩ := ob_bind hf
          refine zcallV (ci := 4) (q0 := 0) (As := [.int v1]) (rest := []) (wr := []) (ws' := cRw K a0 a1 S) (ov := some (.int u5)) X hh hl (kX4_isNew l K a0 a1 S v1 u5 hu5) (fun ht => cwV 1 ht gX4_firstWrong_X4_isNew rfl rfl rfl ⟨rfl, hdX4_isNew⟩ ⟨Nat.le_of_ble_eq_true rfl, Nat.le_of_ble_eq_true rfl⟩) [0, 1] [] [0, 1] rfl rfl rfl rfl (by decide) rfl rfl rfl rfl rfl rfl (Nat.le_of_ble_eq_true rfl) dX4_firstWrong_33 ⟨Nat.zero_le _, Nat.zero_le _⟩ (fun H locs hh => ?_)
          refine lv_if_eq (tgt := 51) hx hb dX4_firstWrong_36 (by decide) (fun c6 => ?_) (fun c6 => ?_)
          · replace hf := (if_pos c6).symm.trans hf
            exact hJ51 v1 (fX4_firstWrong_l2 S n) (ih) H locs ls hf (lv_sub hl [0, 1] rfl) hh
          · replace hf := (if_neg c6).symm.trans hf
            refine lv_aload_n hx hb dX4_firstWrong_39 rfl (lv_at hl 0 rfl) ?_
            refine lv_iload_n hx hb dX4_firstWrong_40 rfl (lv_at hl 1 rfl) ?_
            obtain ⟨u7, hu7, hf⟩ := ob_bind hf
            refine zcallV (ci := 4) (q0 := 0) (As := [.int v1]) (rest := []) (wr := []) (ws' := cRw K a0 a1 S) (ov := some (.int u7)) X hh hl (kX4_isSum l K a0 a1 S v1 u7 hu7) (fun ht => cwV 1 ht gX4_firstWrong_X4_isSum rfl rfl rfl ⟨rfl, hdX4_isSum⟩ ⟨Nat.le_of_ble_eq_true rfl, Nat.le_of_ble_eq_true rfl⟩) [0, 1] [] [0, 1] rfl rfl rfl rfl (by decide) rfl rfl rfl rfl rfl rfl (Nat.le_of_ble_eq_true rfl) dX4_firstWrong_41 ⟨Nat.zero_le _, Nat.zero_le _⟩ (fun H locs hh => ?_)
            refine lv_if_eq (tgt := 51) hx hb dX4_firstWrong_44 (by decide) (fun c8 => ?_) (fun c8 => ?_)
            · replace hf := (if_pos c8).symm.trans hf
              exact hJ51 v1 (fX4_firstWrong_l2 S n) (ih) H locs ls hf (lv_sub hl [0, 1] rfl) hh
            · replace hf := (if_neg c8).symm.trans hf
              refine lv_iconst (v := (1 : Int32)) hx hb dX4_firstWrong_47 (by decide) ?_
              refine lv_goto (tgt := 52) hx hb dX4_firstWrong_48 (by decide) ?_
              exact hJ52 v1 (1 : Int32) (fX4_firstWrong_l2 S n) (ih) H locs ls hf (lv_sub hl [0, 1] rfl) hh
        · replace hf := (if_pos c4).symm.trans hf
          refine lv_aload_n hx hb dX4_firstWrong_14 rfl (lv_at hl 0 rfl) ?_
          refine lv_iconst (v := (0 : Int32)) hx hb dX4_firstWrong_15 (by decide) ?_
          obtain ⟨u9, hu9, hf⟩ := ob_bind hf
          refine zcallU (owner := "SumOfTwoThatStand$Told") (x := ⟨"SumOfTwoThatStand$Row", "toldAt", "(I)I"⟩) (ci := 4) (q0 := 0) (As := [.int (0 : Int32)]) (rest := []) (wr := []) (ws' := cRw K a0 a1 S) (ov := some (.int u9)) X hh hl (kX6_toldAt_R l K a0 a1 S (0 : Int32) u9 hu9) (fun ht => va_cwU 1 ht gX4_firstWrong_X6_toldAt_u15X4 rfl rfl rfl rfl hdX6_toldAt ⟨Nat.le_of_ble_eq_true rfl, Nat.le_of_ble_eq_true rfl⟩) [0, 1] [] [0, 1] rfl rfl rfl rfl (by decide) rfl rfl rfl rfl rfl rfl (Nat.le_of_ble_eq_true rfl) dX4_firstWrong_16 ⟨Nat.zero_le _, Nat.zero_le _⟩ (fun H locs hh => ?_)
          refine lv_iconst (v := (1 : Int32)) hx hb dX4_firstWrong_19 (by decide) ?_
          refine lv_icmp_ne (tgt := 27) hx hb dX4_firstWrong_20 (by decide) (fun c10 => ?_) (fun c10 => ?_)
          · replace hf := (if_neg c10).symm.trans hf
            refine lv_iconst (v := (0 : Int32)) hx hb dX4_firstWrong_27 (by decide) ?_
            refine lv_goto (tgt := 52) hx hb dX4_firstWrong_28 (by decide) ?_
            exact hJ52 v1 (0 : Int32) (fX4_firstWrong_l2 S n) (ih) H locs ls hf (lv_sub hl [0, 1] rfl) hh
          · replace hf := (if_pos c10).symm.trans hf
            refine lv_iconst (v := (1 : Int32)) hx hb dX4_firstWrong_23 (by decide) ?_
            refine lv_goto (tgt := 52) hx hb dX4_firstWrong_24 (by decide) ?_
            exact hJ52 v1 (1 : Int32) (fX4_firstWrong_l2 S n) (ih) H locs ls hf (lv_sub hl [0, 1] rfl) hh
  unfold fX4_firstWrong at hf
  refine (fun (hmain : ∀ (H : Heap) (locs : List Loc), zW K A s H locs (cRw K a0 a1 S) → W p l e ({ frames := 2, cells := 0, slots := 0, locals := 44 } : Room) s m ([.ref a0] : List Value).toArray below meth c H locs 0 0 Q (F0 m 0 ls [])) => hmain s.heap [] hh) (fun H locs hh => ?_)
  refine lv_iconst (v := (0 : Int32)) hx hb dX4_firstWrong_0 (by decide) ?_
  refine lv_istore_n (lv' := [(1, .int (0 : Int32)), (0, .ref a0)]) hx hb dX4_firstWrong_1 rfl hl (by decide) rfl (fun ls hl => ?_)
  exact hL2 FU (0 : Int32) H locs ls hf (lv_sub hl [1, 0] rfl) hh
