theorem niX0_init_X0 : ∀ w ∈ wsX00, w ∈ wsX0_init := by decide +kernel
theorem miX0_init_0 : Cond.methodLink RX0 3 objectInit ∈ wsX0_init := by decide +kernel
theorem miX0_init_1 : Cond.instanceMethod objectInit ∈ wsX0_init := by decide +kernel
theorem miX0_init_2 : Cond.code objectInit ⟨#[0xb1]⟩ 1 none ∈ wsX0_init := by decide +kernel
theorem miX0_init_3 : Cond.arrayClass .int ∈ wsX0_init := by decide +kernel
theorem miX0_init_4 : Cond.fieldLink RX0 11 "SumOfTwoThatStand$Chains" "numbers" "[I" ∈ wsX0_init := by decide +kernel
theorem hdX0_init : yX0_init.cls ≠ "java/lang/invoke/MethodHandle" ∧ yX0_init.cls ≠ "java/lang/invoke/VarHandle" ∧ (parseMethodDescriptor yX0_init.desc).map (fun d => d.parameters.length) = some 0 := by decide +kernel
set_option maxHeartbeats 4000000 in
set_option maxRecDepth 100000 in
theorem kX0_init (l : Launch) (K : zK) (a0 : Nat)  : zN l yX0_init wsX0_init ({ frames := 1, cells := 1, slots := 12, locals := 30 } : Room) (fun _ => True) K [.ref a0] [(a0, .inr (0, [.null]))] 1 12 (fun q => cCh K a0 (q 1) zCh1) := by
  refine zN_start (cc := cX0_init) (maxL := 1) (by decide +kernel) rfl (Nat.le_of_ble_eq_true rfl) rfl ?_
  intro p e s m below meth c Q A X hP2 hin hret ls hl hh
  have X : zX p m c cX0_init 1 s ([.ref a0] : List Value).toArray wsX0_init RX0 K A := X
  have hx := X.1.1
  have hb := X.1.2.1
  have hl : lv_has ls 1 [(0, .ref a0)] := hl
  refine (fun (hmain : ∀ (H : Heap) (locs : List Loc), zW K A s H locs [(a0, .inr (0, [.null]))] → W p l e ({ frames := 1, cells := 1, slots := 12, locals := 30 } : Room) s m ([.ref a0] : List Value).toArray below meth c H locs 0 0 Q (F0 m 0 ls [])) => hmain s.heap [] hh) (fun H locs hh => ?_)
  refine lv_aload_n hx hb dX0_init_0 rfl (lv_at hl 0 rfl) ?_
  refine W.objInit hx hb X.1.2.2.2.1 (X.1.2.2.2.2 _ miX0_init_0) (X.1.2.2.2.2 _ miX0_init_1) (X.1.2.2.2.2 _ miX0_init_2) rfl (hl.1.trans X.1.2.2.1.symm) rfl dX0_init_1 (Nat.le_of_ble_eq_true rfl) (Nat.le_of_ble_eq_true rfl) ?_
  refine W.eq (g2 := F0 m 4 ls []) rfl ?_
  refine lv_aload_n hx hb dX0_init_4 rfl (lv_at hl 0 rfl) ?_
  refine lv_bipush (v := (12 : Int32)) hx hb dX0_init_5 (by decide) ?_
  refine znewI (n := (12 : Int32)) (N := 12) X hh miX0_init_3 (by decide) (by decide) (Nat.le_of_ble_eq_true rfl) (Nat.le_of_ble_eq_true rfl) (Nat.le_of_ble_eq_true rfl) dX0_init_7 (fun n1 H hh => ?_)
  have hh : zW K A s H locs ([(a0, .inr (0, [.null])), (n1, .inl (K.2.1.1, 12, .inl (fun _ => 0)))]) := hh
  refine zputF (v := .ref n1) (ty := (.array .int)) (ref := "SumOfTwoThatStand$Chains") (C := RX0) (T := TX0) (N := 1) (index := 11) X hh hin niX0_init_X0 tyX0 tyX0_ok nmX0 0 rfl rfl 0 (by decide) miX0_init_4 rfl rfl rfl (by decide +kernel) rfl rfl (Nat.le_of_ble_eq_true rfl) dX0_init_9 (fun H locs hh => ?_)
  have hh : zW K A s H locs ([(a0, .inr (0, [.ref n1])), (n1, .inl (K.2.1.1, 12, .inl (fun _ => 0)))]) := hh
  refine lv_aload_n hx hb dX0_init_12 rfl (lv_at hl 0 rfl) ?_
  refine zget (v := .ref n1) (ref := "SumOfTwoThatStand$Chains") (C := RX0) (T := TX0) (N := 1) (index := 11) X hh niX0_init_X0 0 rfl rfl 0 (by decide) miX0_init_4 rfl rfl dX0_init_13 ?_
  refine lv_iconst (v := (0 : Int32)) hx hb dX0_init_16 (by decide) ?_
  refine lv_iconst (v := (1 : Int32)) hx hb dX0_init_17 (by decide) ?_
  refine ziast (f := (fun _ => 0)) X hh 1 rfl (by decide) dX0_init_18 (fun H locs hh => ?_)
  have hh : zW K A s H locs ([(a0, .inr (0, [.ref n1])), (n1, .inl (K.2.1.1, 12, .inl (upd (fun _ => 0) (0 : Int32).toNatClampNeg (1 : Int32))))]) := hh
  exact hret 19 ls H locs (fun i => ([a0, n1] : List Nat).getD i 0) dX0_init_19 hh
theorem niX1_init_X1 : ∀ w ∈ wsX10, w ∈ wsX1_init := by decide +kernel
theorem miX1_init_0 : Cond.methodLink RX1 1 objectInit ∈ wsX1_init := by decide +kernel
theorem miX1_init_1 : Cond.instanceMethod objectInit ∈ wsX1_init := by decide +kernel
theorem miX1_init_2 : Cond.code objectInit ⟨#[0xb1]⟩ 1 none ∈ wsX1_init := by decide +kernel
theorem miX1_init_3 : Cond.arrayClass .boolean ∈ wsX1_init := by decide +kernel
theorem miX1_init_4 : Cond.fieldLink RX1 9 "SumOfTwoThatStand$Game" "wins" "[Z" ∈ wsX1_init := by decide +kernel
theorem hdX1_init : yX1_init.cls ≠ "java/lang/invoke/MethodHandle" ∧ yX1_init.cls ≠ "java/lang/invoke/VarHandle" ∧ (parseMethodDescriptor yX1_init.desc).map (fun d => d.parameters.length) = some 0 := by decide +kernel
set_option maxHeartbeats 4000000 in
set_option maxRecDepth 100000 in
theorem kX1_init (l : Launch) (K : zK) (a0 : Nat)  : zN l yX1_init wsX1_init ({ frames := 1, cells := 1, slots := 1024, locals := 30 } : Room) (fun _ => True) K [.ref a0] [(a0, .inr (1, [.null]))] 1 1024 (fun q => cGm K a0 (q 1) zGmz) := by
  refine zN_start (cc := cX1_init) (maxL := 1) (by decide +kernel) rfl (Nat.le_of_ble_eq_true rfl) rfl ?_
  intro p e s m below meth c Q A X hP2 hin hret ls hl hh
  have X : zX p m c cX1_init 1 s ([.ref a0] : List Value).toArray wsX1_init RX1 K A := X
  have hx := X.1.1
  have hb := X.1.2.1
  have hl : lv_has ls 1 [(0, .ref a0)] := hl
  refine (fun (hmain : ∀ (H : Heap) (locs : List Loc), zW K A s H locs [(a0, .inr (1, [.null]))] → W p l e ({ frames := 1, cells := 1, slots := 1024, locals := 30 } : Room) s m ([.ref a0] : List Value).toArray below meth c H locs 0 0 Q (F0 m 0 ls [])) => hmain s.heap [] hh) (fun H locs hh => ?_)
  refine lv_aload_n hx hb dX1_init_0 rfl (lv_at hl 0 rfl) ?_
  refine W.objInit hx hb X.1.2.2.2.1 (X.1.2.2.2.2 _ miX1_init_0) (X.1.2.2.2.2 _ miX1_init_1) (X.1.2.2.2.2 _ miX1_init_2) rfl (hl.1.trans X.1.2.2.1.symm) rfl dX1_init_1 (Nat.le_of_ble_eq_true rfl) (Nat.le_of_ble_eq_true rfl) ?_
  refine W.eq (g2 := F0 m 4 ls []) rfl ?_
  refine lv_aload_n hx hb dX1_init_4 rfl (lv_at hl 0 rfl) ?_
  refine lv_sipush (v := (1024 : Int32)) hx hb dX1_init_5 (by decide) ?_
  refine znewZ (n := (1024 : Int32)) (N := 1024) X hh miX1_init_3 (by decide) (by decide) (Nat.le_of_ble_eq_true rfl) (Nat.le_of_ble_eq_true rfl) (Nat.le_of_ble_eq_true rfl) dX1_init_8 (fun n1 H hh => ?_)
  have hh : zW K A s H locs ([(a0, .inr (1, [.null])), (n1, .inl (K.2.1.2, 1024, .inl (fun _ => 0)))]) := hh
  refine zputF (v := .ref n1) (ty := (.array .boolean)) (ref := "SumOfTwoThatStand$Game") (C := RX1) (T := TX1) (N := 1) (index := 9) X hh hin niX1_init_X1 tyX1 tyX1_ok nmX1 0 rfl rfl 0 (by decide) miX1_init_4 rfl rfl rfl (by decide +kernel) rfl rfl (Nat.le_of_ble_eq_true rfl) dX1_init_10 (fun H locs hh => ?_)
  have hh : zW K A s H locs ([(a0, .inr (1, [.ref n1])), (n1, .inl (K.2.1.2, 1024, .inl (fun _ => 0)))]) := hh
  exact hret 13 ls H locs (fun i => ([a0, n1] : List Nat).getD i 0) dX1_init_13 hh
theorem niX3_init_X3 : ∀ w ∈ wsX30, w ∈ wsX3_init := by decide +kernel
theorem miX3_init_0 : Cond.methodLink RX3 3 objectInit ∈ wsX3_init := by decide +kernel
theorem miX3_init_1 : Cond.instanceMethod objectInit ∈ wsX3_init := by decide +kernel
theorem miX3_init_2 : Cond.code objectInit ⟨#[0xb1]⟩ 1 none ∈ wsX3_init := by decide +kernel
theorem miX3_init_3 : Cond.arrayClass .int ∈ wsX3_init := by decide +kernel
theorem miX3_init_4 : Cond.fieldLink RX3 9 "SumOfTwoThatStand$Orders" "ways" "[I" ∈ wsX3_init := by decide +kernel
theorem hdX3_init : yX3_init.cls ≠ "java/lang/invoke/MethodHandle" ∧ yX3_init.cls ≠ "java/lang/invoke/VarHandle" ∧ (parseMethodDescriptor yX3_init.desc).map (fun d => d.parameters.length) = some 0 := by decide +kernel
set_option maxHeartbeats 4000000 in
set_option maxRecDepth 100000 in
theorem kX3_init (l : Launch) (K : zK) (a0 : Nat)  : zN l yX3_init wsX3_init ({ frames := 1, cells := 1, slots := 4096, locals := 30 } : Room) (fun _ => True) K [.ref a0] [(a0, .inr (3, [.null]))] 1 4096 (fun q => cOr K a0 (q 1) zOrz) := by
  refine zN_start (cc := cX3_init) (maxL := 1) (by decide +kernel) rfl (Nat.le_of_ble_eq_true rfl) rfl ?_
  intro p e s m below meth c Q A X hP2 hin hret ls hl hh
  have X : zX p m c cX3_init 1 s ([.ref a0] : List Value).toArray wsX3_init RX3 K A := X
  have hx := X.1.1
  have hb := X.1.2.1
  have hl : lv_has ls 1 [(0, .ref a0)] := hl
  refine (fun (hmain : ∀ (H : Heap) (locs : List Loc), zW K A s H locs [(a0, .inr (3, [.null]))] → W p l e ({ frames := 1, cells := 1, slots := 4096, locals := 30 } : Room) s m ([.ref a0] : List Value).toArray below meth c H locs 0 0 Q (F0 m 0 ls [])) => hmain s.heap [] hh) (fun H locs hh => ?_)
  refine lv_aload_n hx hb dX3_init_0 rfl (lv_at hl 0 rfl) ?_
  refine W.objInit hx hb X.1.2.2.2.1 (X.1.2.2.2.2 _ miX3_init_0) (X.1.2.2.2.2 _ miX3_init_1) (X.1.2.2.2.2 _ miX3_init_2) rfl (hl.1.trans X.1.2.2.1.symm) rfl dX3_init_1 (Nat.le_of_ble_eq_true rfl) (Nat.le_of_ble_eq_true rfl) ?_
  refine W.eq (g2 := F0 m 4 ls []) rfl ?_
  refine lv_aload_n hx hb dX3_init_4 rfl (lv_at hl 0 rfl) ?_
  refine lv_sipush (v := (4096 : Int32)) hx hb dX3_init_5 (by decide) ?_
  refine znewI (n := (4096 : Int32)) (N := 4096) X hh miX3_init_3 (by decide) (by decide) (Nat.le_of_ble_eq_true rfl) (Nat.le_of_ble_eq_true rfl) (Nat.le_of_ble_eq_true rfl) dX3_init_8 (fun n1 H hh => ?_)
  have hh : zW K A s H locs ([(a0, .inr (3, [.null])), (n1, .inl (K.2.1.1, 4096, .inl (fun _ => 0)))]) := hh
  refine zputF (v := .ref n1) (ty := (.array .int)) (ref := "SumOfTwoThatStand$Orders") (C := RX3) (T := TX3) (N := 1) (index := 9) X hh hin niX3_init_X3 tyX3 tyX3_ok nmX3 0 rfl rfl 0 (by decide) miX3_init_4 rfl rfl rfl (by decide +kernel) rfl rfl (Nat.le_of_ble_eq_true rfl) dX3_init_10 (fun H locs hh => ?_)
  have hh : zW K A s H locs ([(a0, .inr (3, [.ref n1])), (n1, .inl (K.2.1.1, 4096, .inl (fun _ => 0)))]) := hh
  exact hret 13 ls H locs (fun i => ([a0, n1] : List Nat).getD i 0) dX3_init_13 hh
theorem niX6_init_L_X2 : ∀ w ∈ wsX20, w ∈ wsX6_init := by decide +kernel
theorem miX6_init_L_0 : Cond.methodLink RX6 1 objectInit ∈ wsX6_init := by decide +kernel
theorem miX6_init_L_1 : Cond.instanceMethod objectInit ∈ wsX6_init := by decide +kernel
theorem miX6_init_L_2 : Cond.code objectInit ⟨#[0xb1]⟩ 1 none ∈ wsX6_init := by decide +kernel
theorem miX6_init_L_3 : Cond.methodLink RX6 7 Lib.Math.max.name ∈ wsX6_init := by decide +kernel
theorem miX6_init_L_4 : Cond.static Lib.Math.max.name ∈ wsX6_init := by decide +kernel
theorem miX6_init_L_5 : Cond.initialized "java/lang/Math" ∈ wsX6_init := by decide +kernel
theorem miX6_init_L_6 : Cond.code Lib.Math.max.name Lib.Math.max.code 2 (some .int) ∈ wsX6_init := by decide +kernel
theorem miX6_init_L_7 : Cond.arrayClass .int ∈ wsX6_init := by decide +kernel
theorem miX6_init_L_8 : Cond.fieldLink RX6 13 "SumOfTwoThatStand$Told" "all" "[I" ∈ wsX6_init := by decide +kernel
theorem hdX6_init : yX6_init.cls ≠ "java/lang/invoke/MethodHandle" ∧ yX6_init.cls ≠ "java/lang/invoke/VarHandle" ∧ (parseMethodDescriptor yX6_init.desc).map (fun d => d.parameters.length) = some 1 := by decide +kernel
set_option maxHeartbeats 4000000 in
set_option maxRecDepth 100000 in
theorem kX6_init_L (l : Launch) (K : zK) (a0 : Nat)  : zN l yX6_init wsX6_init ({ frames := 1, cells := 1, slots := 64, locals := 30 } : Room) (fun _ => True) K [.ref a0, .int 64] [(a0, .inr (2, [.null, .int 0, .null, .int 0, .int 0, .int 0, .int 0]))] 1 64 (fun q => [(a0, .inr (2, [.ref (q 1), .int 0, .null, .int 0, .int 0, .int 0, .int 0])), (q 1, .inl (K.2.1.1, 64, .inl (fun _ => 0)))]) := by
  refine zN_start (cc := cX6_init) (maxL := 2) (by decide +kernel) rfl (Nat.le_of_ble_eq_true rfl) rfl ?_
  intro p e s m below meth c Q A X hP2 hin hret ls hl hh
  have X : zX p m c cX6_init 2 s ([.ref a0, .int 64] : List Value).toArray wsX6_init RX6 K A := X
  have hx := X.1.1
  have hb := X.1.2.1
  have hl : lv_has ls 2 [(0, .ref a0), (1, .int 64)] := hl
  refine (fun (hmain : ∀ (H : Heap) (locs : List Loc), zW K A s H locs [(a0, .inr (2, [.null, .int 0, .null, .int 0, .int 0, .int 0, .int 0]))] → W p l e ({ frames := 1, cells := 1, slots := 64, locals := 30 } : Room) s m ([.ref a0, .int 64] : List Value).toArray below meth c H locs 0 0 Q (F0 m 0 ls [])) => hmain s.heap [] hh) (fun H locs hh => ?_)
  refine lv_aload_n hx hb dX6_init_0 rfl (lv_at hl 0 rfl) ?_
  refine W.objInit hx hb X.1.2.2.2.1 (X.1.2.2.2.2 _ miX6_init_L_0) (X.1.2.2.2.2 _ miX6_init_L_1) (X.1.2.2.2.2 _ miX6_init_L_2) rfl (hl.1.trans X.1.2.2.1.symm) rfl dX6_init_1 (Nat.le_of_ble_eq_true rfl) (Nat.le_of_ble_eq_true rfl) ?_
  refine W.eq (g2 := F0 m 4 ls []) rfl ?_
  refine lv_aload_n hx hb dX6_init_4 rfl (lv_at hl 0 rfl) ?_
  refine lv_iload_n hx hb dX6_init_5 rfl (lv_at hl 1 rfl) ?_
  refine lv_iconst (v := (0 : Int32)) hx hb dX6_init_6 (by decide) ?_
  refine va_mmax hx hb (X.1.2.2.1.trans hl.1.symm) X.1.2.2.2.1 (X.1.2.2.2.2 _ miX6_init_L_3) (X.1.2.2.2.2 _ miX6_init_L_4) (X.1.2.2.2.2 _ miX6_init_L_5) (X.1.2.2.2.2 _ miX6_init_L_6) (Nat.le_of_ble_eq_true rfl) (Nat.le_of_ble_eq_true rfl) (Nat.zero_le _) (Nat.zero_le _) dX6_init_7 ?_
  refine znewI (n := (64 : Int32)) (N := 64) X hh miX6_init_L_7 (by decide) (by decide) (Nat.le_of_ble_eq_true rfl) (Nat.le_of_ble_eq_true rfl) (Nat.le_of_ble_eq_true rfl) dX6_init_10 (fun n1 H hh => ?_)
  have hh : zW K A s H locs ([(a0, .inr (2, [.null, .int 0, .null, .int 0, .int 0, .int 0, .int 0])), (n1, .inl (K.2.1.1, 64, .inl (fun _ => 0)))]) := hh
  refine zputF (v := .ref n1) (ty := (.array .int)) (ref := "SumOfTwoThatStand$Told") (C := RX2) (T := TX2) (N := 7) (index := 13) X hh hin niX6_init_L_X2 tyX2 tyX2_ok nmX2 0 rfl rfl 0 (by decide) miX6_init_L_8 rfl rfl rfl (by decide +kernel) rfl rfl (Nat.le_of_ble_eq_true rfl) dX6_init_12 (fun H locs hh => ?_)
  have hh : zW K A s H locs ([(a0, .inr (2, [.ref n1, .int 0, .null, .int 0, .int 0, .int 0, .int 0])), (n1, .inl (K.2.1.1, 64, .inl (fun _ => 0)))]) := hh
  exact hret 15 ls H locs (fun i => ([a0, n1] : List Nat).getD i 0) dX6_init_15 hh
theorem niX6_init_R_X4 : ∀ w ∈ wsX40, w ∈ wsX6_init := by decide +kernel
theorem miX6_init_R_0 : Cond.methodLink RX6 1 objectInit ∈ wsX6_init := by decide +kernel
theorem miX6_init_R_1 : Cond.instanceMethod objectInit ∈ wsX6_init := by decide +kernel
theorem miX6_init_R_2 : Cond.code objectInit ⟨#[0xb1]⟩ 1 none ∈ wsX6_init := by decide +kernel
theorem miX6_init_R_3 : Cond.methodLink RX6 7 Lib.Math.max.name ∈ wsX6_init := by decide +kernel
theorem miX6_init_R_4 : Cond.static Lib.Math.max.name ∈ wsX6_init := by decide +kernel
theorem miX6_init_R_5 : Cond.initialized "java/lang/Math" ∈ wsX6_init := by decide +kernel
theorem miX6_init_R_6 : Cond.code Lib.Math.max.name Lib.Math.max.code 2 (some .int) ∈ wsX6_init := by decide +kernel
theorem miX6_init_R_7 : Cond.arrayClass .int ∈ wsX6_init := by decide +kernel
theorem miX6_init_R_8 : Cond.fieldLink RX6 13 "SumOfTwoThatStand$Told" "all" "[I" ∈ wsX6_init := by decide +kernel
set_option maxHeartbeats 4000000 in
set_option maxRecDepth 100000 in
theorem kX6_init_R (l : Launch) (K : zK) (a0 : Nat)  : zN l yX6_init wsX6_init ({ frames := 1, cells := 1, slots := 12, locals := 30 } : Room) (fun _ => True) K [.ref a0, .int 12] [(a0, .inr (4, [.null, .int 0]))] 1 12 (fun q => [(a0, .inr (4, [.ref (q 1), .int 0])), (q 1, .inl (K.2.1.1, 12, .inl (fun _ => 0)))]) := by
  refine zN_start (cc := cX6_init) (maxL := 2) (by decide +kernel) rfl (Nat.le_of_ble_eq_true rfl) rfl ?_
  intro p e s m below meth c Q A X hP2 hin hret ls hl hh
  have X : zX p m c cX6_init 2 s ([.ref a0, .int 12] : List Value).toArray wsX6_init RX6 K A := X
  have hx := X.1.1
  have hb := X.1.2.1
  have hl : lv_has ls 2 [(0, .ref a0), (1, .int 12)] := hl
  refine (fun (hmain : ∀ (H : Heap) (locs : List Loc), zW K A s H locs [(a0, .inr (4, [.null, .int 0]))] → W p l e ({ frames := 1, cells := 1, slots := 12, locals := 30 } : Room) s m ([.ref a0, .int 12] : List Value).toArray below meth c H locs 0 0 Q (F0 m 0 ls [])) => hmain s.heap [] hh) (fun H locs hh => ?_)
  refine lv_aload_n hx hb dX6_init_0 rfl (lv_at hl 0 rfl) ?_
  refine W.objInit hx hb X.1.2.2.2.1 (X.1.2.2.2.2 _ miX6_init_R_0) (X.1.2.2.2.2 _ miX6_init_R_1) (X.1.2.2.2.2 _ miX6_init_R_2) rfl (hl.1.trans X.1.2.2.1.symm) rfl dX6_init_1 (Nat.le_of_ble_eq_true rfl) (Nat.le_of_ble_eq_true rfl) ?_
  refine W.eq (g2 := F0 m 4 ls []) rfl ?_
  refine lv_aload_n hx hb dX6_init_4 rfl (lv_at hl 0 rfl) ?_
  refine lv_iload_n hx hb dX6_init_5 rfl (lv_at hl 1 rfl) ?_
  refine lv_iconst (v := (0 : Int32)) hx hb dX6_init_6 (by decide) ?_
  refine va_mmax hx hb (X.1.2.2.1.trans hl.1.symm) X.1.2.2.2.1 (X.1.2.2.2.2 _ miX6_init_R_3) (X.1.2.2.2.2 _ miX6_init_R_4) (X.1.2.2.2.2 _ miX6_init_R_5) (X.1.2.2.2.2 _ miX6_init_R_6) (Nat.le_of_ble_eq_true rfl) (Nat.le_of_ble_eq_true rfl) (Nat.zero_le _) (Nat.zero_le _) dX6_init_7 ?_
  refine znewI (n := (12 : Int32)) (N := 12) X hh miX6_init_R_7 (by decide) (by decide) (Nat.le_of_ble_eq_true rfl) (Nat.le_of_ble_eq_true rfl) (Nat.le_of_ble_eq_true rfl) dX6_init_10 (fun n1 H hh => ?_)
  have hh : zW K A s H locs ([(a0, .inr (4, [.null, .int 0])), (n1, .inl (K.2.1.1, 12, .inl (fun _ => 0)))]) := hh
  refine zputF (v := .ref n1) (ty := (.array .int)) (ref := "SumOfTwoThatStand$Told") (C := RX4) (T := TX4) (N := 2) (index := 13) X hh hin niX6_init_R_X4 tyX4 tyX4_ok nmX4 0 rfl rfl 0 (by decide) miX6_init_R_8 rfl rfl rfl (by decide +kernel) rfl rfl (Nat.le_of_ble_eq_true rfl) dX6_init_12 (fun H locs hh => ?_)
  have hh : zW K A s H locs ([(a0, .inr (4, [.ref n1, .int 0])), (n1, .inl (K.2.1.1, 12, .inl (fun _ => 0)))]) := hh
  exact hret 15 ls H locs (fun i => ([a0, n1] : List Nat).getD i 0) dX6_init_15 hh
theorem niX2_init_X2 : ∀ w ∈ wsX20, w ∈ wsX2_init := by decide +kernel
theorem miX2_init_0 : Cond.initialized RX6 ∈ wsX2_init := by decide +kernel
theorem miX2_init_1 : Cond.methodLink RX2 3 yX6_init ∈ wsX2_init := by decide +kernel
theorem miX2_init_2 : Cond.instanceMethod yX6_init ∈ wsX2_init := by decide +kernel
theorem miX2_init_3 : Cond.arrayClass .int ∈ wsX2_init := by decide +kernel
theorem miX2_init_4 : Cond.fieldLink RX2 9 "SumOfTwoThatStand$Letters" "figures" "[I" ∈ wsX2_init := by decide +kernel
theorem hdX2_init : yX2_init.cls ≠ "java/lang/invoke/MethodHandle" ∧ yX2_init.cls ≠ "java/lang/invoke/VarHandle" ∧ (parseMethodDescriptor yX2_init.desc).map (fun d => d.parameters.length) = some 0 := by decide +kernel
set_option maxHeartbeats 4000000 in
set_option maxRecDepth 100000 in
theorem kX2_init (l : Launch) (K : zK) (a0 : Nat)  : zN l yX2_init wsX2_init ({ frames := 2, cells := 2, slots := 68, locals := 51 } : Room) (fun _ => True) K [.ref a0] [(a0, .inr (2, [.null, .int 0, .null, .int 0, .int 0, .int 0, .int 0]))] 2 68 (fun q => cLt K a0 (q 1) (q 2) zLtz) := by
  refine zN_start (cc := cX2_init) (maxL := 1) (by decide +kernel) rfl (Nat.le_of_ble_eq_true rfl) rfl ?_
  intro p e s m below meth c Q A X hP2 hin hret ls hl hh
  have X : zX p m c cX2_init 1 s ([.ref a0] : List Value).toArray wsX2_init RX2 K A := X
  have hx := X.1.1
  have hb := X.1.2.1
  have hl : lv_has ls 1 [(0, .ref a0)] := hl
  refine (fun (hmain : ∀ (H : Heap) (locs : List Loc), zW K A s H locs [(a0, .inr (2, [.null, .int 0, .null, .int 0, .int 0, .int 0, .int 0]))] → W p l e ({ frames := 2, cells := 2, slots := 68, locals := 51 } : Room) s m ([.ref a0] : List Value).toArray below meth c H locs 0 0 Q (F0 m 0 ls [])) => hmain s.heap [] hh) (fun H locs hh => ?_)
  refine lv_aload_n hx hb dX2_init_0 rfl (lv_at hl 0 rfl) ?_
  refine lv_bipush (v := (64 : Int32)) hx hb dX2_init_1 (by decide) ?_
  refine zcallI (mc := 1) (ms := 64) (P2 := fun _ => True) (As := [.int (64 : Int32)]) (rest := []) (wr := []) (ws' := fun m1 => [(a0, .inr (2, [.ref (m1 1), .int 0, .null, .int 0, .int 0, .int 0, .int 0])), (m1 1, .inl (K.2.1.1, 64, .inl (fun _ => 0)))]) X hh hl (kX6_init_L l K a0) zT_blind (fun _ _ => trivial) (fun ht => cwI 1 ht gX2_init_X6_init rfl rfl rfl (X.1.2.2.2.2 _ miX2_init_0) (X.1.2.2.2.2 _ miX2_init_1) (X.1.2.2.2.2 _ miX2_init_2) rfl hdX6_init ⟨Nat.le_of_ble_eq_true rfl, Nat.le_of_ble_eq_true rfl⟩) [0] [] [0, 1] rfl rfl rfl rfl (by decide) rfl (fun _ => rfl) rfl rfl (Nat.le_of_ble_eq_true rfl) dX2_init_3 ⟨Nat.le_of_ble_eq_true rfl, Nat.le_of_ble_eq_true rfl⟩ (fun m1 H locs hh => ?_)
  have hh : zW K A s H locs ([(a0, .inr (2, [.ref (m1 1), .int 0, .null, .int 0, .int 0, .int 0, .int 0])), (m1 1, .inl (K.2.1.1, 64, .inl (fun _ => 0)))]) := hh
  refine lv_aload_n hx hb dX2_init_6 rfl (lv_at hl 0 rfl) ?_
  refine lv_iconst (v := (4 : Int32)) hx hb dX2_init_7 (by decide) ?_
  refine znewI (n := (4 : Int32)) (N := 4) X hh miX2_init_3 (by decide) (by decide) (Nat.le_of_ble_eq_true rfl) (Nat.le_of_ble_eq_true rfl) (Nat.le_of_ble_eq_true rfl) dX2_init_8 (fun n2 H hh => ?_)
  have hh : zW K A s H locs ([(a0, .inr (2, [.ref (m1 1), .int 0, .null, .int 0, .int 0, .int 0, .int 0])), (m1 1, .inl (K.2.1.1, 64, .inl (fun _ => 0))), (n2, .inl (K.2.1.1, 4, .inl (fun _ => 0)))]) := hh
  refine zputF (v := .ref n2) (ty := (.array .int)) (ref := "SumOfTwoThatStand$Letters") (C := RX2) (T := TX2) (N := 7) (index := 9) X hh hin niX2_init_X2 tyX2 tyX2_ok nmX2 0 rfl rfl 2 (by decide) miX2_init_4 rfl rfl rfl (by decide +kernel) rfl rfl (Nat.le_of_ble_eq_true rfl) dX2_init_10 (fun H locs hh => ?_)
  have hh : zW K A s H locs ([(a0, .inr (2, [.ref (m1 1), .int 0, .ref n2, .int 0, .int 0, .int 0, .int 0])), (m1 1, .inl (K.2.1.1, 64, .inl (fun _ => 0))), (n2, .inl (K.2.1.1, 4, .inl (fun _ => 0)))]) := hh
  exact hret 13 ls H locs (fun i => ([a0, (m1 1), n2] : List Nat).getD i 0) dX2_init_13 hh
theorem miX4_init_0 : Cond.initialized RX6 ∈ wsX4_init := by decide +kernel
theorem miX4_init_1 : Cond.methodLink RX4 3 yX6_init ∈ wsX4_init := by decide +kernel
theorem miX4_init_2 : Cond.instanceMethod yX6_init ∈ wsX4_init := by decide +kernel
theorem hdX4_init : yX4_init.cls ≠ "java/lang/invoke/MethodHandle" ∧ yX4_init.cls ≠ "java/lang/invoke/VarHandle" ∧ (parseMethodDescriptor yX4_init.desc).map (fun d => d.parameters.length) = some 0 := by decide +kernel
set_option maxHeartbeats 4000000 in
set_option maxRecDepth 100000 in
theorem kX4_init (l : Launch) (K : zK) (a0 : Nat)  : zN l yX4_init wsX4_init ({ frames := 2, cells := 1, slots := 12, locals := 51 } : Room) (fun _ => True) K [.ref a0] [(a0, .inr (4, [.null, .int 0]))] 1 12 (fun q => cRw K a0 (q 1) zRwz) := by
  refine zN_start (cc := cX4_init) (maxL := 1) (by decide +kernel) rfl (Nat.le_of_ble_eq_true rfl) rfl ?_
  intro p e s m below meth c Q A X hP2 hin hret ls hl hh
  have X : zX p m c cX4_init 1 s ([.ref a0] : List Value).toArray wsX4_init RX4 K A := X
  have hx := X.1.1
  have hb := X.1.2.1
  have hl : lv_has ls 1 [(0, .ref a0)] := hl
  refine (fun (hmain : ∀ (H : Heap) (locs : List Loc), zW K A s H locs [(a0, .inr (4, [.null, .int 0]))] → W p l e ({ frames := 2, cells := 1, slots := 12, locals := 51 } : Room) s m ([.ref a0] : List Value).toArray below meth c H locs 0 0 Q (F0 m 0 ls [])) => hmain s.heap [] hh) (fun H locs hh => ?_)
  refine lv_aload_n hx hb dX4_init_0 rfl (lv_at hl 0 rfl) ?_
  refine lv_bipush (v := (12 : Int32)) hx hb dX4_init_1 (by decide) ?_
  refine zcallI (mc := 1) (ms := 12) (P2 := fun _ => True) (As := [.int (12 : Int32)]) (rest := []) (wr := []) (ws' := fun m1 => [(a0, .inr (4, [.ref (m1 1), .int 0])), (m1 1, .inl (K.2.1.1, 12, .inl (fun _ => 0)))]) X hh hl (kX6_init_R l K a0) zT_blind (fun _ _ => trivial) (fun ht => cwI 1 ht gX4_init_X6_init rfl rfl rfl (X.1.2.2.2.2 _ miX4_init_0) (X.1.2.2.2.2 _ miX4_init_1) (X.1.2.2.2.2 _ miX4_init_2) rfl hdX6_init ⟨Nat.le_of_ble_eq_true rfl, Nat.le_of_ble_eq_true rfl⟩) [0] [] [0, 1] rfl rfl rfl rfl (by decide) rfl (fun _ => rfl) rfl rfl (Nat.le_of_ble_eq_true rfl) dX4_init_3 ⟨Nat.le_of_ble_eq_true rfl, Nat.le_of_ble_eq_true rfl⟩ (fun m1 H locs hh => ?_)
  have hh : zW K A s H locs ([(a0, .inr (4, [.ref (m1 1), .int 0])), (m1 1, .inl (K.2.1.1, 12, .inl (fun _ => 0)))]) := hh
  exact hret 6 ls H locs (fun i => ([a0, (m1 1)] : List Nat).getD i 0) dX4_init_6 hh
