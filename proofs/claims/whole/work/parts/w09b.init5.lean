theorem niX5_init_X5 : ∀ w ∈ wsX50, w ∈ wsX5_init := by decide +kernel
theorem miX5_init_0 : Cond.methodLink RX5 3 objectInit ∈ wsX5_init := by decide +kernel
theorem miX5_init_1 : Cond.instanceMethod objectInit ∈ wsX5_init := by decide +kernel
theorem miX5_init_2 : Cond.code objectInit ⟨#[0xb1]⟩ 1 none ∈ wsX5_init := by decide +kernel
theorem miX5_init_3 : Cond.arrayClass .int ∈ wsX5_init := by decide +kernel
theorem miX5_init_4 : Cond.fieldLink RX5 9 "SumOfTwoThatStand$Street" "kinds" "[I" ∈ wsX5_init := by decide +kernel
theorem miX5_init_5 : Cond.fieldLink RX5 15 "SumOfTwoThatStand$Street" "figures" "[I" ∈ wsX5_init := by decide +kernel
theorem miX5_init_6 : Cond.fieldLink RX5 18 "SumOfTwoThatStand$Street" "numbers" "[I" ∈ wsX5_init := by decide +kernel
theorem miX5_init_7 : Cond.fieldLink RX5 21 "SumOfTwoThatStand$Street" "firsts" "[I" ∈ wsX5_init := by decide +kernel
theorem miX5_init_8 : Cond.fieldLink RX5 24 "SumOfTwoThatStand$Street" "seconds" "[I" ∈ wsX5_init := by decide +kernel
theorem miX5_init_9 : Cond.fieldLink RX5 27 "SumOfTwoThatStand$Street" "uses" "[I" ∈ wsX5_init := by decide +kernel
theorem miX5_init_10 : Cond.fieldLink RX5 30 "SumOfTwoThatStand$Street" "earned" "[I" ∈ wsX5_init := by decide +kernel
theorem hdX5_init : yX5_init.cls ≠ "java/lang/invoke/MethodHandle" ∧ yX5_init.cls ≠ "java/lang/invoke/VarHandle" ∧ (parseMethodDescriptor yX5_init.desc).map (fun d => d.parameters.length) = some 0 := by decide +kernel
set_option maxHeartbeats 4000000 in
set_option maxRecDepth 100000 in
theorem kX5_init (l : Launch) (K : zK) (a0 : Nat) (S1 : zSt) (hS1 : fX5_beginAnew zStz = some S1) : zN l yX5_init wsX5_init ({ frames := 3, cells := 7, slots := 84, locals := 65 } : Room) (fun _ => True) K [.ref a0] [(a0, .inr (5, [.null, .null, .null, .null, .null, .null, .null, .int 0, .int 0, .int 0, .int 0]))] 7 84 (fun q => cSt K a0 (q 1) (q 2) (q 3) (q 4) (q 5) (q 6) (q 7) S1) := by
  refine zN_start (cc := cX5_init) (maxL := 1) (by decide +kernel) rfl (Nat.le_of_ble_eq_true rfl) rfl ?_
  intro p e s m below meth c Q A X hP2 hin hret ls hl hh
  have X : zX p m c cX5_init 1 s ([.ref a0] : List Value).toArray wsX5_init RX5 K A := X
  have hx := X.1.1
  have hb := X.1.2.1
  have hl : lv_has ls 1 [(0, .ref a0)] := hl
  refine (fun (hmain : ∀ (H : Heap) (locs : List Loc), zW K A s H locs [(a0, .inr (5, [.null, .null, .null, .null, .null, .null, .null, .int 0, .int 0, .int 0, .int 0]))] → W p l e ({ frames := 3, cells := 7, slots := 84, locals := 65 } : Room) s m ([.ref a0] : List Value).toArray below meth c H locs 0 0 Q (F0 m 0 ls [])) => hmain s.heap [] hh) (fun H locs hh => ?_)
  refine lv_aload_n hx hb dX5_init_0 rfl (lv_at hl 0 rfl) ?_
  refine W.objInit hx hb X.1.2.2.2.1 (X.1.2.2.2.2 _ miX5_init_0) (X.1.2.2.2.2 _ miX5_init_1) (X.1.2.2.2.2 _ miX5_init_2) rfl (hl.1.trans X.1.2.2.1.symm) rfl dX5_init_1 (Nat.le_of_ble_eq_true rfl) (Nat.le_of_ble_eq_true rfl) ?_
  refine W.eq (g2 := F0 m 4 ls []) rfl ?_
  refine lv_aload_n hx hb dX5_init_4 rfl (lv_at hl 0 rfl) ?_
  refine lv_bipush (v := (12 : Int32)) hx hb dX5_init_5 (by decide) ?_
  refine znewI (n := (12 : Int32)) (N := 12) X hh miX5_init_3 (by decide) (by decide) (Nat.le_of_ble_eq_true rfl) (Nat.le_of_ble_eq_true rfl) (Nat.le_of_ble_eq_true rfl) dX5_init_7 (fun n1 H hh => ?_)
  have hh : zW K A s H locs ([(a0, .inr (5, [.null, .null, .null, .null, .null, .null, .null, .int 0, .int 0, .int 0, .int 0])), (n1, .inl (K.2.1.1, 12, .inl (fun _ => 0)))]) := hh
  refine zputF (v := .ref n1) (ty := (.array .int)) (ref := "SumOfTwoThatStand$Street") (C := RX5) (T := TX5) (N := 11) (index := 9) X hh hin niX5_init_X5 tyX5 tyX5_ok nmX5 0 rfl rfl 0 (by decide) miX5_init_4 rfl rfl rfl (by decide +kernel) rfl rfl (Nat.le_of_ble_eq_true rfl) dX5_init_9 (fun H locs hh => ?_)
  have hh : zW K A s H locs ([(a0, .inr (5, [.ref n1, .null, .null, .null, .null, .null, .null, .int 0, .int 0, .int 0, .int 0])), (n1, .inl (K.2.1.1, 12, .inl (fun _ => 0)))]) := hh
  refine lv_aload_n hx hb dX5_init_12 rfl (lv_at hl 0 rfl) ?_
  refine lv_bipush (v := (12 : Int32)) hx hb dX5_init_13 (by decide) ?_
  refine znewI (n := (12 : Int32)) (N := 12) X hh miX5_init_3 (by decide) (by decide) (Nat.le_of_ble_eq_true rfl) (Nat.le_of_ble_eq_true rfl) (Nat.le_of_ble_eq_true rfl) dX5_init_15 (fun n2 H hh => ?_)
  have hh : zW K A s H locs ([(a0, .inr (5, [.ref n1, .null, .null, .null, .null, .null, .null, .int 0, .int 0, .int 0, .int 0])), (n1, .inl (K.2.1.1, 12, .inl (fun _ => 0))), (n2, .inl (K.2.1.1, 12, .inl (fun _ => 0)))]) := hh
  refine zputF (v := .ref n2) (ty := (.array .int)) (ref := "SumOfTwoThatStand$Street") (C := RX5) (T := TX5) (N := 11) (index := 15) X hh hin niX5_init_X5 tyX5 tyX5_ok nmX5 0 rfl rfl 1 (by decide) miX5_init_5 rfl rfl rfl (by decide +kernel) rfl rfl (Nat.le_of_ble_eq_true rfl) dX5_init_17 (fun H locs hh => ?_)
  have hh : zW K A s H locs ([(a0, .inr (5, [.ref n1, .ref n2, .null, .null, .null, .null, .null, .int 0, .int 0, .int 0, .int 0])), (n1, .inl (K.2.1.1, 12, .inl (fun _ => 0))), (n2, .inl (K.2.1.1, 12, .inl (fun _ => 0)))]) := hh
  refine lv_aload_n hx hb dX5_init_20 rfl (lv_at hl 0 rfl) ?_
  refine lv_bipush (v := (12 : Int32)) hx hb dX5_init_21 (by decide) ?_
  refine znewI (n := (12 : Int32)) (N := 12) X hh miX5_init_3 (by decide) (by decide) (Nat.le_of_ble_eq_true rfl) (Nat.le_of_ble_eq_true rfl) (Nat.le_of_ble_eq_true rfl) dX5_init_23 (fun n3 H hh => ?_)
  have hh : zW K A s H locs ([(a0, .inr (5, [.ref n1, .ref n2, .null, .null, .null, .null, .null, .int 0, .int 0, .int 0, .int 0])), (n1, .inl (K.2.1.1, 12, .inl (fun _ => 0))), (n2, .inl (K.2.1.1, 12, .inl (fun _ => 0))), (n3, .inl (K.2.1.1, 12, .inl (fun _ => 0)))]) := hh
  refine zputF (v := .ref n3) (ty := (.array .int)) (ref := "SumOfTwoThatStand$Street") (C := RX5) (T := TX5) (N := 11) (index := 18) X hh hin niX5_init_X5 tyX5 tyX5_ok nmX5 0 rfl rfl 2 (by decide) miX5_init_6 rfl rfl rfl (by decide +kernel) rfl rfl (Nat.le_of_ble_eq_true rfl) dX5_init_25 (fun H locs hh => ?_)
  have hh : zW K A s H locs ([(a0, .inr (5, [.ref n1, .ref n2, .ref n3, .null, .null, .null, .null, .int 0, .int 0, .int 0, .int 0])), (n1, .inl (K.2.1.1, 12, .inl (fun _ => 0))), (n2, .inl (K.2.1.1, 12, .inl (fun _ => 0))), (n3, .inl (K.2.1.1, 12, .inl (fun _ => 0)))]) := hh
  refine lv_aload_n hx hb dX5_init_28 rfl (lv_at hl 0 rfl) ?_
  refine lv_bipush (v := (12 : Int32)) hx hb dX5_init_29 (by decide) ?_
  refine znewI (n := (12 : Int32)) (N := 12) X hh miX5_init_3 (by decide) (by decide) (Nat.le_of_ble_eq_true rfl) (Nat.le_of_ble_eq_true rfl) (Nat.le_of_ble_eq_true rfl) dX5_init_31 (fun n4 H hh => ?_)
  have hh : zW K A s H locs ([(a0, .inr (5, [.ref n1, .ref n2, .ref n3, .null, .null, .null, .null, .int 0, .int 0, .int 0, .int 0])), (n1, .inl (K.2.1.1, 12, .inl (fun _ => 0))), (n2, .inl (K.2.1.1, 12, .inl (fun _ => 0))), (n3, .inl (K.2.1.1, 12, .inl (fun _ => 0))), (n4, .inl (K.2.1.1, 12, .inl (fun _ => 0)))]) := hh
  refine zputF (v := .ref n4) (ty := (.array .int)) (ref := "SumOfTwoThatStand$Street") (C := RX5) (T := TX5) (N := 11) (index := 21) X hh hin niX5_init_X5 tyX5 tyX5_ok nmX5 0 rfl rfl 3 (by decide) miX5_init_7 rfl rfl rfl (by decide +kernel) rfl rfl (Nat.le_of_ble_eq_true rfl) dX5_init_33 (fun H locs hh => ?_)
  have hh : zW K A s H locs ([(a0, .inr (5, [.ref n1, .ref n2, .ref n3, .ref n4, .null, .null, .null, .int 0, .int 0, .int 0, .int 0])), (n1, .inl (K.2.1.1, 12, .inl (fun _ => 0))), (n2, .inl (K.2.1.1, 12, .inl (fun _ => 0))), (n3, .inl (K.2.1.1, 12, .inl (fun _ => 0))), (n4, .inl (K.2.1.1, 12, .inl (fun _ => 0)))]) := hh
  refine lv_aload_n hx hb dX5_init_36 rfl (lv_at hl 0 rfl) ?_
  refine lv_bipush (v := (12 : Int32)) hx hb dX5_init_37 (by decide) ?_
  refine znewI (n := (12 : Int32)) (N := 12) X hh miX5_init_3 (by decide) (by decide) (Nat.le_of_ble_eq_true rfl) (Nat.le_of_ble_eq_true rfl) (Nat.le_of_ble_eq_true rfl) dX5_init_39 (fun n5 H hh => ?_)
  have hh : zW K A s H locs ([(a0, .inr (5, [.ref n1, .ref n2, .ref n3, .ref n4, .null, .null, .null, .int 0, .int 0, .int 0, .int 0])), (n1, .inl (K.2.1.1, 12, .inl (fun _ => 0))), (n2, .inl (K.2.1.1, 12, .inl (fun _ => 0))), (n3, .inl (K.2.1.1, 12, .inl (fun _ => 0))), (n4, .inl (K.2.1.1, 12, .inl (fun _ => 0))), (n5, .inl (K.2.1.1, 12, .inl (fun _ => 0)))]) := hh
  refine zputF (v := .ref n5) (ty := (.array .int)) (ref := "SumOfTwoThatStand$Street") (C := RX5) (T := TX5) (N := 11) (index := 24) X hh hin niX5_init_X5 tyX5 tyX5_ok nmX5 0 rfl rfl 4 (by decide) miX5_init_8 rfl rfl rfl (by decide +kernel) rfl rfl (Nat.le_of_ble_eq_true rfl) dX5_init_41 (fun H locs hh => ?_)
  have hh : zW K A s H locs ([(a0, .inr (5, [.ref n1, .ref n2, .ref n3, .ref n4, .ref n5, .null, .null, .int 0, .int 0, .int 0, .int 0])), (n1, .inl (K.2.1.1, 12, .inl (fun _ => 0))), (n2, .inl (K.2.1.1, 12, .inl (fun _ => 0))), (n3, .inl (K.2.1.1, 12, .inl (fun _ => 0))), (n4, .inl (K.2.1.1, 12, .inl (fun _ => 0))), (n5, .inl (K.2.1.1, 12, .inl (fun _ => 0)))]) := hh
  refine lv_aload_n hx hb dX5_init_44 rfl (lv_at hl 0 rfl) ?_
  refine lv_bipush (v := (12 : Int32)) hx hb dX5_init_45 (by decide) ?_
  refine znewI (n := (12 : Int32)) (N := 12) X hh miX5_init_3 (by decide) (by decide) (Nat.le_of_ble_eq_true rfl) (Nat.le_of_ble_eq_true rfl) (Nat.le_of_ble_eq_true rfl) dX5_init_47 (fun n6 H hh => ?_)
  have hh : zW K A s H locs ([(a0, .inr (5, [.ref n1, .ref n2, .ref n3, .ref n4, .ref n5, .null, .null, .int 0, .int 0, .int 0, .int 0])), (n1, .inl (K.2.1.1, 12, .inl (fun _ => 0))), (n2, .inl (K.2.1.1, 12, .inl (fun _ => 0))), (n3, .inl (K.2.1.1, 12, .inl (fun _ => 0))), (n4, .inl (K.2.1.1, 12, .inl (fun _ => 0))), (n5, .inl (K.2.1.1, 12, .inl (fun _ => 0))), (n6, .inl (K.2.1.1, 12, .inl (fun _ => 0)))]) := hh
  refine zputF (v := .ref n6) (ty := (.array .int)) (ref := "SumOfTwoThatStand$Street") (C := RX5) (T := TX5) (N := 11) (index := 27) X hh hin niX5_init_X5 tyX5 tyX5_ok nmX5 0 rfl rfl 5 (by decide) miX5_init_9 rfl rfl rfl (by decide +kernel) rfl rfl (Nat.le_of_ble_eq_true rfl) dX5_init_49 (fun H locs hh => ?_)
  have hh : zW K A s H locs ([(a0, .inr (5, [.ref n1, .ref n2, .ref n3, .ref n4, .ref n5, .ref n6, .null, .int 0, .int 0, .int 0, .int 0])), (n1, .inl (K.2.1.1, 12, .inl (fun _ => 0))), (n2, .inl (K.2.1.1, 12, .inl (fun _ => 0))), (n3, .inl (K.2.1.1, 12, .inl (fun _ => 0))), (n4, .inl (K.2.1.1, 12, .inl (fun _ => 0))), (n5, .inl (K.2.1.1, 12, .inl (fun _ => 0))), (n6, .inl (K.2.1.1, 12, .inl (fun _ => 0)))]) := hh
  refine lv_aload_n hx hb dX5_init_52 rfl (lv_at hl 0 rfl) ?_
  refine lv_bipush (v := (12 : Int32)) hx hb dX5_init_53 (by decide) ?_
  refine znewI (n := (12 : Int32)) (N := 12) X hh miX5_init_3 (by decide) (by decide) (Nat.le_of_ble_eq_true rfl) (Nat.le_of_ble_eq_true rfl) (Nat.le_of_ble_eq_true rfl) dX5_init_55 (fun n7 H hh => ?_)
  have hh : zW K A s H locs ([(a0, .inr (5, [.ref n1, .ref n2, .ref n3, .ref n4, .ref n5, .ref n6, .null, .int 0, .int 0, .int 0, .int 0])), (n1, .inl (K.2.1.1, 12, .inl (fun _ => 0))), (n2, .inl (K.2.1.1, 12, .inl (fun _ => 0))), (n3, .inl (K.2.1.1, 12, .inl (fun _ => 0))), (n4, .inl (K.2.1.1, 12, .inl (fun _ => 0))), (n5, .inl (K.2.1.1, 12, .inl (fun _ => 0))), (n6, .inl (K.2.1.1, 12, .inl (fun _ => 0))), (n7, .inl (K.2.1.1, 12, .inl (fun _ => 0)))]) := hh
  refine zputF (v := .ref n7) (ty := (.array .int)) (ref := "SumOfTwoThatStand$Street") (C := RX5) (T := TX5) (N := 11) (index := 30) X hh hin niX5_init_X5 tyX5 tyX5_ok nmX5 0 rfl rfl 6 (by decide) miX5_init_10 rfl rfl rfl (by decide +kernel) rfl rfl (Nat.le_of_ble_eq_true rfl) dX5_init_57 (fun H locs hh => ?_)
  have hh : zW K A s H locs ([(a0, .inr (5, [.ref n1, .ref n2, .ref n3, .ref n4, .ref n5, .ref n6, .ref n7, .int 0, .int 0, .int 0, .int 0])), (n1, .inl (K.2.1.1, 12, .inl (fun _ => 0))), (n2, .inl (K.2.1.1, 12, .inl (fun _ => 0))), (n3, .inl (K.2.1.1, 12, .inl (fun _ => 0))), (n4, .inl (K.2.1.1, 12, .inl (fun _ => 0))), (n5, .inl (K.2.1.1, 12, .inl (fun _ => 0))), (n6, .inl (K.2.1.1, 12, .inl (fun _ => 0))), (n7, .inl (K.2.1.1, 12, .inl (fun _ => 0)))]) := hh
  refine lv_aload_n hx hb dX5_init_60 rfl (lv_at hl 0 rfl) ?_
  have hh : zW K A s H locs (cSt K a0 n1 n2 n3 n4 n5 n6 n7 zStz) := hh
  refine zcallV (ci := 5) (q0 := 0) (As := []) (rest := []) (wr := []) (ws' := cSt K a0 n1 n2 n3 n4 n5 n6 n7 S1) (ov := none) X hh hl (kX5_beginAnew l K a0 n1 n2 n3 n4 n5 n6 n7 zStz S1 hS1) (fun ht => cwV 0 ht gX5_init_X5_beginAnew rfl rfl rfl ⟨rfl, hdX5_beginAnew⟩ ⟨Nat.le_of_ble_eq_true rfl, Nat.le_of_ble_eq_true rfl⟩) [0, 1, 2, 3, 4, 5, 6, 7] [] [0, 1, 2, 3, 4, 5, 6, 7] rfl rfl rfl rfl (by decide) rfl rfl rfl rfl rfl rfl (Nat.le_of_ble_eq_true rfl) dX5_init_61 ⟨Nat.le_of_ble_eq_true rfl, Nat.le_of_ble_eq_true rfl⟩ (fun H locs hh => ?_)
  exact hret 64 ls H locs (fun i => ([a0, n1, n2, n3, n4, n5, n6, n7] : List Nat).getD i 0) dX5_init_64 hh
