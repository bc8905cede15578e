theorem inX2_statementCount_X2 : ∀ w ∈ wsX20, w ∈ wsX2_statementCount := by decide +kernel
theorem mmX2_statementCount_0 : Cond.fieldLink RX2 15 "SumOfTwoThatStand$Letters" "statements" "I" ∈ wsX2_statementCount := by decide +kernel
theorem hdX2_statementCount : yX2_statementCount.cls ≠ "java/lang/invoke/MethodHandle" ∧ yX2_statementCount.cls ≠ "java/lang/invoke/VarHandle" ∧ (parseMethodDescriptor yX2_statementCount.desc).map (fun d => d.parameters.length) = some 0 := by decide +kernel
set_option maxHeartbeats 4000000 in
set_option maxRecDepth 100000 in
theorem kX2_statementCount (l : Launch) (K : zK) (a0 a1 a2 : Nat) (S : zLt) (R : Int32) (hf : fX2_statementCount S = R) : zC l yX2_statementCount wsX2_statementCount ({ frames := 0, cells := 0, slots := 0, locals := 0 } : Room) K [.ref a0] (cLt K a0 a1 a2 S) (some (.int R)) (cLt K a0 a1 a2 S) := by
  refine zC_i R (cc := cX2_statementCount) (maxL := 1) (by decide +kernel) rfl (Nat.le_of_ble_eq_true rfl) rfl rfl ?_
  intro p e s m below meth c Q A X hret ls hl hh
  have X : zX p m c cX2_statementCount 1 s ([.ref a0] : List Value).toArray wsX2_statementCount RX2 K A := X
  have hx := X.1.1
  have hb := X.1.2.1
  have hr2 : ∀ (pc : Nat) (ls : Array Slot) (H : Heap) (locs : List Loc) (v : Int32), v = R → decode cX2_statementCount pc = .ok (.ireturn, 1) → zW K A s H locs (cLt K a0 a1 a2 S) → W p l e ({ frames := 0, cells := 0, slots := 0, locals := 0 } : Room) s m ([.ref a0] : List Value).toArray below meth c H locs 0 0 Q (F0 m pc ls [.int v]) := by
    intro pc ls H locs v h hd hh
    cases h; exact hret pc ls H locs _ rfl hd hh
  have hl : lv_has ls 1 [(0, .ref a0)] := hl
  unfold fX2_statementCount at hf
  refine (fun (hmain : ∀ (H : Heap) (locs : List Loc), zW K A s H locs (cLt K a0 a1 a2 S) → W p l e ({ frames := 0, cells := 0, slots := 0, locals := 0 } : Room) s m ([.ref a0] : List Value).toArray below meth c H locs 0 0 Q (F0 m 0 ls [])) => hmain s.heap [] hh) (fun H locs hh => ?_)
  refine lv_aload_n hx hb dX2_statementCount_0 rfl (lv_at hl 0 rfl) ?_
  refine zget (v := .int (lt_statements S)) (ref := "SumOfTwoThatStand$Letters") (C := RX2) (T := TX2) (N := 7) (index := 15) X hh inX2_statementCount_X2 0 rfl rfl 6 (by decide) mmX2_statementCount_0 rfl rfl dX2_statementCount_1 ?_
  exact hr2 4 ls H locs (lt_statements S) hf dX2_statementCount_4 hh
theorem hdX2_isDigit : yX2_isDigit.cls ≠ "java/lang/invoke/MethodHandle" ∧ yX2_isDigit.cls ≠ "java/lang/invoke/VarHandle" ∧ (parseMethodDescriptor yX2_isDigit.desc).map (fun d => d.parameters.length) = some 1 := by decide +kernel
set_option maxHeartbeats 4000000 in
set_option maxRecDepth 100000 in
theorem kX2_isDigit (l : Launch) (K : zK) (p0 : Int32) (R : Int32) (hf : fX2_isDigit p0 = R) : zC l yX2_isDigit wsX2_isDigit ({ frames := 0, cells := 0, slots := 0, locals := 0 } : Room) K [.int p0] ([]) (some (.int R)) ([]) := by
  refine zC_z .boolean R (cc := cX2_isDigit) (maxL := 1) (by decide +kernel) rfl (Nat.le_of_ble_eq_true rfl) rfl rfl ?_
  intro p e s m below meth c Q A X hret ls hl hh
  have X : zX p m c cX2_isDigit 1 s ([.int p0] : List Value).toArray wsX2_isDigit RX2 K A := X
  have hx := X.1.1
  have hb := X.1.2.1
  have hr2 : ∀ (pc : Nat) (ls : Array Slot) (H : Heap) (locs : List Loc) (v : Int32), v = R → narrow .boolean (.int v) = .int v → decode cX2_isDigit pc = .ok (.ireturn, 1) → zW K A s H locs ([]) → W p l e ({ frames := 0, cells := 0, slots := 0, locals := 0 } : Room) s m ([.int p0] : List Value).toArray below meth c H locs 0 0 Q (F0 m pc ls [.int v]) := by
    intro pc ls H locs v h hn hd hh
    cases h; exact hret pc ls H locs _ rfl hn hd hh
  have hl : lv_has ls 1 [(0, .int p0)] := hl
  unfold fX2_isDigit at hf
  refine (fun (hmain : ∀ (H : Heap) (locs : List Loc), zW K A s H locs ([]) → W p l e ({ frames := 0, cells := 0, slots := 0, locals := 0 } : Room) s m ([.int p0] : List Value).toArray below meth c H locs 0 0 Q (F0 m 0 ls [])) => hmain s.heap [] hh) (fun H locs hh => ?_)
  refine lv_iload_n hx hb dX2_isDigit_0 rfl (lv_at hl 0 rfl) ?_
  refine lv_bipush (v := (48 : Int32)) hx hb dX2_isDigit_1 (by decide) ?_
  refine lv_icmp_lt (tgt := 16) hx hb dX2_isDigit_3 (by decide) (fun c1 => ?_) (fun c1 => ?_)
  · replace hf := (if_pos c1).symm.trans hf
    refine lv_iconst (v := (0 : Int32)) hx hb dX2_isDigit_16 (by decide) ?_
    exact hr2 17 ls H locs (0 : Int32) hf rfl dX2_isDigit_17 hh
  · replace hf := (if_neg c1).symm.trans hf
    refine lv_iload_n hx hb dX2_isDigit_6 rfl (lv_at hl 0 rfl) ?_
    refine lv_bipush (v := (57 : Int32)) hx hb dX2_isDigit_7 (by decide) ?_
    refine lv_icmp_gt (tgt := 16) hx hb dX2_isDigit_9 (by decide) (fun c2 => ?_) (fun c2 => ?_)
    · replace hf := (if_pos c2).symm.trans hf
      refine lv_iconst (v := (0 : Int32)) hx hb dX2_isDigit_16 (by decide) ?_
      exact hr2 17 ls H locs (0 : Int32) hf rfl dX2_isDigit_17 hh
    · replace hf := (if_neg c2).symm.trans hf
      refine lv_iconst (v := (1 : Int32)) hx hb dX2_isDigit_12 (by decide) ?_
      refine lv_goto (tgt := 17) hx hb dX2_isDigit_13 (by decide) ?_
      exact hr2 17 ls H locs (1 : Int32) hf rfl dX2_isDigit_17 hh
theorem inX2_readFigure_X2 : ∀ w ∈ wsX20, w ∈ wsX2_readFigure := by decide +kernel
theorem mmX2_readFigure_0 : Cond.fieldLink RX2 58 "SumOfTwoThatStand$Letters" "figureCount" "I" ∈ wsX2_readFigure := by decide +kernel
theorem mmX2_readFigure_1 : Cond.fieldLink RX2 9 "SumOfTwoThatStand$Letters" "figures" "[I" ∈ wsX2_readFigure := by decide +kernel
theorem mmX2_readFigure_2 : Cond.fieldLink RX2 19 "SumOfTwoThatStand$Letters" "at" "I" ∈ wsX2_readFigure := by decide +kernel
theorem hdX2_readFigure : yX2_readFigure.cls ≠ "java/lang/invoke/MethodHandle" ∧ yX2_readFigure.cls ≠ "java/lang/invoke/VarHandle" ∧ (parseMethodDescriptor yX2_readFigure.desc).map (fun d => d.parameters.length) = some 1 := by decide +kernel
set_option maxHeartbeats 4000000 in
set_option maxRecDepth 100000 in
theorem kX2_readFigure (l : Launch) (K : zK) (a0 a1 a2 : Nat) (S : zLt) (p1 : Int32) (R : Int32 × zLt) (hf : fX2_readFigure S p1 = some R) : zC l yX2_readFigure wsX2_readFigure ({ frames := 1, cells := 0, slots := 0, locals := 21 } : Room) K [.ref a0, .int p1] (cLt K a0 a1 a2 S) (some (.int R.1)) (cLt K a0 a1 a2 R.2) := by
  refine zC_z .boolean R.1 (cc := cX2_readFigure) (maxL := 4) (by decide +kernel) rfl (Nat.le_of_ble_eq_true rfl) rfl rfl ?_
  intro p e s m below meth c Q A X hret ls hl hh
  have X : zX p m c cX2_readFigure 4 s ([.ref a0, .int p1] : List Value).toArray wsX2_readFigure RX2 K A := X
  have hx := X.1.1
  have hb := X.1.2.1
  have hr2 : ∀ (pc : Nat) (ls : Array Slot) (H : Heap) (locs : List Loc) (v : Int32) (S : zLt), some (v, S) = some R → narrow .boolean (.int v) = .int v → decode cX2_readFigure pc = .ok (.ireturn, 1) → zW K A s H locs (cLt K a0 a1 a2 S) → W p l e ({ frames := 1, cells := 0, slots := 0, locals := 21 } : Room) s m ([.ref a0, .int p1] : List Value).toArray below meth c H locs 0 0 Q (F0 m pc ls [.int v]) := by
    intro pc ls H locs v S h hn hd hh
    cases h; exact hret pc ls H locs _ rfl hn hd hh
  have hl : lv_has ls 4 [(0, .ref a0), (1, .int p1)] := hl
  have hJ88 : ∀ (v3 : Int32) (S : zLt), ∀ (H : Heap) (locs : List Loc) (ls : Array Slot), fX2_readFigure_j88 v3 S = some R → lv_has ls 4 [(3, .int v3)] → zW K A s H locs (cLt K a0 a1 a2 S) → W p l e ({ frames := 1, cells := 0, slots := 0, locals := 21 } : Room) s m ([.ref a0, .int p1] : List Value).toArray below meth c H locs 0 0 Q (F0 m 88 ls []) := by
    intro v3 S H locs ls hf hl hh
    unfold fX2_readFigure_j88 at hf
    refine lv_iload_n hx hb dX2_readFigure_88 rfl (lv_at hl 0 rfl) ?_
    refine lv_if_le (tgt := 96) hx hb dX2_readFigure_89 (by decide) (fun c1 => ?_) (fun c1 => ?_)
    · replace hf := (if_pos c1).symm.trans hf
      refine lv_iconst (v := (0 : Int32)) hx hb dX2_readFigure_96 (by decide) ?_
      exact hr2 97 ls H locs (0 : Int32) S hf rfl dX2_readFigure_97 hh
    · replace hf := (if_neg c1).symm.trans hf
      refine lv_iconst (v := (1 : Int32)) hx hb dX2_readFigure_92 (by decide) ?_
      refine lv_goto (tgt := 97) hx hb dX2_readFigure_93 (by decide) ?_
      exact hr2 97 ls H locs (1 : Int32) S hf rfl dX2_readFigure_97 hh
  have hJ56 : ∀ (v2 : Int32) (v3 : Int32) (S : zLt), ∀ (H : Heap) (locs : List Loc) (ls : Array Slot), fX2_readFigure_j56 v2 v3 S = some R → lv_has ls 4 [(0, .ref a0), (2, .int v2), (3, .int v3)] → zW K A s H locs (cLt K a0 a1 a2 S) → W p l e ({ frames := 1, cells := 0, slots := 0, locals := 21 } : Room) s m ([.ref a0, .int p1] : List Value).toArray below meth c H locs 0 0 Q (F0 m 56 ls []) := by
    intro v2 v3 S H locs ls hf hl hh
    unfold fX2_readFigure_j56 at hf
    refine lv_aload_n hx hb dX2_readFigure_56 rfl (lv_at hl 0 rfl) ?_
    refine zget (v := .int (lt_figureCount S)) (ref := "SumOfTwoThatStand$Letters") (C := RX2) (T := TX2) (N := 7) (index := 58) X hh inX2_readFigure_X2 0 rfl rfl 5 (by decide) mmX2_readFigure_0 rfl rfl dX2_readFigure_57 ?_
    refine lv_aload_n hx hb dX2_readFigure_60 rfl (lv_at hl 0 rfl) ?_
    refine zget (v := .ref a2) (ref := "SumOfTwoThatStand$Letters") (C := RX2) (T := TX2) (N := 7) (index := 9) X hh inX2_readFigure_X2 0 rfl rfl 2 (by decide) mmX2_readFigure_1 rfl rfl dX2_readFigure_61 ?_
    refine zalenI (v := (4 : Int32)) X hh 2 rfl rfl dX2_readFigure_64 ?_
    refine lv_icmp_ge (tgt := 88) hx hb dX2_readFigure_65 (by decide) (fun c2 => ?_) (fun c2 => ?_)
    · replace hf := (if_pos c2).symm.trans hf
      exact hJ88 v3 S H locs ls hf (lv_sub hl [2] rfl) hh
    · replace hf := (if_neg c2).symm.trans hf
      refine lv_aload_n hx hb dX2_readFigure_68 rfl (lv_at hl 0 rfl) ?_
      refine zget (v := .ref a2) (ref := "SumOfTwoThatStand$Letters") (C := RX2) (T := TX2) (N := 7) (index := 9) X hh inX2_readFigure_X2 0 rfl rfl 2 (by decide) mmX2_readFigure_1 rfl rfl dX2_readFigure_69 ?_
      refine lv_aload_n hx hb dX2_readFigure_72 rfl (lv_at hl 0 rfl) ?_
      refine zget (v := .int (lt_figureCount S)) (ref := "SumOfTwoThatStand$Letters") (C := RX2) (T := TX2) (N := 7) (index := 58) X hh inX2_readFigure_X2 0 rfl rfl 5 (by decide) mmX2_readFigure_0 rfl rfl dX2_readFigure_73 ?_
      refine lv_iload_n hx hb dX2_readFigure_76 rfl (lv_at hl 1 rfl) ?_
      obtain ⟨g3, hf⟩ := ob_ix hf
      refine ziast (f := (lt_figures S)) X hh 2 rfl g3 dX2_readFigure_77 (fun H locs hh => ?_)
      have hh : zW K A s H locs (cLt K a0 a1 a2 (lt_set_figures S (upd (lt_figures S) (lt_figureCount S).toNatClampNeg v2))) := hh
      refine lv_aload_n hx hb dX2_readFigure_78 rfl (lv_at hl 0 rfl) ?_
      refine lv_dup hx hb dX2_readFigure_79 rfl ?_
      refine zget (v := .int (lt_figureCount S)) (ref := "SumOfTwoThatStand$Letters") (C := RX2) (T := TX2) (N := 7) (index := 58) X hh inX2_readFigure_X2 0 rfl rfl 5 (by decide) mmX2_readFigure_0 rfl rfl dX2_readFigure_80 ?_
      refine lv_iconst (v := (1 : Int32)) hx hb dX2_readFigure_83 (by decide) ?_
      refine lv_iadd hx hb dX2_readFigure_84 ?_
      refine zput (v := .int ((lt_figureCount S) + (1 : Int32))) (ty := .int) (ref := "SumOfTwoThatStand$Letters") (C := RX2) (T := TX2) (N := 7) (index := 58) X hh inX2_readFigure_X2 tyX2 tyX2_ok nmX2 0 rfl rfl 5 (by decide) mmX2_readFigure_0 rfl rfl (by decide +kernel) rfl rfl (Nat.le_of_ble_eq_true rfl) dX2_readFigure_85 (fun H locs hh => ?_)
      have hh : zW K A s H locs (cLt K a0 a1 a2 (lt_set_figureCount (lt_set_figures S (upd (lt_figures S) (lt_figureCount S).toNatClampNeg v2)) ((lt_figureCount S) + (1 : Int32)))) := hh
      exact hJ88 v3 (lt_set_figureCount (lt_set_figures S (upd (lt_figures S) (lt_figureCount S).toNatClampNeg v2)) ((lt_figureCount S) + (1 : Int32))) H locs ls hf (lv_sub hl [2] rfl) hh
  have hL4 : ∀ (v1 : Int32), ∀ (n : Nat) (v2 : Int32) (v3 : Int32) (S : zLt), ∀ (H : Heap) (locs : List Loc) (ls : Array Slot), fX2_readFigure_l4 v1 n v2 v3 S = some R → lv_has ls 4 [(0, .ref a0), (1, .int v1), (2, .int v2), (3, .int v3)] → zW K A s H locs (cLt K a0 a1 a2 S) → W p l e ({ frames := 1, cells := 0, slots := 0, locals := 21 } : Room) s m ([.ref a0, .int p1] : List Value).toArray below meth c H locs 0 0 Q (F0 m 4 ls []) := by
    intro v1 n
    induction n with
    | zero =>
      intro v2 v3 S H locs ls hf hl hh
      rw [fX2_readFigure_l4] at hf; cases hf
    | succ n ih =>
      intro v2 v3 S H locs ls hf hl hh
      rw [fX2_readFigure_l4] at hf
      refine lv_iload_n hx hb dX2_readFigure_4 rfl (lv_at hl 3 rfl) ?_
      refine lv_iload_n hx hb dX2_readFigure_5 rfl (lv_at hl 1 rfl) ?_
      refine lv_icmp_ge (tgt := 56) hx hb dX2_readFigure_6 (by decide) (fun c4 => ?_) (fun c4 => ?_)
      · replace hf := (if_pos c4).symm.trans hf
        exact hJ56 v2 v3 S H locs ls hf (lv_sub hl [0, 2, 3] rfl) hh
      · replace hf := (if_neg c4).symm.trans hf
        refine lv_aload_n hx hb dX2_readFigure_9 rfl (lv_at hl 0 rfl) ?_
        refine lv_aload_n hx hb dX2_readFigure_10 rfl (lv_at hl 0 rfl) ?_
        refine zget (v := .int (lt_at S)) (ref := "SumOfTwoThatStand$Letters") (C := RX2) (T := TX2) (N := 7) (index := 19) X hh inX2_readFigure_X2 0 rfl rfl 3 (by decide) mmX2_readFigure_2 rfl rfl dX2_readFigure_11 ?_
        obtain ⟨u5, hu5, hf⟩ := ob_bind hf
        refine zcallU (owner := "SumOfTwoThatStand$Told") (x := ⟨"SumOfTwoThatStand$Letters", "toldAt", "(I)I"⟩) (ci := 2) (q0 := 0) (As := [.int (lt_at S)]) (rest := []) (wr := []) (ws' := cLt K a0 a1 a2 S) (ov := some (.int u5)) X hh hl (kX6_toldAt_L l K a0 a1 a2 S (lt_at S) u5 hu5) (fun ht => va_cwU 1 ht gX2_readFigure_X6_toldAt_u55X2 rfl rfl rfl rfl hdX6_toldAt ⟨Nat.le_of_ble_eq_true rfl, Nat.le_of_ble_eq_true rfl⟩) [0, 1, 2] [] [0, 1, 2] rfl rfl rfl rfl (by decide) rfl rfl rfl rfl rfl rfl (Nat.le_of_ble_eq_true rfl) dX2_readFigure_14 ⟨Nat.zero_le _, Nat.zero_le _⟩ (fun H locs hh => ?_)
        refine zcallS (As := [.int u5]) (rest := []) (wr := cLt K a0 a1 a2 S) (ws' := cLt K a0 a1 a2 S) (ov := some (.int (fX2_isDigit u5))) X hh hl (kX2_isDigit l K u5 (fX2_isDigit u5) rfl) (fun ht => va_cwS 1 ht gX2_readFigure_X2_isDigit rfl rfl rfl hdX2_isDigit ⟨Nat.le_of_ble_eq_true rfl, Nat.le_of_ble_eq_true rfl⟩) [] [0, 1, 2] [0, 1, 2] rfl rfl rfl rfl (by decide) rfl rfl rfl rfl (Nat.le_of_ble_eq_true rfl) dX2_readFigure_17 ⟨Nat.zero_le _, Nat.zero_le _⟩ (fun H locs hh => ?_)
        refine lv_if_eq (tgt := 56) hx hb dX2_readFigure_20 (by decide) (fun c7 => ?_) (fun c7 => ?_)
        · replace hf := (if_pos c7).symm.trans hf
          exact hJ56 v2 v3 S H locs ls hf (lv_sub hl [0, 2, 3] rfl) hh
        · replace hf := (if_neg c7).symm.trans hf
          refine lv_iload_n hx hb dX2_readFigure_23 rfl (lv_at hl 2 rfl) ?_
          refine lv_bipush (v := (10 : Int32)) hx hb dX2_readFigure_24 (by decide) ?_
          refine lv_imul hx hb dX2_readFigure_26 ?_
          refine lv_aload_n hx hb dX2_readFigure_27 rfl (lv_at hl 0 rfl) ?_
          refine lv_aload_n hx hb dX2_readFigure_28 rfl (lv_at hl 0 rfl) ?_
          refine zget (v := .int (lt_at S)) (ref := "SumOfTwoThatStand$Letters") (C := RX2) (T := TX2) (N := 7) (index := 19) X hh inX2_readFigure_X2 0 rfl rfl 3 (by decide) mmX2_readFigure_2 rfl rfl dX2_readFigure_29 ?_
          obtain ⟨u8, hu8, hf⟩ := ob_bind hf
          refine zcallU (owner := "SumOfTwoThatStand$Told") (x := ⟨"SumOfTwoThatStand$Letters", "toldAt", "(I)I"⟩) (ci := 2) (q0 := 0) (As := [.int (lt_at S)]) (rest := [.int (v2 * (10 : Int32))]) (wr := []) (ws' := cLt K a0 a1 a2 S) (ov := some (.int u8)) X hh hl (kX6_toldAt_L l K a0 a1 a2 S (lt_at S) u8 hu8) (fun ht => va_cwU 1 ht gX2_readFigure_X6_toldAt_u55X2 rfl rfl rfl rfl hdX6_toldAt ⟨Nat.le_of_ble_eq_true rfl, Nat.le_of_ble_eq_true rfl⟩) [0, 1, 2] [] [0, 1, 2] rfl rfl rfl rfl (by decide) rfl rfl rfl rfl rfl rfl (Nat.le_of_ble_eq_true rfl) dX2_readFigure_32 ⟨Nat.zero_le _, Nat.zero_le _⟩ (fun H locs hh => ?_)
          refine lv_iadd hx hb dX2_readFigure_35 ?_
          refine lv_bipush (v := (48 : Int32)) hx hb dX2_readFigure_36 (by decide) ?_
          refine lv_isub hx hb dX2_readFigure_38 ?_
          refine lv_istore_n (lv' := [(2, .int (((v2 * (10 : Int32)) + u8) - (48 : Int32))), (0, .ref a0), (1, .int v1), (3, .int v3)]) hx hb dX2_readFigure_39 rfl hl (by decide) rfl (fun ls hl => ?_)
          refine lv_aload_n hx hb dX2_readFigure_40 rfl (lv_at hl 1 rfl) ?_
          refine lv_dup hx hb dX2_readFigure_41 rfl ?_
          refine zget (v := .int (lt_at S)) (ref := "SumOfTwoThatStand$Letters") (C := RX2) (T := TX2) (N := 7) (index := 19) X hh inX2_readFigure_X2 0 rfl rfl 3 (by decide) mmX2_readFigure_2 rfl rfl dX2_readFigure_42 ?_
          refine lv_iconst (v := (1 : Int32)) hx hb dX2_readFigure_45 (by decide) ?_
          refine lv_iadd hx hb dX2_readFigure_46 ?_
          refine zput (v := .int ((lt_at S) + (1 : Int32))) (ty := .int) (ref := "SumOfTwoThatStand$Letters") (C := RX2) (T := TX2) (N := 7) (index := 19) X hh inX2_readFigure_X2 tyX2 tyX2_ok nmX2 0 rfl rfl 3 (by decide) mmX2_readFigure_2 rfl rfl (by decide +kernel) rfl rfl (Nat.le_of_ble_eq_true rfl) dX2_readFigure_47 (fun H locs hh => ?_)
          have hh : zW K A s H locs (cLt K a0 a1 a2 (lt_set_at S ((lt_at S) + (1 : Int32)))) := hh
          refine lv_iinc (v := (v3 + (1 : Int32))) (lv' := [(3, .int (v3 + (1 : Int32))), (2, .int (((v2 * (10 : Int32)) + u8) - (48 : Int32))), (0, .ref a0), (1, .int v1)]) hx hb dX2_readFigure_50 hl (k := 3) rfl rfl (by decide) rfl (fun ls hl => ?_)
          refine lv_goto (tgt := 4) hx hb dX2_readFigure_53 (by decide) ?_
          exact ih (((v2 * (10 : Int32)) + u8) - (48 : Int32)) (v3 + (1 : Int32)) (lt_set_at S ((lt_at S) + (1 : Int32))) H locs ls hf (lv_sub hl [2, 3, 1, 0] rfl) hh
  unfold fX2_readFigure at hf
  refine (fun (hmain : ∀ (H : Heap) (locs : List Loc), zW K A s H locs (cLt K a0 a1 a2 S) → W p l e ({ frames := 1, cells := 0, slots := 0, locals := 21 } : Room) s m ([.ref a0, .int p1] : List Value).toArray below meth c H locs 0 0 Q (F0 m 0 ls [])) => hmain s.heap [] hh) (fun H locs hh => ?_)
  refine lv_iconst (v := (0 : Int32)) hx hb dX2_readFigure_0 (by decide) ?_
  refine lv_istore_n (lv' := [(2, .int (0 : Int32)), (0, .ref a0), (1, .int p1)]) hx hb dX2_readFigure_1 rfl hl (by decide) rfl (fun ls hl => ?_)
  refine lv_iconst (v := (0 : Int32)) hx hb dX2_readFigure_2 (by decide) ?_
  refine lv_istore_n (lv' := [(3, .int (0 : Int32)), (2, .int (0 : Int32)), (0, .ref a0), (1, .int p1)]) hx hb dX2_readFigure_3 rfl hl (by decide) rfl (fun ls hl => ?_)
  exact hL4 p1 FU (0 : Int32) (0 : Int32) S H locs ls hf (lv_sub hl [2, 3, 1, 0] rfl) hh
theorem inX2_readPart_X2 : ∀ w ∈ wsX20, w ∈ wsX2_readPart := by decide +kernel
theorem mmX2_readPart_0 : Cond.fieldLink RX2 19 "SumOfTwoThatStand$Letters" "at" "I" ∈ wsX2_readPart := by decide +kernel
theorem hdX2_readPart : yX2_readPart.cls ≠ "java/lang/invoke/MethodHandle" ∧ yX2_readPart.cls ≠ "java/lang/invoke/VarHandle" ∧ (parseMethodDescriptor yX2_readPart.desc).map (fun d => d.parameters.length) = some 1 := by decide +kernel
set_option maxHeartbeats 4000000 in
set_option maxRecDepth 100000 in
theorem kX2_readPart (l : Launch) (K : zK) (a0 a1 a2 : Nat) (S : zLt) (p1 : Int32) (R : Int32 × zLt) (hf : fX2_readPart S p1 = some R) : zC l yX2_readPart wsX2_readPart ({ frames := 2, cells := 0, slots := 0, locals := 44 } : Room) K [.ref a0, .int p1] (cLt K a0 a1 a2 S) (some (.int R.1)) (cLt K a0 a1 a2 R.2) := by
  refine zC_z .boolean R.1 (cc := cX2_readPart) (maxL := 2) (by decide +kernel) rfl (Nat.le_of_ble_eq_true rfl) rfl rfl ?_
  intro p e s m below meth c Q A X hret ls hl hh
  have X : zX p m c cX2_readPart 2 s ([.ref a0, .int p1] : List Value).toArray wsX2_readPart RX2 K A := X
  have hx := X.1.1
  have hb := X.1.2.1
  have hr2 : ∀ (pc : Nat) (ls : Array Slot) (H : Heap) (locs : List Loc) (v : Int32) (S : zLt), some (v, S) = some R → narrow .boolean (.int v) = .int v → decode cX2_readPart pc = .ok (.ireturn, 1) → zW K A s H locs (cLt K a0 a1 a2 S) → W p l e ({ frames := 2, cells := 0, slots := 0, locals := 44 } : Room) s m ([.ref a0, .int p1] : List Value).toArray below meth c H locs 0 0 Q (F0 m pc ls [.int v]) := by
    intro pc ls H locs v S h hn hd hh
    cases h; exact hret pc ls H locs _ rfl hn hd hh
  have hl : lv_has ls 2 [(0, .ref a0), (1, .int p1)] := hl
  unfold fX2_readPart at hf
  refine (fun (hmain : ∀ (H : Heap) (locs : List Loc), zW K A s H locs (cLt K a0 a1 a2 S) → W p l e ({ frames := 2, cells := 0, slots := 0, locals := 44 } : Room) s m ([.ref a0, .int p1] : List Value).toArray below meth c H locs 0 0 Q (F0 m 0 ls [])) => hmain s.heap [] hh) (fun H locs hh => ?_)
  refine lv_iload_n hx hb dX2_readPart_0 rfl (lv_at hl 1 rfl) ?_
  refine lv_bipush (v := (104 : Int32)) hx hb dX2_readPart_1 (by decide) ?_
  refine lv_icmp_ne (tgt := 12) hx hb dX2_readPart_3 (by decide) (fun c1 => ?_) (fun c1 => ?_)
  · replace hf := (if_neg c1).symm.trans hf
    refine lv_iload_n hx hb dX2_readPart_12 rfl (lv_at hl 1 rfl) ?_
    refine lv_bipush (v := (100 : Int32)) hx hb dX2_readPart_13 (by decide) ?_
    refine lv_icmp_ne (tgt := 24) hx hb dX2_readPart_15 (by decide) (fun c2 => ?_) (fun c2 => ?_)
    · replace hf := (if_neg c2).symm.trans hf
      refine lv_aload_n hx hb dX2_readPart_24 rfl (lv_at hl 0 rfl) ?_
      refine lv_aload_n hx hb dX2_readPart_25 rfl (lv_at hl 0 rfl) ?_
      refine zget (v := .int (lt_at S)) (ref := "SumOfTwoThatStand$Letters") (C := RX2) (T := TX2) (N := 7) (index := 19) X hh inX2_readPart_X2 0 rfl rfl 3 (by decide) mmX2_readPart_0 rfl rfl dX2_readPart_26 ?_
      obtain ⟨u3, hu3, hf⟩ := ob_bind hf
      refine zcallU (owner := "SumOfTwoThatStand$Told") (x := ⟨"SumOfTwoThatStand$Letters", "toldAt", "(I)I"⟩) (ci := 2) (q0 := 0) (As := [.int (lt_at S)]) (rest := []) (wr := []) (ws' := cLt K a0 a1 a2 S) (ov := some (.int u3)) X hh hl (kX6_toldAt_L l K a0 a1 a2 S (lt_at S) u3 hu3) (fun ht => va_cwU 1 ht gX2_readPart_X6_toldAt_u55X2 rfl rfl rfl rfl hdX6_toldAt ⟨Nat.le_of_ble_eq_true rfl, Nat.le_of_ble_eq_true rfl⟩) [0, 1, 2] [] [0, 1, 2] rfl rfl rfl rfl (by decide) rfl rfl rfl rfl rfl rfl (Nat.le_of_ble_eq_true rfl) dX2_readPart_29 ⟨Nat.zero_le _, Nat.zero_le _⟩ (fun H locs hh => ?_)
      refine lv_iload_n hx hb dX2_readPart_32 rfl (lv_at hl 1 rfl) ?_
      refine lv_icmp_eq (tgt := 38) hx hb dX2_readPart_33 (by decide) (fun c4 => ?_) (fun c4 => ?_)
      · replace hf := (if_pos c4).symm.trans hf
        refine lv_aload_n hx hb dX2_readPart_38 rfl (lv_at hl 0 rfl) ?_
        refine lv_dup hx hb dX2_readPart_39 rfl ?_
        refine zget (v := .int (lt_at S)) (ref := "SumOfTwoThatStand$Letters") (C := RX2) (T := TX2) (N := 7) (index := 19) X hh inX2_readPart_X2 0 rfl rfl 3 (by decide) mmX2_readPart_0 rfl rfl dX2_readPart_40 ?_
        refine lv_iconst (v := (1 : Int32)) hx hb dX2_readPart_43 (by decide) ?_
        refine lv_iadd hx hb dX2_readPart_44 ?_
        refine zput (v := .int ((lt_at S) + (1 : Int32))) (ty := .int) (ref := "SumOfTwoThatStand$Letters") (C := RX2) (T := TX2) (N := 7) (index := 19) X hh inX2_readPart_X2 tyX2 tyX2_ok nmX2 0 rfl rfl 3 (by decide) mmX2_readPart_0 rfl rfl (by decide +kernel) rfl rfl (Nat.le_of_ble_eq_true rfl) dX2_readPart_45 (fun H locs hh => ?_)
        have hh : zW K A s H locs (cLt K a0 a1 a2 (lt_set_at S ((lt_at S) + (1 : Int32)))) := hh
        refine lv_iconst (v := (1 : Int32)) hx hb dX2_readPart_48 (by decide) ?_
        exact hr2 49 ls H locs (1 : Int32) (lt_set_at S ((lt_at S) + (1 : Int32))) hf rfl dX2_readPart_49 hh
      · replace hf := (if_neg c4).symm.trans hf
        refine lv_iconst (v := (0 : Int32)) hx hb dX2_readPart_36 (by decide) ?_
        exact hr2 37 ls H locs (0 : Int32) S hf rfl dX2_readPart_37 hh
    · replace hf := (if_pos c2).symm.trans hf
      refine lv_aload_n hx hb dX2_readPart_18 rfl (lv_at hl 0 rfl) ?_
      refine lv_iconst (v := (1 : Int32)) hx hb dX2_readPart_19 (by decide) ?_
      obtain ⟨u5, hu5, hf⟩ := ob_bind hf
      refine zcallV (ci := 2) (q0 := 0) (As := [.int (1 : Int32)]) (rest := []) (wr := []) (ws' := cLt K a0 a1 a2 u5.2) (ov := some (.int u5.1)) X hh hl (kX2_readFigure l K a0 a1 a2 S (1 : Int32) u5 hu5) (fun ht => cwV 1 ht gX2_readPart_X2_readFigure rfl rfl rfl ⟨rfl, hdX2_readFigure⟩ ⟨Nat.le_of_ble_eq_true rfl, Nat.le_of_ble_eq_true rfl⟩) [0, 1, 2] [] [0, 1, 2] rfl rfl rfl rfl (by decide) rfl rfl rfl rfl rfl rfl (Nat.le_of_ble_eq_true rfl) dX2_readPart_20 ⟨Nat.zero_le _, Nat.zero_le _⟩ (fun H locs hh => ?_)
      obtain ⟨g6, hf⟩ := ob_ck hf
      exact hr2 23 ls H locs u5.1 u5.2 hf (nar_ok g6) dX2_readPart_23 hh
  · replace hf := (if_pos c1).symm.trans hf
    refine lv_aload_n hx hb dX2_readPart_6 rfl (lv_at hl 0 rfl) ?_
    refine lv_iconst (v := (2 : Int32)) hx hb dX2_readPart_7 (by decide) ?_
    obtain ⟨u7, hu7, hf⟩ := ob_bind hf
    refine zcallV (ci := 2) (q0 := 0) (As := [.int (2 : Int32)]) (rest := []) (wr := []) (ws' := cLt K a0 a1 a2 u7.2) (ov := some (.int u7.1)) X hh hl (kX2_readFigure l K a0 a1 a2 S (2 : Int32) u7 hu7) (fun ht => cwV 1 ht gX2_readPart_X2_readFigure rfl rfl rfl ⟨rfl, hdX2_readFigure⟩ ⟨Nat.le_of_ble_eq_true rfl, Nat.le_of_ble_eq_true rfl⟩) [0, 1, 2] [] [0, 1, 2] rfl rfl rfl rfl (by decide) rfl rfl rfl rfl rfl rfl (Nat.le_of_ble_eq_true rfl) dX2_readPart_8 ⟨Nat.zero_le _, Nat.zero_le _⟩ (fun H locs hh => ?_)
    obtain ⟨g8, hf⟩ := ob_ck hf
    exact hr2 11 ls H locs u7.1 u7.2 hf (nar_ok g8) dX2_readPart_11 hh
theorem hdX2_formOf : yX2_formOf.cls ≠ "java/lang/invoke/MethodHandle" ∧ yX2_formOf.cls ≠ "java/lang/invoke/VarHandle" ∧ (parseMethodDescriptor yX2_formOf.desc).map (fun d => d.parameters.length) = some 1 := by decide +kernel
set_option maxHeartbeats 4000000 in
set_option maxRecDepth 100000 in
theorem kX2_formOf (l : Launch) (K : zK) (p0 : Int32) (R : Nat) (hf : fX2_formOf p0 = R) : zC l yX2_formOf wsX2_formOf ({ frames := 0, cells := 0, slots := 0, locals := 0 } : Room) K [.int p0] ([]) (some (.ref (K.2.2.1 R))) ([]) := by
  refine zC_s R (cc := cX2_formOf) (maxL := 1) (by decide +kernel) rfl (Nat.le_of_ble_eq_true rfl) rfl rfl ?_
  intro p e s m below meth c Q A X hret ls hl hh
  have X : zX p m c cX2_formOf 1 s ([.int p0] : List Value).toArray wsX2_formOf RX2 K A := X
  have hx := X.1.1
  have hb := X.1.2.1
  have hr2 : ∀ (pc : Nat) (ls : Array Slot) (H : Heap) (locs : List Loc) (v : Nat), v = R → decode cX2_formOf pc = .ok (.areturn, 1) → zW K A s H locs ([]) → W p l e ({ frames := 0, cells := 0, slots := 0, locals := 0 } : Room) s m ([.int p0] : List Value).toArray below meth c H locs 0 0 Q (F0 m pc ls [.ref (K.2.2.1 v)]) := by
    intro pc ls H locs v h hd hh
    cases h; exact hret pc ls H locs _ rfl hd hh
  have hl : lv_has ls 1 [(0, .int p0)] := hl
  unfold fX2_formOf at hf
  refine (fun (hmain : ∀ (H : Heap) (locs : List Loc), zW K A s H locs ([]) → W p l e ({ frames := 0, cells := 0, slots := 0, locals := 0 } : Room) s m ([.int p0] : List Value).toArray below meth c H locs 0 0 Q (F0 m 0 ls [])) => hmain s.heap [] hh) (fun H locs hh => ?_)
  refine lv_iload_n hx hb dX2_formOf_0 rfl (lv_at hl 0 rfl) ?_
  by_cases c1_0 : p0 = (97 : Int32)
  · replace hf := (if_pos c1_0).symm.trans hf
    refine lv_lookup (off := 43) (tgt := 44) hx hb dX2_formOf_1 (by decide) (by rw [c1_0]; decide) (by decide) ?_
    refine va_ldcS hx hb X.1.2.2.2.1 (X.2.2.2.2.1 0 (by decide)) dX2_formOf_44 ?_
    exact hr2 46 ls H locs (0 : Nat) hf dX2_formOf_46 hh
  replace hf := (if_neg c1_0).symm.trans hf
  by_cases c1_1 : p0 = (98 : Int32)
  · replace hf := (if_pos c1_1).symm.trans hf
    refine lv_lookup (off := 46) (tgt := 47) hx hb dX2_formOf_1 (by decide) (by rw [c1_1]; decide) (by decide) ?_
    refine va_ldcS hx hb X.1.2.2.2.1 (X.2.2.2.2.1 1 (by decide)) dX2_formOf_47 ?_
    exact hr2 49 ls H locs (1 : Nat) hf dX2_formOf_49 hh
  replace hf := (if_neg c1_1).symm.trans hf
  by_cases c1_2 : p0 = (108 : Int32)
  · replace hf := (if_pos c1_2).symm.trans hf
    refine lv_lookup (off := 49) (tgt := 50) hx hb dX2_formOf_1 (by decide) (by rw [c1_2]; decide) (by decide) ?_
    refine va_ldcS hx hb X.1.2.2.2.1 (X.2.2.2.2.1 2 (by decide)) dX2_formOf_50 ?_
    exact hr2 52 ls H locs (2 : Nat) hf dX2_formOf_52 hh
  replace hf := (if_neg c1_2).symm.trans hf
  by_cases c1_3 : p0 = (110 : Int32)
  · replace hf := (if_pos c1_3).symm.trans hf
    refine lv_lookup (off := 52) (tgt := 53) hx hb dX2_formOf_1 (by decide) (by rw [c1_3]; decide) (by decide) ?_
    refine va_ldcS hx hb X.1.2.2.2.1 (X.2.2.2.2.1 3 (by decide)) dX2_formOf_53 ?_
    exact hr2 55 ls H locs (3 : Nat) hf dX2_formOf_55 hh
  replace hf := (if_neg c1_3).symm.trans hf
  refine lv_lookup (off := 55) (tgt := 56) hx hb dX2_formOf_1 (by decide) ((lv_osw c1_0 (by decide)).trans ((lv_osw c1_1 (by decide)).trans ((lv_osw c1_2 (by decide)).trans ((lv_osw c1_3 (by decide)).trans (rfl))))) (by decide) ?_
  refine va_ldcS hx hb X.1.2.2.2.1 (X.2.2.2.2.1 4 (by decide)) dX2_formOf_56 ?_
  exact hr2 58 ls H locs (4 : Nat) hf dX2_formOf_58 hh
theorem inX2_readStatement_X2 : ∀ w ∈ wsX20, w ∈ wsX2_readStatement := by decide +kernel
theorem mmX2_readStatement_0 : Cond.fieldLink RX2 19 "SumOfTwoThatStand$Letters" "at" "I" ∈ wsX2_readStatement := by decide +kernel
theorem mmX2_readStatement_1 : Cond.fieldLink RX2 34 "SumOfTwoThatStand$Letters" "verb" "I" ∈ wsX2_readStatement := by decide +kernel
theorem mmX2_readStatement_2 : Cond.fieldLink RX2 58 "SumOfTwoThatStand$Letters" "figureCount" "I" ∈ wsX2_readStatement := by decide +kernel
theorem hdX2_readStatement : yX2_readStatement.cls ≠ "java/lang/invoke/MethodHandle" ∧ yX2_readStatement.cls ≠ "java/lang/invoke/VarHandle" ∧ (parseMethodDescriptor yX2_readStatement.desc).map (fun d => d.parameters.length) = some 0 := by decide +kernel
set_option maxHeartbeats 4000000 in
set_option maxRecDepth 100000 in
theorem kX2_readStatement (l : Launch) (K : zK) (a0 a1 a2 : Nat) (S : zLt) (R : Int32 × zLt) (hf : fX2_readStatement S = some R) : zC l yX2_readStatement wsX2_readStatement ({ frames := 6, cells := 0, slots := 0, locals := 150 } : Room) K [.ref a0] (cLt K a0 a1 a2 S) (some (.int R.1)) (cLt K a0 a1 a2 R.2) := by
  refine zC_z .boolean R.1 (cc := cX2_readStatement) (maxL := 3) (by decide +kernel) rfl (Nat.le_of_ble_eq_true rfl) rfl rfl ?_
  intro p e s m below meth c Q A X hret ls hl hh
  have X : zX p m c cX2_readStatement 3 s ([.ref a0] : List Value).toArray wsX2_readStatement RX2 K A := X
  have hx := X.1.1
  have hb := X.1.2.1
  have hr2 : ∀ (pc : Nat) (ls : Array Slot) (H : Heap) (locs : List Loc) (v : Int32) (S : zLt), some (v, S) = some R → narrow .boolean (.int v) = .int v → decode cX2_readStatement pc = .ok (.ireturn, 1) → zW K A s H locs (cLt K a0 a1 a2 S) → W p l e ({ frames := 6, cells := 0, slots := 0, locals := 150 } : Room) s m ([.ref a0] : List Value).toArray below meth c H locs 0 0 Q (F0 m pc ls [.int v]) := by
    intro pc ls H locs v S h hn hd hh
    cases h; exact hret pc ls H locs _ rfl hn hd hh
  have hl : lv_has ls 3 [(0, .ref a0)] := hl
  have hL46 : ∀ (v1 : Nat), ∀ (n : Nat) (v2 : Int32) (S : zLt), ∀ (H : Heap) (locs : List Loc) (ls : Array Slot), fX2_readStatement_l46 v1 n v2 S = some R → lv_has ls 3 [(0, .ref a0), (1, .ref (K.2.2.1 v1)), (2, .int v2)] → zW K A s H locs (cLt K a0 a1 a2 S) → W p l e ({ frames := 6, cells := 0, slots := 0, locals := 150 } : Room) s m ([.ref a0] : List Value).toArray below meth c H locs 0 0 Q (F0 m 46 ls []) := by
    intro v1 n
    induction n with
    | zero =>
      intro v2 S H locs ls hf hl hh
      rw [fX2_readStatement_l46] at hf; cases hf
    | succ n ih =>
      intro v2 S H locs ls hf hl hh
      rw [fX2_readStatement_l46] at hf
      refine lv_iload_n hx hb dX2_readStatement_46 rfl (lv_at hl 2 rfl) ?_
      refine lv_aload_n hx hb dX2_readStatement_47 rfl (lv_at hl 1 rfl) ?_
      obtain ⟨g1, hf⟩ := ob_ck hf
      refine zcallK (i := v1) (As := []) (rest := [.int v2]) (wr := cLt K a0 a1 a2 S) (ws' := cLt K a0 a1 a2 S) (ov := some (.int (zLenI v1))) X hh hl g1 (kJ0_length l K v1 g1) (fun ht => cwV 0 ht gX2_readStatement_J0_length_8abf5 rfl rfl rfl ⟨rfl, hdJ0_length_8abf5⟩ ⟨Nat.le_of_ble_eq_true rfl, Nat.le_of_ble_eq_true rfl⟩) [] [0, 1, 2] [0, 1, 2] rfl rfl rfl rfl (by decide) rfl rfl rfl rfl (Nat.le_of_ble_eq_true rfl) dX2_readStatement_48 ⟨Nat.zero_le _, Nat.zero_le _⟩ (fun H locs hh => ?_)
      refine lv_icmp_ge (tgt := 74) hx hb dX2_readStatement_51 (by decide) (fun c2 => ?_) (fun c2 => ?_)
      · replace hf := (if_pos c2).symm.trans hf
        refine lv_iconst (v := (1 : Int32)) hx hb dX2_readStatement_74 (by decide) ?_
        exact hr2 75 ls H locs (1 : Int32) S hf rfl dX2_readStatement_75 hh
      · replace hf := (if_neg c2).symm.trans hf
        refine lv_aload_n hx hb dX2_readStatement_54 rfl (lv_at hl 0 rfl) ?_
        refine lv_aload_n hx hb dX2_readStatement_55 rfl (lv_at hl 1 rfl) ?_
        refine lv_iload_n hx hb dX2_readStatement_56 rfl (lv_at hl 2 rfl) ?_
        obtain ⟨g3, hf⟩ := ob_ck hf
        obtain ⟨g4, hf⟩ := ob_gd hf
        refine zcallK (i := v1) (As := [.int v2]) (rest := [.ref a0]) (wr := cLt K a0 a1 a2 S) (ws' := cLt K a0 a1 a2 S) (ov := some (.int (zChr v1 v2))) X hh hl g3 (kJ0_charAt l K v1 v2 g3 g4) (fun ht => cwV 1 ht gX2_readStatement_J0_charAt_5068e rfl rfl rfl ⟨rfl, hdJ0_charAt_5068e⟩ ⟨Nat.le_of_ble_eq_true rfl, Nat.le_of_ble_eq_true rfl⟩) [] [0, 1, 2] [0, 1, 2] rfl rfl rfl rfl (by decide) rfl rfl rfl rfl (Nat.le_of_ble_eq_true rfl) dX2_readStatement_57 ⟨Nat.zero_le _, Nat.zero_le _⟩ (fun H locs hh => ?_)
        obtain ⟨u5, hu5, hf⟩ := ob_bind hf
        refine zcallV (ci := 2) (q0 := 0) (As := [.int (zChr v1 v2)]) (rest := []) (wr := []) (ws' := cLt K a0 a1 a2 u5.2) (ov := some (.int u5.1)) X hh hl (kX2_readPart l K a0 a1 a2 S (zChr v1 v2) u5 hu5) (fun ht => cwV 1 ht gX2_readStatement_X2_readPart rfl rfl rfl ⟨rfl, hdX2_readPart⟩ ⟨Nat.le_of_ble_eq_true rfl, Nat.le_of_ble_eq_true rfl⟩) [0, 1, 2] [] [0, 1, 2] rfl rfl rfl rfl (by decide) rfl rfl rfl rfl rfl rfl (Nat.le_of_ble_eq_true rfl) dX2_readStatement_60 ⟨Nat.zero_le _, Nat.zero_le _⟩ (fun H locs hh => ?_)
        refine lv_if_ne (tgt := 68) hx hb dX2_readStatement_63 (by decide) (fun c6 => ?_) (fun c6 => ?_)
        · replace hf := (if_neg c6).symm.trans hf
          refine lv_iinc (v := (v2 + (1 : Int32))) (lv' := [(2, .int (v2 + (1 : Int32))), (0, .ref a0), (1, .ref (K.2.2.1 v1))]) hx hb dX2_readStatement_68 hl (k := 2) rfl rfl (by decide) rfl (fun ls hl => ?_)
          refine lv_goto (tgt := 46) hx hb dX2_readStatement_71 (by decide) ?_
          exact ih (v2 + (1 : Int32)) u5.2 H locs ls hf (lv_sub hl [1, 2, 0] rfl) hh
        · replace hf := (if_pos c6).symm.trans hf
          refine lv_iconst (v := (0 : Int32)) hx hb dX2_readStatement_66 (by decide) ?_
          exact hr2 67 ls H locs (0 : Int32) u5.2 hf rfl dX2_readStatement_67 hh
  unfold fX2_readStatement at hf
  refine (fun (hmain : ∀ (H : Heap) (locs : List Loc), zW K A s H locs (cLt K a0 a1 a2 S) → W p l e ({ frames := 6, cells := 0, slots := 0, locals := 150 } : Room) s m ([.ref a0] : List Value).toArray below meth c H locs 0 0 Q (F0 m 0 ls [])) => hmain s.heap [] hh) (fun H locs hh => ?_)
  refine lv_aload_n hx hb dX2_readStatement_0 rfl (lv_at hl 0 rfl) ?_
  refine lv_aload_n hx hb dX2_readStatement_1 rfl (lv_at hl 0 rfl) ?_
  refine lv_aload_n hx hb dX2_readStatement_2 rfl (lv_at hl 0 rfl) ?_
  refine zget (v := .int (lt_at S)) (ref := "SumOfTwoThatStand$Letters") (C := RX2) (T := TX2) (N := 7) (index := 19) X hh inX2_readStatement_X2 0 rfl rfl 3 (by decide) mmX2_readStatement_0 rfl rfl dX2_readStatement_3 ?_
  obtain ⟨u7, hu7, hf⟩ := ob_bind hf
  refine zcallU (owner := "SumOfTwoThatStand$Told") (x := ⟨"SumOfTwoThatStand$Letters", "toldAt", "(I)I"⟩) (ci := 2) (q0 := 0) (As := [.int (lt_at S)]) (rest := [.ref a0]) (wr := []) (ws' := cLt K a0 a1 a2 S) (ov := some (.int u7)) X hh hl (kX6_toldAt_L l K a0 a1 a2 S (lt_at S) u7 hu7) (fun ht => va_cwU 1 ht gX2_readStatement_X6_toldAt_u55X2 rfl rfl rfl rfl hdX6_toldAt ⟨Nat.le_of_ble_eq_true rfl, Nat.le_of_ble_eq_true rfl⟩) [0, 1, 2] [] [0, 1, 2] rfl rfl rfl rfl (by decide) rfl rfl rfl rfl rfl rfl (Nat.le_of_ble_eq_true rfl) dX2_readStatement_6 ⟨Nat.zero_le _, Nat.zero_le _⟩ (fun H locs hh => ?_)
  refine zput (v := .int u7) (ty := .int) (ref := "SumOfTwoThatStand$Letters") (C := RX2) (T := TX2) (N := 7) (index := 34) X hh inX2_readStatement_X2 tyX2 tyX2_ok nmX2 0 rfl rfl 4 (by decide) mmX2_readStatement_1 rfl rfl (by decide +kernel) rfl rfl (Nat.le_of_ble_eq_true rfl) dX2_readStatement_9 (fun H locs hh => ?_)
  have hh : zW K A s H locs (cLt K a0 a1 a2 (lt_set_verb S u7)) := hh
  refine lv_aload_n hx hb dX2_readStatement_12 rfl (lv_at hl 0 rfl) ?_
  refine lv_iconst (v := (0 : Int32)) hx hb dX2_readStatement_13 (by decide) ?_
  refine zput (v := .int (0 : Int32)) (ty := .int) (ref := "SumOfTwoThatStand$Letters") (C := RX2) (T := TX2) (N := 7) (index := 58) X hh inX2_readStatement_X2 tyX2 tyX2_ok nmX2 0 rfl rfl 5 (by decide) mmX2_readStatement_2 rfl rfl (by decide +kernel) rfl rfl (Nat.le_of_ble_eq_true rfl) dX2_readStatement_14 (fun H locs hh => ?_)
  have hh : zW K A s H locs (cLt K a0 a1 a2 (lt_set_figureCount (lt_set_verb S u7) (0 : Int32))) := hh
  refine lv_aload_n hx hb dX2_readStatement_17 rfl (lv_at hl 0 rfl) ?_
  refine zget (v := .int u7) (ref := "SumOfTwoThatStand$Letters") (C := RX2) (T := TX2) (N := 7) (index := 34) X hh inX2_readStatement_X2 0 rfl rfl 4 (by decide) mmX2_readStatement_1 rfl rfl dX2_readStatement_18 ?_
  refine zcallS (As := [.int u7]) (rest := []) (wr := cLt K a0 a1 a2 (lt_set_figureCount (lt_set_verb S u7) (0 : Int32))) (ws' := cLt K a0 a1 a2 (lt_set_figureCount (lt_set_verb S u7) (0 : Int32))) (ov := some (.ref (K.2.2.1 (fX2_formOf u7)))) X hh hl (kX2_formOf l K u7 (fX2_formOf u7) rfl) (fun ht => va_cwS 1 ht gX2_readStatement_X2_formOf rfl rfl rfl hdX2_formOf ⟨Nat.le_of_ble_eq_true rfl, Nat.le_of_ble_eq_true rfl⟩) [] [0, 1, 2] [0, 1, 2] rfl rfl rfl rfl (by decide) rfl rfl rfl rfl (Nat.le_of_ble_eq_true rfl) dX2_readStatement_21 ⟨Nat.zero_le _, Nat.zero_le _⟩ (fun H locs hh => ?_)
  refine lv_astore_n (lv' := [(1, .ref (K.2.2.1 (fX2_formOf u7))), (0, .ref a0)]) hx hb dX2_readStatement_24 rfl hl (by decide) rfl (fun ls hl => ?_)
  refine lv_aload_n hx hb dX2_readStatement_25 rfl (lv_at hl 0 rfl) ?_
  obtain ⟨g9, hf⟩ := ob_ck hf
  refine zcallK (i := (fX2_formOf u7)) (As := []) (rest := []) (wr := cLt K a0 a1 a2 (lt_set_figureCount (lt_set_verb S u7) (0 : Int32))) (ws' := cLt K a0 a1 a2 (lt_set_figureCount (lt_set_verb S u7) (0 : Int32))) (ov := some (.int (zIsE (fX2_formOf u7)))) X hh hl g9 (kJ0_isEmpty l K (fX2_formOf u7) g9) (fun ht => cwV 0 ht gX2_readStatement_J0_isEmpty_aae02 rfl rfl rfl ⟨rfl, hdJ0_isEmpty_aae02⟩ ⟨Nat.le_of_ble_eq_true rfl, Nat.le_of_ble_eq_true rfl⟩) [] [0, 1, 2] [0, 1, 2] rfl rfl rfl rfl (by decide) rfl rfl rfl rfl (Nat.le_of_ble_eq_true rfl) dX2_readStatement_26 ⟨Nat.zero_le _, Nat.zero_le _⟩ (fun H locs hh => ?_)
  refine lv_if_eq (tgt := 34) hx hb dX2_readStatement_29 (by decide) (fun c10 => ?_) (fun c10 => ?_)
  · replace hf := (if_pos c10).symm.trans hf
    refine lv_aload_n hx hb dX2_readStatement_34 rfl (lv_at hl 1 rfl) ?_
    refine lv_dup hx hb dX2_readStatement_35 rfl ?_
    refine zget (v := .int (lt_at S)) (ref := "SumOfTwoThatStand$Letters") (C := RX2) (T := TX2) (N := 7) (index := 19) X hh inX2_readStatement_X2 0 rfl rfl 3 (by decide) mmX2_readStatement_0 rfl rfl dX2_readStatement_36 ?_
    refine lv_iconst (v := (1 : Int32)) hx hb dX2_readStatement_39 (by decide) ?_
    refine lv_iadd hx hb dX2_readStatement_40 ?_
    refine zput (v := .int ((lt_at S) + (1 : Int32))) (ty := .int) (ref := "SumOfTwoThatStand$Letters") (C := RX2) (T := TX2) (N := 7) (index := 19) X hh inX2_readStatement_X2 tyX2 tyX2_ok nmX2 0 rfl rfl 3 (by decide) mmX2_readStatement_0 rfl rfl (by decide +kernel) rfl rfl (Nat.le_of_ble_eq_true rfl) dX2_readStatement_41 (fun H locs hh => ?_)
    have hh : zW K A s H locs (cLt K a0 a1 a2 (lt_set_figureCount (lt_set_verb (lt_set_at S ((lt_at S) + (1 : Int32))) u7) (0 : Int32))) := hh
    refine lv_iconst (v := (0 : Int32)) hx hb dX2_readStatement_44 (by decide) ?_
    refine lv_istore_n (lv' := [(2, .int (0 : Int32)), (1, .ref (K.2.2.1 (fX2_formOf u7))), (0, .ref a0)]) hx hb dX2_readStatement_45 rfl hl (by decide) rfl (fun ls hl => ?_)
    exact hL46 (fX2_formOf u7) FU (0 : Int32) (lt_set_figureCount (lt_set_verb (lt_set_at S ((lt_at S) + (1 : Int32))) u7) (0 : Int32)) H locs ls hf (lv_sub hl [2, 1, 0] rfl) hh
  · replace hf := (if_neg c10).symm.trans hf
    refine lv_iconst (v := (0 : Int32)) hx hb dX2_readStatement_32 (by decide) ?_
    exact hr2 33 ls H locs (0 : Int32) (lt_set_figureCount (lt_set_verb S u7) (0 : Int32)) hf rfl dX2_readStatement_33 hh
theorem inX2_comesTo_X2 : ∀ w ∈ wsX20, w ∈ wsX2_comesTo := by decide +kernel
theorem mmX2_comesTo_0 : Cond.fieldLink RX2 34 "SumOfTwoThatStand$Letters" "verb" "I" ∈ wsX2_comesTo := by decide +kernel
theorem mmX2_comesTo_1 : Cond.fieldLink RX2 9 "SumOfTwoThatStand$Letters" "figures" "[I" ∈ wsX2_comesTo := by decide +kernel
theorem hdX2_comesTo : yX2_comesTo.cls ≠ "java/lang/invoke/MethodHandle" ∧ yX2_comesTo.cls ≠ "java/lang/invoke/VarHandle" ∧ (parseMethodDescriptor yX2_comesTo.desc).map (fun d => d.parameters.length) = some 1 := by decide +kernel
set_option maxHeartbeats 4000000 in
set_option maxRecDepth 100000 in
theorem kX2_comesTo (l : Launch) (K : zK) (a0 a1 a2 b0 b1 b2 b3 b4 b5 b6 b7 : Nat) (S : zLt) (T : zSt) (R : Int32 × zSt) (hf : fX2_comesTo S T = some R) : zC l yX2_comesTo wsX2_comesTo ({ frames := 4, cells := 0, slots := 0, locals := 91 } : Room) K [.ref a0, .ref b0] (cLt K a0 a1 a2 S ++ cSt K b0 b1 b2 b3 b4 b5 b6 b7 T) (some (.int R.1)) (cLt K a0 a1 a2 S ++ cSt K b0 b1 b2 b3 b4 b5 b6 b7 R.2) := by
  refine zC_z .boolean R.1 (cc := cX2_comesTo) (maxL := 2) (by decide +kernel) rfl (Nat.le_of_ble_eq_true rfl) rfl rfl ?_
  intro p e s m below meth c Q A X hret ls hl hh
  have X : zX p m c cX2_comesTo 2 s ([.ref a0, .ref b0] : List Value).toArray wsX2_comesTo RX2 K A := X
  have hx := X.1.1
  have hb := X.1.2.1
  have hr2 : ∀ (pc : Nat) (ls : Array Slot) (H : Heap) (locs : List Loc) (v : Int32) (T : zSt), some (v, T) = some R → narrow .boolean (.int v) = .int v → decode cX2_comesTo pc = .ok (.ireturn, 1) → zW K A s H locs (cLt K a0 a1 a2 S ++ cSt K b0 b1 b2 b3 b4 b5 b6 b7 T) → W p l e ({ frames := 4, cells := 0, slots := 0, locals := 91 } : Room) s m ([.ref a0, .ref b0] : List Value).toArray below meth c H locs 0 0 Q (F0 m pc ls [.int v]) := by
    intro pc ls H locs v T h hn hd hh
    cases h; exact hret pc ls H locs _ rfl hn hd hh
  have hl : lv_has ls 2 [(0, .ref a0), (1, .ref b0)] := hl
  unfold fX2_comesTo at hf
  refine (fun (hmain : ∀ (H : Heap) (locs : List Loc), zW K A s H locs (cLt K a0 a1 a2 S ++ cSt K b0 b1 b2 b3 b4 b5 b6 b7 T) → W p l e ({ frames := 4, cells := 0, slots := 0, locals := 91 } : Room) s m ([.ref a0, .ref b0] : List Value).toArray below meth c H locs 0 0 Q (F0 m 0 ls [])) => hmain s.heap [] hh) (fun H locs hh => ?_)
  refine lv_aload_n hx hb dX2_comesTo_0 rfl (lv_at hl 0 rfl) ?_
  refine zget (v := .int (lt_verb S)) (ref := "SumOfTwoThatStand$Letters") (C := RX2) (T := TX2) (N := 7) (index := 34) X hh inX2_comesTo_X2 0 rfl rfl 4 (by decide) mmX2_comesTo_0 rfl rfl dX2_comesTo_1 ?_
  by_cases c1_0 : (lt_verb S) = (97 : Int32)
  · replace hf := (if_pos c1_0).symm.trans hf
    refine lv_lookup (off := 36) (tgt := 40) hx hb dX2_comesTo_4 (by decide) (by rw [c1_0]; decide) (by decide) ?_
    refine lv_aload_n hx hb dX2_comesTo_40 rfl (lv_at hl 1 rfl) ?_
    refine lv_aload_n hx hb dX2_comesTo_41 rfl (lv_at hl 0 rfl) ?_
    refine zget (v := .ref a2) (ref := "SumOfTwoThatStand$Letters") (C := RX2) (T := TX2) (N := 7) (index := 9) X hh inX2_comesTo_X2 0 rfl rfl 2 (by decide) mmX2_comesTo_1 rfl rfl dX2_comesTo_42 ?_
    refine lv_iconst (v := (0 : Int32)) hx hb dX2_comesTo_45 (by decide) ?_
    obtain ⟨g2, hf⟩ := ob_ix hf
    refine ziald (f := (lt_figures S)) X hh 2 rfl g2 dX2_comesTo_46 ?_
    refine lv_aload_n hx hb dX2_comesTo_47 rfl (lv_at hl 0 rfl) ?_
    refine zget (v := .ref a2) (ref := "SumOfTwoThatStand$Letters") (C := RX2) (T := TX2) (N := 7) (index := 9) X hh inX2_comesTo_X2 0 rfl rfl 2 (by decide) mmX2_comesTo_1 rfl rfl dX2_comesTo_48 ?_
    refine lv_iconst (v := (1 : Int32)) hx hb dX2_comesTo_51 (by decide) ?_
    obtain ⟨g3, hf⟩ := ob_ix hf
    refine ziald (f := (lt_figures S)) X hh 2 rfl g3 dX2_comesTo_52 ?_
    refine lv_aload_n hx hb dX2_comesTo_53 rfl (lv_at hl 0 rfl) ?_
    refine zget (v := .ref a2) (ref := "SumOfTwoThatStand$Letters") (C := RX2) (T := TX2) (N := 7) (index := 9) X hh inX2_comesTo_X2 0 rfl rfl 2 (by decide) mmX2_comesTo_1 rfl rfl dX2_comesTo_54 ?_
    refine lv_iconst (v := (2 : Int32)) hx hb dX2_comesTo_57 (by decide) ?_
    obtain ⟨g4, hf⟩ := ob_ix hf
    refine ziald (f := (lt_figures S)) X hh 2 rfl g4 dX2_comesTo_58 ?_
    refine lv_aload_n hx hb dX2_comesTo_59 rfl (lv_at hl 0 rfl) ?_
    refine zget (v := .ref a2) (ref := "SumOfTwoThatStand$Letters") (C := RX2) (T := TX2) (N := 7) (index := 9) X hh inX2_comesTo_X2 0 rfl rfl 2 (by decide) mmX2_comesTo_1 rfl rfl dX2_comesTo_60 ?_
    refine lv_iconst (v := (3 : Int32)) hx hb dX2_comesTo_63 (by decide) ?_
    obtain ⟨g5, hf⟩ := ob_ix hf
    refine ziald (f := (lt_figures S)) X hh 2 rfl g5 dX2_comesTo_64 ?_
    obtain ⟨u6, hu6, hf⟩ := ob_bind hf
    refine zcallV (ci := 5) (q0 := 3) (As := [.int ((lt_figures S) (0 : Int32).toNatClampNeg), .int ((lt_figures S) (1 : Int32).toNatClampNeg), .int ((lt_figures S) (2 : Int32).toNatClampNeg), .int ((lt_figures S) (3 : Int32).toNatClampNeg)]) (rest := []) (wr := zsel (cLt K a0 a1 a2 S ++ cSt K b0 b1 b2 b3 b4 b5 b6 b7 T) [0, 1, 2]) (ws' := cLt K a0 a1 a2 S ++ cSt K b0 b1 b2 b3 b4 b5 b6 b7 u6.2) (ov := some (.int u6.1)) X hh hl (kX5_build l K b0 b1 b2 b3 b4 b5 b6 b7 T ((lt_figures S) (0 : Int32).toNatClampNeg) ((lt_figures S) (1 : Int32).toNatClampNeg) ((lt_figures S) (2 : Int32).toNatClampNeg) ((lt_figures S) (3 : Int32).toNatClampNeg) u6 hu6) (fun ht => cwV 4 ht gX2_comesTo_X5_build rfl rfl rfl ⟨rfl, hdX5_build⟩ ⟨Nat.le_of_ble_eq_true rfl, Nat.le_of_ble_eq_true rfl⟩) [3, 4, 5, 6, 7, 8, 9, 10] [0, 1, 2] [0, 1, 2, 3, 4, 5, 6, 7, 8, 9, 10] rfl rfl rfl rfl (by decide) rfl rfl rfl rfl rfl rfl (Nat.le_of_ble_eq_true rfl) dX2_comesTo_65 ⟨Nat.zero_le _, Nat.zero_le _⟩ (fun H locs hh => ?_)
    obtain ⟨g7, hf⟩ := ob_ck hf
    exact hr2 68 ls H locs u6.1 u6.2 hf (nar_ok g7) dX2_comesTo_68 hh
  replace hf := (if_neg c1_0).symm.trans hf
  by_cases c1_1 : (lt_verb S) = (98 : Int32)
  · replace hf := (if_pos c1_1).symm.trans hf
    refine lv_lookup (off := 65) (tgt := 69) hx hb dX2_comesTo_4 (by decide) (by rw [c1_1]; decide) (by decide) ?_
    refine lv_aload_n hx hb dX2_comesTo_69 rfl (lv_at hl 1 rfl) ?_
    refine lv_aload_n hx hb dX2_comesTo_70 rfl (lv_at hl 0 rfl) ?_
    refine zget (v := .ref a2) (ref := "SumOfTwoThatStand$Letters") (C := RX2) (T := TX2) (N := 7) (index := 9) X hh inX2_comesTo_X2 0 rfl rfl 2 (by decide) mmX2_comesTo_1 rfl rfl dX2_comesTo_71 ?_
    refine lv_iconst (v := (0 : Int32)) hx hb dX2_comesTo_74 (by decide) ?_
    obtain ⟨g8, hf⟩ := ob_ix hf
    refine ziald (f := (lt_figures S)) X hh 2 rfl g8 dX2_comesTo_75 ?_
    obtain ⟨u9, hu9, hf⟩ := ob_bind hf
    refine zcallV (ci := 5) (q0 := 3) (As := [.int ((lt_figures S) (0 : Int32).toNatClampNeg)]) (rest := []) (wr := zsel (cLt K a0 a1 a2 S ++ cSt K b0 b1 b2 b3 b4 b5 b6 b7 T) [0, 1, 2]) (ws' := cLt K a0 a1 a2 S ++ cSt K b0 b1 b2 b3 b4 b5 b6 b7 u9.2) (ov := some (.int u9.1)) X hh hl (kX5_fire l K b0 b1 b2 b3 b4 b5 b6 b7 T ((lt_figures S) (0 : Int32).toNatClampNeg) u9 hu9) (fun ht => cwV 1 ht gX2_comesTo_X5_fire rfl rfl rfl ⟨rfl, hdX5_fire⟩ ⟨Nat.le_of_ble_eq_true rfl, Nat.le_of_ble_eq_true rfl⟩) [3, 4, 5, 6, 7, 8, 9, 10] [0, 1, 2] [0, 1, 2, 3, 4, 5, 6, 7, 8, 9, 10] rfl rfl rfl rfl (by decide) rfl rfl rfl rfl rfl rfl (Nat.le_of_ble_eq_true rfl) dX2_comesTo_76 ⟨Nat.zero_le _, Nat.zero_le _⟩ (fun H locs hh => ?_)
    refine lv_if_le (tgt := 86) hx hb dX2_comesTo_79 (by decide) (fun c10 => ?_) (fun c10 => ?_)
    · replace hf := (if_pos c10).symm.trans hf
      refine lv_iconst (v := (0 : Int32)) hx hb dX2_comesTo_86 (by decide) ?_
      exact hr2 87 ls H locs (0 : Int32) u9.2 hf rfl dX2_comesTo_87 hh
    · replace hf := (if_neg c10).symm.trans hf
      refine lv_iconst (v := (1 : Int32)) hx hb dX2_comesTo_82 (by decide) ?_
      refine lv_goto (tgt := 87) hx hb dX2_comesTo_83 (by decide) ?_
      exact hr2 87 ls H locs (1 : Int32) u9.2 hf rfl dX2_comesTo_87 hh
  replace hf := (if_neg c1_1).symm.trans hf
  by_cases c1_2 : (lt_verb S) = (108 : Int32)
  · replace hf := (if_pos c1_2).symm.trans hf
    refine lv_lookup (off := 84) (tgt := 88) hx hb dX2_comesTo_4 (by decide) (by rw [c1_2]; decide) (by decide) ?_
    refine lv_aload_n hx hb dX2_comesTo_88 rfl (lv_at hl 1 rfl) ?_
    refine lv_aload_n hx hb dX2_comesTo_89 rfl (lv_at hl 0 rfl) ?_
    refine zget (v := .ref a2) (ref := "SumOfTwoThatStand$Letters") (C := RX2) (T := TX2) (N := 7) (index := 9) X hh inX2_comesTo_X2 0 rfl rfl 2 (by decide) mmX2_comesTo_1 rfl rfl dX2_comesTo_90 ?_
    refine lv_iconst (v := (0 : Int32)) hx hb dX2_comesTo_93 (by decide) ?_
    obtain ⟨g11, hf⟩ := ob_ix hf
    refine ziald (f := (lt_figures S)) X hh 2 rfl g11 dX2_comesTo_94 ?_
    refine lv_aload_n hx hb dX2_comesTo_95 rfl (lv_at hl 0 rfl) ?_
    refine zget (v := .ref a2) (ref := "SumOfTwoThatStand$Letters") (C := RX2) (T := TX2) (N := 7) (index := 9) X hh inX2_comesTo_X2 0 rfl rfl 2 (by decide) mmX2_comesTo_1 rfl rfl dX2_comesTo_96 ?_
    refine lv_iconst (v := (1 : Int32)) hx hb dX2_comesTo_99 (by decide) ?_
    obtain ⟨g12, hf⟩ := ob_ix hf
    refine ziald (f := (lt_figures S)) X hh 2 rfl g12 dX2_comesTo_100 ?_
    refine zcallV (ci := 5) (q0 := 3) (As := [.int ((lt_figures S) (0 : Int32).toNatClampNeg), .int ((lt_figures S) (1 : Int32).toNatClampNeg)]) (rest := []) (wr := zsel (cLt K a0 a1 a2 S ++ cSt K b0 b1 b2 b3 b4 b5 b6 b7 T) [0, 1, 2]) (ws' := cLt K a0 a1 a2 S ++ cSt K b0 b1 b2 b3 b4 b5 b6 b7 (fX5_changeLaws T ((lt_figures S) (0 : Int32).toNatClampNeg) ((lt_figures S) (1 : Int32).toNatClampNeg)).2) (ov := some (.int (fX5_changeLaws T ((lt_figures S) (0 : Int32).toNatClampNeg) ((lt_figures S) (1 : Int32).toNatClampNeg)).1)) X hh hl (kX5_changeLaws l K b0 b1 b2 b3 b4 b5 b6 b7 T ((lt_figures S) (0 : Int32).toNatClampNeg) ((lt_figures S) (1 : Int32).toNatClampNeg) (fX5_changeLaws T ((lt_figures S) (0 : Int32).toNatClampNeg) ((lt_figures S) (1 : Int32).toNatClampNeg)) rfl) (fun ht => cwV 2 ht gX2_comesTo_X5_changeLaws rfl rfl rfl ⟨rfl, hdX5_changeLaws⟩ ⟨Nat.le_of_ble_eq_true rfl, Nat.le_of_ble_eq_true rfl⟩) [3, 4, 5, 6, 7, 8, 9, 10] [0, 1, 2] [0, 1, 2, 3, 4, 5, 6, 7, 8, 9, 10] rfl rfl rfl rfl (by decide) rfl rfl rfl rfl rfl rfl (Nat.le_of_ble_eq_true rfl) dX2_comesTo_101 ⟨Nat.zero_le _, Nat.zero_le _⟩ (fun H locs hh => ?_)
    obtain ⟨g14, hf⟩ := ob_ck hf
    exact hr2 104 ls H locs (fX5_changeLaws T ((lt_figures S) (0 : Int32).toNatClampNeg) ((lt_figures S) (1 : Int32).toNatClampNeg)).1 (fX5_changeLaws T ((lt_figures S) (0 : Int32).toNatClampNeg) ((lt_figures S) (1 : Int32).toNatClampNeg)).2 hf (nar_ok g14) dX2_comesTo_104 hh
  replace hf := (if_neg c1_2).symm.trans hf
  refine lv_lookup (off := 101) (tgt := 105) hx hb dX2_comesTo_4 (by decide) ((lv_osw c1_0 (by decide)).trans ((lv_osw c1_1 (by decide)).trans ((lv_osw c1_2 (by decide)).trans (rfl)))) (by decide) ?_
  refine lv_aload_n hx hb dX2_comesTo_105 rfl (lv_at hl 1 rfl) ?_
  obtain ⟨u15, hu15, hf⟩ := ob_bind hf
  refine zcallV (ci := 5) (q0 := 3) (As := []) (rest := []) (wr := zsel (cLt K a0 a1 a2 S ++ cSt K b0 b1 b2 b3 b4 b5 b6 b7 T) [0, 1, 2]) (ws' := cLt K a0 a1 a2 S ++ cSt K b0 b1 b2 b3 b4 b5 b6 b7 u15) (ov := none) X hh hl (kX5_beginAnew l K b0 b1 b2 b3 b4 b5 b6 b7 T u15 hu15) (fun ht => cwV 0 ht gX2_comesTo_X5_beginAnew rfl rfl rfl ⟨rfl, hdX5_beginAnew⟩ ⟨Nat.le_of_ble_eq_true rfl, Nat.le_of_ble_eq_true rfl⟩) [3, 4, 5, 6, 7, 8, 9, 10] [0, 1, 2] [0, 1, 2, 3, 4, 5, 6, 7, 8, 9, 10] rfl rfl rfl rfl (by decide) rfl rfl rfl rfl rfl rfl (Nat.le_of_ble_eq_true rfl) dX2_comesTo_106 ⟨Nat.zero_le _, Nat.zero_le _⟩ (fun H locs hh => ?_)
  refine lv_iconst (v := (1 : Int32)) hx hb dX2_comesTo_109 (by decide) ?_
  exact hr2 110 ls H locs (1 : Int32) u15 hf rfl dX2_comesTo_110 hh
theorem inX2_faultOfForm_X2 : ∀ w ∈ wsX20, w ∈ wsX2_faultOfForm := by decide +kernel
theorem mmX2_faultOfForm_0 : Cond.fieldLink RX2 15 "SumOfTwoThatStand$Letters" "statements" "I" ∈ wsX2_faultOfForm := by decide +kernel
theorem mmX2_faultOfForm_1 : Cond.fieldLink RX2 19 "SumOfTwoThatStand$Letters" "at" "I" ∈ wsX2_faultOfForm := by decide +kernel
theorem hdX2_faultOfForm : yX2_faultOfForm.cls ≠ "java/lang/invoke/MethodHandle" ∧ yX2_faultOfForm.cls ≠ "java/lang/invoke/VarHandle" ∧ (parseMethodDescriptor yX2_faultOfForm.desc).map (fun d => d.parameters.length) = some 0 := by decide +kernel
set_option maxHeartbeats 4000000 in
set_option maxRecDepth 100000 in
theorem kX2_faultOfForm (l : Launch) (K : zK) (a0 a1 a2 : Nat) (S : zLt) (R : Int32 × zLt) (hf : fX2_faultOfForm S = some R) : zC l yX2_faultOfForm wsX2_faultOfForm ({ frames := 7, cells := 0, slots := 0, locals := 172 } : Room) K [.ref a0] (cLt K a0 a1 a2 S) (some (.int R.1)) (cLt K a0 a1 a2 R.2) := by
  refine zC_i R.1 (cc := cX2_faultOfForm) (maxL := 2) (by decide +kernel) rfl (Nat.le_of_ble_eq_true rfl) rfl rfl ?_
  intro p e s m below meth c Q A X hret ls hl hh
  have X : zX p m c cX2_faultOfForm 2 s ([.ref a0] : List Value).toArray wsX2_faultOfForm RX2 K A := X
  have hx := X.1.1
  have hb := X.1.2.1
  have hr2 : ∀ (pc : Nat) (ls : Array Slot) (H : Heap) (locs : List Loc) (v : Int32) (S : zLt), some (v, S) = some R → decode cX2_faultOfForm pc = .ok (.ireturn, 1) → zW K A s H locs (cLt K a0 a1 a2 S) → W p l e ({ frames := 7, cells := 0, slots := 0, locals := 172 } : Room) s m ([.ref a0] : List Value).toArray below meth c H locs 0 0 Q (F0 m pc ls [.int v]) := by
    intro pc ls H locs v S h hd hh
    cases h; exact hret pc ls H locs _ rfl hd hh
  have hl : lv_has ls 2 [(0, .ref a0)] := hl
  have hJ33 : ∀ (v1 : Int32) (S : zLt) (k12 : (Int32) → (zLt) → Option (Int32 × zLt)), (∀ (v1 : Int32) (S : zLt) (H : Heap) (locs : List Loc) (ls : Array Slot), k12 v1 S = some R → lv_has ls 2 [(0, .ref a0), (1, .int v1)] → zW K A s H locs (cLt K a0 a1 a2 S) → W p l e ({ frames := 7, cells := 0, slots := 0, locals := 172 } : Room) s m ([.ref a0] : List Value).toArray below meth c H locs 0 0 Q (F0 m 12 ls [])) → ∀ (H : Heap) (locs : List Loc) (ls : Array Slot), fX2_faultOfForm_j33 v1 S k12 = some R → lv_has ls 2 [(0, .ref a0), (1, .int v1)] → zW K A s H locs (cLt K a0 a1 a2 S) → W p l e ({ frames := 7, cells := 0, slots := 0, locals := 172 } : Room) s m ([.ref a0] : List Value).toArray below meth c H locs 0 0 Q (F0 m 33 ls []) := by
    intro v1 S k12 hk12 H locs ls hf hl hh
    unfold fX2_faultOfForm_j33 at hf
    refine lv_aload_n hx hb dX2_faultOfForm_33 rfl (lv_at hl 0 rfl) ?_
    obtain ⟨u1, hu1, hf⟩ := ob_bind hf
    refine zcallV (ci := 2) (q0 := 0) (As := []) (rest := []) (wr := []) (ws' := cLt K a0 a1 a2 u1.2) (ov := some (.int u1.1)) X hh hl (kX2_readStatement l K a0 a1 a2 S u1 hu1) (fun ht => cwV 0 ht gX2_faultOfForm_X2_readStatement rfl rfl rfl ⟨rfl, hdX2_readStatement⟩ ⟨Nat.le_of_ble_eq_true rfl, Nat.le_of_ble_eq_true rfl⟩) [0, 1, 2] [] [0, 1, 2] rfl rfl rfl rfl (by decide) rfl rfl rfl rfl rfl rfl (Nat.le_of_ble_eq_true rfl) dX2_faultOfForm_34 ⟨Nat.zero_le _, Nat.zero_le _⟩ (fun H locs hh => ?_)
    refine lv_if_ne (tgt := 49) hx hb dX2_faultOfForm_37 (by decide) (fun c2 => ?_) (fun c2 => ?_)
    · replace hf := (if_neg c2).symm.trans hf
      refine lv_aload_n hx hb dX2_faultOfForm_49 rfl (lv_at hl 0 rfl) ?_
      refine lv_dup hx hb dX2_faultOfForm_50 rfl ?_
      refine zget (v := .int (lt_statements u1.2)) (ref := "SumOfTwoThatStand$Letters") (C := RX2) (T := TX2) (N := 7) (index := 15) X hh inX2_faultOfForm_X2 0 rfl rfl 6 (by decide) mmX2_faultOfForm_0 rfl rfl dX2_faultOfForm_51 ?_
      refine lv_iconst (v := (1 : Int32)) hx hb dX2_faultOfForm_54 (by decide) ?_
      refine lv_iadd hx hb dX2_faultOfForm_55 ?_
      refine zput (v := .int ((lt_statements u1.2) + (1 : Int32))) (ty := .int) (ref := "SumOfTwoThatStand$Letters") (C := RX2) (T := TX2) (N := 7) (index := 15) X hh inX2_faultOfForm_X2 tyX2 tyX2_ok nmX2 0 rfl rfl 6 (by decide) mmX2_faultOfForm_0 rfl rfl (by decide +kernel) rfl rfl (Nat.le_of_ble_eq_true rfl) dX2_faultOfForm_56 (fun H locs hh => ?_)
      have hh : zW K A s H locs (cLt K a0 a1 a2 (lt_set_statements u1.2 ((lt_statements u1.2) + (1 : Int32)))) := hh
      refine lv_iinc (v := (v1 + (1 : Int32))) (lv' := [(1, .int (v1 + (1 : Int32))), (0, .ref a0)]) hx hb dX2_faultOfForm_59 hl (k := 1) rfl rfl (by decide) rfl (fun ls hl => ?_)
      refine lv_goto (tgt := 12) hx hb dX2_faultOfForm_62 (by decide) ?_
      exact hk12 (v1 + (1 : Int32)) (lt_set_statements u1.2 ((lt_statements u1.2) + (1 : Int32))) H locs ls hf (lv_sub hl [1, 0] rfl) hh
    · replace hf := (if_pos c2).symm.trans hf
      refine lv_sipush (v := (-1000 : Int32)) hx hb dX2_faultOfForm_40 (by decide) ?_
      refine lv_aload_n hx hb dX2_faultOfForm_43 rfl (lv_at hl 0 rfl) ?_
      refine zget (v := .int (lt_at u1.2)) (ref := "SumOfTwoThatStand$Letters") (C := RX2) (T := TX2) (N := 7) (index := 19) X hh inX2_faultOfForm_X2 0 rfl rfl 3 (by decide) mmX2_faultOfForm_1 rfl rfl dX2_faultOfForm_44 ?_
      refine lv_isub hx hb dX2_faultOfForm_47 ?_
      exact hr2 48 ls H locs ((-1000 : Int32) - (lt_at u1.2)) u1.2 hf dX2_faultOfForm_48 hh
  have hL12 : ∀ (n : Nat) (v1 : Int32) (S : zLt), ∀ (H : Heap) (locs : List Loc) (ls : Array Slot), fX2_faultOfForm_l12 n v1 S = some R → lv_has ls 2 [(0, .ref a0), (1, .int v1)] → zW K A s H locs (cLt K a0 a1 a2 S) → W p l e ({ frames := 7, cells := 0, slots := 0, locals := 172 } : Room) s m ([.ref a0] : List Value).toArray below meth c H locs 0 0 Q (F0 m 12 ls []) := by
    intro n
    induction n with
    | zero =>
      intro v1 S H locs ls hf hl hh
      rw [fX2_faultOfForm_l12] at hf; cases hf
    | succ n ih =>
      intro v1 S H locs ls hf hl hh
      rw [fX2_faultOfForm_l12] at hf
      refine lv_iload_n hx hb dX2_faultOfForm_12 rfl (lv_at hl 1 rfl) ?_
      refine lv_bipush (v := (64 : Int32)) hx hb dX2_faultOfForm_13 (by decide) ?_
      refine lv_icmp_ge (tgt := 65) hx hb dX2_faultOfForm_15 (by decide) (fun c3 => ?_) (fun c3 => ?_)
      · replace hf := (if_pos c3).symm.trans hf
        refine lv_iconst (v := (0 : Int32)) hx hb dX2_faultOfForm_65 (by decide) ?_
        exact hr2 66 ls H locs (0 : Int32) S hf dX2_faultOfForm_66 hh
      · replace hf := (if_neg c3).symm.trans hf
        refine lv_iload_n hx hb dX2_faultOfForm_18 rfl (lv_at hl 1 rfl) ?_
        refine lv_if_eq (tgt := 33) hx hb dX2_faultOfForm_19 (by decide) (fun c4 => ?_) (fun c4 => ?_)
        · replace hf := (if_pos c4).symm.trans hf
          exact hJ33 v1 S (fX2_faultOfForm_l12  n) (ih) H locs ls hf (lv_sub hl [0, 1] rfl) hh
        · replace hf := (if_neg c4).symm.trans hf
          refine lv_aload_n hx hb dX2_faultOfForm_22 rfl (lv_at hl 0 rfl) ?_
          refine zget (v := .int (lt_at S)) (ref := "SumOfTwoThatStand$Letters") (C := RX2) (T := TX2) (N := 7) (index := 19) X hh inX2_faultOfForm_X2 0 rfl rfl 3 (by decide) mmX2_faultOfForm_1 rfl rfl dX2_faultOfForm_23 ?_
          refine lv_aload_n hx hb dX2_faultOfForm_26 rfl (lv_at hl 0 rfl) ?_
          refine zcallU (owner := "SumOfTwoThatStand$Told") (x := ⟨"SumOfTwoThatStand$Letters", "howMany", "()I"⟩) (ci := 2) (q0 := 0) (As := []) (rest := [.int (lt_at S)]) (wr := []) (ws' := cLt K a0 a1 a2 S) (ov := some (.int (fX6_howMany_L S))) X hh hl (kX6_howMany_L l K a0 a1 a2 S (fX6_howMany_L S) rfl) (fun ht => va_cwU 0 ht gX2_faultOfForm_X6_howMany_u22X2 rfl rfl rfl rfl hdX6_howMany ⟨Nat.le_of_ble_eq_true rfl, Nat.le_of_ble_eq_true rfl⟩) [0, 1, 2] [] [0, 1, 2] rfl rfl rfl rfl (by decide) rfl rfl rfl rfl rfl rfl (Nat.le_of_ble_eq_true rfl) dX2_faultOfForm_27 ⟨Nat.zero_le _, Nat.zero_le _⟩ (fun H locs hh => ?_)
          refine lv_icmp_ge (tgt := 65) hx hb dX2_faultOfForm_30 (by decide) (fun c6 => ?_) (fun c6 => ?_)
          · replace hf := (if_pos c6).symm.trans hf
            refine lv_iconst (v := (0 : Int32)) hx hb dX2_faultOfForm_65 (by decide) ?_
            exact hr2 66 ls H locs (0 : Int32) S hf dX2_faultOfForm_66 hh
          · replace hf := (if_neg c6).symm.trans hf
            exact hJ33 v1 S (fX2_faultOfForm_l12  n) (ih) H locs ls hf (lv_sub hl [0, 1] rfl) hh
  unfold fX2_faultOfForm at hf
  refine (fun (hmain : ∀ (H : Heap) (locs : List Loc), zW K A s H locs (cLt K a0 a1 a2 S) → W p l e ({ frames := 7, cells := 0, slots := 0, locals := 172 } : Room) s m ([.ref a0] : List Value).toArray below meth c H locs 0 0 Q (F0 m 0 ls [])) => hmain s.heap [] hh) (fun H locs hh => ?_)
  refine lv_aload_n hx hb dX2_faultOfForm_0 rfl (lv_at hl 0 rfl) ?_
  refine lv_iconst (v := (0 : Int32)) hx hb dX2_faultOfForm_1 (by decide) ?_
  refine zput (v := .int (0 : Int32)) (ty := .int) (ref := "SumOfTwoThatStand$Letters") (C := RX2) (T := TX2) (N := 7) (index := 19) X hh inX2_faultOfForm_X2 tyX2 tyX2_ok nmX2 0 rfl rfl 3 (by decide) mmX2_faultOfForm_1 rfl rfl (by decide +kernel) rfl rfl (Nat.le_of_ble_eq_true rfl) dX2_faultOfForm_2 (fun H locs hh => ?_)
  have hh : zW K A s H locs (cLt K a0 a1 a2 (lt_set_at S (0 : Int32))) := hh
  refine lv_aload_n hx hb dX2_faultOfForm_5 rfl (lv_at hl 0 rfl) ?_
  refine lv_iconst (v := (0 : Int32)) hx hb dX2_faultOfForm_6 (by decide) ?_
  refine zput (v := .int (0 : Int32)) (ty := .int) (ref := "SumOfTwoThatStand$Letters") (C := RX2) (T := TX2) (N := 7) (index := 15) X hh inX2_faultOfForm_X2 tyX2 tyX2_ok nmX2 0 rfl rfl 6 (by decide) mmX2_faultOfForm_0 rfl rfl (by decide +kernel) rfl rfl (Nat.le_of_ble_eq_true rfl) dX2_faultOfForm_7 (fun H locs hh => ?_)
  have hh : zW K A s H locs (cLt K a0 a1 a2 (lt_set_statements (lt_set_at S (0 : Int32)) (0 : Int32))) := hh
  refine lv_iconst (v := (0 : Int32)) hx hb dX2_faultOfForm_10 (by decide) ?_
  refine lv_istore_n (lv' := [(1, .int (0 : Int32)), (0, .ref a0)]) hx hb dX2_faultOfForm_11 rfl hl (by decide) rfl (fun ls hl => ?_)
  exact hL12 FU (0 : Int32) (lt_set_statements (lt_set_at S (0 : Int32)) (0 : Int32)) H locs ls hf (lv_sub hl [1, 0] rfl) hh
theorem inX2_faultOfSense_X2 : ∀ w ∈ wsX20, w ∈ wsX2_faultOfSense := by decide +kernel
theorem mmX2_faultOfSense_0 : Cond.fieldLink RX2 15 "SumOfTwoThatStand$Letters" "statements" "I" ∈ wsX2_faultOfSense := by decide +kernel
theorem mmX2_faultOfSense_1 : Cond.fieldLink RX2 19 "SumOfTwoThatStand$Letters" "at" "I" ∈ wsX2_faultOfSense := by decide +kernel
theorem hdX2_faultOfSense : yX2_faultOfSense.cls ≠ "java/lang/invoke/MethodHandle" ∧ yX2_faultOfSense.cls ≠ "java/lang/invoke/VarHandle" ∧ (parseMethodDescriptor yX2_faultOfSense.desc).map (fun d => d.parameters.length) = some 1 := by decide +kernel
set_option maxHeartbeats 4000000 in
set_option maxRecDepth 100000 in
theorem kX2_faultOfSense (l : Launch) (K : zK) (a0 a1 a2 b0 b1 b2 b3 b4 b5 b6 b7 : Nat) (S : zLt) (T : zSt) (R : Int32 × zLt × zSt) (hf : fX2_faultOfSense S T = some R) : zC l yX2_faultOfSense wsX2_faultOfSense ({ frames := 7, cells := 0, slots := 0, locals := 172 } : Room) K [.ref a0, .ref b0] (cLt K a0 a1 a2 S ++ cSt K b0 b1 b2 b3 b4 b5 b6 b7 T) (some (.int R.1)) (cLt K a0 a1 a2 R.2.1 ++ cSt K b0 b1 b2 b3 b4 b5 b6 b7 R.2.2) := by
  refine zC_i R.1 (cc := cX2_faultOfSense) (maxL := 4) (by decide +kernel) rfl (Nat.le_of_ble_eq_true rfl) rfl rfl ?_
  intro p e s m below meth c Q A X hret ls hl hh
  have X : zX p m c cX2_faultOfSense 4 s ([.ref a0, .ref b0] : List Value).toArray wsX2_faultOfSense RX2 K A := X
  have hx := X.1.1
  have hb := X.1.2.1
  have hr2 : ∀ (pc : Nat) (ls : Array Slot) (H : Heap) (locs : List Loc) (v : Int32) (S : zLt) (T : zSt), some (v, S, T) = some R → decode cX2_faultOfSense pc = .ok (.ireturn, 1) → zW K A s H locs (cLt K a0 a1 a2 S ++ cSt K b0 b1 b2 b3 b4 b5 b6 b7 T) → W p l e ({ frames := 7, cells := 0, slots := 0, locals := 172 } : Room) s m ([.ref a0, .ref b0] : List Value).toArray below meth c H locs 0 0 Q (F0 m pc ls [.int v]) := by
    intro pc ls H locs v S T h hd hh
    cases h; exact hret pc ls H locs _ rfl hd hh
  have hl : lv_has ls 4 [(0, .ref a0), (1, .ref b0)] := hl
  have hL7 : ∀ (n : Nat) (v2 : Int32) (S : zLt) (T : zSt), ∀ (H : Heap) (locs : List Loc) (ls : Array Slot), fX2_faultOfSense_l7 n v2 S T = some R → lv_has ls 4 [(0, .ref a0), (1, .ref b0), (2, .int v2)] → zW K A s H locs (cLt K a0 a1 a2 S ++ cSt K b0 b1 b2 b3 b4 b5 b6 b7 T) → W p l e ({ frames := 7, cells := 0, slots := 0, locals := 172 } : Room) s m ([.ref a0, .ref b0] : List Value).toArray below meth c H locs 0 0 Q (F0 m 7 ls []) := by
    intro n
    induction n with
    | zero =>
      intro v2 S T H locs ls hf hl hh
      rw [fX2_faultOfSense_l7] at hf; cases hf
    | succ n ih =>
      intro v2 S T H locs ls hf hl hh
      rw [fX2_faultOfSense_l7] at hf
      refine lv_iload_n hx hb dX2_faultOfSense_7 rfl (lv_at hl 2 rfl) ?_
      refine lv_aload_n hx hb dX2_faultOfSense_8 rfl (lv_at hl 0 rfl) ?_
      refine zget (v := .int (lt_statements S)) (ref := "SumOfTwoThatStand$Letters") (C := RX2) (T := TX2) (N := 7) (index := 15) X hh inX2_faultOfSense_X2 0 rfl rfl 6 (by decide) mmX2_faultOfSense_0 rfl rfl dX2_faultOfSense_9 ?_
      refine lv_icmp_ge (tgt := 47) hx hb dX2_faultOfSense_12 (by decide) (fun c1 => ?_) (fun c1 => ?_)
      · replace hf := (if_pos c1).symm.trans hf
        refine lv_iconst (v := (0 : Int32)) hx hb dX2_faultOfSense_47 (by decide) ?_
        exact hr2 48 ls H locs (0 : Int32) S T hf dX2_faultOfSense_48 hh
      · replace hf := (if_neg c1).symm.trans hf
        refine lv_aload_n hx hb dX2_faultOfSense_15 rfl (lv_at hl 0 rfl) ?_
        refine zget (v := .int (lt_at S)) (ref := "SumOfTwoThatStand$Letters") (C := RX2) (T := TX2) (N := 7) (index := 19) X hh inX2_faultOfSense_X2 0 rfl rfl 3 (by decide) mmX2_faultOfSense_1 rfl rfl dX2_faultOfSense_16 ?_
        refine lv_istore_n (lv' := [(3, .int (lt_at S)), (0, .ref a0), (1, .ref b0), (2, .int v2)]) hx hb dX2_faultOfSense_19 rfl hl (by decide) rfl (fun ls hl => ?_)
        refine lv_aload_n hx hb dX2_faultOfSense_20 rfl (lv_at hl 1 rfl) ?_
        obtain ⟨u2, hu2, hf⟩ := ob_bind hf
        refine zcallV (ci := 2) (q0 := 0) (As := []) (rest := []) (wr := zsel (cLt K a0 a1 a2 S ++ cSt K b0 b1 b2 b3 b4 b5 b6 b7 T) [3, 4, 5, 6, 7, 8, 9, 10]) (ws' := cLt K a0 a1 a2 u2.2 ++ cSt K b0 b1 b2 b3 b4 b5 b6 b7 T) (ov := some (.int u2.1)) X hh hl (kX2_readStatement l K a0 a1 a2 S u2 hu2) (fun ht => cwV 0 ht gX2_faultOfSense_X2_readStatement rfl rfl rfl ⟨rfl, hdX2_readStatement⟩ ⟨Nat.le_of_ble_eq_true rfl, Nat.le_of_ble_eq_true rfl⟩) [0, 1, 2] [3, 4, 5, 6, 7, 8, 9, 10] [8, 9, 10, 0, 1, 2, 3, 4, 5, 6, 7] rfl rfl rfl rfl (by decide) rfl rfl rfl rfl rfl rfl (Nat.le_of_ble_eq_true rfl) dX2_faultOfSense_21 ⟨Nat.zero_le _, Nat.zero_le _⟩ (fun H locs hh => ?_)
        refine lv_if_eq (tgt := 35) hx hb dX2_faultOfSense_24 (by decide) (fun c3 => ?_) (fun c3 => ?_)
        · replace hf := (if_pos c3).symm.trans hf
          refine lv_sipush (v := (-2000 : Int32)) hx hb dX2_faultOfSense_35 (by decide) ?_
          refine lv_iload_n hx hb dX2_faultOfSense_38 rfl (lv_at hl 0 rfl) ?_
          refine lv_isub hx hb dX2_faultOfSense_39 ?_
          exact hr2 40 ls H locs ((-2000 : Int32) - (lt_at S)) u2.2 T hf dX2_faultOfSense_40 hh
        · replace hf := (if_neg c3).symm.trans hf
          refine lv_aload_n hx hb dX2_faultOfSense_27 rfl (lv_at hl 1 rfl) ?_
          refine lv_aload_n hx hb dX2_faultOfSense_28 rfl (lv_at hl 2 rfl) ?_
          obtain ⟨u4, hu4, hf⟩ := ob_bind hf
          refine zcallV (ci := 2) (q0 := 0) (As := [.ref b0]) (rest := []) (wr := []) (ws' := cLt K a0 a1 a2 u2.2 ++ cSt K b0 b1 b2 b3 b4 b5 b6 b7 u4.2) (ov := some (.int u4.1)) X hh hl (kX2_comesTo l K a0 a1 a2 b0 b1 b2 b3 b4 b5 b6 b7 u2.2 T u4 hu4) (fun ht => cwV 1 ht gX2_faultOfSense_X2_comesTo rfl rfl rfl ⟨rfl, hdX2_comesTo⟩ ⟨Nat.le_of_ble_eq_true rfl, Nat.le_of_ble_eq_true rfl⟩) [0, 1, 2, 3, 4, 5, 6, 7, 8, 9, 10] [] [0, 1, 2, 3, 4, 5, 6, 7, 8, 9, 10] rfl rfl rfl rfl (by decide) rfl rfl rfl rfl rfl rfl (Nat.le_of_ble_eq_true rfl) dX2_faultOfSense_29 ⟨Nat.zero_le _, Nat.zero_le _⟩ (fun H locs hh => ?_)
          refine lv_if_ne (tgt := 41) hx hb dX2_faultOfSense_32 (by decide) (fun c5 => ?_) (fun c5 => ?_)
          · replace hf := (if_neg c5).symm.trans hf
            refine lv_iinc (v := (v2 + (1 : Int32))) (lv' := [(2, .int (v2 + (1 : Int32))), (3, .int (lt_at S)), (0, .ref a0), (1, .ref b0)]) hx hb dX2_faultOfSense_41 hl (k := 3) rfl rfl (by decide) rfl (fun ls hl => ?_)
            refine lv_goto (tgt := 7) hx hb dX2_faultOfSense_44 (by decide) ?_
            exact ih (v2 + (1 : Int32)) u2.2 u4.2 H locs ls hf (lv_sub hl [2, 3, 0] rfl) hh
          · replace hf := (if_pos c5).symm.trans hf
            refine lv_sipush (v := (-2000 : Int32)) hx hb dX2_faultOfSense_35 (by decide) ?_
            refine lv_iload_n hx hb dX2_faultOfSense_38 rfl (lv_at hl 0 rfl) ?_
            refine lv_isub hx hb dX2_faultOfSense_39 ?_
            exact hr2 40 ls H locs ((-2000 : Int32) - (lt_at S)) u2.2 u4.2 hf dX2_faultOfSense_40 hh
  unfold fX2_faultOfSense at hf
  refine (fun (hmain : ∀ (H : Heap) (locs : List Loc), zW K A s H locs (cLt K a0 a1 a2 S ++ cSt K b0 b1 b2 b3 b4 b5 b6 b7 T) → W p l e ({ frames := 7, cells := 0, slots := 0, locals := 172 } : Room) s m ([.ref a0, .ref b0] : List Value).toArray below meth c H locs 0 0 Q (F0 m 0 ls [])) => hmain s.heap [] hh) (fun H locs hh => ?_)
  refine lv_aload_n hx hb dX2_faultOfSense_0 rfl (lv_at hl 0 rfl) ?_
  refine lv_iconst (v := (0 : Int32)) hx hb dX2_faultOfSense_1 (by decide) ?_
  refine zput (v := .int (0 : Int32)) (ty := .int) (ref := "SumOfTwoThatStand$Letters") (C := RX2) (T := TX2) (N := 7) (index := 19) X hh inX2_faultOfSense_X2 tyX2 tyX2_ok nmX2 0 rfl rfl 3 (by decide) mmX2_faultOfSense_1 rfl rfl (by decide +kernel) rfl rfl (Nat.le_of_ble_eq_true rfl) dX2_faultOfSense_2 (fun H locs hh => ?_)
  have hh : zW K A s H locs (cLt K a0 a1 a2 (lt_set_at S (0 : Int32)) ++ cSt K b0 b1 b2 b3 b4 b5 b6 b7 T) := hh
  refine lv_iconst (v := (0 : Int32)) hx hb dX2_faultOfSense_5 (by decide) ?_
  refine lv_istore_n (lv' := [(2, .int (0 : Int32)), (0, .ref a0), (1, .ref b0)]) hx hb dX2_faultOfSense_6 rfl hl (by decide) rfl (fun ls hl => ?_)
  exact hL7 FU (0 : Int32) (lt_set_at S (0 : Int32)) T H locs ls hf (lv_sub hl [1, 2, 0] rfl) hh
