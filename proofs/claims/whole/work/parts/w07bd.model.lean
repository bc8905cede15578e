theorem inX8_street_X8 : ∀ w ∈ wsX80, w ∈ wsX8_street := by decide +kernel
theorem mmX8_street_0 : Cond.fieldLink RX8 145 "SumOfTwoThatStandModel" "statements" "I" ∈ wsX8_street := by decide +kernel
theorem mmX8_street_1 : Cond.fieldLink RX8 43 "SumOfTwoThatStandModel" "sortAt" "[I" ∈ wsX8_street := by decide +kernel
theorem mmX8_street_2 : Cond.fieldLink RX8 124 "SumOfTwoThatStandModel" "taped" "I" ∈ wsX8_street := by decide +kernel
theorem mmX8_street_3 : Cond.fieldLink RX8 130 "SumOfTwoThatStandModel" "reading" "I" ∈ wsX8_street := by decide +kernel
theorem hdX8_street : yX8_street.cls ≠ "java/lang/invoke/MethodHandle" ∧ yX8_street.cls ≠ "java/lang/invoke/VarHandle" ∧ (parseMethodDescriptor yX8_street.desc).map (fun d => d.parameters.length) = some 0 := by decide +kernel
set_option maxHeartbeats 4000000 in
set_option maxRecDepth 100000 in
theorem kX8_street (l : Launch) (K : zK) (a0 a1 a2 a3 a4 a5 a6 a7 a8 a9 a10 a11 a12 a13 a14 a15 a16 a17 a18 a19 : Nat) (S : zMd) (R : Int32 × zMd) (hf : fX8_street S = some R) : zC l yX8_street wsX8_street ({ frames := 5, cells := 0, slots := 0, locals := 112 } : Room) K [.ref a0] (cMd K a0 a1 a2 a3 a4 a5 a6 a7 a8 a9 a10 a11 a12 a13 a14 a15 a16 a17 a18 a19 S) (some (.int R.1)) (cMd K a0 a1 a2 a3 a4 a5 a6 a7 a8 a9 a10 a11 a12 a13 a14 a15 a16 a17 a18 a19 R.2) := by
  refine zC_i R.1 (cc := cX8_street) (maxL := 3) (by decide +kernel) rfl (Nat.le_of_ble_eq_true rfl) rfl rfl ?_
  intro p e s m below meth c Q A X hret ls hl hh
  have X : zX p m c cX8_street 3 s ([.ref a0] : List Value).toArray wsX8_street RX8 K A := X
  have hx := X.1.1
  have hb := X.1.2.1
  have hr2 : ∀ (pc : Nat) (ls : Array Slot) (H : Heap) (locs : List Loc) (v : Int32) (S : zMd), some (v, S) = some R → decode cX8_street pc = .ok (.ireturn, 1) → zW K A s H locs (cMd K a0 a1 a2 a3 a4 a5 a6 a7 a8 a9 a10 a11 a12 a13 a14 a15 a16 a17 a18 a19 S) → W p l e ({ frames := 5, cells := 0, slots := 0, locals := 112 } : Room) s m ([.ref a0] : List Value).toArray below meth c H locs 0 0 Q (F0 m pc ls [.int v]) := by
    intro pc ls H locs v S h hd hh
    cases h; exact hret pc ls H locs _ rfl hd hh
  have hl : lv_has ls 3 [(0, .ref a0)] := hl
  have hL86 : ∀ (n : Nat) (v2 : Int32) (S : zMd), ∀ (H : Heap) (locs : List Loc) (ls : Array Slot), fX8_street_l86 n v2 S = some R → lv_has ls 3 [(0, .ref a0), (2, .int v2)] → zW K A s H locs (cMd K a0 a1 a2 a3 a4 a5 a6 a7 a8 a9 a10 a11 a12 a13 a14 a15 a16 a17 a18 a19 S) → W p l e ({ frames := 5, cells := 0, slots := 0, locals := 112 } : Room) s m ([.ref a0] : List Value).toArray below meth c H locs 0 0 Q (F0 m 86 ls []) := by
    intro n
    induction n with
    | zero =>
      intro v2 S H locs ls hf hl hh
      rw [fX8_street_l86] at hf; cases hf
    | succ n ih =>
      intro v2 S H locs ls hf hl hh
      rw [fX8_street_l86] at hf
      refine lv_iload_n hx hb dX8_street_86 rfl (lv_at hl 1 rfl) ?_
      refine lv_aload_n hx hb dX8_street_87 rfl (lv_at hl 0 rfl) ?_
      refine zget (v := .int (md_statements S)) (ref := "SumOfTwoThatStandModel") (C := RX8) (T := TX8) (N := 33) (index := 145) X hh inX8_street_X8 0 rfl rfl 18 (by decide) mmX8_street_0 rfl rfl dX8_street_88 ?_
      refine lv_icmp_ge (tgt := 128) hx hb dX8_street_91 (by decide) (fun c1 => ?_) (fun c1 => ?_)
      · replace hf := (if_pos c1).symm.trans hf
        refine lv_aload_n hx hb dX8_street_128 rfl (lv_at hl 0 rfl) ?_
        refine zget (v := .int (md_statements S)) (ref := "SumOfTwoThatStandModel") (C := RX8) (T := TX8) (N := 33) (index := 145) X hh inX8_street_X8 0 rfl rfl 18 (by decide) mmX8_street_0 rfl rfl dX8_street_129 ?_
        exact hr2 132 ls H locs (md_statements S) S hf dX8_street_132 hh
      · replace hf := (if_neg c1).symm.trans hf
        refine lv_aload_n hx hb dX8_street_94 rfl (lv_at hl 0 rfl) ?_
        refine lv_iload_n hx hb dX8_street_95 rfl (lv_at hl 1 rfl) ?_
        obtain ⟨u2, hu2, hf⟩ := ob_bind hf
        refine zcallV (ci := 7) (q0 := 0) (As := [.int v2]) (rest := []) (wr := []) (ws' := cMd K a0 a1 a2 a3 a4 a5 a6 a7 a8 a9 a10 a11 a12 a13 a14 a15 a16 a17 a18 a19 u2.2) (ov := some (.int u2.1)) X hh hl (kX8_comesTold l K a0 a1 a2 a3 a4 a5 a6 a7 a8 a9 a10 a11 a12 a13 a14 a15 a16 a17 a18 a19 S v2 u2 hu2) (fun ht => cwV 1 ht gX8_street_X8_comesTold rfl rfl rfl ⟨rfl, hdX8_comesTold⟩ ⟨Nat.le_of_ble_eq_true rfl, Nat.le_of_ble_eq_true rfl⟩) [0, 1, 2, 3, 4, 5, 6, 7, 8, 9, 10, 11, 12, 13, 14, 15, 16, 17, 18, 19] [] [0, 1, 2, 3, 4, 5, 6, 7, 8, 9, 10, 11, 12, 13, 14, 15, 16, 17, 18, 19] rfl rfl rfl rfl (by decide) rfl rfl rfl rfl rfl rfl (Nat.le_of_ble_eq_true rfl) dX8_street_96 ⟨Nat.zero_le _, Nat.zero_le _⟩ (fun H locs hh => ?_)
        refine lv_if_eq (tgt := 105) hx hb dX8_street_99 (by decide) (fun c3 => ?_) (fun c3 => ?_)
        · replace hf := (if_pos c3).symm.trans hf
          refine lv_aload_n hx hb dX8_street_105 rfl (lv_at hl 0 rfl) ?_
          refine lv_iconst (v := (1 : Int32)) hx hb dX8_street_106 (by decide) ?_
          refine lv_iconst (v := (0 : Int32)) hx hb dX8_street_107 (by decide) ?_
          obtain ⟨u4, hu4, hf⟩ := ob_bind hf
          refine zcallV (ci := 7) (q0 := 0) (As := [.int (1 : Int32), .int (0 : Int32)]) (rest := []) (wr := []) (ws' := cMd K a0 a1 a2 a3 a4 a5 a6 a7 a8 a9 a10 a11 a12 a13 a14 a15 a16 a17 a18 a19 u4) (ov := none) X hh hl (kX8_passesAll l K a0 a1 a2 a3 a4 a5 a6 a7 a8 a9 a10 a11 a12 a13 a14 a15 a16 a17 a18 a19 u2.2 (1 : Int32) (0 : Int32) u4 hu4) (fun ht => cwV 2 ht gX8_street_X8_passesAll rfl rfl rfl ⟨rfl, hdX8_passesAll⟩ ⟨Nat.le_of_ble_eq_true rfl, Nat.le_of_ble_eq_true rfl⟩) [0, 1, 2, 3, 4, 5, 6, 7, 8, 9, 10, 11, 12, 13, 14, 15, 16, 17, 18, 19] [] [0, 1, 2, 3, 4, 5, 6, 7, 8, 9, 10, 11, 12, 13, 14, 15, 16, 17, 18, 19] rfl rfl rfl rfl (by decide) rfl rfl rfl rfl rfl rfl (Nat.le_of_ble_eq_true rfl) dX8_street_108 ⟨Nat.zero_le _, Nat.zero_le _⟩ (fun H locs hh => ?_)
          refine lv_sipush (v := (-2000 : Int32)) hx hb dX8_street_111 (by decide) ?_
          refine lv_aload_n hx hb dX8_street_114 rfl (lv_at hl 0 rfl) ?_
          refine zget (v := .ref a12) (ref := "SumOfTwoThatStandModel") (C := RX8) (T := TX8) (N := 33) (index := 43) X hh inX8_street_X8 0 rfl rfl 14 (by decide) mmX8_street_1 rfl rfl dX8_street_115 ?_
          refine lv_iload_n hx hb dX8_street_118 rfl (lv_at hl 1 rfl) ?_
          obtain ⟨g5, hf⟩ := ob_ix hf
          refine ziald (f := (md_sortAt u4)) X hh 12 rfl g5 dX8_street_119 ?_
          refine lv_isub hx hb dX8_street_120 ?_
          exact hr2 121 ls H locs ((-2000 : Int32) - ((md_sortAt u4) v2.toNatClampNeg)) u4 hf dX8_street_121 hh
        · replace hf := (if_neg c3).symm.trans hf
          refine lv_goto (tgt := 122) hx hb dX8_street_102 (by decide) ?_
          refine lv_iinc (v := (v2 + (1 : Int32))) (lv' := [(2, .int (v2 + (1 : Int32))), (0, .ref a0)]) hx hb dX8_street_122 hl (k := 1) rfl rfl (by decide) rfl (fun ls hl => ?_)
          refine lv_goto (tgt := 86) hx hb dX8_street_125 (by decide) ?_
          exact ih (v2 + (1 : Int32)) u2.2 H locs ls hf (lv_sub hl [1, 0] rfl) hh
  have hJ60 : ∀ (v1 : Int32) (S : zMd), ∀ (H : Heap) (locs : List Loc) (ls : Array Slot), fX8_street_j60 v1 S = some R → lv_has ls 3 [(0, .ref a0), (1, .int v1)] → zW K A s H locs (cMd K a0 a1 a2 a3 a4 a5 a6 a7 a8 a9 a10 a11 a12 a13 a14 a15 a16 a17 a18 a19 S) → W p l e ({ frames := 5, cells := 0, slots := 0, locals := 112 } : Room) s m ([.ref a0] : List Value).toArray below meth c H locs 0 0 Q (F0 m 60 ls []) := by
    intro v1 S H locs ls hf hl hh
    unfold fX8_street_j60 at hf
    refine lv_aload_n hx hb dX8_street_60 rfl (lv_at hl 0 rfl) ?_
    refine lv_iconst (v := (0 : Int32)) hx hb dX8_street_61 (by decide) ?_
    refine zput (v := .int (0 : Int32)) (ty := .int) (ref := "SumOfTwoThatStandModel") (C := RX8) (T := TX8) (N := 33) (index := 124) X hh inX8_street_X8 tyX8 tyX8_ok nmX8 0 rfl rfl 16 (by decide) mmX8_street_2 rfl rfl (by decide +kernel) rfl rfl (Nat.le_of_ble_eq_true rfl) dX8_street_62 (fun H locs hh => ?_)
    have hh := hh.to (sMd_taped K a0 a1 a2 a3 a4 a5 a6 a7 a8 a9 a10 a11 a12 a13 a14 a15 a16 a17 a18 a19 S (0 : Int32))
    refine lv_iload_n hx hb dX8_street_65 rfl (lv_at hl 1 rfl) ?_
    refine lv_if_ne (tgt := 78) hx hb dX8_street_66 (by decide) (fun c6 => ?_) (fun c6 => ?_)
    · replace hf := (if_neg c6).symm.trans hf
      refine lv_aload_n hx hb dX8_street_78 rfl (lv_at hl 0 rfl) ?_
      refine lv_iconst (v := (1 : Int32)) hx hb dX8_street_79 (by decide) ?_
      refine lv_iconst (v := (1 : Int32)) hx hb dX8_street_80 (by decide) ?_
      obtain ⟨u7, hu7, hf⟩ := ob_bind hf
      refine zcallV (ci := 7) (q0 := 0) (As := [.int (1 : Int32), .int (1 : Int32)]) (rest := []) (wr := []) (ws' := cMd K a0 a1 a2 a3 a4 a5 a6 a7 a8 a9 a10 a11 a12 a13 a14 a15 a16 a17 a18 a19 u7) (ov := none) X hh hl (kX8_passesAll l K a0 a1 a2 a3 a4 a5 a6 a7 a8 a9 a10 a11 a12 a13 a14 a15 a16 a17 a18 a19 (md_set_taped S (0 : Int32)) (1 : Int32) (1 : Int32) u7 hu7) (fun ht => cwV 2 ht gX8_street_X8_passesAll rfl rfl rfl ⟨rfl, hdX8_passesAll⟩ ⟨Nat.le_of_ble_eq_true rfl, Nat.le_of_ble_eq_true rfl⟩) [0, 1, 2, 3, 4, 5, 6, 7, 8, 9, 10, 11, 12, 13, 14, 15, 16, 17, 18, 19] [] [0, 1, 2, 3, 4, 5, 6, 7, 8, 9, 10, 11, 12, 13, 14, 15, 16, 17, 18, 19] rfl rfl rfl rfl (by decide) rfl rfl rfl rfl rfl rfl (Nat.le_of_ble_eq_true rfl) dX8_street_81 ⟨Nat.zero_le _, Nat.zero_le _⟩ (fun H locs hh => ?_)
      refine lv_iconst (v := (0 : Int32)) hx hb dX8_street_84 (by decide) ?_
      refine lv_istore_n (lv' := [(2, .int (0 : Int32)), (0, .ref a0), (1, .int v1)]) hx hb dX8_street_85 rfl hl (by decide) rfl (fun ls hl => ?_)
      exact hL86 FU (0 : Int32) u7 H locs ls hf (lv_sub hl [1, 0] rfl) hh
    · replace hf := (if_pos c6).symm.trans hf
      refine lv_sipush (v := (-1000 : Int32)) hx hb dX8_street_69 (by decide) ?_
      refine lv_aload_n hx hb dX8_street_72 rfl (lv_at hl 0 rfl) ?_
      refine zget (v := .int (md_reading S)) (ref := "SumOfTwoThatStandModel") (C := RX8) (T := TX8) (N := 33) (index := 130) X hh inX8_street_X8 0 rfl rfl 17 (by decide) mmX8_street_3 rfl rfl dX8_street_73 ?_
      refine lv_isub hx hb dX8_street_76 ?_
      exact hr2 77 ls H locs ((-1000 : Int32) - (md_reading S)) (md_set_taped S (0 : Int32)) hf dX8_street_77 hh
  have hJ53 : ∀ (v1 : Int32) (t1 : Int32) (t2 : Int32) (S : zMd) (k12 : (Int32) → (zMd) → Option (Int32 × zMd)), (∀ (v1 : Int32) (S : zMd) (H : Heap) (locs : List Loc) (ls : Array Slot), k12 v1 S = some R → lv_has ls 3 [(0, .ref a0), (1, .int v1)] → zW K A s H locs (cMd K a0 a1 a2 a3 a4 a5 a6 a7 a8 a9 a10 a11 a12 a13 a14 a15 a16 a17 a18 a19 S) → W p l e ({ frames := 5, cells := 0, slots := 0, locals := 112 } : Room) s m ([.ref a0] : List Value).toArray below meth c H locs 0 0 Q (F0 m 12 ls [])) → ∀ (H : Heap) (locs : List Loc) (ls : Array Slot), fX8_street_j53 v1 t1 t2 S k12 = some R → lv_has ls 3 [(0, .ref a0), (1, .int v1)] → zW K A s H locs (cMd K a0 a1 a2 a3 a4 a5 a6 a7 a8 a9 a10 a11 a12 a13 a14 a15 a16 a17 a18 a19 S) → W p l e ({ frames := 5, cells := 0, slots := 0, locals := 112 } : Room) s m ([.ref a0] : List Value).toArray below meth c H locs 0 0 Q (F0 m 53 ls [.int t2, .int t1, .ref a0]) := by
    intro v1 t1 t2 S k12 hk12 H locs ls hf hl hh
    unfold fX8_street_j53 at hf
    refine lv_iadd hx hb dX8_street_53 ?_
    refine zput (v := .int (t1 + t2)) (ty := .int) (ref := "SumOfTwoThatStandModel") (C := RX8) (T := TX8) (N := 33) (index := 145) X hh inX8_street_X8 tyX8 tyX8_ok nmX8 0 rfl rfl 18 (by decide) mmX8_street_0 rfl rfl (by decide +kernel) rfl rfl (Nat.le_of_ble_eq_true rfl) dX8_street_54 (fun H locs hh => ?_)
    have hh := hh.to (sMd_statements K a0 a1 a2 a3 a4 a5 a6 a7 a8 a9 a10 a11 a12 a13 a14 a15 a16 a17 a18 a19 S (t1 + t2))
    refine lv_goto (tgt := 12) hx hb dX8_street_57 (by decide) ?_
    exact hk12 v1 (md_set_statements S (t1 + t2)) H locs ls hf (lv_sub hl [0, 1] rfl) hh
  have hJ34 : ∀ (S : zMd) (k12 : (Int32) → (zMd) → Option (Int32 × zMd)), (∀ (v1 : Int32) (S : zMd) (H : Heap) (locs : List Loc) (ls : Array Slot), k12 v1 S = some R → lv_has ls 3 [(0, .ref a0), (1, .int v1)] → zW K A s H locs (cMd K a0 a1 a2 a3 a4 a5 a6 a7 a8 a9 a10 a11 a12 a13 a14 a15 a16 a17 a18 a19 S) → W p l e ({ frames := 5, cells := 0, slots := 0, locals := 112 } : Room) s m ([.ref a0] : List Value).toArray below meth c H locs 0 0 Q (F0 m 12 ls [])) → ∀ (H : Heap) (locs : List Loc) (ls : Array Slot), fX8_street_j34 S k12 = some R → lv_has ls 3 [(0, .ref a0)] → zW K A s H locs (cMd K a0 a1 a2 a3 a4 a5 a6 a7 a8 a9 a10 a11 a12 a13 a14 a15 a16 a17 a18 a19 S) → W p l e ({ frames := 5, cells := 0, slots := 0, locals := 112 } : Room) s m ([.ref a0] : List Value).toArray below meth c H locs 0 0 Q (F0 m 34 ls []) := by
    intro S k12 hk12 H locs ls hf hl hh
    unfold fX8_street_j34 at hf
    refine lv_aload_n hx hb dX8_street_34 rfl (lv_at hl 0 rfl) ?_
    obtain ⟨u8, hu8, hf⟩ := ob_bind hf
    refine zcallV (ci := 7) (q0 := 0) (As := []) (rest := []) (wr := []) (ws' := cMd K a0 a1 a2 a3 a4 a5 a6 a7 a8 a9 a10 a11 a12 a13 a14 a15 a16 a17 a18 a19 u8.2) (ov := some (.int u8.1)) X hh hl (kX8_statement l K a0 a1 a2 a3 a4 a5 a6 a7 a8 a9 a10 a11 a12 a13 a14 a15 a16 a17 a18 a19 S u8 hu8) (fun ht => cwV 0 ht gX8_street_X8_statement rfl rfl rfl ⟨rfl, hdX8_statement⟩ ⟨Nat.le_of_ble_eq_true rfl, Nat.le_of_ble_eq_true rfl⟩) [0, 1, 2, 3, 4, 5, 6, 7, 8, 9, 10, 11, 12, 13, 14, 15, 16, 17, 18, 19] [] [0, 1, 2, 3, 4, 5, 6, 7, 8, 9, 10, 11, 12, 13, 14, 15, 16, 17, 18, 19] rfl rfl rfl rfl (by decide) rfl rfl rfl rfl rfl rfl (Nat.le_of_ble_eq_true rfl) dX8_street_35 ⟨Nat.zero_le _, Nat.zero_le _⟩ (fun H locs hh => ?_)
    refine lv_istore_n (lv' := [(1, .int u8.1), (0, .ref a0)]) hx hb dX8_street_38 rfl hl (by decide) rfl (fun ls hl => ?_)
    refine lv_aload_n hx hb dX8_street_39 rfl (lv_at hl 1 rfl) ?_
    refine lv_dup hx hb dX8_street_40 rfl ?_
    refine zget (v := .int (md_statements u8.2)) (ref := "SumOfTwoThatStandModel") (C := RX8) (T := TX8) (N := 33) (index := 145) X hh inX8_street_X8 0 rfl rfl 18 (by decide) mmX8_street_0 rfl rfl dX8_street_41 ?_
    refine lv_iload_n hx hb dX8_street_44 rfl (lv_at hl 0 rfl) ?_
    refine lv_if_eq (tgt := 52) hx hb dX8_street_45 (by decide) (fun c9 => ?_) (fun c9 => ?_)
    · replace hf := (if_pos c9).symm.trans hf
      refine lv_iconst (v := (0 : Int32)) hx hb dX8_street_52 (by decide) ?_
      exact hJ53 u8.1 (md_statements u8.2) (0 : Int32) u8.2 (k12) (hk12) H locs ls hf (lv_sub hl [1, 0] rfl) hh
    · replace hf := (if_neg c9).symm.trans hf
      refine lv_iconst (v := (1 : Int32)) hx hb dX8_street_48 (by decide) ?_
      refine lv_goto (tgt := 53) hx hb dX8_street_49 (by decide) ?_
      exact hJ53 u8.1 (md_statements u8.2) (1 : Int32) u8.2 (k12) (hk12) H locs ls hf (lv_sub hl [1, 0] rfl) hh
  have hL12 : ∀ (n : Nat) (v1 : Int32) (S : zMd), ∀ (H : Heap) (locs : List Loc) (ls : Array Slot), fX8_street_l12 n v1 S = some R → lv_has ls 3 [(0, .ref a0), (1, .int v1)] → zW K A s H locs (cMd K a0 a1 a2 a3 a4 a5 a6 a7 a8 a9 a10 a11 a12 a13 a14 a15 a16 a17 a18 a19 S) → W p l e ({ frames := 5, cells := 0, slots := 0, locals := 112 } : Room) s m ([.ref a0] : List Value).toArray below meth c H locs 0 0 Q (F0 m 12 ls []) := by
    intro n
    induction n with
    | zero =>
      intro v1 S H locs ls hf hl hh
      rw [fX8_street_l12] at hf; cases hf
    | succ n ih =>
      intro v1 S H locs ls hf hl hh
      rw [fX8_street_l12] at hf
      refine lv_iload_n hx hb dX8_street_12 rfl (lv_at hl 1 rfl) ?_
      refine lv_if_eq (tgt := 60) hx hb dX8_street_13 (by decide) (fun c10 => ?_) (fun c10 => ?_)
      · replace hf := (if_pos c10).symm.trans hf
        exact hJ60 v1 S H locs ls hf (lv_sub hl [0, 1] rfl) hh
      · replace hf := (if_neg c10).symm.trans hf
        refine lv_aload_n hx hb dX8_street_16 rfl (lv_at hl 0 rfl) ?_
        refine zget (v := .int (md_reading S)) (ref := "SumOfTwoThatStandModel") (C := RX8) (T := TX8) (N := 33) (index := 130) X hh inX8_street_X8 0 rfl rfl 17 (by decide) mmX8_street_3 rfl rfl dX8_street_17 ?_
        refine lv_aload_n hx hb dX8_street_20 rfl (lv_at hl 0 rfl) ?_
        refine zget (v := .int (md_taped S)) (ref := "SumOfTwoThatStandModel") (C := RX8) (T := TX8) (N := 33) (index := 124) X hh inX8_street_X8 0 rfl rfl 16 (by decide) mmX8_street_2 rfl rfl dX8_street_21 ?_
        refine lv_icmp_lt (tgt := 34) hx hb dX8_street_24 (by decide) (fun c11 => ?_) (fun c11 => ?_)
        · replace hf := (if_pos c11).symm.trans hf
          exact hJ34 S (fX8_street_l12  n) (ih) H locs ls hf (lv_sub hl [0] rfl) hh
        · replace hf := (if_neg c11).symm.trans hf
          refine lv_aload_n hx hb dX8_street_27 rfl (lv_at hl 0 rfl) ?_
          refine zget (v := .int (md_statements S)) (ref := "SumOfTwoThatStandModel") (C := RX8) (T := TX8) (N := 33) (index := 145) X hh inX8_street_X8 0 rfl rfl 18 (by decide) mmX8_street_0 rfl rfl dX8_street_28 ?_
          refine lv_if_ne (tgt := 60) hx hb dX8_street_31 (by decide) (fun c12 => ?_) (fun c12 => ?_)
          · replace hf := (if_neg c12).symm.trans hf
            exact hJ60 v1 S H locs ls hf (lv_sub hl [0, 1] rfl) hh
          · replace hf := (if_pos c12).symm.trans hf
            exact hJ34 S (fX8_street_l12  n) (ih) H locs ls hf (lv_sub hl [0] rfl) hh
  unfold fX8_street at hf
  refine (fun (hmain : ∀ (H : Heap) (locs : List Loc), zW K A s H locs (cMd K a0 a1 a2 a3 a4 a5 a6 a7 a8 a9 a10 a11 a12 a13 a14 a15 a16 a17 a18 a19 S) → W p l e ({ frames := 5, cells := 0, slots := 0, locals := 112 } : Room) s m ([.ref a0] : List Value).toArray below meth c H locs 0 0 Q (F0 m 0 ls [])) => hmain s.heap [] hh) (fun H locs hh => ?_)
  refine lv_aload_n hx hb dX8_street_0 rfl (lv_at hl 0 rfl) ?_
  refine lv_iconst (v := (0 : Int32)) hx hb dX8_street_1 (by decide) ?_
  refine zput (v := .int (0 : Int32)) (ty := .int) (ref := "SumOfTwoThatStandModel") (C := RX8) (T := TX8) (N := 33) (index := 130) X hh inX8_street_X8 tyX8 tyX8_ok nmX8 0 rfl rfl 17 (by decide) mmX8_street_3 rfl rfl (by decide +kernel) rfl rfl (Nat.le_of_ble_eq_true rfl) dX8_street_2 (fun H locs hh => ?_)
  have hh := hh.to (sMd_reading K a0 a1 a2 a3 a4 a5 a6 a7 a8 a9 a10 a11 a12 a13 a14 a15 a16 a17 a18 a19 S (0 : Int32))
  refine lv_aload_n hx hb dX8_street_5 rfl (lv_at hl 0 rfl) ?_
  refine lv_iconst (v := (0 : Int32)) hx hb dX8_street_6 (by decide) ?_
  refine zput (v := .int (0 : Int32)) (ty := .int) (ref := "SumOfTwoThatStandModel") (C := RX8) (T := TX8) (N := 33) (index := 145) X hh inX8_street_X8 tyX8 tyX8_ok nmX8 0 rfl rfl 18 (by decide) mmX8_street_0 rfl rfl (by decide +kernel) rfl rfl (Nat.le_of_ble_eq_true rfl) dX8_street_7 (fun H locs hh => ?_)
  have hh := hh.to (sMd_statements K a0 a1 a2 a3 a4 a5 a6 a7 a8 a9 a10 a11 a12 a13 a14 a15 a16 a17 a18 a19 (md_set_reading S (0 : Int32)) (0 : Int32))
  refine lv_iconst (v := (1 : Int32)) hx hb dX8_street_10 (by decide) ?_
  refine lv_istore_n (lv' := [(1, .int (1 : Int32)), (0, .ref a0)]) hx hb dX8_street_11 rfl hl (by decide) rfl (fun ls hl => ?_)
  exact hL12 FU (1 : Int32) (md_set_statements (md_set_reading S (0 : Int32)) (0 : Int32)) H locs ls hf (lv_sub hl [1, 0] rfl) hh
theorem inX8_image_X8 : ∀ w ∈ wsX80, w ∈ wsX8_image := by decide +kernel
theorem mmX8_image_0 : Cond.fieldLink RX8 198 "SumOfTwoThatStandModel" "hasImage" "Z" ∈ wsX8_image := by decide +kernel
theorem mmX8_image_1 : Cond.fieldLink RX8 70 "SumOfTwoThatStandModel" "houses" "I" ∈ wsX8_image := by decide +kernel
theorem hdX8_image : yX8_image.cls ≠ "java/lang/invoke/MethodHandle" ∧ yX8_image.cls ≠ "java/lang/invoke/VarHandle" ∧ (parseMethodDescriptor yX8_image.desc).map (fun d => d.parameters.length) = some 0 := by decide +kernel
set_option maxHeartbeats 4000000 in
set_option maxRecDepth 100000 in
theorem kX8_image (l : Launch) (K : zK) (a0 a1 a2 a3 a4 a5 a6 a7 a8 a9 a10 a11 a12 a13 a14 a15 a16 a17 a18 a19 : Nat) (S : zMd) (R : Int32 × zMd) (hf : fX8_image S = some R) : zC l yX8_image wsX8_image ({ frames := 2, cells := 0, slots := 0, locals := 44 } : Room) K [.ref a0] (cMd K a0 a1 a2 a3 a4 a5 a6 a7 a8 a9 a10 a11 a12 a13 a14 a15 a16 a17 a18 a19 S) (some (.int R.1)) (cMd K a0 a1 a2 a3 a4 a5 a6 a7 a8 a9 a10 a11 a12 a13 a14 a15 a16 a17 a18 a19 R.2) := by
  refine zC_i R.1 (cc := cX8_image) (maxL := 1) (by decide +kernel) rfl (Nat.le_of_ble_eq_true rfl) rfl rfl ?_
  intro p e s m below meth c Q A X hret ls hl hh
  have X : zX p m c cX8_image 1 s ([.ref a0] : List Value).toArray wsX8_image RX8 K A := X
  have hx := X.1.1
  have hb := X.1.2.1
  have hr2 : ∀ (pc : Nat) (ls : Array Slot) (H : Heap) (locs : List Loc) (v : Int32) (S : zMd), some (v, S) = some R → decode cX8_image pc = .ok (.ireturn, 1) → zW K A s H locs (cMd K a0 a1 a2 a3 a4 a5 a6 a7 a8 a9 a10 a11 a12 a13 a14 a15 a16 a17 a18 a19 S) → W p l e ({ frames := 2, cells := 0, slots := 0, locals := 44 } : Room) s m ([.ref a0] : List Value).toArray below meth c H locs 0 0 Q (F0 m pc ls [.int v]) := by
    intro pc ls H locs v S h hd hh
    cases h; exact hret pc ls H locs _ rfl hd hh
  have hl : lv_has ls 1 [(0, .ref a0)] := hl
  unfold fX8_image at hf
  refine (fun (hmain : ∀ (H : Heap) (locs : List Loc), zW K A s H locs (cMd K a0 a1 a2 a3 a4 a5 a6 a7 a8 a9 a10 a11 a12 a13 a14 a15 a16 a17 a18 a19 S) → W p l e ({ frames := 2, cells := 0, slots := 0, locals := 44 } : Room) s m ([.ref a0] : List Value).toArray below meth c H locs 0 0 Q (F0 m 0 ls [])) => hmain s.heap [] hh) (fun H locs hh => ?_)
  refine lv_aload_n hx hb dX8_image_0 rfl (lv_at hl 0 rfl) ?_
  refine lv_iconst (v := (1 : Int32)) hx hb dX8_image_1 (by decide) ?_
  refine zput (v := .int (1 : Int32)) (ty := .boolean) (ref := "SumOfTwoThatStandModel") (C := RX8) (T := TX8) (N := 33) (index := 198) X hh inX8_image_X8 tyX8 tyX8_ok nmX8 0 rfl rfl 21 (by decide) mmX8_image_0 rfl rfl (by decide +kernel) rfl rfl (Nat.le_of_ble_eq_true rfl) dX8_image_2 (fun H locs hh => ?_)
  have hh := hh.to (sMd_hasImage K a0 a1 a2 a3 a4 a5 a6 a7 a8 a9 a10 a11 a12 a13 a14 a15 a16 a17 a18 a19 S (1 : Int32))
  refine lv_aload_n hx hb dX8_image_5 rfl (lv_at hl 0 rfl) ?_
  refine lv_iconst (v := (0 : Int32)) hx hb dX8_image_6 (by decide) ?_
  refine lv_iconst (v := (1 : Int32)) hx hb dX8_image_7 (by decide) ?_
  obtain ⟨u1, hu1, hf⟩ := ob_bind hf
  refine zcallV (ci := 7) (q0 := 0) (As := [.int (0 : Int32), .int (1 : Int32)]) (rest := []) (wr := []) (ws' := cMd K a0 a1 a2 a3 a4 a5 a6 a7 a8 a9 a10 a11 a12 a13 a14 a15 a16 a17 a18 a19 u1) (ov := none) X hh hl (kX8_passesAll l K a0 a1 a2 a3 a4 a5 a6 a7 a8 a9 a10 a11 a12 a13 a14 a15 a16 a17 a18 a19 (md_set_hasImage S (1 : Int32)) (0 : Int32) (1 : Int32) u1 hu1) (fun ht => cwV 2 ht gX8_image_X8_passesAll rfl rfl rfl ⟨rfl, hdX8_passesAll⟩ ⟨Nat.le_of_ble_eq_true rfl, Nat.le_of_ble_eq_true rfl⟩) [0, 1, 2, 3, 4, 5, 6, 7, 8, 9, 10, 11, 12, 13, 14, 15, 16, 17, 18, 19] [] [0, 1, 2, 3, 4, 5, 6, 7, 8, 9, 10, 11, 12, 13, 14, 15, 16, 17, 18, 19] rfl rfl rfl rfl (by decide) rfl rfl rfl rfl rfl rfl (Nat.le_of_ble_eq_true rfl) dX8_image_8 ⟨Nat.zero_le _, Nat.zero_le _⟩ (fun H locs hh => ?_)
  refine lv_aload_n hx hb dX8_image_11 rfl (lv_at hl 0 rfl) ?_
  refine zget (v := .int (md_houses u1)) (ref := "SumOfTwoThatStandModel") (C := RX8) (T := TX8) (N := 33) (index := 70) X hh inX8_image_X8 0 rfl rfl 9 (by decide) mmX8_image_1 rfl rfl dX8_image_12 ?_
  exact hr2 15 ls H locs (md_houses u1) u1 hf dX8_image_15 hh
theorem inX8_restore_X8 : ∀ w ∈ wsX80, w ∈ wsX8_restore := by decide +kernel
theorem mmX8_restore_0 : Cond.fieldLink RX8 198 "SumOfTwoThatStandModel" "hasImage" "Z" ∈ wsX8_restore := by decide +kernel
theorem mmX8_restore_1 : Cond.fieldLink RX8 70 "SumOfTwoThatStandModel" "houses" "I" ∈ wsX8_restore := by decide +kernel
theorem hdX8_restore : yX8_restore.cls ≠ "java/lang/invoke/MethodHandle" ∧ yX8_restore.cls ≠ "java/lang/invoke/VarHandle" ∧ (parseMethodDescriptor yX8_restore.desc).map (fun d => d.parameters.length) = some 0 := by decide +kernel
set_option maxHeartbeats 4000000 in
set_option maxRecDepth 100000 in
theorem kX8_restore (l : Launch) (K : zK) (a0 a1 a2 a3 a4 a5 a6 a7 a8 a9 a10 a11 a12 a13 a14 a15 a16 a17 a18 a19 : Nat) (S : zMd) (R : Int32 × zMd) (hf : fX8_restore S = some R) : zC l yX8_restore wsX8_restore ({ frames := 2, cells := 0, slots := 0, locals := 44 } : Room) K [.ref a0] (cMd K a0 a1 a2 a3 a4 a5 a6 a7 a8 a9 a10 a11 a12 a13 a14 a15 a16 a17 a18 a19 S) (some (.int R.1)) (cMd K a0 a1 a2 a3 a4 a5 a6 a7 a8 a9 a10 a11 a12 a13 a14 a15 a16 a17 a18 a19 R.2) := by
  refine zC_i R.1 (cc := cX8_restore) (maxL := 1) (by decide +kernel) rfl (Nat.le_of_ble_eq_true rfl) rfl rfl ?_
  intro p e s m below meth c Q A X hret ls hl hh
  have X : zX p m c cX8_restore 1 s ([.ref a0] : List Value).toArray wsX8_restore RX8 K A := X
  have hx := X.1.1
  have hb := X.1.2.1
  have hr2 : ∀ (pc : Nat) (ls : Array Slot) (H : Heap) (locs : List Loc) (v : Int32) (S : zMd), some (v, S) = some R → decode cX8_restore pc = .ok (.ireturn, 1) → zW K A s H locs (cMd K a0 a1 a2 a3 a4 a5 a6 a7 a8 a9 a10 a11 a12 a13 a14 a15 a16 a17 a18 a19 S) → W p l e ({ frames := 2, cells := 0, slots := 0, locals := 44 } : Room) s m ([.ref a0] : List Value).toArray below meth c H locs 0 0 Q (F0 m pc ls [.int v]) := by
    intro pc ls H locs v S h hd hh
    cases h; exact hret pc ls H locs _ rfl hd hh
  have hl : lv_has ls 1 [(0, .ref a0)] := hl
  unfold fX8_restore at hf
  refine (fun (hmain : ∀ (H : Heap) (locs : List Loc), zW K A s H locs (cMd K a0 a1 a2 a3 a4 a5 a6 a7 a8 a9 a10 a11 a12 a13 a14 a15 a16 a17 a18 a19 S) → W p l e ({ frames := 2, cells := 0, slots := 0, locals := 44 } : Room) s m ([.ref a0] : List Value).toArray below meth c H locs 0 0 Q (F0 m 0 ls [])) => hmain s.heap [] hh) (fun H locs hh => ?_)
  refine lv_aload_n hx hb dX8_restore_0 rfl (lv_at hl 0 rfl) ?_
  refine zget (v := .int (md_hasImage S)) (ref := "SumOfTwoThatStandModel") (C := RX8) (T := TX8) (N := 33) (index := 198) X hh inX8_restore_X8 0 rfl rfl 21 (by decide) mmX8_restore_0 rfl rfl dX8_restore_1 ?_
  refine lv_if_ne (tgt := 14) hx hb dX8_restore_4 (by decide) (fun c1 => ?_) (fun c1 => ?_)
  · replace hf := (if_neg c1).symm.trans hf
    refine lv_aload_n hx hb dX8_restore_14 rfl (lv_at hl 0 rfl) ?_
    refine lv_iconst (v := (0 : Int32)) hx hb dX8_restore_15 (by decide) ?_
    refine lv_iconst (v := (0 : Int32)) hx hb dX8_restore_16 (by decide) ?_
    obtain ⟨u2, hu2, hf⟩ := ob_bind hf
    refine zcallV (ci := 7) (q0 := 0) (As := [.int (0 : Int32), .int (0 : Int32)]) (rest := []) (wr := []) (ws' := cMd K a0 a1 a2 a3 a4 a5 a6 a7 a8 a9 a10 a11 a12 a13 a14 a15 a16 a17 a18 a19 u2) (ov := none) X hh hl (kX8_passesAll l K a0 a1 a2 a3 a4 a5 a6 a7 a8 a9 a10 a11 a12 a13 a14 a15 a16 a17 a18 a19 S (0 : Int32) (0 : Int32) u2 hu2) (fun ht => cwV 2 ht gX8_restore_X8_passesAll rfl rfl rfl ⟨rfl, hdX8_passesAll⟩ ⟨Nat.le_of_ble_eq_true rfl, Nat.le_of_ble_eq_true rfl⟩) [0, 1, 2, 3, 4, 5, 6, 7, 8, 9, 10, 11, 12, 13, 14, 15, 16, 17, 18, 19] [] [0, 1, 2, 3, 4, 5, 6, 7, 8, 9, 10, 11, 12, 13, 14, 15, 16, 17, 18, 19] rfl rfl rfl rfl (by decide) rfl rfl rfl rfl rfl rfl (Nat.le_of_ble_eq_true rfl) dX8_restore_17 ⟨Nat.zero_le _, Nat.zero_le _⟩ (fun H locs hh => ?_)
    refine lv_aload_n hx hb dX8_restore_20 rfl (lv_at hl 0 rfl) ?_
    refine zget (v := .int (md_houses u2)) (ref := "SumOfTwoThatStandModel") (C := RX8) (T := TX8) (N := 33) (index := 70) X hh inX8_restore_X8 0 rfl rfl 9 (by decide) mmX8_restore_1 rfl rfl dX8_restore_21 ?_
    exact hr2 24 ls H locs (md_houses u2) u2 hf dX8_restore_24 hh
  · replace hf := (if_pos c1).symm.trans hf
    refine lv_aload_n hx hb dX8_restore_7 rfl (lv_at hl 0 rfl) ?_
    refine lv_bipush (v := (-3 : Int32)) hx hb dX8_restore_8 (by decide) ?_
    obtain ⟨u3, hu3, hf⟩ := ob_bind hf
    refine zcallV (ci := 7) (q0 := 0) (As := [.int (-3 : Int32)]) (rest := []) (wr := []) (ws' := cMd K a0 a1 a2 a3 a4 a5 a6 a7 a8 a9 a10 a11 a12 a13 a14 a15 a16 a17 a18 a19 u3.2) (ov := some (.int u3.1)) X hh hl (kX8_no l K a0 a1 a2 a3 a4 a5 a6 a7 a8 a9 a10 a11 a12 a13 a14 a15 a16 a17 a18 a19 S (-3 : Int32) u3 hu3) (fun ht => cwV 1 ht gX8_restore_X8_no rfl rfl rfl ⟨rfl, hdX8_no⟩ ⟨Nat.le_of_ble_eq_true rfl, Nat.le_of_ble_eq_true rfl⟩) [0, 1, 2, 3, 4, 5, 6, 7, 8, 9, 10, 11, 12, 13, 14, 15, 16, 17, 18, 19] [] [0, 1, 2, 3, 4, 5, 6, 7, 8, 9, 10, 11, 12, 13, 14, 15, 16, 17, 18, 19] rfl rfl rfl rfl (by decide) rfl rfl rfl rfl rfl rfl (Nat.le_of_ble_eq_true rfl) dX8_restore_10 ⟨Nat.zero_le _, Nat.zero_le _⟩ (fun H locs hh => ?_)
    exact hr2 13 ls H locs u3.1 u3.2 hf dX8_restore_13 hh
theorem inX8_house_X8 : ∀ w ∈ wsX80, w ∈ wsX8_house := by decide +kernel
theorem mmX8_house_0 : Cond.fieldLink RX8 16 "SumOfTwoThatStandModel" "kind" "[I" ∈ wsX8_house := by decide +kernel
theorem mmX8_house_1 : Cond.fieldLink RX8 19 "SumOfTwoThatStandModel" "figure" "[I" ∈ wsX8_house := by decide +kernel
theorem mmX8_house_2 : Cond.fieldLink RX8 13 "SumOfTwoThatStandModel" "number" "[I" ∈ wsX8_house := by decide +kernel
theorem mmX8_house_3 : Cond.fieldLink RX8 22 "SumOfTwoThatStandModel" "one" "[I" ∈ wsX8_house := by decide +kernel
theorem mmX8_house_4 : Cond.fieldLink RX8 25 "SumOfTwoThatStandModel" "other" "[I" ∈ wsX8_house := by decide +kernel
theorem mmX8_house_5 : Cond.fieldLink RX8 28 "SumOfTwoThatStandModel" "stands" "[I" ∈ wsX8_house := by decide +kernel
theorem mmX8_house_6 : Cond.fieldLink RX8 31 "SumOfTwoThatStandModel" "uses" "[I" ∈ wsX8_house := by decide +kernel
theorem mmX8_house_7 : Cond.fieldLink RX8 34 "SumOfTwoThatStandModel" "earned" "[I" ∈ wsX8_house := by decide +kernel
theorem hdX8_house : yX8_house.cls ≠ "java/lang/invoke/MethodHandle" ∧ yX8_house.cls ≠ "java/lang/invoke/VarHandle" ∧ (parseMethodDescriptor yX8_house.desc).map (fun d => d.parameters.length) = some 2 := by decide +kernel
set_option maxHeartbeats 4000000 in
set_option maxRecDepth 100000 in
theorem kX8_house (l : Launch) (K : zK) (a0 a1 a2 a3 a4 a5 a6 a7 a8 a9 a10 a11 a12 a13 a14 a15 a16 a17 a18 a19 : Nat) (S : zMd) (p1 : Int32) (p2 : Int32) (R : Int32 × zMd) (hf : fX8_house S p1 p2 = some R) : zC l yX8_house wsX8_house ({ frames := 2, cells := 0, slots := 0, locals := 43 } : Room) K [.ref a0, .int p1, .int p2] (cMd K a0 a1 a2 a3 a4 a5 a6 a7 a8 a9 a10 a11 a12 a13 a14 a15 a16 a17 a18 a19 S) (some (.int R.1)) (cMd K a0 a1 a2 a3 a4 a5 a6 a7 a8 a9 a10 a11 a12 a13 a14 a15 a16 a17 a18 a19 R.2) := by
  refine zC_i R.1 (cc := cX8_house) (maxL := 3) (by decide +kernel) rfl (Nat.le_of_ble_eq_true rfl) rfl rfl ?_
  intro p e s m below meth c Q A X hret ls hl hh
  have X : zX p m c cX8_house 3 s ([.ref a0, .int p1, .int p2] : List Value).toArray wsX8_house RX8 K A := X
  have hx := X.1.1
  have hb := X.1.2.1
  have hr2 : ∀ (pc : Nat) (ls : Array Slot) (H : Heap) (locs : List Loc) (v : Int32) (S : zMd), some (v, S) = some R → decode cX8_house pc = .ok (.ireturn, 1) → zW K A s H locs (cMd K a0 a1 a2 a3 a4 a5 a6 a7 a8 a9 a10 a11 a12 a13 a14 a15 a16 a17 a18 a19 S) → W p l e ({ frames := 2, cells := 0, slots := 0, locals := 43 } : Room) s m ([.ref a0, .int p1, .int p2] : List Value).toArray below meth c H locs 0 0 Q (F0 m pc ls [.int v]) := by
    intro pc ls H locs v S h hd hh
    cases h; exact hret pc ls H locs _ rfl hd hh
  have hl : lv_has ls 3 [(0, .ref a0), (1, .int p1), (2, .int p2)] := hl
  unfold fX8_house at hf
  refine (fun (hmain : ∀ (H : Heap) (locs : List Loc), zW K A s H locs (cMd K a0 a1 a2 a3 a4 a5 a6 a7 a8 a9 a10 a11 a12 a13 a14 a15 a16 a17 a18 a19 S) → W p l e ({ frames := 2, cells := 0, slots := 0, locals := 43 } : Room) s m ([.ref a0, .int p1, .int p2] : List Value).toArray below meth c H locs 0 0 Q (F0 m 0 ls [])) => hmain s.heap [] hh) (fun H locs hh => ?_)
  refine lv_aload_n hx hb dX8_house_0 rfl (lv_at hl 0 rfl) ?_
  refine lv_iload_n hx hb dX8_house_1 rfl (lv_at hl 1 rfl) ?_
  obtain ⟨u1, hu1, hf⟩ := ob_bind hf
  refine zcallV (ci := 7) (q0 := 0) (As := [.int p1]) (rest := []) (wr := []) (ws' := cMd K a0 a1 a2 a3 a4 a5 a6 a7 a8 a9 a10 a11 a12 a13 a14 a15 a16 a17 a18 a19 S) (ov := some (.int u1)) X hh hl (kX8_isHouse l K a0 a1 a2 a3 a4 a5 a6 a7 a8 a9 a10 a11 a12 a13 a14 a15 a16 a17 a18 a19 S p1 u1 hu1) (fun ht => cwV 1 ht gX8_house_X8_isHouse rfl rfl rfl ⟨rfl, hdX8_isHouse⟩ ⟨Nat.le_of_ble_eq_true rfl, Nat.le_of_ble_eq_true rfl⟩) [0, 1, 2, 3, 4, 5, 6, 7, 8, 9, 10, 11, 12, 13, 14, 15, 16, 17, 18, 19] [] [0, 1, 2, 3, 4, 5, 6, 7, 8, 9, 10, 11, 12, 13, 14, 15, 16, 17, 18, 19] rfl rfl rfl rfl (by decide) rfl rfl rfl rfl rfl rfl (Nat.le_of_ble_eq_true rfl) dX8_house_2 ⟨Nat.zero_le _, Nat.zero_le _⟩ (fun H locs hh => ?_)
  refine lv_if_ne (tgt := 14) hx hb dX8_house_5 (by decide) (fun c2 => ?_) (fun c2 => ?_)
  · replace hf := (if_neg c2).symm.trans hf
    refine lv_iload_n hx hb dX8_house_14 rfl (lv_at hl 2 rfl) ?_
    by_cases c3_0 : p2 = (0 : Int32)
    · replace hf := (if_pos c3_0).symm.trans hf
      refine lv_tableIn (off := 45) (tgt := 60) hx hb dX8_house_15 (by rw [c3_0]; decide) (by rw [c3_0]; decide) (by rw [c3_0]; decide) (by decide) ?_
      refine lv_aload_n hx hb dX8_house_60 rfl (lv_at hl 0 rfl) ?_
      refine zget (v := .ref a3) (ref := "SumOfTwoThatStandModel") (C := RX8) (T := TX8) (N := 33) (index := 16) X hh inX8_house_X8 0 rfl rfl 2 (by decide) mmX8_house_0 rfl rfl dX8_house_61 ?_
      refine lv_iload_n hx hb dX8_house_64 rfl (lv_at hl 1 rfl) ?_
      obtain ⟨g4, hf⟩ := ob_ix hf
      refine ziald (f := (md_kind S)) X hh 3 rfl g4 dX8_house_65 ?_
      exact hr2 66 ls H locs ((md_kind S) p1.toNatClampNeg) S hf dX8_house_66 hh
    replace hf := (if_neg c3_0).symm.trans hf
    by_cases c3_1 : p2 = (1 : Int32)
    · replace hf := (if_pos c3_1).symm.trans hf
      refine lv_tableIn (off := 52) (tgt := 67) hx hb dX8_house_15 (by rw [c3_1]; decide) (by rw [c3_1]; decide) (by rw [c3_1]; decide) (by decide) ?_
      refine lv_aload_n hx hb dX8_house_67 rfl (lv_at hl 0 rfl) ?_
      refine zget (v := .ref a4) (ref := "SumOfTwoThatStandModel") (C := RX8) (T := TX8) (N := 33) (index := 19) X hh inX8_house_X8 0 rfl rfl 3 (by decide) mmX8_house_1 rfl rfl dX8_house_68 ?_
      refine lv_iload_n hx hb dX8_house_71 rfl (lv_at hl 1 rfl) ?_
      obtain ⟨g5, hf⟩ := ob_ix hf
      refine ziald (f := (md_figure S)) X hh 4 rfl g5 dX8_house_72 ?_
      exact hr2 73 ls H locs ((md_figure S) p1.toNatClampNeg) S hf dX8_house_73 hh
    replace hf := (if_neg c3_1).symm.trans hf
    by_cases c3_2 : p2 = (2 : Int32)
    · replace hf := (if_pos c3_2).symm.trans hf
      refine lv_tableIn (off := 59) (tgt := 74) hx hb dX8_house_15 (by rw [c3_2]; decide) (by rw [c3_2]; decide) (by rw [c3_2]; decide) (by decide) ?_
      refine lv_aload_n hx hb dX8_house_74 rfl (lv_at hl 0 rfl) ?_
      refine zget (v := .ref a2) (ref := "SumOfTwoThatStandModel") (C := RX8) (T := TX8) (N := 33) (index := 13) X hh inX8_house_X8 0 rfl rfl 1 (by decide) mmX8_house_2 rfl rfl dX8_house_75 ?_
      refine lv_iload_n hx hb dX8_house_78 rfl (lv_at hl 1 rfl) ?_
      obtain ⟨g6, hf⟩ := ob_ix hf
      refine ziald (f := (md_number S)) X hh 2 rfl g6 dX8_house_79 ?_
      exact hr2 80 ls H locs ((md_number S) p1.toNatClampNeg) S hf dX8_house_80 hh
    replace hf := (if_neg c3_2).symm.trans hf
    by_cases c3_3 : p2 = (3 : Int32)
    · replace hf := (if_pos c3_3).symm.trans hf
      refine lv_tableIn (off := 66) (tgt := 81) hx hb dX8_house_15 (by rw [c3_3]; decide) (by rw [c3_3]; decide) (by rw [c3_3]; decide) (by decide) ?_
      refine lv_aload_n hx hb dX8_house_81 rfl (lv_at hl 0 rfl) ?_
      refine zget (v := .ref a5) (ref := "SumOfTwoThatStandModel") (C := RX8) (T := TX8) (N := 33) (index := 22) X hh inX8_house_X8 0 rfl rfl 4 (by decide) mmX8_house_3 rfl rfl dX8_house_82 ?_
      refine lv_iload_n hx hb dX8_house_85 rfl (lv_at hl 1 rfl) ?_
      obtain ⟨g7, hf⟩ := ob_ix hf
      refine ziald (f := (md_one S)) X hh 5 rfl g7 dX8_house_86 ?_
      exact hr2 87 ls H locs ((md_one S) p1.toNatClampNeg) S hf dX8_house_87 hh
    replace hf := (if_neg c3_3).symm.trans hf
    by_cases c3_4 : p2 = (4 : Int32)
    · replace hf := (if_pos c3_4).symm.trans hf
      refine lv_tableIn (off := 73) (tgt := 88) hx hb dX8_house_15 (by rw [c3_4]; decide) (by rw [c3_4]; decide) (by rw [c3_4]; decide) (by decide) ?_
      refine lv_aload_n hx hb dX8_house_88 rfl (lv_at hl 0 rfl) ?_
      refine zget (v := .ref a6) (ref := "SumOfTwoThatStandModel") (C := RX8) (T := TX8) (N := 33) (index := 25) X hh inX8_house_X8 0 rfl rfl 5 (by decide) mmX8_house_4 rfl rfl dX8_house_89 ?_
      refine lv_iload_n hx hb dX8_house_92 rfl (lv_at hl 1 rfl) ?_
      obtain ⟨g8, hf⟩ := ob_ix hf
      refine ziald (f := (md_other S)) X hh 6 rfl g8 dX8_house_93 ?_
      exact hr2 94 ls H locs ((md_other S) p1.toNatClampNeg) S hf dX8_house_94 hh
    replace hf := (if_neg c3_4).symm.trans hf
    by_cases c3_5 : p2 = (5 : Int32)
    · replace hf := (if_pos c3_5).symm.trans hf
      refine lv_tableIn (off := 80) (tgt := 95) hx hb dX8_house_15 (by rw [c3_5]; decide) (by rw [c3_5]; decide) (by rw [c3_5]; decide) (by decide) ?_
      refine lv_aload_n hx hb dX8_house_95 rfl (lv_at hl 0 rfl) ?_
      refine zget (v := .ref a7) (ref := "SumOfTwoThatStandModel") (C := RX8) (T := TX8) (N := 33) (index := 28) X hh inX8_house_X8 0 rfl rfl 6 (by decide) mmX8_house_5 rfl rfl dX8_house_96 ?_
      refine lv_iload_n hx hb dX8_house_99 rfl (lv_at hl 1 rfl) ?_
      obtain ⟨g9, hf⟩ := ob_ix hf
      refine ziald (f := (md_stands S)) X hh 7 rfl g9 dX8_house_100 ?_
      exact hr2 101 ls H locs ((md_stands S) p1.toNatClampNeg) S hf dX8_house_101 hh
    replace hf := (if_neg c3_5).symm.trans hf
    by_cases c3_6 : p2 = (6 : Int32)
    · replace hf := (if_pos c3_6).symm.trans hf
      refine lv_tableIn (off := 87) (tgt := 102) hx hb dX8_house_15 (by rw [c3_6]; decide) (by rw [c3_6]; decide) (by rw [c3_6]; decide) (by decide) ?_
      refine lv_aload_n hx hb dX8_house_102 rfl (lv_at hl 0 rfl) ?_
      refine zget (v := .ref a8) (ref := "SumOfTwoThatStandModel") (C := RX8) (T := TX8) (N := 33) (index := 31) X hh inX8_house_X8 0 rfl rfl 7 (by decide) mmX8_house_6 rfl rfl dX8_house_103 ?_
      refine lv_iload_n hx hb dX8_house_106 rfl (lv_at hl 1 rfl) ?_
      obtain ⟨g10, hf⟩ := ob_ix hf
      refine ziald (f := (md_uses S)) X hh 8 rfl g10 dX8_house_107 ?_
      exact hr2 108 ls H locs ((md_uses S) p1.toNatClampNeg) S hf dX8_house_108 hh
    replace hf := (if_neg c3_6).symm.trans hf
    by_cases c3_7 : p2 = (7 : Int32)
    · replace hf := (if_pos c3_7).symm.trans hf
      refine lv_tableIn (off := 94) (tgt := 109) hx hb dX8_house_15 (by rw [c3_7]; decide) (by rw [c3_7]; decide) (by rw [c3_7]; decide) (by decide) ?_
      refine lv_aload_n hx hb dX8_house_109 rfl (lv_at hl 0 rfl) ?_
      refine zget (v := .ref a9) (ref := "SumOfTwoThatStandModel") (C := RX8) (T := TX8) (N := 33) (index := 34) X hh inX8_house_X8 0 rfl rfl 8 (by decide) mmX8_house_7 rfl rfl dX8_house_110 ?_
      refine lv_iload_n hx hb dX8_house_113 rfl (lv_at hl 1 rfl) ?_
      obtain ⟨g11, hf⟩ := ob_ix hf
      refine ziald (f := (md_earned S)) X hh 9 rfl g11 dX8_house_114 ?_
      exact hr2 115 ls H locs ((md_earned S) p1.toNatClampNeg) S hf dX8_house_115 hh
    replace hf := (if_neg c3_7).symm.trans hf
    refine lv_tableOut (tgt := 116) hx hb dX8_house_15 (by have e0 := lv_neT c3_0 (a := 0) (by decide); have e1 := lv_neT c3_1 (a := 1) (by decide); have e2 := lv_neT c3_2 (a := 2) (by decide); have e3 := lv_neT c3_3 (a := 3) (by decide); have e4 := lv_neT c3_4 (a := 4) (by decide); have e5 := lv_neT c3_5 (a := 5) (by decide); have e6 := lv_neT c3_6 (a := 6) (by decide); have e7 := lv_neT c3_7 (a := 7) (by decide); omega) (by decide) ?_
    refine lv_aload_n hx hb dX8_house_116 rfl (lv_at hl 0 rfl) ?_
    refine lv_bipush (v := (-2 : Int32)) hx hb dX8_house_117 (by decide) ?_
    obtain ⟨u12, hu12, hf⟩ := ob_bind hf
    refine zcallV (ci := 7) (q0 := 0) (As := [.int (-2 : Int32)]) (rest := []) (wr := []) (ws' := cMd K a0 a1 a2 a3 a4 a5 a6 a7 a8 a9 a10 a11 a12 a13 a14 a15 a16 a17 a18 a19 u12.2) (ov := some (.int u12.1)) X hh hl (kX8_no l K a0 a1 a2 a3 a4 a5 a6 a7 a8 a9 a10 a11 a12 a13 a14 a15 a16 a17 a18 a19 S (-2 : Int32) u12 hu12) (fun ht => cwV 1 ht gX8_house_X8_no rfl rfl rfl ⟨rfl, hdX8_no⟩ ⟨Nat.le_of_ble_eq_true rfl, Nat.le_of_ble_eq_true rfl⟩) [0, 1, 2, 3, 4, 5, 6, 7, 8, 9, 10, 11, 12, 13, 14, 15, 16, 17, 18, 19] [] [0, 1, 2, 3, 4, 5, 6, 7, 8, 9, 10, 11, 12, 13, 14, 15, 16, 17, 18, 19] rfl rfl rfl rfl (by decide) rfl rfl rfl rfl rfl rfl (Nat.le_of_ble_eq_true rfl) dX8_house_119 ⟨Nat.zero_le _, Nat.zero_le _⟩ (fun H locs hh => ?_)
    exact hr2 122 ls H locs u12.1 u12.2 hf dX8_house_122 hh
  · replace hf := (if_pos c2).symm.trans hf
    refine lv_aload_n hx hb dX8_house_8 rfl (lv_at hl 0 rfl) ?_
    refine lv_iconst (v := (-1 : Int32)) hx hb dX8_house_9 (by decide) ?_
    obtain ⟨u13, hu13, hf⟩ := ob_bind hf
    refine zcallV (ci := 7) (q0 := 0) (As := [.int (-1 : Int32)]) (rest := []) (wr := []) (ws' := cMd K a0 a1 a2 a3 a4 a5 a6 a7 a8 a9 a10 a11 a12 a13 a14 a15 a16 a17 a18 a19 u13.2) (ov := some (.int u13.1)) X hh hl (kX8_no l K a0 a1 a2 a3 a4 a5 a6 a7 a8 a9 a10 a11 a12 a13 a14 a15 a16 a17 a18 a19 S (-1 : Int32) u13 hu13) (fun ht => cwV 1 ht gX8_house_X8_no rfl rfl rfl ⟨rfl, hdX8_no⟩ ⟨Nat.le_of_ble_eq_true rfl, Nat.le_of_ble_eq_true rfl⟩) [0, 1, 2, 3, 4, 5, 6, 7, 8, 9, 10, 11, 12, 13, 14, 15, 16, 17, 18, 19] [] [0, 1, 2, 3, 4, 5, 6, 7, 8, 9, 10, 11, 12, 13, 14, 15, 16, 17, 18, 19] rfl rfl rfl rfl (by decide) rfl rfl rfl rfl rfl rfl (Nat.le_of_ble_eq_true rfl) dX8_house_10 ⟨Nat.zero_le _, Nat.zero_le _⟩ (fun H locs hh => ?_)
    exact hr2 13 ls H locs u13.1 u13.2 hf dX8_house_13 hh
theorem inX8_law_X8 : ∀ w ∈ wsX80, w ∈ wsX8_law := by decide +kernel
theorem mmX8_law_0 : Cond.fieldLink RX8 111 "SumOfTwoThatStandModel" "falls" "I" ∈ wsX8_law := by decide +kernel
theorem mmX8_law_1 : Cond.fieldLink RX8 86 "SumOfTwoThatStandModel" "sums" "I" ∈ wsX8_law := by decide +kernel
theorem hdX8_law : yX8_law.cls ≠ "java/lang/invoke/MethodHandle" ∧ yX8_law.cls ≠ "java/lang/invoke/VarHandle" ∧ (parseMethodDescriptor yX8_law.desc).map (fun d => d.parameters.length) = some 2 := by decide +kernel
set_option maxHeartbeats 4000000 in
set_option maxRecDepth 100000 in
theorem kX8_law (l : Launch) (K : zK) (a0 a1 a2 a3 a4 a5 a6 a7 a8 a9 a10 a11 a12 a13 a14 a15 a16 a17 a18 a19 : Nat) (S : zMd) (p1 : Int32) (p2 : Int32) (R : Int32 × zMd) (hf : fX8_law S p1 p2 = some R) : zC l yX8_law wsX8_law ({ frames := 1, cells := 0, slots := 0, locals := 22 } : Room) K [.ref a0, .int p1, .int p2] (cMd K a0 a1 a2 a3 a4 a5 a6 a7 a8 a9 a10 a11 a12 a13 a14 a15 a16 a17 a18 a19 S) (some (.int R.1)) (cMd K a0 a1 a2 a3 a4 a5 a6 a7 a8 a9 a10 a11 a12 a13 a14 a15 a16 a17 a18 a19 R.2) := by
  refine zC_i R.1 (cc := cX8_law) (maxL := 4) (by decide +kernel) rfl (Nat.le_of_ble_eq_true rfl) rfl rfl ?_
  intro p e s m below meth c Q A X hret ls hl hh
  have X : zX p m c cX8_law 4 s ([.ref a0, .int p1, .int p2] : List Value).toArray wsX8_law RX8 K A := X
  have hx := X.1.1
  have hb := X.1.2.1
  have hr2 : ∀ (pc : Nat) (ls : Array Slot) (H : Heap) (locs : List Loc) (v : Int32) (S : zMd), some (v, S) = some R → decode cX8_law pc = .ok (.ireturn, 1) → zW K A s H locs (cMd K a0 a1 a2 a3 a4 a5 a6 a7 a8 a9 a10 a11 a12 a13 a14 a15 a16 a17 a18 a19 S) → W p l e ({ frames := 1, cells := 0, slots := 0, locals := 22 } : Room) s m ([.ref a0, .int p1, .int p2] : List Value).toArray below meth c H locs 0 0 Q (F0 m pc ls [.int v]) := by
    intro pc ls H locs v S h hd hh
    cases h; exact hret pc ls H locs _ rfl hd hh
  have hl : lv_has ls 4 [(0, .ref a0), (1, .int p1), (2, .int p2)] := hl
  have hJ48 : ∀ (v1 : Int32) (v2 : Int32) (t0 : Int32) (S : zMd), ∀ (H : Heap) (locs : List Loc) (ls : Array Slot), fX8_law_j48 v1 v2 t0 S = some R → lv_has ls 4 [(0, .ref a0), (1, .int v1), (2, .int v2)] → zW K A s H locs (cMd K a0 a1 a2 a3 a4 a5 a6 a7 a8 a9 a10 a11 a12 a13 a14 a15 a16 a17 a18 a19 S) → W p l e ({ frames := 1, cells := 0, slots := 0, locals := 22 } : Room) s m ([.ref a0, .int p1, .int p2] : List Value).toArray below meth c H locs 0 0 Q (F0 m 48 ls [.int t0]) := by
    intro v1 v2 t0 S H locs ls hf hl hh
    unfold fX8_law_j48 at hf
    refine lv_istore_n (lv' := [(3, .int t0), (0, .ref a0), (1, .int v1), (2, .int v2)]) hx hb dX8_law_48 rfl hl (by decide) rfl (fun ls hl => ?_)
    refine lv_iload_n hx hb dX8_law_49 rfl (lv_at hl 2 rfl) ?_
    refine lv_if_ne (tgt := 61) hx hb dX8_law_50 (by decide) (fun c1 => ?_) (fun c1 => ?_)
    · replace hf := (if_neg c1).symm.trans hf
      refine lv_aload_n hx hb dX8_law_61 rfl (lv_at hl 1 rfl) ?_
      refine lv_iload_n hx hb dX8_law_62 rfl (lv_at hl 3 rfl) ?_
      refine zput (v := .int v2) (ty := .int) (ref := "SumOfTwoThatStandModel") (C := RX8) (T := TX8) (N := 33) (index := 111) X hh inX8_law_X8 tyX8 tyX8_ok nmX8 0 rfl rfl 11 (by decide) mmX8_law_0 rfl rfl (by decide +kernel) rfl rfl (Nat.le_of_ble_eq_true rfl) dX8_law_63 (fun H locs hh => ?_)
      have hh := hh.to (sMd_falls K a0 a1 a2 a3 a4 a5 a6 a7 a8 a9 a10 a11 a12 a13 a14 a15 a16 a17 a18 a19 S v2)
      refine lv_iload_n hx hb dX8_law_66 rfl (lv_at hl 0 rfl) ?_
      exact hr2 67 ls H locs t0 (md_set_falls S v2) hf dX8_law_67 hh
    · replace hf := (if_pos c1).symm.trans hf
      refine lv_aload_n hx hb dX8_law_53 rfl (lv_at hl 1 rfl) ?_
      refine lv_iload_n hx hb dX8_law_54 rfl (lv_at hl 3 rfl) ?_
      refine zput (v := .int v2) (ty := .int) (ref := "SumOfTwoThatStandModel") (C := RX8) (T := TX8) (N := 33) (index := 86) X hh inX8_law_X8 tyX8 tyX8_ok nmX8 0 rfl rfl 10 (by decide) mmX8_law_1 rfl rfl (by decide +kernel) rfl rfl (Nat.le_of_ble_eq_true rfl) dX8_law_55 (fun H locs hh => ?_)
      have hh := hh.to (sMd_sums K a0 a1 a2 a3 a4 a5 a6 a7 a8 a9 a10 a11 a12 a13 a14 a15 a16 a17 a18 a19 S v2)
      refine lv_goto (tgt := 66) hx hb dX8_law_58 (by decide) ?_
      refine lv_iload_n hx hb dX8_law_66 rfl (lv_at hl 0 rfl) ?_
      exact hr2 67 ls H locs t0 (md_set_sums S v2) hf dX8_law_67 hh
  have hJ26 : ∀ (S : zMd), ∀ (H : Heap) (locs : List Loc) (ls : Array Slot), fX8_law_j26 S = some R → lv_has ls 4 [(0, .ref a0)] → zW K A s H locs (cMd K a0 a1 a2 a3 a4 a5 a6 a7 a8 a9 a10 a11 a12 a13 a14 a15 a16 a17 a18 a19 S) → W p l e ({ frames := 1, cells := 0, slots := 0, locals := 22 } : Room) s m ([.ref a0, .int p1, .int p2] : List Value).toArray below meth c H locs 0 0 Q (F0 m 26 ls []) := by
    intro S H locs ls hf hl hh
    unfold fX8_law_j26 at hf
    refine lv_aload_n hx hb dX8_law_26 rfl (lv_at hl 0 rfl) ?_
    refine lv_bipush (v := (-2 : Int32)) hx hb dX8_law_27 (by decide) ?_
    obtain ⟨u2, hu2, hf⟩ := ob_bind hf
    refine zcallV (ci := 7) (q0 := 0) (As := [.int (-2 : Int32)]) (rest := []) (wr := []) (ws' := cMd K a0 a1 a2 a3 a4 a5 a6 a7 a8 a9 a10 a11 a12 a13 a14 a15 a16 a17 a18 a19 u2.2) (ov := some (.int u2.1)) X hh hl (kX8_no l K a0 a1 a2 a3 a4 a5 a6 a7 a8 a9 a10 a11 a12 a13 a14 a15 a16 a17 a18 a19 S (-2 : Int32) u2 hu2) (fun ht => cwV 1 ht gX8_law_X8_no rfl rfl rfl ⟨rfl, hdX8_no⟩ ⟨Nat.le_of_ble_eq_true rfl, Nat.le_of_ble_eq_true rfl⟩) [0, 1, 2, 3, 4, 5, 6, 7, 8, 9, 10, 11, 12, 13, 14, 15, 16, 17, 18, 19] [] [0, 1, 2, 3, 4, 5, 6, 7, 8, 9, 10, 11, 12, 13, 14, 15, 16, 17, 18, 19] rfl rfl rfl rfl (by decide) rfl rfl rfl rfl rfl rfl (Nat.le_of_ble_eq_true rfl) dX8_law_29 ⟨Nat.zero_le _, Nat.zero_le _⟩ (fun H locs hh => ?_)
    exact hr2 32 ls H locs u2.1 u2.2 hf dX8_law_32 hh
  have hJ20 : ∀ (v1 : Int32) (v2 : Int32) (t0 : Int32) (t1 : Int32) (t2 : Int32) (S : zMd), ∀ (H : Heap) (locs : List Loc) (ls : Array Slot), fX8_law_j20 v1 v2 t0 t1 t2 S = some R → lv_has ls 4 [(0, .ref a0), (1, .int v1), (2, .int v2)] → zW K A s H locs (cMd K a0 a1 a2 a3 a4 a5 a6 a7 a8 a9 a10 a11 a12 a13 a14 a15 a16 a17 a18 a19 S) → W p l e ({ frames := 1, cells := 0, slots := 0, locals := 22 } : Room) s m ([.ref a0, .int p1, .int p2] : List Value).toArray below meth c H locs 0 0 Q (F0 m 20 ls [.int t2, .int t1, .int t0]) := by
    intro v1 v2 t0 t1 t2 S H locs ls hf hl hh
    unfold fX8_law_j20 at hf
    refine zcallS (As := [.int t0, .int t1, .int t2]) (rest := []) (wr := cMd K a0 a1 a2 a3 a4 a5 a6 a7 a8 a9 a10 a11 a12 a13 a14 a15 a16 a17 a18 a19 S) (ws' := cMd K a0 a1 a2 a3 a4 a5 a6 a7 a8 a9 a10 a11 a12 a13 a14 a15 a16 a17 a18 a19 S) (ov := some (.int (fX8_isIn t0 t1 t2))) X hh hl (kX8_isIn l K t0 t1 t2 (fX8_isIn t0 t1 t2) rfl) (fun ht => va_cwS 3 ht gX8_law_X8_isIn rfl rfl rfl hdX8_isIn ⟨Nat.le_of_ble_eq_true rfl, Nat.le_of_ble_eq_true rfl⟩) [] [0, 1, 2, 3, 4, 5, 6, 7, 8, 9, 10, 11, 12, 13, 14, 15, 16, 17, 18, 19] [0, 1, 2, 3, 4, 5, 6, 7, 8, 9, 10, 11, 12, 13, 14, 15, 16, 17, 18, 19] rfl rfl rfl rfl (by decide) rfl rfl rfl rfl (Nat.le_of_ble_eq_true rfl) dX8_law_20 ⟨Nat.zero_le _, Nat.zero_le _⟩ (fun H locs hh => ?_)
    refine lv_if_ne (tgt := 33) hx hb dX8_law_23 (by decide) (fun c4 => ?_) (fun c4 => ?_)
    · replace hf := (if_neg c4).symm.trans hf
      refine lv_iload_n hx hb dX8_law_33 rfl (lv_at hl 1 rfl) ?_
      refine lv_if_ne (tgt := 44) hx hb dX8_law_34 (by decide) (fun c5 => ?_) (fun c5 => ?_)
      · replace hf := (if_neg c5).symm.trans hf
        refine lv_aload_n hx hb dX8_law_44 rfl (lv_at hl 0 rfl) ?_
        refine zget (v := .int (md_falls S)) (ref := "SumOfTwoThatStandModel") (C := RX8) (T := TX8) (N := 33) (index := 111) X hh inX8_law_X8 0 rfl rfl 11 (by decide) mmX8_law_0 rfl rfl dX8_law_45 ?_
        exact hJ48 v1 v2 (md_falls S) S H locs ls hf (lv_sub hl [0, 1, 2] rfl) hh
      · replace hf := (if_pos c5).symm.trans hf
        refine lv_aload_n hx hb dX8_law_37 rfl (lv_at hl 0 rfl) ?_
        refine zget (v := .int (md_sums S)) (ref := "SumOfTwoThatStandModel") (C := RX8) (T := TX8) (N := 33) (index := 86) X hh inX8_law_X8 0 rfl rfl 10 (by decide) mmX8_law_1 rfl rfl dX8_law_38 ?_
        refine lv_goto (tgt := 48) hx hb dX8_law_41 (by decide) ?_
        exact hJ48 v1 v2 (md_sums S) S H locs ls hf (lv_sub hl [0, 1, 2] rfl) hh
    · replace hf := (if_pos c4).symm.trans hf
      exact hJ26 S H locs ls hf (lv_sub hl [0] rfl) hh
  unfold fX8_law at hf
  refine (fun (hmain : ∀ (H : Heap) (locs : List Loc), zW K A s H locs (cMd K a0 a1 a2 a3 a4 a5 a6 a7 a8 a9 a10 a11 a12 a13 a14 a15 a16 a17 a18 a19 S) → W p l e ({ frames := 1, cells := 0, slots := 0, locals := 22 } : Room) s m ([.ref a0, .int p1, .int p2] : List Value).toArray below meth c H locs 0 0 Q (F0 m 0 ls [])) => hmain s.heap [] hh) (fun H locs hh => ?_)
  refine lv_iload_n hx hb dX8_law_0 rfl (lv_at hl 1 rfl) ?_
  refine lv_iconst (v := (0 : Int32)) hx hb dX8_law_1 (by decide) ?_
  refine lv_iconst (v := (1 : Int32)) hx hb dX8_law_2 (by decide) ?_
  refine zcallS (As := [.int p1, .int (0 : Int32), .int (1 : Int32)]) (rest := []) (wr := cMd K a0 a1 a2 a3 a4 a5 a6 a7 a8 a9 a10 a11 a12 a13 a14 a15 a16 a17 a18 a19 S) (ws' := cMd K a0 a1 a2 a3 a4 a5 a6 a7 a8 a9 a10 a11 a12 a13 a14 a15 a16 a17 a18 a19 S) (ov := some (.int (fX8_isIn p1 (0 : Int32) (1 : Int32)))) X hh hl (kX8_isIn l K p1 (0 : Int32) (1 : Int32) (fX8_isIn p1 (0 : Int32) (1 : Int32)) rfl) (fun ht => va_cwS 3 ht gX8_law_X8_isIn rfl rfl rfl hdX8_isIn ⟨Nat.le_of_ble_eq_true rfl, Nat.le_of_ble_eq_true rfl⟩) [] [0, 1, 2, 3, 4, 5, 6, 7, 8, 9, 10, 11, 12, 13, 14, 15, 16, 17, 18, 19] [0, 1, 2, 3, 4, 5, 6, 7, 8, 9, 10, 11, 12, 13, 14, 15, 16, 17, 18, 19] rfl rfl rfl rfl (by decide) rfl rfl rfl rfl (Nat.le_of_ble_eq_true rfl) dX8_law_3 ⟨Nat.zero_le _, Nat.zero_le _⟩ (fun H locs hh => ?_)
  refine lv_if_eq (tgt := 26) hx hb dX8_law_6 (by decide) (fun c7 => ?_) (fun c7 => ?_)
  · replace hf := (if_pos c7).symm.trans hf
    exact hJ26 S H locs ls hf (lv_sub hl [0] rfl) hh
  · replace hf := (if_neg c7).symm.trans hf
    refine lv_iload_n hx hb dX8_law_9 rfl (lv_at hl 2 rfl) ?_
    refine lv_iconst (v := (0 : Int32)) hx hb dX8_law_10 (by decide) ?_
    refine lv_iload_n hx hb dX8_law_11 rfl (lv_at hl 1 rfl) ?_
    refine lv_if_ne (tgt := 19) hx hb dX8_law_12 (by decide) (fun c8 => ?_) (fun c8 => ?_)
    · replace hf := (if_neg c8).symm.trans hf
      refine lv_iconst (v := (1 : Int32)) hx hb dX8_law_19 (by decide) ?_
      exact hJ20 p1 p2 p2 (0 : Int32) (1 : Int32) S H locs ls hf (lv_sub hl [0, 1, 2] rfl) hh
    · replace hf := (if_pos c8).symm.trans hf
      refine lv_iconst (v := (2 : Int32)) hx hb dX8_law_15 (by decide) ?_
      refine lv_goto (tgt := 20) hx hb dX8_law_16 (by decide) ?_
      exact hJ20 p1 p2 p2 (0 : Int32) (2 : Int32) S H locs ls hf (lv_sub hl [0, 1, 2] rfl) hh
theorem hdX8_may : yX8_may.cls ≠ "java/lang/invoke/MethodHandle" ∧ yX8_may.cls ≠ "java/lang/invoke/VarHandle" ∧ (parseMethodDescriptor yX8_may.desc).map (fun d => d.parameters.length) = some 2 := by decide +kernel
set_option maxHeartbeats 4000000 in
set_option maxRecDepth 100000 in
theorem kX8_may (l : Launch) (K : zK) (a0 a1 a2 a3 a4 a5 a6 a7 a8 a9 a10 a11 a12 a13 a14 a15 a16 a17 a18 a19 : Nat) (S : zMd) (p1 : Int32) (p2 : Int32) (R : Int32 × zMd) (hf : fX8_may S p1 p2 = some R) : zC l yX8_may wsX8_may ({ frames := 3, cells := 0, slots := 0, locals := 67 } : Room) K [.ref a0, .int p1, .int p2] (cMd K a0 a1 a2 a3 a4 a5 a6 a7 a8 a9 a10 a11 a12 a13 a14 a15 a16 a17 a18 a19 S) (some (.int R.1)) (cMd K a0 a1 a2 a3 a4 a5 a6 a7 a8 a9 a10 a11 a12 a13 a14 a15 a16 a17 a18 a19 R.2) := by
  refine zC_i R.1 (cc := cX8_may) (maxL := 4) (by decide +kernel) rfl (Nat.le_of_ble_eq_true rfl) rfl rfl ?_
  intro p e s m below meth c Q A X hret ls hl hh
  have X : zX p m c cX8_may 4 s ([.ref a0, .int p1, .int p2] : List Value).toArray wsX8_may RX8 K A := X
  have hx := X.1.1
  have hb := X.1.2.1
  have hr2 : ∀ (pc : Nat) (ls : Array Slot) (H : Heap) (locs : List Loc) (v : Int32) (S : zMd), some (v, S) = some R → decode cX8_may pc = .ok (.ireturn, 1) → zW K A s H locs (cMd K a0 a1 a2 a3 a4 a5 a6 a7 a8 a9 a10 a11 a12 a13 a14 a15 a16 a17 a18 a19 S) → W p l e ({ frames := 3, cells := 0, slots := 0, locals := 67 } : Room) s m ([.ref a0, .int p1, .int p2] : List Value).toArray below meth c H locs 0 0 Q (F0 m pc ls [.int v]) := by
    intro pc ls H locs v S h hd hh
    cases h; exact hret pc ls H locs _ rfl hd hh
  have hl : lv_has ls 4 [(0, .ref a0), (1, .int p1), (2, .int p2)] := hl
  have hJ42 : ∀ (v1 : Int32) (v2 : Int32) (t0 : Int32) (S : zMd), ∀ (H : Heap) (locs : List Loc) (ls : Array Slot), fX8_may_j42 v1 v2 t0 S = some R → lv_has ls 4 [(0, .ref a0), (1, .int v1), (2, .int v2)] → zW K A s H locs (cMd K a0 a1 a2 a3 a4 a5 a6 a7 a8 a9 a10 a11 a12 a13 a14 a15 a16 a17 a18 a19 S) → W p l e ({ frames := 3, cells := 0, slots := 0, locals := 67 } : Room) s m ([.ref a0, .int p1, .int p2] : List Value).toArray below meth c H locs 0 0 Q (F0 m 42 ls [.int t0]) := by
    intro v1 v2 t0 S H locs ls hf hl hh
    unfold fX8_may_j42 at hf
    refine lv_istore_n (lv' := [(3, .int t0), (0, .ref a0), (1, .int v1), (2, .int v2)]) hx hb dX8_may_42 rfl hl (by decide) rfl (fun ls hl => ?_)
    refine lv_iload_n hx hb dX8_may_43 rfl (lv_at hl 0 rfl) ?_
    refine lv_if_eq (tgt := 55) hx hb dX8_may_44 (by decide) (fun c1 => ?_) (fun c1 => ?_)
    · replace hf := (if_pos c1).symm.trans hf
      refine lv_aload_n hx hb dX8_may_55 rfl (lv_at hl 1 rfl) ?_
      refine lv_iload_n hx hb dX8_may_56 rfl (lv_at hl 2 rfl) ?_
      refine lv_iload_n hx hb dX8_may_57 rfl (lv_at hl 3 rfl) ?_
      obtain ⟨u2, hu2, hf⟩ := ob_bind hf
      refine zcallV (ci := 7) (q0 := 0) (As := [.int v1, .int v2]) (rest := []) (wr := []) (ws' := cMd K a0 a1 a2 a3 a4 a5 a6 a7 a8 a9 a10 a11 a12 a13 a14 a15 a16 a17 a18 a19 S) (ov := some (.int u2)) X hh hl (kX8_mayBe l K a0 a1 a2 a3 a4 a5 a6 a7 a8 a9 a10 a11 a12 a13 a14 a15 a16 a17 a18 a19 S v1 v2 u2 hu2) (fun ht => cwV 2 ht gX8_may_X8_mayBe rfl rfl rfl ⟨rfl, hdX8_mayBe⟩ ⟨Nat.le_of_ble_eq_true rfl, Nat.le_of_ble_eq_true rfl⟩) [0, 1, 2, 3, 4, 5, 6, 7, 8, 9, 10, 11, 12, 13, 14, 15, 16, 17, 18, 19] [] [0, 1, 2, 3, 4, 5, 6, 7, 8, 9, 10, 11, 12, 13, 14, 15, 16, 17, 18, 19] rfl rfl rfl rfl (by decide) rfl rfl rfl rfl rfl rfl (Nat.le_of_ble_eq_true rfl) dX8_may_58 ⟨Nat.zero_le _, Nat.zero_le _⟩ (fun H locs hh => ?_)
      refine lv_if_eq (tgt := 68) hx hb dX8_may_61 (by decide) (fun c3 => ?_) (fun c3 => ?_)
      · replace hf := (if_pos c3).symm.trans hf
        refine lv_iconst (v := (0 : Int32)) hx hb dX8_may_68 (by decide) ?_
        exact hr2 69 ls H locs (0 : Int32) S hf dX8_may_69 hh
      · replace hf := (if_neg c3).symm.trans hf
        refine lv_iconst (v := (1 : Int32)) hx hb dX8_may_64 (by decide) ?_
        refine lv_goto (tgt := 69) hx hb dX8_may_65 (by decide) ?_
        exact hr2 69 ls H locs (1 : Int32) S hf dX8_may_69 hh
    · replace hf := (if_neg c1).symm.trans hf
      refine lv_aload_n hx hb dX8_may_47 rfl (lv_at hl 1 rfl) ?_
      refine lv_iload_n hx hb dX8_may_48 rfl (lv_at hl 0 rfl) ?_
      obtain ⟨u4, hu4, hf⟩ := ob_bind hf
      refine zcallV (ci := 7) (q0 := 0) (As := [.int t0]) (rest := []) (wr := []) (ws' := cMd K a0 a1 a2 a3 a4 a5 a6 a7 a8 a9 a10 a11 a12 a13 a14 a15 a16 a17 a18 a19 u4.2) (ov := some (.int u4.1)) X hh hl (kX8_no l K a0 a1 a2 a3 a4 a5 a6 a7 a8 a9 a10 a11 a12 a13 a14 a15 a16 a17 a18 a19 S t0 u4 hu4) (fun ht => cwV 1 ht gX8_may_X8_no rfl rfl rfl ⟨rfl, hdX8_no⟩ ⟨Nat.le_of_ble_eq_true rfl, Nat.le_of_ble_eq_true rfl⟩) [0, 1, 2, 3, 4, 5, 6, 7, 8, 9, 10, 11, 12, 13, 14, 15, 16, 17, 18, 19] [] [0, 1, 2, 3, 4, 5, 6, 7, 8, 9, 10, 11, 12, 13, 14, 15, 16, 17, 18, 19] rfl rfl rfl rfl (by decide) rfl rfl rfl rfl rfl rfl (Nat.le_of_ble_eq_true rfl) dX8_may_49 ⟨Nat.zero_le _, Nat.zero_le _⟩ (fun H locs hh => ?_)
      refine lv_goto (tgt := 69) hx hb dX8_may_52 (by decide) ?_
      exact hr2 69 ls H locs u4.1 u4.2 hf dX8_may_69 hh
  have hJ36 : ∀ (v1 : Int32) (v2 : Int32) (S : zMd), ∀ (H : Heap) (locs : List Loc) (ls : Array Slot), fX8_may_j36 v1 v2 S = some R → lv_has ls 4 [(0, .ref a0), (1, .int v1), (2, .int v2)] → zW K A s H locs (cMd K a0 a1 a2 a3 a4 a5 a6 a7 a8 a9 a10 a11 a12 a13 a14 a15 a16 a17 a18 a19 S) → W p l e ({ frames := 3, cells := 0, slots := 0, locals := 67 } : Room) s m ([.ref a0, .int p1, .int p2] : List Value).toArray below meth c H locs 0 0 Q (F0 m 36 ls []) := by
    intro v1 v2 S H locs ls hf hl hh
    unfold fX8_may_j36 at hf
    refine lv_bipush (v := (-3 : Int32)) hx hb dX8_may_36 (by decide) ?_
    refine lv_goto (tgt := 42) hx hb dX8_may_38 (by decide) ?_
    exact hJ42 v1 v2 (-3 : Int32) S H locs ls hf (lv_sub hl [0, 1, 2] rfl) hh
  have hJ16 : ∀ (v1 : Int32) (v2 : Int32) (S : zMd), ∀ (H : Heap) (locs : List Loc) (ls : Array Slot), fX8_may_j16 v1 v2 S = some R → lv_has ls 4 [(0, .ref a0), (1, .int v1), (2, .int v2)] → zW K A s H locs (cMd K a0 a1 a2 a3 a4 a5 a6 a7 a8 a9 a10 a11 a12 a13 a14 a15 a16 a17 a18 a19 S) → W p l e ({ frames := 3, cells := 0, slots := 0, locals := 67 } : Room) s m ([.ref a0, .int p1, .int p2] : List Value).toArray below meth c H locs 0 0 Q (F0 m 16 ls []) := by
    intro v1 v2 S H locs ls hf hl hh
    unfold fX8_may_j16 at hf
    refine lv_iconst (v := (-1 : Int32)) hx hb dX8_may_16 (by decide) ?_
    refine lv_goto (tgt := 42) hx hb dX8_may_17 (by decide) ?_
    exact hJ42 v1 v2 (-1 : Int32) S H locs ls hf (lv_sub hl [0, 1, 2] rfl) hh
  unfold fX8_may at hf
  refine (fun (hmain : ∀ (H : Heap) (locs : List Loc), zW K A s H locs (cMd K a0 a1 a2 a3 a4 a5 a6 a7 a8 a9 a10 a11 a12 a13 a14 a15 a16 a17 a18 a19 S) → W p l e ({ frames := 3, cells := 0, slots := 0, locals := 67 } : Room) s m ([.ref a0, .int p1, .int p2] : List Value).toArray below meth c H locs 0 0 Q (F0 m 0 ls [])) => hmain s.heap [] hh) (fun H locs hh => ?_)
  refine lv_aload_n hx hb dX8_may_0 rfl (lv_at hl 0 rfl) ?_
  refine lv_iload_n hx hb dX8_may_1 rfl (lv_at hl 1 rfl) ?_
  obtain ⟨u5, hu5, hf⟩ := ob_bind hf
  refine zcallV (ci := 7) (q0 := 0) (As := [.int p1]) (rest := []) (wr := []) (ws' := cMd K a0 a1 a2 a3 a4 a5 a6 a7 a8 a9 a10 a11 a12 a13 a14 a15 a16 a17 a18 a19 S) (ov := some (.int u5)) X hh hl (kX8_isHouse l K a0 a1 a2 a3 a4 a5 a6 a7 a8 a9 a10 a11 a12 a13 a14 a15 a16 a17 a18 a19 S p1 u5 hu5) (fun ht => cwV 1 ht gX8_may_X8_isHouse rfl rfl rfl ⟨rfl, hdX8_isHouse⟩ ⟨Nat.le_of_ble_eq_true rfl, Nat.le_of_ble_eq_true rfl⟩) [0, 1, 2, 3, 4, 5, 6, 7, 8, 9, 10, 11, 12, 13, 14, 15, 16, 17, 18, 19] [] [0, 1, 2, 3, 4, 5, 6, 7, 8, 9, 10, 11, 12, 13, 14, 15, 16, 17, 18, 19] rfl rfl rfl rfl (by decide) rfl rfl rfl rfl rfl rfl (Nat.le_of_ble_eq_true rfl) dX8_may_2 ⟨Nat.zero_le _, Nat.zero_le _⟩ (fun H locs hh => ?_)
  refine lv_if_eq (tgt := 16) hx hb dX8_may_5 (by decide) (fun c6 => ?_) (fun c6 => ?_)
  · replace hf := (if_pos c6).symm.trans hf
    exact hJ16 p1 p2 S H locs ls hf (lv_sub hl [0, 1, 2] rfl) hh
  · replace hf := (if_neg c6).symm.trans hf
    refine lv_aload_n hx hb dX8_may_8 rfl (lv_at hl 0 rfl) ?_
    refine lv_iload_n hx hb dX8_may_9 rfl (lv_at hl 2 rfl) ?_
    obtain ⟨u7, hu7, hf⟩ := ob_bind hf
    refine zcallV (ci := 7) (q0 := 0) (As := [.int p2]) (rest := []) (wr := []) (ws' := cMd K a0 a1 a2 a3 a4 a5 a6 a7 a8 a9 a10 a11 a12 a13 a14 a15 a16 a17 a18 a19 S) (ov := some (.int u7)) X hh hl (kX8_isHouse l K a0 a1 a2 a3 a4 a5 a6 a7 a8 a9 a10 a11 a12 a13 a14 a15 a16 a17 a18 a19 S p2 u7 hu7) (fun ht => cwV 1 ht gX8_may_X8_isHouse rfl rfl rfl ⟨rfl, hdX8_isHouse⟩ ⟨Nat.le_of_ble_eq_true rfl, Nat.le_of_ble_eq_true rfl⟩) [0, 1, 2, 3, 4, 5, 6, 7, 8, 9, 10, 11, 12, 13, 14, 15, 16, 17, 18, 19] [] [0, 1, 2, 3, 4, 5, 6, 7, 8, 9, 10, 11, 12, 13, 14, 15, 16, 17, 18, 19] rfl rfl rfl rfl (by decide) rfl rfl rfl rfl rfl rfl (Nat.le_of_ble_eq_true rfl) dX8_may_10 ⟨Nat.zero_le _, Nat.zero_le _⟩ (fun H locs hh => ?_)
    refine lv_if_ne (tgt := 20) hx hb dX8_may_13 (by decide) (fun c8 => ?_) (fun c8 => ?_)
    · replace hf := (if_neg c8).symm.trans hf
      refine lv_aload_n hx hb dX8_may_20 rfl (lv_at hl 0 rfl) ?_
      refine lv_iload_n hx hb dX8_may_21 rfl (lv_at hl 1 rfl) ?_
      obtain ⟨u9, hu9, hf⟩ := ob_bind hf
      refine zcallV (ci := 7) (q0 := 0) (As := [.int p1]) (rest := []) (wr := []) (ws' := cMd K a0 a1 a2 a3 a4 a5 a6 a7 a8 a9 a10 a11 a12 a13 a14 a15 a16 a17 a18 a19 S) (ov := some (.int u9)) X hh hl (kX8_doesStand l K a0 a1 a2 a3 a4 a5 a6 a7 a8 a9 a10 a11 a12 a13 a14 a15 a16 a17 a18 a19 S p1 u9 hu9) (fun ht => cwV 1 ht gX8_may_X8_doesStand rfl rfl rfl ⟨rfl, hdX8_doesStand⟩ ⟨Nat.le_of_ble_eq_true rfl, Nat.le_of_ble_eq_true rfl⟩) [0, 1, 2, 3, 4, 5, 6, 7, 8, 9, 10, 11, 12, 13, 14, 15, 16, 17, 18, 19] [] [0, 1, 2, 3, 4, 5, 6, 7, 8, 9, 10, 11, 12, 13, 14, 15, 16, 17, 18, 19] rfl rfl rfl rfl (by decide) rfl rfl rfl rfl rfl rfl (Nat.le_of_ble_eq_true rfl) dX8_may_22 ⟨Nat.zero_le _, Nat.zero_le _⟩ (fun H locs hh => ?_)
      refine lv_if_eq (tgt := 36) hx hb dX8_may_25 (by decide) (fun c10 => ?_) (fun c10 => ?_)
      · replace hf := (if_pos c10).symm.trans hf
        exact hJ36 p1 p2 S H locs ls hf (lv_sub hl [0, 1, 2] rfl) hh
      · replace hf := (if_neg c10).symm.trans hf
        refine lv_aload_n hx hb dX8_may_28 rfl (lv_at hl 0 rfl) ?_
        refine lv_iload_n hx hb dX8_may_29 rfl (lv_at hl 2 rfl) ?_
        obtain ⟨u11, hu11, hf⟩ := ob_bind hf
        refine zcallV (ci := 7) (q0 := 0) (As := [.int p2]) (rest := []) (wr := []) (ws' := cMd K a0 a1 a2 a3 a4 a5 a6 a7 a8 a9 a10 a11 a12 a13 a14 a15 a16 a17 a18 a19 S) (ov := some (.int u11)) X hh hl (kX8_doesStand l K a0 a1 a2 a3 a4 a5 a6 a7 a8 a9 a10 a11 a12 a13 a14 a15 a16 a17 a18 a19 S p2 u11 hu11) (fun ht => cwV 1 ht gX8_may_X8_doesStand rfl rfl rfl ⟨rfl, hdX8_doesStand⟩ ⟨Nat.le_of_ble_eq_true rfl, Nat.le_of_ble_eq_true rfl⟩) [0, 1, 2, 3, 4, 5, 6, 7, 8, 9, 10, 11, 12, 13, 14, 15, 16, 17, 18, 19] [] [0, 1, 2, 3, 4, 5, 6, 7, 8, 9, 10, 11, 12, 13, 14, 15, 16, 17, 18, 19] rfl rfl rfl rfl (by decide) rfl rfl rfl rfl rfl rfl (Nat.le_of_ble_eq_true rfl) dX8_may_30 ⟨Nat.zero_le _, Nat.zero_le _⟩ (fun H locs hh => ?_)
        refine lv_if_ne (tgt := 41) hx hb dX8_may_33 (by decide) (fun c12 => ?_) (fun c12 => ?_)
        · replace hf := (if_neg c12).symm.trans hf
          refine lv_iconst (v := (0 : Int32)) hx hb dX8_may_41 (by decide) ?_
          exact hJ42 p1 p2 (0 : Int32) S H locs ls hf (lv_sub hl [0, 1, 2] rfl) hh
        · replace hf := (if_pos c12).symm.trans hf
          exact hJ36 p1 p2 S H locs ls hf (lv_sub hl [0, 1, 2] rfl) hh
    · replace hf := (if_pos c8).symm.trans hf
      exact hJ16 p1 p2 S H locs ls hf (lv_sub hl [0, 1, 2] rfl) hh
theorem hdX8_canBe : yX8_canBe.cls ≠ "java/lang/invoke/MethodHandle" ∧ yX8_canBe.cls ≠ "java/lang/invoke/VarHandle" ∧ (parseMethodDescriptor yX8_canBe.desc).map (fun d => d.parameters.length) = some 2 := by decide +kernel
set_option maxHeartbeats 4000000 in
set_option maxRecDepth 100000 in
theorem kX8_canBe (l : Launch) (K : zK) (a0 a1 a2 a3 a4 a5 a6 a7 a8 a9 a10 a11 a12 a13 a14 a15 a16 a17 a18 a19 : Nat) (S : zMd) (p1 : Int32) (p2 : Int32) (R : Int32) (hf : fX8_canBe S p1 p2 = some R) : zC l yX8_canBe wsX8_canBe ({ frames := 3, cells := 0, slots := 0, locals := 67 } : Room) K [.ref a0, .int p1, .int p2] (cMd K a0 a1 a2 a3 a4 a5 a6 a7 a8 a9 a10 a11 a12 a13 a14 a15 a16 a17 a18 a19 S) (some (.int R)) (cMd K a0 a1 a2 a3 a4 a5 a6 a7 a8 a9 a10 a11 a12 a13 a14 a15 a16 a17 a18 a19 S) := by
  refine zC_z .boolean R (cc := cX8_canBe) (maxL := 3) (by decide +kernel) rfl (Nat.le_of_ble_eq_true rfl) rfl rfl ?_
  intro p e s m below meth c Q A X hret ls hl hh
  have X : zX p m c cX8_canBe 3 s ([.ref a0, .int p1, .int p2] : List Value).toArray wsX8_canBe RX8 K A := X
  have hx := X.1.1
  have hb := X.1.2.1
  have hr2 : ∀ (pc : Nat) (ls : Array Slot) (H : Heap) (locs : List Loc) (v : Int32), some v = some R → narrow .boolean (.int v) = .int v → decode cX8_canBe pc = .ok (.ireturn, 1) → zW K A s H locs (cMd K a0 a1 a2 a3 a4 a5 a6 a7 a8 a9 a10 a11 a12 a13 a14 a15 a16 a17 a18 a19 S) → W p l e ({ frames := 3, cells := 0, slots := 0, locals := 67 } : Room) s m ([.ref a0, .int p1, .int p2] : List Value).toArray below meth c H locs 0 0 Q (F0 m pc ls [.int v]) := by
    intro pc ls H locs v h hn hd hh
    cases h; exact hret pc ls H locs _ rfl hn hd hh
  have hl : lv_has ls 3 [(0, .ref a0), (1, .int p1), (2, .int p2)] := hl
  unfold fX8_canBe at hf
  refine (fun (hmain : ∀ (H : Heap) (locs : List Loc), zW K A s H locs (cMd K a0 a1 a2 a3 a4 a5 a6 a7 a8 a9 a10 a11 a12 a13 a14 a15 a16 a17 a18 a19 S) → W p l e ({ frames := 3, cells := 0, slots := 0, locals := 67 } : Room) s m ([.ref a0, .int p1, .int p2] : List Value).toArray below meth c H locs 0 0 Q (F0 m 0 ls [])) => hmain s.heap [] hh) (fun H locs hh => ?_)
  refine lv_aload_n hx hb dX8_canBe_0 rfl (lv_at hl 0 rfl) ?_
  refine lv_iload_n hx hb dX8_canBe_1 rfl (lv_at hl 1 rfl) ?_
  obtain ⟨u1, hu1, hf⟩ := ob_bind hf
  refine zcallV (ci := 7) (q0 := 0) (As := [.int p1]) (rest := []) (wr := []) (ws' := cMd K a0 a1 a2 a3 a4 a5 a6 a7 a8 a9 a10 a11 a12 a13 a14 a15 a16 a17 a18 a19 S) (ov := some (.int u1)) X hh hl (kX8_doesStand l K a0 a1 a2 a3 a4 a5 a6 a7 a8 a9 a10 a11 a12 a13 a14 a15 a16 a17 a18 a19 S p1 u1 hu1) (fun ht => cwV 1 ht gX8_canBe_X8_doesStand rfl rfl rfl ⟨rfl, hdX8_doesStand⟩ ⟨Nat.le_of_ble_eq_true rfl, Nat.le_of_ble_eq_true rfl⟩) [0, 1, 2, 3, 4, 5, 6, 7, 8, 9, 10, 11, 12, 13, 14, 15, 16, 17, 18, 19] [] [0, 1, 2, 3, 4, 5, 6, 7, 8, 9, 10, 11, 12, 13, 14, 15, 16, 17, 18, 19] rfl rfl rfl rfl (by decide) rfl rfl rfl rfl rfl rfl (Nat.le_of_ble_eq_true rfl) dX8_canBe_2 ⟨Nat.zero_le _, Nat.zero_le _⟩ (fun H locs hh => ?_)
  refine lv_if_eq (tgt := 29) hx hb dX8_canBe_5 (by decide) (fun c2 => ?_) (fun c2 => ?_)
  · replace hf := (if_pos c2).symm.trans hf
    refine lv_iconst (v := (0 : Int32)) hx hb dX8_canBe_29 (by decide) ?_
    exact hr2 30 ls H locs (0 : Int32) hf rfl dX8_canBe_30 hh
  · replace hf := (if_neg c2).symm.trans hf
    refine lv_aload_n hx hb dX8_canBe_8 rfl (lv_at hl 0 rfl) ?_
    refine lv_iload_n hx hb dX8_canBe_9 rfl (lv_at hl 2 rfl) ?_
    obtain ⟨u3, hu3, hf⟩ := ob_bind hf
    refine zcallV (ci := 7) (q0 := 0) (As := [.int p2]) (rest := []) (wr := []) (ws' := cMd K a0 a1 a2 a3 a4 a5 a6 a7 a8 a9 a10 a11 a12 a13 a14 a15 a16 a17 a18 a19 S) (ov := some (.int u3)) X hh hl (kX8_doesStand l K a0 a1 a2 a3 a4 a5 a6 a7 a8 a9 a10 a11 a12 a13 a14 a15 a16 a17 a18 a19 S p2 u3 hu3) (fun ht => cwV 1 ht gX8_canBe_X8_doesStand rfl rfl rfl ⟨rfl, hdX8_doesStand⟩ ⟨Nat.le_of_ble_eq_true rfl, Nat.le_of_ble_eq_true rfl⟩) [0, 1, 2, 3, 4, 5, 6, 7, 8, 9, 10, 11, 12, 13, 14, 15, 16, 17, 18, 19] [] [0, 1, 2, 3, 4, 5, 6, 7, 8, 9, 10, 11, 12, 13, 14, 15, 16, 17, 18, 19] rfl rfl rfl rfl (by decide) rfl rfl rfl rfl rfl rfl (Nat.le_of_ble_eq_true rfl) dX8_canBe_10 ⟨Nat.zero_le _, Nat.zero_le _⟩ (fun H locs hh => ?_)
    refine lv_if_eq (tgt := 29) hx hb dX8_canBe_13 (by decide) (fun c4 => ?_) (fun c4 => ?_)
    · replace hf := (if_pos c4).symm.trans hf
      refine lv_iconst (v := (0 : Int32)) hx hb dX8_canBe_29 (by decide) ?_
      exact hr2 30 ls H locs (0 : Int32) hf rfl dX8_canBe_30 hh
    · replace hf := (if_neg c4).symm.trans hf
      refine lv_aload_n hx hb dX8_canBe_16 rfl (lv_at hl 0 rfl) ?_
      refine lv_iload_n hx hb dX8_canBe_17 rfl (lv_at hl 1 rfl) ?_
      refine lv_iload_n hx hb dX8_canBe_18 rfl (lv_at hl 2 rfl) ?_
      obtain ⟨u5, hu5, hf⟩ := ob_bind hf
      refine zcallV (ci := 7) (q0 := 0) (As := [.int p1, .int p2]) (rest := []) (wr := []) (ws' := cMd K a0 a1 a2 a3 a4 a5 a6 a7 a8 a9 a10 a11 a12 a13 a14 a15 a16 a17 a18 a19 S) (ov := some (.int u5)) X hh hl (kX8_mayBe l K a0 a1 a2 a3 a4 a5 a6 a7 a8 a9 a10 a11 a12 a13 a14 a15 a16 a17 a18 a19 S p1 p2 u5 hu5) (fun ht => cwV 2 ht gX8_canBe_X8_mayBe rfl rfl rfl ⟨rfl, hdX8_mayBe⟩ ⟨Nat.le_of_ble_eq_true rfl, Nat.le_of_ble_eq_true rfl⟩) [0, 1, 2, 3, 4, 5, 6, 7, 8, 9, 10, 11, 12, 13, 14, 15, 16, 17, 18, 19] [] [0, 1, 2, 3, 4, 5, 6, 7, 8, 9, 10, 11, 12, 13, 14, 15, 16, 17, 18, 19] rfl rfl rfl rfl (by decide) rfl rfl rfl rfl rfl rfl (Nat.le_of_ble_eq_true rfl) dX8_canBe_19 ⟨Nat.zero_le _, Nat.zero_le _⟩ (fun H locs hh => ?_)
      refine lv_if_eq (tgt := 29) hx hb dX8_canBe_22 (by decide) (fun c6 => ?_) (fun c6 => ?_)
      · replace hf := (if_pos c6).symm.trans hf
        refine lv_iconst (v := (0 : Int32)) hx hb dX8_canBe_29 (by decide) ?_
        exact hr2 30 ls H locs (0 : Int32) hf rfl dX8_canBe_30 hh
      · replace hf := (if_neg c6).symm.trans hf
        refine lv_iconst (v := (1 : Int32)) hx hb dX8_canBe_25 (by decide) ?_
        refine lv_goto (tgt := 30) hx hb dX8_canBe_26 (by decide) ?_
        exact hr2 30 ls H locs (1 : Int32) hf rfl dX8_canBe_30 hh
theorem hdX8_cost : yX8_cost.cls ≠ "java/lang/invoke/MethodHandle" ∧ yX8_cost.cls ≠ "java/lang/invoke/VarHandle" ∧ (parseMethodDescriptor yX8_cost.desc).map (fun d => d.parameters.length) = some 2 := by decide +kernel
set_option maxHeartbeats 4000000 in
set_option maxRecDepth 100000 in
theorem kX8_cost (l : Launch) (K : zK) (a0 a1 a2 a3 a4 a5 a6 a7 a8 a9 a10 a11 a12 a13 a14 a15 a16 a17 a18 a19 : Nat) (S : zMd) (p1 : Int32) (p2 : Int32) (R : Int32 × zMd) (hf : fX8_cost S p1 p2 = some R) : zC l yX8_cost wsX8_cost ({ frames := 4, cells := 0, slots := 0, locals := 89 } : Room) K [.ref a0, .int p1, .int p2] (cMd K a0 a1 a2 a3 a4 a5 a6 a7 a8 a9 a10 a11 a12 a13 a14 a15 a16 a17 a18 a19 S) (some (.int R.1)) (cMd K a0 a1 a2 a3 a4 a5 a6 a7 a8 a9 a10 a11 a12 a13 a14 a15 a16 a17 a18 a19 R.2) := by
  refine zC_i R.1 (cc := cX8_cost) (maxL := 4) (by decide +kernel) rfl (Nat.le_of_ble_eq_true rfl) rfl rfl ?_
  intro p e s m below meth c Q A X hret ls hl hh
  have X : zX p m c cX8_cost 4 s ([.ref a0, .int p1, .int p2] : List Value).toArray wsX8_cost RX8 K A := X
  have hx := X.1.1
  have hb := X.1.2.1
  have hr2 : ∀ (pc : Nat) (ls : Array Slot) (H : Heap) (locs : List Loc) (v : Int32) (S : zMd), some (v, S) = some R → decode cX8_cost pc = .ok (.ireturn, 1) → zW K A s H locs (cMd K a0 a1 a2 a3 a4 a5 a6 a7 a8 a9 a10 a11 a12 a13 a14 a15 a16 a17 a18 a19 S) → W p l e ({ frames := 4, cells := 0, slots := 0, locals := 89 } : Room) s m ([.ref a0, .int p1, .int p2] : List Value).toArray below meth c H locs 0 0 Q (F0 m pc ls [.int v]) := by
    intro pc ls H locs v S h hd hh
    cases h; exact hret pc ls H locs _ rfl hd hh
  have hl : lv_has ls 4 [(0, .ref a0), (1, .int p1), (2, .int p2)] := hl
  have hJ35 : ∀ (v1 : Int32) (v2 : Int32) (t0 : Int32) (S : zMd), ∀ (H : Heap) (locs : List Loc) (ls : Array Slot), fX8_cost_j35 v1 v2 t0 S = some R → lv_has ls 4 [(0, .ref a0), (1, .int v1), (2, .int v2)] → zW K A s H locs (cMd K a0 a1 a2 a3 a4 a5 a6 a7 a8 a9 a10 a11 a12 a13 a14 a15 a16 a17 a18 a19 S) → W p l e ({ frames := 4, cells := 0, slots := 0, locals := 89 } : Room) s m ([.ref a0, .int p1, .int p2] : List Value).toArray below meth c H locs 0 0 Q (F0 m 35 ls [.int t0]) := by
    intro v1 v2 t0 S H locs ls hf hl hh
    unfold fX8_cost_j35 at hf
    refine lv_istore_n (lv' := [(3, .int t0), (0, .ref a0), (1, .int v1), (2, .int v2)]) hx hb dX8_cost_35 rfl hl (by decide) rfl (fun ls hl => ?_)
    refine lv_iload_n hx hb dX8_cost_36 rfl (lv_at hl 0 rfl) ?_
    refine lv_if_eq (tgt := 48) hx hb dX8_cost_37 (by decide) (fun c1 => ?_) (fun c1 => ?_)
    · replace hf := (if_pos c1).symm.trans hf
      refine lv_aload_n hx hb dX8_cost_48 rfl (lv_at hl 1 rfl) ?_
      refine lv_iload_n hx hb dX8_cost_49 rfl (lv_at hl 2 rfl) ?_
      obtain ⟨u2, hu2, hf⟩ := ob_bind hf
      refine zcallV (ci := 7) (q0 := 0) (As := [.int v1]) (rest := []) (wr := []) (ws' := cMd K a0 a1 a2 a3 a4 a5 a6 a7 a8 a9 a10 a11 a12 a13 a14 a15 a16 a17 a18 a19 S) (ov := some (.int u2)) X hh hl (kX8_fee l K a0 a1 a2 a3 a4 a5 a6 a7 a8 a9 a10 a11 a12 a13 a14 a15 a16 a17 a18 a19 S v1 u2 hu2) (fun ht => cwV 1 ht gX8_cost_X8_fee rfl rfl rfl ⟨rfl, hdX8_fee⟩ ⟨Nat.le_of_ble_eq_true rfl, Nat.le_of_ble_eq_true rfl⟩) [0, 1, 2, 3, 4, 5, 6, 7, 8, 9, 10, 11, 12, 13, 14, 15, 16, 17, 18, 19] [] [0, 1, 2, 3, 4, 5, 6, 7, 8, 9, 10, 11, 12, 13, 14, 15, 16, 17, 18, 19] rfl rfl rfl rfl (by decide) rfl rfl rfl rfl rfl rfl (Nat.le_of_ble_eq_true rfl) dX8_cost_50 ⟨Nat.zero_le _, Nat.zero_le _⟩ (fun H locs hh => ?_)
      refine lv_aload_n hx hb dX8_cost_53 rfl (lv_at hl 1 rfl) ?_
      refine lv_iload_n hx hb dX8_cost_54 rfl (lv_at hl 3 rfl) ?_
      obtain ⟨u3, hu3, hf⟩ := ob_bind hf
      refine zcallV (ci := 7) (q0 := 0) (As := [.int v2]) (rest := [.int u2]) (wr := []) (ws' := cMd K a0 a1 a2 a3 a4 a5 a6 a7 a8 a9 a10 a11 a12 a13 a14 a15 a16 a17 a18 a19 S) (ov := some (.int u3)) X hh hl (kX8_fee l K a0 a1 a2 a3 a4 a5 a6 a7 a8 a9 a10 a11 a12 a13 a14 a15 a16 a17 a18 a19 S v2 u3 hu3) (fun ht => cwV 1 ht gX8_cost_X8_fee rfl rfl rfl ⟨rfl, hdX8_fee⟩ ⟨Nat.le_of_ble_eq_true rfl, Nat.le_of_ble_eq_true rfl⟩) [0, 1, 2, 3, 4, 5, 6, 7, 8, 9, 10, 11, 12, 13, 14, 15, 16, 17, 18, 19] [] [0, 1, 2, 3, 4, 5, 6, 7, 8, 9, 10, 11, 12, 13, 14, 15, 16, 17, 18, 19] rfl rfl rfl rfl (by decide) rfl rfl rfl rfl rfl rfl (Nat.le_of_ble_eq_true rfl) dX8_cost_55 ⟨Nat.zero_le _, Nat.zero_le _⟩ (fun H locs hh => ?_)
      refine lv_iadd hx hb dX8_cost_58 ?_
      exact hr2 59 ls H locs (u2 + u3) S hf dX8_cost_59 hh
    · replace hf := (if_neg c1).symm.trans hf
      refine lv_aload_n hx hb dX8_cost_40 rfl (lv_at hl 1 rfl) ?_
      refine lv_iload_n hx hb dX8_cost_41 rfl (lv_at hl 0 rfl) ?_
      obtain ⟨u4, hu4, hf⟩ := ob_bind hf
      refine zcallV (ci := 7) (q0 := 0) (As := [.int t0]) (rest := []) (wr := []) (ws' := cMd K a0 a1 a2 a3 a4 a5 a6 a7 a8 a9 a10 a11 a12 a13 a14 a15 a16 a17 a18 a19 u4.2) (ov := some (.int u4.1)) X hh hl (kX8_no l K a0 a1 a2 a3 a4 a5 a6 a7 a8 a9 a10 a11 a12 a13 a14 a15 a16 a17 a18 a19 S t0 u4 hu4) (fun ht => cwV 1 ht gX8_cost_X8_no rfl rfl rfl ⟨rfl, hdX8_no⟩ ⟨Nat.le_of_ble_eq_true rfl, Nat.le_of_ble_eq_true rfl⟩) [0, 1, 2, 3, 4, 5, 6, 7, 8, 9, 10, 11, 12, 13, 14, 15, 16, 17, 18, 19] [] [0, 1, 2, 3, 4, 5, 6, 7, 8, 9, 10, 11, 12, 13, 14, 15, 16, 17, 18, 19] rfl rfl rfl rfl (by decide) rfl rfl rfl rfl rfl rfl (Nat.le_of_ble_eq_true rfl) dX8_cost_42 ⟨Nat.zero_le _, Nat.zero_le _⟩ (fun H locs hh => ?_)
      refine lv_goto (tgt := 59) hx hb dX8_cost_45 (by decide) ?_
      exact hr2 59 ls H locs u4.1 u4.2 hf dX8_cost_59 hh
  have hJ16 : ∀ (v1 : Int32) (v2 : Int32) (S : zMd), ∀ (H : Heap) (locs : List Loc) (ls : Array Slot), fX8_cost_j16 v1 v2 S = some R → lv_has ls 4 [(0, .ref a0), (1, .int v1), (2, .int v2)] → zW K A s H locs (cMd K a0 a1 a2 a3 a4 a5 a6 a7 a8 a9 a10 a11 a12 a13 a14 a15 a16 a17 a18 a19 S) → W p l e ({ frames := 4, cells := 0, slots := 0, locals := 89 } : Room) s m ([.ref a0, .int p1, .int p2] : List Value).toArray below meth c H locs 0 0 Q (F0 m 16 ls []) := by
    intro v1 v2 S H locs ls hf hl hh
    unfold fX8_cost_j16 at hf
    refine lv_iconst (v := (-1 : Int32)) hx hb dX8_cost_16 (by decide) ?_
    refine lv_goto (tgt := 35) hx hb dX8_cost_17 (by decide) ?_
    exact hJ35 v1 v2 (-1 : Int32) S H locs ls hf (lv_sub hl [0, 1, 2] rfl) hh
  unfold fX8_cost at hf
  refine (fun (hmain : ∀ (H : Heap) (locs : List Loc), zW K A s H locs (cMd K a0 a1 a2 a3 a4 a5 a6 a7 a8 a9 a10 a11 a12 a13 a14 a15 a16 a17 a18 a19 S) → W p l e ({ frames := 4, cells := 0, slots := 0, locals := 89 } : Room) s m ([.ref a0, .int p1, .int p2] : List Value).toArray below meth c H locs 0 0 Q (F0 m 0 ls [])) => hmain s.heap [] hh) (fun H locs hh => ?_)
  refine lv_aload_n hx hb dX8_cost_0 rfl (lv_at hl 0 rfl) ?_
  refine lv_iload_n hx hb dX8_cost_1 rfl (lv_at hl 1 rfl) ?_
  obtain ⟨u5, hu5, hf⟩ := ob_bind hf
  refine zcallV (ci := 7) (q0 := 0) (As := [.int p1]) (rest := []) (wr := []) (ws' := cMd K a0 a1 a2 a3 a4 a5 a6 a7 a8 a9 a10 a11 a12 a13 a14 a15 a16 a17 a18 a19 S) (ov := some (.int u5)) X hh hl (kX8_isHouse l K a0 a1 a2 a3 a4 a5 a6 a7 a8 a9 a10 a11 a12 a13 a14 a15 a16 a17 a18 a19 S p1 u5 hu5) (fun ht => cwV 1 ht gX8_cost_X8_isHouse rfl rfl rfl ⟨rfl, hdX8_isHouse⟩ ⟨Nat.le_of_ble_eq_true rfl, Nat.le_of_ble_eq_true rfl⟩) [0, 1, 2, 3, 4, 5, 6, 7, 8, 9, 10, 11, 12, 13, 14, 15, 16, 17, 18, 19] [] [0, 1, 2, 3, 4, 5, 6, 7, 8, 9, 10, 11, 12, 13, 14, 15, 16, 17, 18, 19] rfl rfl rfl rfl (by decide) rfl rfl rfl rfl rfl rfl (Nat.le_of_ble_eq_true rfl) dX8_cost_2 ⟨Nat.zero_le _, Nat.zero_le _⟩ (fun H locs hh => ?_)
  refine lv_if_eq (tgt := 16) hx hb dX8_cost_5 (by decide) (fun c6 => ?_) (fun c6 => ?_)
  · replace hf := (if_pos c6).symm.trans hf
    exact hJ16 p1 p2 S H locs ls hf (lv_sub hl [0, 1, 2] rfl) hh
  · replace hf := (if_neg c6).symm.trans hf
    refine lv_aload_n hx hb dX8_cost_8 rfl (lv_at hl 0 rfl) ?_
    refine lv_iload_n hx hb dX8_cost_9 rfl (lv_at hl 2 rfl) ?_
    obtain ⟨u7, hu7, hf⟩ := ob_bind hf
    refine zcallV (ci := 7) (q0 := 0) (As := [.int p2]) (rest := []) (wr := []) (ws' := cMd K a0 a1 a2 a3 a4 a5 a6 a7 a8 a9 a10 a11 a12 a13 a14 a15 a16 a17 a18 a19 S) (ov := some (.int u7)) X hh hl (kX8_isHouse l K a0 a1 a2 a3 a4 a5 a6 a7 a8 a9 a10 a11 a12 a13 a14 a15 a16 a17 a18 a19 S p2 u7 hu7) (fun ht => cwV 1 ht gX8_cost_X8_isHouse rfl rfl rfl ⟨rfl, hdX8_isHouse⟩ ⟨Nat.le_of_ble_eq_true rfl, Nat.le_of_ble_eq_true rfl⟩) [0, 1, 2, 3, 4, 5, 6, 7, 8, 9, 10, 11, 12, 13, 14, 15, 16, 17, 18, 19] [] [0, 1, 2, 3, 4, 5, 6, 7, 8, 9, 10, 11, 12, 13, 14, 15, 16, 17, 18, 19] rfl rfl rfl rfl (by decide) rfl rfl rfl rfl rfl rfl (Nat.le_of_ble_eq_true rfl) dX8_cost_10 ⟨Nat.zero_le _, Nat.zero_le _⟩ (fun H locs hh => ?_)
    refine lv_if_ne (tgt := 20) hx hb dX8_cost_13 (by decide) (fun c8 => ?_) (fun c8 => ?_)
    · replace hf := (if_neg c8).symm.trans hf
      refine lv_aload_n hx hb dX8_cost_20 rfl (lv_at hl 0 rfl) ?_
      refine lv_iload_n hx hb dX8_cost_21 rfl (lv_at hl 1 rfl) ?_
      refine lv_iload_n hx hb dX8_cost_22 rfl (lv_at hl 2 rfl) ?_
      obtain ⟨u9, hu9, hf⟩ := ob_bind hf
      refine zcallV (ci := 7) (q0 := 0) (As := [.int p1, .int p2]) (rest := []) (wr := []) (ws' := cMd K a0 a1 a2 a3 a4 a5 a6 a7 a8 a9 a10 a11 a12 a13 a14 a15 a16 a17 a18 a19 S) (ov := some (.int u9)) X hh hl (kX8_canBe l K a0 a1 a2 a3 a4 a5 a6 a7 a8 a9 a10 a11 a12 a13 a14 a15 a16 a17 a18 a19 S p1 p2 u9 hu9) (fun ht => cwV 2 ht gX8_cost_X8_canBe rfl rfl rfl ⟨rfl, hdX8_canBe⟩ ⟨Nat.le_of_ble_eq_true rfl, Nat.le_of_ble_eq_true rfl⟩) [0, 1, 2, 3, 4, 5, 6, 7, 8, 9, 10, 11, 12, 13, 14, 15, 16, 17, 18, 19] [] [0, 1, 2, 3, 4, 5, 6, 7, 8, 9, 10, 11, 12, 13, 14, 15, 16, 17, 18, 19] rfl rfl rfl rfl (by decide) rfl rfl rfl rfl rfl rfl (Nat.le_of_ble_eq_true rfl) dX8_cost_23 ⟨Nat.zero_le _, Nat.zero_le _⟩ (fun H locs hh => ?_)
      refine lv_if_ne (tgt := 34) hx hb dX8_cost_26 (by decide) (fun c10 => ?_) (fun c10 => ?_)
      · replace hf := (if_neg c10).symm.trans hf
        refine lv_iconst (v := (0 : Int32)) hx hb dX8_cost_34 (by decide) ?_
        exact hJ35 p1 p2 (0 : Int32) S H locs ls hf (lv_sub hl [0, 1, 2] rfl) hh
      · replace hf := (if_pos c10).symm.trans hf
        refine lv_bipush (v := (-3 : Int32)) hx hb dX8_cost_29 (by decide) ?_
        refine lv_goto (tgt := 35) hx hb dX8_cost_31 (by decide) ?_
        exact hJ35 p1 p2 (-3 : Int32) S H locs ls hf (lv_sub hl [0, 1, 2] rfl) hh
    · replace hf := (if_pos c8).symm.trans hf
      exact hJ16 p1 p2 S H locs ls hf (lv_sub hl [0, 1, 2] rfl) hh
theorem inX8_add_X8 : ∀ w ∈ wsX80, w ∈ wsX8_add := by decide +kernel
theorem mmX8_add_0 : Cond.fieldLink RX8 70 "SumOfTwoThatStandModel" "houses" "I" ∈ wsX8_add := by decide +kernel
theorem hdX8_add : yX8_add.cls ≠ "java/lang/invoke/MethodHandle" ∧ yX8_add.cls ≠ "java/lang/invoke/VarHandle" ∧ (parseMethodDescriptor yX8_add.desc).map (fun d => d.parameters.length) = some 4 := by decide +kernel
set_option maxHeartbeats 4000000 in
set_option maxRecDepth 100000 in
theorem kX8_add (l : Launch) (K : zK) (a0 a1 a2 a3 a4 a5 a6 a7 a8 a9 a10 a11 a12 a13 a14 a15 a16 a17 a18 a19 : Nat) (S : zMd) (p1 : Int32) (p2 : Int32) (p3 : Int32) (p4 : Int32) (R : Int32 × zMd) (hf : fX8_add S p1 p2 p3 p4 = some R) : zC l yX8_add wsX8_add ({ frames := 4, cells := 0, slots := 0, locals := 89 } : Room) K [.ref a0, .int p1, .int p2, .int p3, .int p4] (cMd K a0 a1 a2 a3 a4 a5 a6 a7 a8 a9 a10 a11 a12 a13 a14 a15 a16 a17 a18 a19 S) (some (.int R.1)) (cMd K a0 a1 a2 a3 a4 a5 a6 a7 a8 a9 a10 a11 a12 a13 a14 a15 a16 a17 a18 a19 R.2) := by
  refine zC_i R.1 (cc := cX8_add) (maxL := 6) (by decide +kernel) rfl (Nat.le_of_ble_eq_true rfl) rfl rfl ?_
  intro p e s m below meth c Q A X hret ls hl hh
  have X : zX p m c cX8_add 6 s ([.ref a0, .int p1, .int p2, .int p3, .int p4] : List Value).toArray wsX8_add RX8 K A := X
  have hx := X.1.1
  have hb := X.1.2.1
  have hr2 : ∀ (pc : Nat) (ls : Array Slot) (H : Heap) (locs : List Loc) (v : Int32) (S : zMd), some (v, S) = some R → decode cX8_add pc = .ok (.ireturn, 1) → zW K A s H locs (cMd K a0 a1 a2 a3 a4 a5 a6 a7 a8 a9 a10 a11 a12 a13 a14 a15 a16 a17 a18 a19 S) → W p l e ({ frames := 4, cells := 0, slots := 0, locals := 89 } : Room) s m ([.ref a0, .int p1, .int p2, .int p3, .int p4] : List Value).toArray below meth c H locs 0 0 Q (F0 m pc ls [.int v]) := by
    intro pc ls H locs v S h hd hh
    cases h; exact hret pc ls H locs _ rfl hd hh
  have hl : lv_has ls 6 [(0, .ref a0), (1, .int p1), (2, .int p2), (3, .int p3), (4, .int p4)] := hl
  have hJ80 : ∀ (v1 : Int32) (v2 : Int32) (v3 : Int32) (v4 : Int32) (v5 : Int32) (S : zMd), ∀ (H : Heap) (locs : List Loc) (ls : Array Slot), fX8_add_j80 v1 v2 v3 v4 v5 S = some R → lv_has ls 6 [(0, .ref a0), (1, .int v1), (2, .int v2), (3, .int v3), (4, .int v4), (5, .int v5)] → zW K A s H locs (cMd K a0 a1 a2 a3 a4 a5 a6 a7 a8 a9 a10 a11 a12 a13 a14 a15 a16 a17 a18 a19 S) → W p l e ({ frames := 4, cells := 0, slots := 0, locals := 89 } : Room) s m ([.ref a0, .int p1, .int p2, .int p3, .int p4] : List Value).toArray below meth c H locs 0 0 Q (F0 m 80 ls []) := by
    intro v1 v2 v3 v4 v5 S H locs ls hf hl hh
    unfold fX8_add_j80 at hf
    refine lv_iload hx hb dX8_add_80 (lv_at hl 5 rfl) ?_
    refine lv_if_eq (tgt := 92) hx hb dX8_add_82 (by decide) (fun c1 => ?_) (fun c1 => ?_)
    · replace hf := (if_pos c1).symm.trans hf
      refine lv_aload_n hx hb dX8_add_92 rfl (lv_at hl 0 rfl) ?_
      refine lv_iload_n hx hb dX8_add_93 rfl (lv_at hl 1 rfl) ?_
      refine lv_iload_n hx hb dX8_add_94 rfl (lv_at hl 2 rfl) ?_
      refine lv_iload_n hx hb dX8_add_95 rfl (lv_at hl 3 rfl) ?_
      refine lv_iload hx hb dX8_add_96 (lv_at hl 4 rfl) ?_
      obtain ⟨u2, hu2, hf⟩ := ob_bind hf
      refine zcallV (ci := 7) (q0 := 0) (As := [.int v1, .int v2, .int v3, .int v4]) (rest := []) (wr := []) (ws' := cMd K a0 a1 a2 a3 a4 a5 a6 a7 a8 a9 a10 a11 a12 a13 a14 a15 a16 a17 a18 a19 u2) (ov := none) X hh hl (kX8_builds l K a0 a1 a2 a3 a4 a5 a6 a7 a8 a9 a10 a11 a12 a13 a14 a15 a16 a17 a18 a19 S v1 v2 v3 v4 u2 hu2) (fun ht => cwV 4 ht gX8_add_X8_builds rfl rfl rfl ⟨rfl, hdX8_builds⟩ ⟨Nat.le_of_ble_eq_true rfl, Nat.le_of_ble_eq_true rfl⟩) [0, 1, 2, 3, 4, 5, 6, 7, 8, 9, 10, 11, 12, 13, 14, 15, 16, 17, 18, 19] [] [0, 1, 2, 3, 4, 5, 6, 7, 8, 9, 10, 11, 12, 13, 14, 15, 16, 17, 18, 19] rfl rfl rfl rfl (by decide) rfl rfl rfl rfl rfl rfl (Nat.le_of_ble_eq_true rfl) dX8_add_98 ⟨Nat.zero_le _, Nat.zero_le _⟩ (fun H locs hh => ?_)
      refine lv_aload_n hx hb dX8_add_101 rfl (lv_at hl 0 rfl) ?_
      refine zget (v := .int (md_houses u2)) (ref := "SumOfTwoThatStandModel") (C := RX8) (T := TX8) (N := 33) (index := 70) X hh inX8_add_X8 0 rfl rfl 9 (by decide) mmX8_add_0 rfl rfl dX8_add_102 ?_
      refine lv_iconst (v := (1 : Int32)) hx hb dX8_add_105 (by decide) ?_
      refine lv_isub hx hb dX8_add_106 ?_
      exact hr2 107 ls H locs ((md_houses u2) - (1 : Int32)) u2 hf dX8_add_107 hh
    · replace hf := (if_neg c1).symm.trans hf
      refine lv_aload_n hx hb dX8_add_85 rfl (lv_at hl 0 rfl) ?_
      refine lv_iload hx hb dX8_add_86 (lv_at hl 5 rfl) ?_
      obtain ⟨u3, hu3, hf⟩ := ob_bind hf
      refine zcallV (ci := 7) (q0 := 0) (As := [.int v5]) (rest := []) (wr := []) (ws' := cMd K a0 a1 a2 a3 a4 a5 a6 a7 a8 a9 a10 a11 a12 a13 a14 a15 a16 a17 a18 a19 u3.2) (ov := some (.int u3.1)) X hh hl (kX8_no l K a0 a1 a2 a3 a4 a5 a6 a7 a8 a9 a10 a11 a12 a13 a14 a15 a16 a17 a18 a19 S v5 u3 hu3) (fun ht => cwV 1 ht gX8_add_X8_no rfl rfl rfl ⟨rfl, hdX8_no⟩ ⟨Nat.le_of_ble_eq_true rfl, Nat.le_of_ble_eq_true rfl⟩) [0, 1, 2, 3, 4, 5, 6, 7, 8, 9, 10, 11, 12, 13, 14, 15, 16, 17, 18, 19] [] [0, 1, 2, 3, 4, 5, 6, 7, 8, 9, 10, 11, 12, 13, 14, 15, 16, 17, 18, 19] rfl rfl rfl rfl (by decide) rfl rfl rfl rfl rfl rfl (Nat.le_of_ble_eq_true rfl) dX8_add_88 ⟨Nat.zero_le _, Nat.zero_le _⟩ (fun H locs hh => ?_)
      exact hr2 91 ls H locs u3.1 u3.2 hf dX8_add_91 hh
  have hJ78 : ∀ (v1 : Int32) (v2 : Int32) (v3 : Int32) (v4 : Int32) (t0 : Int32) (S : zMd), ∀ (H : Heap) (locs : List Loc) (ls : Array Slot), fX8_add_j78 v1 v2 v3 v4 t0 S = some R → lv_has ls 6 [(0, .ref a0), (1, .int v1), (2, .int v2), (3, .int v3), (4, .int v4)] → zW K A s H locs (cMd K a0 a1 a2 a3 a4 a5 a6 a7 a8 a9 a10 a11 a12 a13 a14 a15 a16 a17 a18 a19 S) → W p l e ({ frames := 4, cells := 0, slots := 0, locals := 89 } : Room) s m ([.ref a0, .int p1, .int p2, .int p3, .int p4] : List Value).toArray below meth c H locs 0 0 Q (F0 m 78 ls [.int t0]) := by
    intro v1 v2 v3 v4 t0 S H locs ls hf hl hh
    unfold fX8_add_j78 at hf
    refine lv_istore (lv' := [(5, .int t0), (0, .ref a0), (1, .int v1), (2, .int v2), (3, .int v3), (4, .int v4)]) hx hb dX8_add_78 hl (by decide) rfl (fun ls hl => ?_)
    exact hJ80 v1 v2 v3 v4 t0 S H locs ls hf (lv_sub hl [1, 2, 3, 4, 5, 0] rfl) hh
  have hJ42 : ∀ (v1 : Int32) (v2 : Int32) (v3 : Int32) (v4 : Int32) (t0 : Int32) (S : zMd), ∀ (H : Heap) (locs : List Loc) (ls : Array Slot), fX8_add_j42 v1 v2 v3 v4 t0 S = some R → lv_has ls 6 [(0, .ref a0), (1, .int v1), (2, .int v2), (3, .int v3), (4, .int v4)] → zW K A s H locs (cMd K a0 a1 a2 a3 a4 a5 a6 a7 a8 a9 a10 a11 a12 a13 a14 a15 a16 a17 a18 a19 S) → W p l e ({ frames := 4, cells := 0, slots := 0, locals := 89 } : Room) s m ([.ref a0, .int p1, .int p2, .int p3, .int p4] : List Value).toArray below meth c H locs 0 0 Q (F0 m 42 ls [.int t0]) := by
    intro v1 v2 v3 v4 t0 S H locs ls hf hl hh
    unfold fX8_add_j42 at hf
    refine lv_istore (lv' := [(5, .int t0), (0, .ref a0), (1, .int v1), (2, .int v2), (3, .int v3), (4, .int v4)]) hx hb dX8_add_42 hl (by decide) rfl (fun ls hl => ?_)
    refine lv_iload hx hb dX8_add_44 (lv_at hl 0 rfl) ?_
    refine lv_if_ne (tgt := 80) hx hb dX8_add_46 (by decide) (fun c4 => ?_) (fun c4 => ?_)
    · replace hf := (if_neg c4).symm.trans hf
      exact hJ80 v1 v2 v3 v4 t0 S H locs ls hf (lv_sub hl [1, 2, 3, 4, 5, 0] rfl) hh
    · replace hf := (if_pos c4).symm.trans hf
      refine lv_aload_n hx hb dX8_add_49 rfl (lv_at hl 1 rfl) ?_
      refine lv_iload_n hx hb dX8_add_50 rfl (lv_at hl 2 rfl) ?_
      refine lv_iload_n hx hb dX8_add_51 rfl (lv_at hl 3 rfl) ?_
      obtain ⟨u5, hu5, hf⟩ := ob_bind hf
      refine zcallV (ci := 7) (q0 := 0) (As := [.int v1, .int v2]) (rest := []) (wr := []) (ws' := cMd K a0 a1 a2 a3 a4 a5 a6 a7 a8 a9 a10 a11 a12 a13 a14 a15 a16 a17 a18 a19 S) (ov := some (.int u5)) X hh hl (kX8_canBe l K a0 a1 a2 a3 a4 a5 a6 a7 a8 a9 a10 a11 a12 a13 a14 a15 a16 a17 a18 a19 S v1 v2 u5 hu5) (fun ht => cwV 2 ht gX8_add_X8_canBe rfl rfl rfl ⟨rfl, hdX8_canBe⟩ ⟨Nat.le_of_ble_eq_true rfl, Nat.le_of_ble_eq_true rfl⟩) [0, 1, 2, 3, 4, 5, 6, 7, 8, 9, 10, 11, 12, 13, 14, 15, 16, 17, 18, 19] [] [0, 1, 2, 3, 4, 5, 6, 7, 8, 9, 10, 11, 12, 13, 14, 15, 16, 17, 18, 19] rfl rfl rfl rfl (by decide) rfl rfl rfl rfl rfl rfl (Nat.le_of_ble_eq_true rfl) dX8_add_52 ⟨Nat.zero_le _, Nat.zero_le _⟩ (fun H locs hh => ?_)
      refine lv_if_ne (tgt := 63) hx hb dX8_add_55 (by decide) (fun c6 => ?_) (fun c6 => ?_)
      · replace hf := (if_neg c6).symm.trans hf
        refine lv_aload_n hx hb dX8_add_63 rfl (lv_at hl 1 rfl) ?_
        refine zget (v := .int (md_houses S)) (ref := "SumOfTwoThatStandModel") (C := RX8) (T := TX8) (N := 33) (index := 70) X hh inX8_add_X8 0 rfl rfl 9 (by decide) mmX8_add_0 rfl rfl dX8_add_64 ?_
        refine lv_bipush (v := (12 : Int32)) hx hb dX8_add_67 (by decide) ?_
        refine lv_icmp_ne (tgt := 77) hx hb dX8_add_69 (by decide) (fun c7 => ?_) (fun c7 => ?_)
        · replace hf := (if_neg c7).symm.trans hf
          refine lv_iconst (v := (0 : Int32)) hx hb dX8_add_77 (by decide) ?_
          exact hJ78 v1 v2 v3 v4 (0 : Int32) S H locs ls hf (lv_sub hl [1, 2, 3, 4, 5] rfl) hh
        · replace hf := (if_pos c7).symm.trans hf
          refine lv_bipush (v := (-6 : Int32)) hx hb dX8_add_72 (by decide) ?_
          refine lv_goto (tgt := 78) hx hb dX8_add_74 (by decide) ?_
          exact hJ78 v1 v2 v3 v4 (-6 : Int32) S H locs ls hf (lv_sub hl [1, 2, 3, 4, 5] rfl) hh
      · replace hf := (if_pos c6).symm.trans hf
        refine lv_bipush (v := (-3 : Int32)) hx hb dX8_add_58 (by decide) ?_
        refine lv_goto (tgt := 78) hx hb dX8_add_60 (by decide) ?_
        exact hJ78 v1 v2 v3 v4 (-3 : Int32) S H locs ls hf (lv_sub hl [1, 2, 3, 4, 5] rfl) hh
  have hJ16 : ∀ (v1 : Int32) (v2 : Int32) (v3 : Int32) (v4 : Int32) (S : zMd), ∀ (H : Heap) (locs : List Loc) (ls : Array Slot), fX8_add_j16 v1 v2 v3 v4 S = some R → lv_has ls 6 [(0, .ref a0), (1, .int v1), (2, .int v2), (3, .int v3), (4, .int v4)] → zW K A s H locs (cMd K a0 a1 a2 a3 a4 a5 a6 a7 a8 a9 a10 a11 a12 a13 a14 a15 a16 a17 a18 a19 S) → W p l e ({ frames := 4, cells := 0, slots := 0, locals := 89 } : Room) s m ([.ref a0, .int p1, .int p2, .int p3, .int p4] : List Value).toArray below meth c H locs 0 0 Q (F0 m 16 ls []) := by
    intro v1 v2 v3 v4 S H locs ls hf hl hh
    unfold fX8_add_j16 at hf
    refine lv_iconst (v := (-1 : Int32)) hx hb dX8_add_16 (by decide) ?_
    refine lv_goto (tgt := 42) hx hb dX8_add_17 (by decide) ?_
    exact hJ42 v1 v2 v3 v4 (-1 : Int32) S H locs ls hf (lv_sub hl [0, 1, 2, 3, 4] rfl) hh
  unfold fX8_add at hf
  refine (fun (hmain : ∀ (H : Heap) (locs : List Loc), zW K A s H locs (cMd K a0 a1 a2 a3 a4 a5 a6 a7 a8 a9 a10 a11 a12 a13 a14 a15 a16 a17 a18 a19 S) → W p l e ({ frames := 4, cells := 0, slots := 0, locals := 89 } : Room) s m ([.ref a0, .int p1, .int p2, .int p3, .int p4] : List Value).toArray below meth c H locs 0 0 Q (F0 m 0 ls [])) => hmain s.heap [] hh) (fun H locs hh => ?_)
  refine lv_aload_n hx hb dX8_add_0 rfl (lv_at hl 0 rfl) ?_
  refine lv_iload_n hx hb dX8_add_1 rfl (lv_at hl 1 rfl) ?_
  obtain ⟨u8, hu8, hf⟩ := ob_bind hf
  refine zcallV (ci := 7) (q0 := 0) (As := [.int p1]) (rest := []) (wr := []) (ws' := cMd K a0 a1 a2 a3 a4 a5 a6 a7 a8 a9 a10 a11 a12 a13 a14 a15 a16 a17 a18 a19 S) (ov := some (.int u8)) X hh hl (kX8_isHouse l K a0 a1 a2 a3 a4 a5 a6 a7 a8 a9 a10 a11 a12 a13 a14 a15 a16 a17 a18 a19 S p1 u8 hu8) (fun ht => cwV 1 ht gX8_add_X8_isHouse rfl rfl rfl ⟨rfl, hdX8_isHouse⟩ ⟨Nat.le_of_ble_eq_true rfl, Nat.le_of_ble_eq_true rfl⟩) [0, 1, 2, 3, 4, 5, 6, 7, 8, 9, 10, 11, 12, 13, 14, 15, 16, 17, 18, 19] [] [0, 1, 2, 3, 4, 5, 6, 7, 8, 9, 10, 11, 12, 13, 14, 15, 16, 17, 18, 19] rfl rfl rfl rfl (by decide) rfl rfl rfl rfl rfl rfl (Nat.le_of_ble_eq_true rfl) dX8_add_2 ⟨Nat.zero_le _, Nat.zero_le _⟩ (fun H locs hh => ?_)
  refine lv_if_eq (tgt := 16) hx hb dX8_add_5 (by decide) (fun c9 => ?_) (fun c9 => ?_)
  · replace hf := (if_pos c9).symm.trans hf
    exact hJ16 p1 p2 p3 p4 S H locs ls hf (lv_sub hl [0, 1, 2, 3, 4] rfl) hh
  · replace hf := (if_neg c9).symm.trans hf
    refine lv_aload_n hx hb dX8_add_8 rfl (lv_at hl 0 rfl) ?_
    refine lv_iload_n hx hb dX8_add_9 rfl (lv_at hl 2 rfl) ?_
    obtain ⟨u10, hu10, hf⟩ := ob_bind hf
    refine zcallV (ci := 7) (q0 := 0) (As := [.int p2]) (rest := []) (wr := []) (ws' := cMd K a0 a1 a2 a3 a4 a5 a6 a7 a8 a9 a10 a11 a12 a13 a14 a15 a16 a17 a18 a19 S) (ov := some (.int u10)) X hh hl (kX8_isHouse l K a0 a1 a2 a3 a4 a5 a6 a7 a8 a9 a10 a11 a12 a13 a14 a15 a16 a17 a18 a19 S p2 u10 hu10) (fun ht => cwV 1 ht gX8_add_X8_isHouse rfl rfl rfl ⟨rfl, hdX8_isHouse⟩ ⟨Nat.le_of_ble_eq_true rfl, Nat.le_of_ble_eq_true rfl⟩) [0, 1, 2, 3, 4, 5, 6, 7, 8, 9, 10, 11, 12, 13, 14, 15, 16, 17, 18, 19] [] [0, 1, 2, 3, 4, 5, 6, 7, 8, 9, 10, 11, 12, 13, 14, 15, 16, 17, 18, 19] rfl rfl rfl rfl (by decide) rfl rfl rfl rfl rfl rfl (Nat.le_of_ble_eq_true rfl) dX8_add_10 ⟨Nat.zero_le _, Nat.zero_le _⟩ (fun H locs hh => ?_)
    refine lv_if_ne (tgt := 20) hx hb dX8_add_13 (by decide) (fun c11 => ?_) (fun c11 => ?_)
    · replace hf := (if_neg c11).symm.trans hf
      refine lv_iload_n hx hb dX8_add_20 rfl (lv_at hl 3 rfl) ?_
      refine lv_iconst (v := (0 : Int32)) hx hb dX8_add_21 (by decide) ?_
      refine lv_iconst (v := (5 : Int32)) hx hb dX8_add_22 (by decide) ?_
      refine zcallS (As := [.int p3, .int (0 : Int32), .int (5 : Int32)]) (rest := []) (wr := cMd K a0 a1 a2 a3 a4 a5 a6 a7 a8 a9 a10 a11 a12 a13 a14 a15 a16 a17 a18 a19 S) (ws' := cMd K a0 a1 a2 a3 a4 a5 a6 a7 a8 a9 a10 a11 a12 a13 a14 a15 a16 a17 a18 a19 S) (ov := some (.int (fX8_isIn p3 (0 : Int32) (5 : Int32)))) X hh hl (kX8_isIn l K p3 (0 : Int32) (5 : Int32) (fX8_isIn p3 (0 : Int32) (5 : Int32)) rfl) (fun ht => va_cwS 3 ht gX8_add_X8_isIn rfl rfl rfl hdX8_isIn ⟨Nat.le_of_ble_eq_true rfl, Nat.le_of_ble_eq_true rfl⟩) [] [0, 1, 2, 3, 4, 5, 6, 7, 8, 9, 10, 11, 12, 13, 14, 15, 16, 17, 18, 19] [0, 1, 2, 3, 4, 5, 6, 7, 8, 9, 10, 11, 12, 13, 14, 15, 16, 17, 18, 19] rfl rfl rfl rfl (by decide) rfl rfl rfl rfl (Nat.le_of_ble_eq_true rfl) dX8_add_23 ⟨Nat.zero_le _, Nat.zero_le _⟩ (fun H locs hh => ?_)
      refine lv_if_ne (tgt := 34) hx hb dX8_add_26 (by decide) (fun c13 => ?_) (fun c13 => ?_)
      · replace hf := (if_neg c13).symm.trans hf
        refine lv_iload hx hb dX8_add_34 (lv_at hl 4 rfl) ?_
        refine lv_iconst (v := (0 : Int32)) hx hb dX8_add_36 (by decide) ?_
        refine lv_bipush (v := (9 : Int32)) hx hb dX8_add_37 (by decide) ?_
        refine zcallS (As := [.int p4, .int (0 : Int32), .int (9 : Int32)]) (rest := []) (wr := cMd K a0 a1 a2 a3 a4 a5 a6 a7 a8 a9 a10 a11 a12 a13 a14 a15 a16 a17 a18 a19 S) (ws' := cMd K a0 a1 a2 a3 a4 a5 a6 a7 a8 a9 a10 a11 a12 a13 a14 a15 a16 a17 a18 a19 S) (ov := some (.int (fX8_bound p4 (0 : Int32) (9 : Int32)))) X hh hl (kX8_bound l K p4 (0 : Int32) (9 : Int32) (fX8_bound p4 (0 : Int32) (9 : Int32)) rfl) (fun ht => va_cwS 3 ht gX8_add_X8_bound rfl rfl rfl hdX8_bound ⟨Nat.le_of_ble_eq_true rfl, Nat.le_of_ble_eq_true rfl⟩) [] [0, 1, 2, 3, 4, 5, 6, 7, 8, 9, 10, 11, 12, 13, 14, 15, 16, 17, 18, 19] [0, 1, 2, 3, 4, 5, 6, 7, 8, 9, 10, 11, 12, 13, 14, 15, 16, 17, 18, 19] rfl rfl rfl rfl (by decide) rfl rfl rfl rfl (Nat.le_of_ble_eq_true rfl) dX8_add_39 ⟨Nat.zero_le _, Nat.zero_le _⟩ (fun H locs hh => ?_)
        exact hJ42 p1 p2 p3 p4 (fX8_bound p4 (0 : Int32) (9 : Int32)) S H locs ls hf (lv_sub hl [0, 1, 2, 3, 4] rfl) hh
      · replace hf := (if_pos c13).symm.trans hf
        refine lv_bipush (v := (-2 : Int32)) hx hb dX8_add_29 (by decide) ?_
        refine lv_goto (tgt := 42) hx hb dX8_add_31 (by decide) ?_
        exact hJ42 p1 p2 p3 p4 (-2 : Int32) S H locs ls hf (lv_sub hl [0, 1, 2, 3, 4] rfl) hh
    · replace hf := (if_pos c11).symm.trans hf
      exact hJ16 p1 p2 p3 p4 S H locs ls hf (lv_sub hl [0, 1, 2, 3, 4] rfl) hh
theorem hdX8_burn : yX8_burn.cls ≠ "java/lang/invoke/MethodHandle" ∧ yX8_burn.cls ≠ "java/lang/invoke/VarHandle" ∧ (parseMethodDescriptor yX8_burn.desc).map (fun d => d.parameters.length) = some 1 := by decide +kernel
set_option maxHeartbeats 4000000 in
set_option maxRecDepth 100000 in
theorem kX8_burn (l : Launch) (K : zK) (a0 a1 a2 a3 a4 a5 a6 a7 a8 a9 a10 a11 a12 a13 a14 a15 a16 a17 a18 a19 : Nat) (S : zMd) (p1 : Int32) (R : Int32 × zMd) (hf : fX8_burn S p1 = some R) : zC l yX8_burn wsX8_burn ({ frames := 3, cells := 0, slots := 0, locals := 65 } : Room) K [.ref a0, .int p1] (cMd K a0 a1 a2 a3 a4 a5 a6 a7 a8 a9 a10 a11 a12 a13 a14 a15 a16 a17 a18 a19 S) (some (.int R.1)) (cMd K a0 a1 a2 a3 a4 a5 a6 a7 a8 a9 a10 a11 a12 a13 a14 a15 a16 a17 a18 a19 R.2) := by
  refine zC_i R.1 (cc := cX8_burn) (maxL := 4) (by decide +kernel) rfl (Nat.le_of_ble_eq_true rfl) rfl rfl ?_
  intro p e s m below meth c Q A X hret ls hl hh
  have X : zX p m c cX8_burn 4 s ([.ref a0, .int p1] : List Value).toArray wsX8_burn RX8 K A := X
  have hx := X.1.1
  have hb := X.1.2.1
  have hr2 : ∀ (pc : Nat) (ls : Array Slot) (H : Heap) (locs : List Loc) (v : Int32) (S : zMd), some (v, S) = some R → decode cX8_burn pc = .ok (.ireturn, 1) → zW K A s H locs (cMd K a0 a1 a2 a3 a4 a5 a6 a7 a8 a9 a10 a11 a12 a13 a14 a15 a16 a17 a18 a19 S) → W p l e ({ frames := 3, cells := 0, slots := 0, locals := 65 } : Room) s m ([.ref a0, .int p1] : List Value).toArray below meth c H locs 0 0 Q (F0 m pc ls [.int v]) := by
    intro pc ls H locs v S h hd hh
    cases h; exact hret pc ls H locs _ rfl hd hh
  have hl : lv_has ls 4 [(0, .ref a0), (1, .int p1)] := hl
  have hJ26 : ∀ (v1 : Int32) (t0 : Int32) (S : zMd), ∀ (H : Heap) (locs : List Loc) (ls : Array Slot), fX8_burn_j26 v1 t0 S = some R → lv_has ls 4 [(0, .ref a0), (1, .int v1)] → zW K A s H locs (cMd K a0 a1 a2 a3 a4 a5 a6 a7 a8 a9 a10 a11 a12 a13 a14 a15 a16 a17 a18 a19 S) → W p l e ({ frames := 3, cells := 0, slots := 0, locals := 65 } : Room) s m ([.ref a0, .int p1] : List Value).toArray below meth c H locs 0 0 Q (F0 m 26 ls [.int t0]) := by
    intro v1 t0 S H locs ls hf hl hh
    unfold fX8_burn_j26 at hf
    refine lv_istore_n (lv' := [(2, .int t0), (0, .ref a0), (1, .int v1)]) hx hb dX8_burn_26 rfl hl (by decide) rfl (fun ls hl => ?_)
    refine lv_iload_n hx hb dX8_burn_27 rfl (lv_at hl 0 rfl) ?_
    refine lv_if_eq (tgt := 37) hx hb dX8_burn_28 (by decide) (fun c1 => ?_) (fun c1 => ?_)
    · replace hf := (if_pos c1).symm.trans hf
      refine lv_aload_n hx hb dX8_burn_37 rfl (lv_at hl 1 rfl) ?_
      obtain ⟨u2, hu2, hf⟩ := ob_bind hf
      refine zcallV (ci := 7) (q0 := 0) (As := []) (rest := []) (wr := []) (ws' := cMd K a0 a1 a2 a3 a4 a5 a6 a7 a8 a9 a10 a11 a12 a13 a14 a15 a16 a17 a18 a19 S) (ov := some (.int u2)) X hh hl (kX8_standing l K a0 a1 a2 a3 a4 a5 a6 a7 a8 a9 a10 a11 a12 a13 a14 a15 a16 a17 a18 a19 S u2 hu2) (fun ht => cwV 0 ht gX8_burn_X8_standing rfl rfl rfl ⟨rfl, hdX8_standing⟩ ⟨Nat.le_of_ble_eq_true rfl, Nat.le_of_ble_eq_true rfl⟩) [0, 1, 2, 3, 4, 5, 6, 7, 8, 9, 10, 11, 12, 13, 14, 15, 16, 17, 18, 19] [] [0, 1, 2, 3, 4, 5, 6, 7, 8, 9, 10, 11, 12, 13, 14, 15, 16, 17, 18, 19] rfl rfl rfl rfl (by decide) rfl rfl rfl rfl rfl rfl (Nat.le_of_ble_eq_true rfl) dX8_burn_38 ⟨Nat.zero_le _, Nat.zero_le _⟩ (fun H locs hh => ?_)
      obtain ⟨u3, hu3, hf⟩ := ob_bind hf
      refine zcallS (As := [.int u2]) (rest := []) (wr := cMd K a0 a1 a2 a3 a4 a5 a6 a7 a8 a9 a10 a11 a12 a13 a14 a15 a16 a17 a18 a19 S) (ws' := cMd K a0 a1 a2 a3 a4 a5 a6 a7 a8 a9 a10 a11 a12 a13 a14 a15 a16 a17 a18 a19 S) (ov := some (.int u3)) X hh hl (kX8_bits l K u2 u3 hu3) (fun ht => va_cwS 1 ht gX8_burn_X8_bits rfl rfl rfl hdX8_bits ⟨Nat.le_of_ble_eq_true rfl, Nat.le_of_ble_eq_true rfl⟩) [] [0, 1, 2, 3, 4, 5, 6, 7, 8, 9, 10, 11, 12, 13, 14, 15, 16, 17, 18, 19] [0, 1, 2, 3, 4, 5, 6, 7, 8, 9, 10, 11, 12, 13, 14, 15, 16, 17, 18, 19] rfl rfl rfl rfl (by decide) rfl rfl rfl rfl (Nat.le_of_ble_eq_true rfl) dX8_burn_41 ⟨Nat.zero_le _, Nat.zero_le _⟩ (fun H locs hh => ?_)
      refine lv_istore_n (lv' := [(3, .int u3), (2, .int t0), (0, .ref a0), (1, .int v1)]) hx hb dX8_burn_44 rfl hl (by decide) rfl (fun ls hl => ?_)
      refine lv_aload_n hx hb dX8_burn_45 rfl (lv_at hl 2 rfl) ?_
      refine lv_iload_n hx hb dX8_burn_46 rfl (lv_at hl 3 rfl) ?_
      obtain ⟨u4, hu4, hf⟩ := ob_bind hf
      refine zcallV (ci := 7) (q0 := 0) (As := [.int v1]) (rest := []) (wr := []) (ws' := cMd K a0 a1 a2 a3 a4 a5 a6 a7 a8 a9 a10 a11 a12 a13 a14 a15 a16 a17 a18 a19 u4) (ov := none) X hh hl (kX8_burns l K a0 a1 a2 a3 a4 a5 a6 a7 a8 a9 a10 a11 a12 a13 a14 a15 a16 a17 a18 a19 S v1 u4 hu4) (fun ht => cwV 1 ht gX8_burn_X8_burns rfl rfl rfl ⟨rfl, hdX8_burns⟩ ⟨Nat.le_of_ble_eq_true rfl, Nat.le_of_ble_eq_true rfl⟩) [0, 1, 2, 3, 4, 5, 6, 7, 8, 9, 10, 11, 12, 13, 14, 15, 16, 17, 18, 19] [] [0, 1, 2, 3, 4, 5, 6, 7, 8, 9, 10, 11, 12, 13, 14, 15, 16, 17, 18, 19] rfl rfl rfl rfl (by decide) rfl rfl rfl rfl rfl rfl (Nat.le_of_ble_eq_true rfl) dX8_burn_47 ⟨Nat.zero_le _, Nat.zero_le _⟩ (fun H locs hh => ?_)
      refine lv_iload_n hx hb dX8_burn_50 rfl (lv_at hl 0 rfl) ?_
      refine lv_aload_n hx hb dX8_burn_51 rfl (lv_at hl 2 rfl) ?_
      obtain ⟨u5, hu5, hf⟩ := ob_bind hf
      refine zcallV (ci := 7) (q0 := 0) (As := []) (rest := [.int u3]) (wr := []) (ws' := cMd K a0 a1 a2 a3 a4 a5 a6 a7 a8 a9 a10 a11 a12 a13 a14 a15 a16 a17 a18 a19 u4) (ov := some (.int u5)) X hh hl (kX8_standing l K a0 a1 a2 a3 a4 a5 a6 a7 a8 a9 a10 a11 a12 a13 a14 a15 a16 a17 a18 a19 u4 u5 hu5) (fun ht => cwV 0 ht gX8_burn_X8_standing rfl rfl rfl ⟨rfl, hdX8_standing⟩ ⟨Nat.le_of_ble_eq_true rfl, Nat.le_of_ble_eq_true rfl⟩) [0, 1, 2, 3, 4, 5, 6, 7, 8, 9, 10, 11, 12, 13, 14, 15, 16, 17, 18, 19] [] [0, 1, 2, 3, 4, 5, 6, 7, 8, 9, 10, 11, 12, 13, 14, 15, 16, 17, 18, 19] rfl rfl rfl rfl (by decide) rfl rfl rfl rfl rfl rfl (Nat.le_of_ble_eq_true rfl) dX8_burn_52 ⟨Nat.zero_le _, Nat.zero_le _⟩ (fun H locs hh => ?_)
      obtain ⟨u6, hu6, hf⟩ := ob_bind hf
      refine zcallS (As := [.int u5]) (rest := [.int u3]) (wr := cMd K a0 a1 a2 a3 a4 a5 a6 a7 a8 a9 a10 a11 a12 a13 a14 a15 a16 a17 a18 a19 u4) (ws' := cMd K a0 a1 a2 a3 a4 a5 a6 a7 a8 a9 a10 a11 a12 a13 a14 a15 a16 a17 a18 a19 u4) (ov := some (.int u6)) X hh hl (kX8_bits l K u5 u6 hu6) (fun ht => va_cwS 1 ht gX8_burn_X8_bits rfl rfl rfl hdX8_bits ⟨Nat.le_of_ble_eq_true rfl, Nat.le_of_ble_eq_true rfl⟩) [] [0, 1, 2, 3, 4, 5, 6, 7, 8, 9, 10, 11, 12, 13, 14, 15, 16, 17, 18, 19] [0, 1, 2, 3, 4, 5, 6, 7, 8, 9, 10, 11, 12, 13, 14, 15, 16, 17, 18, 19] rfl rfl rfl rfl (by decide) rfl rfl rfl rfl (Nat.le_of_ble_eq_true rfl) dX8_burn_55 ⟨Nat.zero_le _, Nat.zero_le _⟩ (fun H locs hh => ?_)
      refine lv_isub hx hb dX8_burn_58 ?_
      exact hr2 59 ls H locs (u3 - u6) u4 hf dX8_burn_59 hh
    · replace hf := (if_neg c1).symm.trans hf
      refine lv_aload_n hx hb dX8_burn_31 rfl (lv_at hl 1 rfl) ?_
      refine lv_iload_n hx hb dX8_burn_32 rfl (lv_at hl 0 rfl) ?_
      obtain ⟨u7, hu7, hf⟩ := ob_bind hf
      refine zcallV (ci := 7) (q0 := 0) (As := [.int t0]) (rest := []) (wr := []) (ws' := cMd K a0 a1 a2 a3 a4 a5 a6 a7 a8 a9 a10 a11 a12 a13 a14 a15 a16 a17 a18 a19 u7.2) (ov := some (.int u7.1)) X hh hl (kX8_no l K a0 a1 a2 a3 a4 a5 a6 a7 a8 a9 a10 a11 a12 a13 a14 a15 a16 a17 a18 a19 S t0 u7 hu7) (fun ht => cwV 1 ht gX8_burn_X8_no rfl rfl rfl ⟨rfl, hdX8_no⟩ ⟨Nat.le_of_ble_eq_true rfl, Nat.le_of_ble_eq_true rfl⟩) [0, 1, 2, 3, 4, 5, 6, 7, 8, 9, 10, 11, 12, 13, 14, 15, 16, 17, 18, 19] [] [0, 1, 2, 3, 4, 5, 6, 7, 8, 9, 10, 11, 12, 13, 14, 15, 16, 17, 18, 19] rfl rfl rfl rfl (by decide) rfl rfl rfl rfl rfl rfl (Nat.le_of_ble_eq_true rfl) dX8_burn_33 ⟨Nat.zero_le _, Nat.zero_le _⟩ (fun H locs hh => ?_)
      exact hr2 36 ls H locs u7.1 u7.2 hf dX8_burn_36 hh
  unfold fX8_burn at hf
  refine (fun (hmain : ∀ (H : Heap) (locs : List Loc), zW K A s H locs (cMd K a0 a1 a2 a3 a4 a5 a6 a7 a8 a9 a10 a11 a12 a13 a14 a15 a16 a17 a18 a19 S) → W p l e ({ frames := 3, cells := 0, slots := 0, locals := 65 } : Room) s m ([.ref a0, .int p1] : List Value).toArray below meth c H locs 0 0 Q (F0 m 0 ls [])) => hmain s.heap [] hh) (fun H locs hh => ?_)
  refine lv_aload_n hx hb dX8_burn_0 rfl (lv_at hl 0 rfl) ?_
  refine lv_iload_n hx hb dX8_burn_1 rfl (lv_at hl 1 rfl) ?_
  obtain ⟨u8, hu8, hf⟩ := ob_bind hf
  refine zcallV (ci := 7) (q0 := 0) (As := [.int p1]) (rest := []) (wr := []) (ws' := cMd K a0 a1 a2 a3 a4 a5 a6 a7 a8 a9 a10 a11 a12 a13 a14 a15 a16 a17 a18 a19 S) (ov := some (.int u8)) X hh hl (kX8_isHouse l K a0 a1 a2 a3 a4 a5 a6 a7 a8 a9 a10 a11 a12 a13 a14 a15 a16 a17 a18 a19 S p1 u8 hu8) (fun ht => cwV 1 ht gX8_burn_X8_isHouse rfl rfl rfl ⟨rfl, hdX8_isHouse⟩ ⟨Nat.le_of_ble_eq_true rfl, Nat.le_of_ble_eq_true rfl⟩) [0, 1, 2, 3, 4, 5, 6, 7, 8, 9, 10, 11, 12, 13, 14, 15, 16, 17, 18, 19] [] [0, 1, 2, 3, 4, 5, 6, 7, 8, 9, 10, 11, 12, 13, 14, 15, 16, 17, 18, 19] rfl rfl rfl rfl (by decide) rfl rfl rfl rfl rfl rfl (Nat.le_of_ble_eq_true rfl) dX8_burn_2 ⟨Nat.zero_le _, Nat.zero_le _⟩ (fun H locs hh => ?_)
  refine lv_if_ne (tgt := 12) hx hb dX8_burn_5 (by decide) (fun c9 => ?_) (fun c9 => ?_)
  · replace hf := (if_neg c9).symm.trans hf
    refine lv_aload_n hx hb dX8_burn_12 rfl (lv_at hl 0 rfl) ?_
    refine lv_iload_n hx hb dX8_burn_13 rfl (lv_at hl 1 rfl) ?_
    obtain ⟨u10, hu10, hf⟩ := ob_bind hf
    refine zcallV (ci := 7) (q0 := 0) (As := [.int p1]) (rest := []) (wr := []) (ws' := cMd K a0 a1 a2 a3 a4 a5 a6 a7 a8 a9 a10 a11 a12 a13 a14 a15 a16 a17 a18 a19 S) (ov := some (.int u10)) X hh hl (kX8_doesStand l K a0 a1 a2 a3 a4 a5 a6 a7 a8 a9 a10 a11 a12 a13 a14 a15 a16 a17 a18 a19 S p1 u10 hu10) (fun ht => cwV 1 ht gX8_burn_X8_doesStand rfl rfl rfl ⟨rfl, hdX8_doesStand⟩ ⟨Nat.le_of_ble_eq_true rfl, Nat.le_of_ble_eq_true rfl⟩) [0, 1, 2, 3, 4, 5, 6, 7, 8, 9, 10, 11, 12, 13, 14, 15, 16, 17, 18, 19] [] [0, 1, 2, 3, 4, 5, 6, 7, 8, 9, 10, 11, 12, 13, 14, 15, 16, 17, 18, 19] rfl rfl rfl rfl (by decide) rfl rfl rfl rfl rfl rfl (Nat.le_of_ble_eq_true rfl) dX8_burn_14 ⟨Nat.zero_le _, Nat.zero_le _⟩ (fun H locs hh => ?_)
    refine lv_if_ne (tgt := 25) hx hb dX8_burn_17 (by decide) (fun c11 => ?_) (fun c11 => ?_)
    · replace hf := (if_neg c11).symm.trans hf
      refine lv_iconst (v := (0 : Int32)) hx hb dX8_burn_25 (by decide) ?_
      exact hJ26 p1 (0 : Int32) S H locs ls hf (lv_sub hl [0, 1] rfl) hh
    · replace hf := (if_pos c11).symm.trans hf
      refine lv_bipush (v := (-3 : Int32)) hx hb dX8_burn_20 (by decide) ?_
      refine lv_goto (tgt := 26) hx hb dX8_burn_22 (by decide) ?_
      exact hJ26 p1 (-3 : Int32) S H locs ls hf (lv_sub hl [0, 1] rfl) hh
  · replace hf := (if_pos c9).symm.trans hf
    refine lv_iconst (v := (-1 : Int32)) hx hb dX8_burn_8 (by decide) ?_
    refine lv_goto (tgt := 26) hx hb dX8_burn_9 (by decide) ?_
    exact hJ26 p1 (-1 : Int32) S H locs ls hf (lv_sub hl [0, 1] rfl) hh
theorem hdX8_hangsOn : yX8_hangsOn.cls ≠ "java/lang/invoke/MethodHandle" ∧ yX8_hangsOn.cls ≠ "java/lang/invoke/VarHandle" ∧ (parseMethodDescriptor yX8_hangsOn.desc).map (fun d => d.parameters.length) = some 1 := by decide +kernel
set_option maxHeartbeats 4000000 in
set_option maxRecDepth 100000 in
theorem kX8_hangsOn (l : Launch) (K : zK) (a0 a1 a2 a3 a4 a5 a6 a7 a8 a9 a10 a11 a12 a13 a14 a15 a16 a17 a18 a19 : Nat) (S : zMd) (p1 : Int32) (R : Int32 × zMd) (hf : fX8_hangsOn S p1 = some R) : zC l yX8_hangsOn wsX8_hangsOn ({ frames := 3, cells := 0, slots := 0, locals := 65 } : Room) K [.ref a0, .int p1] (cMd K a0 a1 a2 a3 a4 a5 a6 a7 a8 a9 a10 a11 a12 a13 a14 a15 a16 a17 a18 a19 S) (some (.int R.1)) (cMd K a0 a1 a2 a3 a4 a5 a6 a7 a8 a9 a10 a11 a12 a13 a14 a15 a16 a17 a18 a19 R.2) := by
  refine zC_i R.1 (cc := cX8_hangsOn) (maxL := 4) (by decide +kernel) rfl (Nat.le_of_ble_eq_true rfl) rfl rfl ?_
  intro p e s m below meth c Q A X hret ls hl hh
  have X : zX p m c cX8_hangsOn 4 s ([.ref a0, .int p1] : List Value).toArray wsX8_hangsOn RX8 K A := X
  have hx := X.1.1
  have hb := X.1.2.1
  have hr2 : ∀ (pc : Nat) (ls : Array Slot) (H : Heap) (locs : List Loc) (v : Int32) (S : zMd), some (v, S) = some R → decode cX8_hangsOn pc = .ok (.ireturn, 1) → zW K A s H locs (cMd K a0 a1 a2 a3 a4 a5 a6 a7 a8 a9 a10 a11 a12 a13 a14 a15 a16 a17 a18 a19 S) → W p l e ({ frames := 3, cells := 0, slots := 0, locals := 65 } : Room) s m ([.ref a0, .int p1] : List Value).toArray below meth c H locs 0 0 Q (F0 m pc ls [.int v]) := by
    intro pc ls H locs v S h hd hh
    cases h; exact hret pc ls H locs _ rfl hd hh
  have hl : lv_has ls 4 [(0, .ref a0), (1, .int p1)] := hl
  unfold fX8_hangsOn at hf
  refine (fun (hmain : ∀ (H : Heap) (locs : List Loc), zW K A s H locs (cMd K a0 a1 a2 a3 a4 a5 a6 a7 a8 a9 a10 a11 a12 a13 a14 a15 a16 a17 a18 a19 S) → W p l e ({ frames := 3, cells := 0, slots := 0, locals := 65 } : Room) s m ([.ref a0, .int p1] : List Value).toArray below meth c H locs 0 0 Q (F0 m 0 ls [])) => hmain s.heap [] hh) (fun H locs hh => ?_)
  refine lv_aload_n hx hb dX8_hangsOn_0 rfl (lv_at hl 0 rfl) ?_
  obtain ⟨u1, hu1, hf⟩ := ob_bind hf
  refine zcallV (ci := 7) (q0 := 0) (As := []) (rest := []) (wr := []) (ws' := cMd K a0 a1 a2 a3 a4 a5 a6 a7 a8 a9 a10 a11 a12 a13 a14 a15 a16 a17 a18 a19 S) (ov := some (.int u1)) X hh hl (kX8_standing l K a0 a1 a2 a3 a4 a5 a6 a7 a8 a9 a10 a11 a12 a13 a14 a15 a16 a17 a18 a19 S u1 hu1) (fun ht => cwV 0 ht gX8_hangsOn_X8_standing rfl rfl rfl ⟨rfl, hdX8_standing⟩ ⟨Nat.le_of_ble_eq_true rfl, Nat.le_of_ble_eq_true rfl⟩) [0, 1, 2, 3, 4, 5, 6, 7, 8, 9, 10, 11, 12, 13, 14, 15, 16, 17, 18, 19] [] [0, 1, 2, 3, 4, 5, 6, 7, 8, 9, 10, 11, 12, 13, 14, 15, 16, 17, 18, 19] rfl rfl rfl rfl (by decide) rfl rfl rfl rfl rfl rfl (Nat.le_of_ble_eq_true rfl) dX8_hangsOn_1 ⟨Nat.zero_le _, Nat.zero_le _⟩ (fun H locs hh => ?_)
  refine lv_istore_n (lv' := [(2, .int u1), (0, .ref a0), (1, .int p1)]) hx hb dX8_hangsOn_4 rfl hl (by decide) rfl (fun ls hl => ?_)
  refine lv_aload_n hx hb dX8_hangsOn_5 rfl (lv_at hl 1 rfl) ?_
  refine lv_iconst (v := (2 : Int32)) hx hb dX8_hangsOn_6 (by decide) ?_
  refine lv_iconst (v := (1 : Int32)) hx hb dX8_hangsOn_7 (by decide) ?_
  obtain ⟨u2, hu2, hf⟩ := ob_bind hf
  refine zcallV (ci := 7) (q0 := 0) (As := [.int (2 : Int32), .int (1 : Int32)]) (rest := []) (wr := []) (ws' := cMd K a0 a1 a2 a3 a4 a5 a6 a7 a8 a9 a10 a11 a12 a13 a14 a15 a16 a17 a18 a19 u2) (ov := none) X hh hl (kX8_passesAll l K a0 a1 a2 a3 a4 a5 a6 a7 a8 a9 a10 a11 a12 a13 a14 a15 a16 a17 a18 a19 S (2 : Int32) (1 : Int32) u2 hu2) (fun ht => cwV 2 ht gX8_hangsOn_X8_passesAll rfl rfl rfl ⟨rfl, hdX8_passesAll⟩ ⟨Nat.le_of_ble_eq_true rfl, Nat.le_of_ble_eq_true rfl⟩) [0, 1, 2, 3, 4, 5, 6, 7, 8, 9, 10, 11, 12, 13, 14, 15, 16, 17, 18, 19] [] [0, 1, 2, 3, 4, 5, 6, 7, 8, 9, 10, 11, 12, 13, 14, 15, 16, 17, 18, 19] rfl rfl rfl rfl (by decide) rfl rfl rfl rfl rfl rfl (Nat.le_of_ble_eq_true rfl) dX8_hangsOn_8 ⟨Nat.zero_le _, Nat.zero_le _⟩ (fun H locs hh => ?_)
  refine lv_aload_n hx hb dX8_hangsOn_11 rfl (lv_at hl 1 rfl) ?_
  refine lv_iload_n hx hb dX8_hangsOn_12 rfl (lv_at hl 2 rfl) ?_
  obtain ⟨u3, hu3, hf⟩ := ob_bind hf
  refine zcallV (ci := 7) (q0 := 0) (As := [.int p1]) (rest := []) (wr := []) (ws' := cMd K a0 a1 a2 a3 a4 a5 a6 a7 a8 a9 a10 a11 a12 a13 a14 a15 a16 a17 a18 a19 u3) (ov := none) X hh hl (kX8_burns l K a0 a1 a2 a3 a4 a5 a6 a7 a8 a9 a10 a11 a12 a13 a14 a15 a16 a17 a18 a19 u2 p1 u3 hu3) (fun ht => cwV 1 ht gX8_hangsOn_X8_burns rfl rfl rfl ⟨rfl, hdX8_burns⟩ ⟨Nat.le_of_ble_eq_true rfl, Nat.le_of_ble_eq_true rfl⟩) [0, 1, 2, 3, 4, 5, 6, 7, 8, 9, 10, 11, 12, 13, 14, 15, 16, 17, 18, 19] [] [0, 1, 2, 3, 4, 5, 6, 7, 8, 9, 10, 11, 12, 13, 14, 15, 16, 17, 18, 19] rfl rfl rfl rfl (by decide) rfl rfl rfl rfl rfl rfl (Nat.le_of_ble_eq_true rfl) dX8_hangsOn_13 ⟨Nat.zero_le _, Nat.zero_le _⟩ (fun H locs hh => ?_)
  refine lv_iload_n hx hb dX8_hangsOn_16 rfl (lv_at hl 0 rfl) ?_
  refine lv_aload_n hx hb dX8_hangsOn_17 rfl (lv_at hl 1 rfl) ?_
  obtain ⟨u4, hu4, hf⟩ := ob_bind hf
  refine zcallV (ci := 7) (q0 := 0) (As := []) (rest := [.int u1]) (wr := []) (ws' := cMd K a0 a1 a2 a3 a4 a5 a6 a7 a8 a9 a10 a11 a12 a13 a14 a15 a16 a17 a18 a19 u3) (ov := some (.int u4)) X hh hl (kX8_standing l K a0 a1 a2 a3 a4 a5 a6 a7 a8 a9 a10 a11 a12 a13 a14 a15 a16 a17 a18 a19 u3 u4 hu4) (fun ht => cwV 0 ht gX8_hangsOn_X8_standing rfl rfl rfl ⟨rfl, hdX8_standing⟩ ⟨Nat.le_of_ble_eq_true rfl, Nat.le_of_ble_eq_true rfl⟩) [0, 1, 2, 3, 4, 5, 6, 7, 8, 9, 10, 11, 12, 13, 14, 15, 16, 17, 18, 19] [] [0, 1, 2, 3, 4, 5, 6, 7, 8, 9, 10, 11, 12, 13, 14, 15, 16, 17, 18, 19] rfl rfl rfl rfl (by decide) rfl rfl rfl rfl rfl rfl (Nat.le_of_ble_eq_true rfl) dX8_hangsOn_18 ⟨Nat.zero_le _, Nat.zero_le _⟩ (fun H locs hh => ?_)
  refine lv_iconst (v := (-1 : Int32)) hx hb dX8_hangsOn_21 (by decide) ?_
  refine lv_ixor hx hb dX8_hangsOn_22 ?_
  refine lv_iand hx hb dX8_hangsOn_23 ?_
  refine lv_istore_n (lv' := [(3, .int (u1 &&& (u4 ^^^ (-1 : Int32)))), (2, .int u1), (0, .ref a0), (1, .int p1)]) hx hb dX8_hangsOn_24 rfl hl (by decide) rfl (fun ls hl => ?_)
  refine lv_aload_n hx hb dX8_hangsOn_25 rfl (lv_at hl 2 rfl) ?_
  refine lv_iconst (v := (2 : Int32)) hx hb dX8_hangsOn_26 (by decide) ?_
  refine lv_iconst (v := (0 : Int32)) hx hb dX8_hangsOn_27 (by decide) ?_
  obtain ⟨u5, hu5, hf⟩ := ob_bind hf
  refine zcallV (ci := 7) (q0 := 0) (As := [.int (2 : Int32), .int (0 : Int32)]) (rest := []) (wr := []) (ws' := cMd K a0 a1 a2 a3 a4 a5 a6 a7 a8 a9 a10 a11 a12 a13 a14 a15 a16 a17 a18 a19 u5) (ov := none) X hh hl (kX8_passesAll l K a0 a1 a2 a3 a4 a5 a6 a7 a8 a9 a10 a11 a12 a13 a14 a15 a16 a17 a18 a19 u3 (2 : Int32) (0 : Int32) u5 hu5) (fun ht => cwV 2 ht gX8_hangsOn_X8_passesAll rfl rfl rfl ⟨rfl, hdX8_passesAll⟩ ⟨Nat.le_of_ble_eq_true rfl, Nat.le_of_ble_eq_true rfl⟩) [0, 1, 2, 3, 4, 5, 6, 7, 8, 9, 10, 11, 12, 13, 14, 15, 16, 17, 18, 19] [] [0, 1, 2, 3, 4, 5, 6, 7, 8, 9, 10, 11, 12, 13, 14, 15, 16, 17, 18, 19] rfl rfl rfl rfl (by decide) rfl rfl rfl rfl rfl rfl (Nat.le_of_ble_eq_true rfl) dX8_hangsOn_28 ⟨Nat.zero_le _, Nat.zero_le _⟩ (fun H locs hh => ?_)
  refine lv_iload_n hx hb dX8_hangsOn_31 rfl (lv_at hl 0 rfl) ?_
  exact hr2 32 ls H locs (u1 &&& (u4 ^^^ (-1 : Int32))) u5 hf dX8_hangsOn_32 hh
theorem hdX8_hangs : yX8_hangs.cls ≠ "java/lang/invoke/MethodHandle" ∧ yX8_hangs.cls ≠ "java/lang/invoke/VarHandle" ∧ (parseMethodDescriptor yX8_hangs.desc).map (fun d => d.parameters.length) = some 1 := by decide +kernel
set_option maxHeartbeats 4000000 in
set_option maxRecDepth 100000 in
theorem kX8_hangs (l : Launch) (K : zK) (a0 a1 a2 a3 a4 a5 a6 a7 a8 a9 a10 a11 a12 a13 a14 a15 a16 a17 a18 a19 : Nat) (S : zMd) (p1 : Int32) (R : Int32 × zMd) (hf : fX8_hangs S p1 = some R) : zC l yX8_hangs wsX8_hangs ({ frames := 4, cells := 0, slots := 0, locals := 88 } : Room) K [.ref a0, .int p1] (cMd K a0 a1 a2 a3 a4 a5 a6 a7 a8 a9 a10 a11 a12 a13 a14 a15 a16 a17 a18 a19 S) (some (.int R.1)) (cMd K a0 a1 a2 a3 a4 a5 a6 a7 a8 a9 a10 a11 a12 a13 a14 a15 a16 a17 a18 a19 R.2) := by
  refine zC_i R.1 (cc := cX8_hangs) (maxL := 3) (by decide +kernel) rfl (Nat.le_of_ble_eq_true rfl) rfl rfl ?_
  intro p e s m below meth c Q A X hret ls hl hh
  have X : zX p m c cX8_hangs 3 s ([.ref a0, .int p1] : List Value).toArray wsX8_hangs RX8 K A := X
  have hx := X.1.1
  have hb := X.1.2.1
  have hr2 : ∀ (pc : Nat) (ls : Array Slot) (H : Heap) (locs : List Loc) (v : Int32) (S : zMd), some (v, S) = some R → decode cX8_hangs pc = .ok (.ireturn, 1) → zW K A s H locs (cMd K a0 a1 a2 a3 a4 a5 a6 a7 a8 a9 a10 a11 a12 a13 a14 a15 a16 a17 a18 a19 S) → W p l e ({ frames := 4, cells := 0, slots := 0, locals := 88 } : Room) s m ([.ref a0, .int p1] : List Value).toArray below meth c H locs 0 0 Q (F0 m pc ls [.int v]) := by
    intro pc ls H locs v S h hd hh
    cases h; exact hret pc ls H locs _ rfl hd hh
  have hl : lv_has ls 3 [(0, .ref a0), (1, .int p1)] := hl
  have hJ26 : ∀ (v1 : Int32) (t0 : Int32) (S : zMd), ∀ (H : Heap) (locs : List Loc) (ls : Array Slot), fX8_hangs_j26 v1 t0 S = some R → lv_has ls 3 [(0, .ref a0), (1, .int v1)] → zW K A s H locs (cMd K a0 a1 a2 a3 a4 a5 a6 a7 a8 a9 a10 a11 a12 a13 a14 a15 a16 a17 a18 a19 S) → W p l e ({ frames := 4, cells := 0, slots := 0, locals := 88 } : Room) s m ([.ref a0, .int p1] : List Value).toArray below meth c H locs 0 0 Q (F0 m 26 ls [.int t0]) := by
    intro v1 t0 S H locs ls hf hl hh
    unfold fX8_hangs_j26 at hf
    refine lv_istore_n (lv' := [(2, .int t0), (0, .ref a0), (1, .int v1)]) hx hb dX8_hangs_26 rfl hl (by decide) rfl (fun ls hl => ?_)
    refine lv_iload_n hx hb dX8_hangs_27 rfl (lv_at hl 0 rfl) ?_
    refine lv_if_eq (tgt := 39) hx hb dX8_hangs_28 (by decide) (fun c1 => ?_) (fun c1 => ?_)
    · replace hf := (if_pos c1).symm.trans hf
      refine lv_aload_n hx hb dX8_hangs_39 rfl (lv_at hl 1 rfl) ?_
      refine lv_iload_n hx hb dX8_hangs_40 rfl (lv_at hl 2 rfl) ?_
      obtain ⟨u2, hu2, hf⟩ := ob_bind hf
      refine zcallV (ci := 7) (q0 := 0) (As := [.int v1]) (rest := []) (wr := []) (ws' := cMd K a0 a1 a2 a3 a4 a5 a6 a7 a8 a9 a10 a11 a12 a13 a14 a15 a16 a17 a18 a19 u2.2) (ov := some (.int u2.1)) X hh hl (kX8_hangsOn l K a0 a1 a2 a3 a4 a5 a6 a7 a8 a9 a10 a11 a12 a13 a14 a15 a16 a17 a18 a19 S v1 u2 hu2) (fun ht => cwV 1 ht gX8_hangs_X8_hangsOn rfl rfl rfl ⟨rfl, hdX8_hangsOn⟩ ⟨Nat.le_of_ble_eq_true rfl, Nat.le_of_ble_eq_true rfl⟩) [0, 1, 2, 3, 4, 5, 6, 7, 8, 9, 10, 11, 12, 13, 14, 15, 16, 17, 18, 19] [] [0, 1, 2, 3, 4, 5, 6, 7, 8, 9, 10, 11, 12, 13, 14, 15, 16, 17, 18, 19] rfl rfl rfl rfl (by decide) rfl rfl rfl rfl rfl rfl (Nat.le_of_ble_eq_true rfl) dX8_hangs_41 ⟨Nat.zero_le _, Nat.zero_le _⟩ (fun H locs hh => ?_)
      exact hr2 44 ls H locs u2.1 u2.2 hf dX8_hangs_44 hh
    · replace hf := (if_neg c1).symm.trans hf
      refine lv_aload_n hx hb dX8_hangs_31 rfl (lv_at hl 1 rfl) ?_
      refine lv_iload_n hx hb dX8_hangs_32 rfl (lv_at hl 0 rfl) ?_
      obtain ⟨u3, hu3, hf⟩ := ob_bind hf
      refine zcallV (ci := 7) (q0 := 0) (As := [.int t0]) (rest := []) (wr := []) (ws' := cMd K a0 a1 a2 a3 a4 a5 a6 a7 a8 a9 a10 a11 a12 a13 a14 a15 a16 a17 a18 a19 u3.2) (ov := some (.int u3.1)) X hh hl (kX8_no l K a0 a1 a2 a3 a4 a5 a6 a7 a8 a9 a10 a11 a12 a13 a14 a15 a16 a17 a18 a19 S t0 u3 hu3) (fun ht => cwV 1 ht gX8_hangs_X8_no rfl rfl rfl ⟨rfl, hdX8_no⟩ ⟨Nat.le_of_ble_eq_true rfl, Nat.le_of_ble_eq_true rfl⟩) [0, 1, 2, 3, 4, 5, 6, 7, 8, 9, 10, 11, 12, 13, 14, 15, 16, 17, 18, 19] [] [0, 1, 2, 3, 4, 5, 6, 7, 8, 9, 10, 11, 12, 13, 14, 15, 16, 17, 18, 19] rfl rfl rfl rfl (by decide) rfl rfl rfl rfl rfl rfl (Nat.le_of_ble_eq_true rfl) dX8_hangs_33 ⟨Nat.zero_le _, Nat.zero_le _⟩ (fun H locs hh => ?_)
      refine lv_goto (tgt := 44) hx hb dX8_hangs_36 (by decide) ?_
      exact hr2 44 ls H locs u3.1 u3.2 hf dX8_hangs_44 hh
  unfold fX8_hangs at hf
  refine (fun (hmain : ∀ (H : Heap) (locs : List Loc), zW K A s H locs (cMd K a0 a1 a2 a3 a4 a5 a6 a7 a8 a9 a10 a11 a12 a13 a14 a15 a16 a17 a18 a19 S) → W p l e ({ frames := 4, cells := 0, slots := 0, locals := 88 } : Room) s m ([.ref a0, .int p1] : List Value).toArray below meth c H locs 0 0 Q (F0 m 0 ls [])) => hmain s.heap [] hh) (fun H locs hh => ?_)
  refine lv_aload_n hx hb dX8_hangs_0 rfl (lv_at hl 0 rfl) ?_
  refine lv_iload_n hx hb dX8_hangs_1 rfl (lv_at hl 1 rfl) ?_
  obtain ⟨u4, hu4, hf⟩ := ob_bind hf
  refine zcallV (ci := 7) (q0 := 0) (As := [.int p1]) (rest := []) (wr := []) (ws' := cMd K a0 a1 a2 a3 a4 a5 a6 a7 a8 a9 a10 a11 a12 a13 a14 a15 a16 a17 a18 a19 S) (ov := some (.int u4)) X hh hl (kX8_isHouse l K a0 a1 a2 a3 a4 a5 a6 a7 a8 a9 a10 a11 a12 a13 a14 a15 a16 a17 a18 a19 S p1 u4 hu4) (fun ht => cwV 1 ht gX8_hangs_X8_isHouse rfl rfl rfl ⟨rfl, hdX8_isHouse⟩ ⟨Nat.le_of_ble_eq_true rfl, Nat.le_of_ble_eq_true rfl⟩) [0, 1, 2, 3, 4, 5, 6, 7, 8, 9, 10, 11, 12, 13, 14, 15, 16, 17, 18, 19] [] [0, 1, 2, 3, 4, 5, 6, 7, 8, 9, 10, 11, 12, 13, 14, 15, 16, 17, 18, 19] rfl rfl rfl rfl (by decide) rfl rfl rfl rfl rfl rfl (Nat.le_of_ble_eq_true rfl) dX8_hangs_2 ⟨Nat.zero_le _, Nat.zero_le _⟩ (fun H locs hh => ?_)
  refine lv_if_ne (tgt := 12) hx hb dX8_hangs_5 (by decide) (fun c5 => ?_) (fun c5 => ?_)
  · replace hf := (if_neg c5).symm.trans hf
    refine lv_aload_n hx hb dX8_hangs_12 rfl (lv_at hl 0 rfl) ?_
    refine lv_iload_n hx hb dX8_hangs_13 rfl (lv_at hl 1 rfl) ?_
    obtain ⟨u6, hu6, hf⟩ := ob_bind hf
    refine zcallV (ci := 7) (q0 := 0) (As := [.int p1]) (rest := []) (wr := []) (ws' := cMd K a0 a1 a2 a3 a4 a5 a6 a7 a8 a9 a10 a11 a12 a13 a14 a15 a16 a17 a18 a19 S) (ov := some (.int u6)) X hh hl (kX8_doesStand l K a0 a1 a2 a3 a4 a5 a6 a7 a8 a9 a10 a11 a12 a13 a14 a15 a16 a17 a18 a19 S p1 u6 hu6) (fun ht => cwV 1 ht gX8_hangs_X8_doesStand rfl rfl rfl ⟨rfl, hdX8_doesStand⟩ ⟨Nat.le_of_ble_eq_true rfl, Nat.le_of_ble_eq_true rfl⟩) [0, 1, 2, 3, 4, 5, 6, 7, 8, 9, 10, 11, 12, 13, 14, 15, 16, 17, 18, 19] [] [0, 1, 2, 3, 4, 5, 6, 7, 8, 9, 10, 11, 12, 13, 14, 15, 16, 17, 18, 19] rfl rfl rfl rfl (by decide) rfl rfl rfl rfl rfl rfl (Nat.le_of_ble_eq_true rfl) dX8_hangs_14 ⟨Nat.zero_le _, Nat.zero_le _⟩ (fun H locs hh => ?_)
    refine lv_if_ne (tgt := 25) hx hb dX8_hangs_17 (by decide) (fun c7 => ?_) (fun c7 => ?_)
    · replace hf := (if_neg c7).symm.trans hf
      refine lv_iconst (v := (0 : Int32)) hx hb dX8_hangs_25 (by decide) ?_
      exact hJ26 p1 (0 : Int32) S H locs ls hf (lv_sub hl [0, 1] rfl) hh
    · replace hf := (if_pos c7).symm.trans hf
      refine lv_bipush (v := (-3 : Int32)) hx hb dX8_hangs_20 (by decide) ?_
      refine lv_goto (tgt := 26) hx hb dX8_hangs_22 (by decide) ?_
      exact hJ26 p1 (-3 : Int32) S H locs ls hf (lv_sub hl [0, 1] rfl) hh
  · replace hf := (if_pos c5).symm.trans hf
    refine lv_iconst (v := (-1 : Int32)) hx hb dX8_hangs_8 (by decide) ?_
    refine lv_goto (tgt := 26) hx hb dX8_hangs_9 (by decide) ?_
    exact hJ26 p1 (-1 : Int32) S H locs ls hf (lv_sub hl [0, 1] rfl) hh
theorem inX8_save_X8 : ∀ w ∈ wsX80, w ∈ wsX8_save := by decide +kernel
theorem mmX8_save_0 : Cond.fieldLink RX8 70 "SumOfTwoThatStandModel" "houses" "I" ∈ wsX8_save := by decide +kernel
theorem mmX8_save_1 : Cond.fieldLink RX8 28 "SumOfTwoThatStandModel" "stands" "[I" ∈ wsX8_save := by decide +kernel
theorem hdX8_save : yX8_save.cls ≠ "java/lang/invoke/MethodHandle" ∧ yX8_save.cls ≠ "java/lang/invoke/VarHandle" ∧ (parseMethodDescriptor yX8_save.desc).map (fun d => d.parameters.length) = some 0 := by decide +kernel
set_option maxHeartbeats 4000000 in
set_option maxRecDepth 100000 in
theorem kX8_save (l : Launch) (K : zK) (a0 a1 a2 a3 a4 a5 a6 a7 a8 a9 a10 a11 a12 a13 a14 a15 a16 a17 a18 a19 : Nat) (S : zMd) (R : Int32 × zMd) (hf : fX8_save S = some R) : zC l yX8_save wsX8_save ({ frames := 4, cells := 0, slots := 0, locals := 88 } : Room) K [.ref a0] (cMd K a0 a1 a2 a3 a4 a5 a6 a7 a8 a9 a10 a11 a12 a13 a14 a15 a16 a17 a18 a19 S) (some (.int R.1)) (cMd K a0 a1 a2 a3 a4 a5 a6 a7 a8 a9 a10 a11 a12 a13 a14 a15 a16 a17 a18 a19 R.2) := by
  refine zC_i R.1 (cc := cX8_save) (maxL := 5) (by decide +kernel) rfl (Nat.le_of_ble_eq_true rfl) rfl rfl ?_
  intro p e s m below meth c Q A X hret ls hl hh
  have X : zX p m c cX8_save 5 s ([.ref a0] : List Value).toArray wsX8_save RX8 K A := X
  have hx := X.1.1
  have hb := X.1.2.1
  have hr2 : ∀ (pc : Nat) (ls : Array Slot) (H : Heap) (locs : List Loc) (v : Int32) (S : zMd), some (v, S) = some R → decode cX8_save pc = .ok (.ireturn, 1) → zW K A s H locs (cMd K a0 a1 a2 a3 a4 a5 a6 a7 a8 a9 a10 a11 a12 a13 a14 a15 a16 a17 a18 a19 S) → W p l e ({ frames := 4, cells := 0, slots := 0, locals := 88 } : Room) s m ([.ref a0] : List Value).toArray below meth c H locs 0 0 Q (F0 m pc ls [.int v]) := by
    intro pc ls H locs v S h hd hh
    cases h; exact hret pc ls H locs _ rfl hd hh
  have hl : lv_has ls 5 [(0, .ref a0)] := hl
  have hJ37 : ∀ (v1 : Int32) (v2 : Int32) (v3 : Int32) (t0 : Int32) (S : zMd) (k7 : (Int32) → (Int32) → (Int32) → (zMd) → Option (Int32 × zMd)), (∀ (v1 : Int32) (v2 : Int32) (v3 : Int32) (S : zMd) (H : Heap) (locs : List Loc) (ls : Array Slot), k7 v1 v2 v3 S = some R → lv_has ls 5 [(0, .ref a0), (1, .int v1), (2, .int v2), (3, .int v3)] → zW K A s H locs (cMd K a0 a1 a2 a3 a4 a5 a6 a7 a8 a9 a10 a11 a12 a13 a14 a15 a16 a17 a18 a19 S) → W p l e ({ frames := 4, cells := 0, slots := 0, locals := 88 } : Room) s m ([.ref a0] : List Value).toArray below meth c H locs 0 0 Q (F0 m 7 ls [])) → ∀ (H : Heap) (locs : List Loc) (ls : Array Slot), fX8_save_j37 v1 v2 v3 t0 S k7 = some R → lv_has ls 5 [(0, .ref a0), (1, .int v1), (2, .int v2), (3, .int v3)] → zW K A s H locs (cMd K a0 a1 a2 a3 a4 a5 a6 a7 a8 a9 a10 a11 a12 a13 a14 a15 a16 a17 a18 a19 S) → W p l e ({ frames := 4, cells := 0, slots := 0, locals := 88 } : Room) s m ([.ref a0] : List Value).toArray below meth c H locs 0 0 Q (F0 m 37 ls [.int t0]) := by
    intro v1 v2 v3 t0 S k7 hk7 H locs ls hf hl hh
    unfold fX8_save_j37 at hf
    refine lv_istore (lv' := [(4, .int t0), (0, .ref a0), (1, .int v1), (2, .int v2), (3, .int v3)]) hx hb dX8_save_37 hl (by decide) rfl (fun ls hl => ?_)
    refine lv_iload hx hb dX8_save_39 (lv_at hl 0 rfl) ?_
    refine lv_iload_n hx hb dX8_save_41 rfl (lv_at hl 3 rfl) ?_
    refine lv_icmp_gt (tgt := 48) hx hb dX8_save_42 (by decide) (fun c1 => ?_) (fun c1 => ?_)
    · replace hf := (if_pos c1).symm.trans hf
      refine lv_iload_n hx hb dX8_save_48 rfl (lv_at hl 4 rfl) ?_
      refine lv_istore_n (lv' := [(1, .int v3), (4, .int t0), (0, .ref a0), (2, .int v2), (3, .int v3)]) hx hb dX8_save_49 rfl hl (by decide) rfl (fun ls hl => ?_)
      refine lv_iload hx hb dX8_save_50 (lv_at hl 1 rfl) ?_
      refine lv_istore_n (lv' := [(2, .int t0), (1, .int v3), (4, .int t0), (0, .ref a0), (3, .int v3)]) hx hb dX8_save_52 rfl hl (by decide) rfl (fun ls hl => ?_)
      refine lv_iinc (v := (v3 + (1 : Int32))) (lv' := [(3, .int (v3 + (1 : Int32))), (2, .int t0), (1, .int v3), (4, .int t0), (0, .ref a0)]) hx hb dX8_save_53 hl (k := 4) rfl rfl (by decide) rfl (fun ls hl => ?_)
      refine lv_goto (tgt := 7) hx hb dX8_save_56 (by decide) ?_
      exact hk7 v3 t0 (v3 + (1 : Int32)) S H locs ls hf (lv_sub hl [4, 2, 1, 0] rfl) hh
    · replace hf := (if_neg c1).symm.trans hf
      refine lv_goto (tgt := 53) hx hb dX8_save_45 (by decide) ?_
      refine lv_iinc (v := (v3 + (1 : Int32))) (lv' := [(3, .int (v3 + (1 : Int32))), (4, .int t0), (0, .ref a0), (1, .int v1), (2, .int v2)]) hx hb dX8_save_53 hl (k := 4) rfl rfl (by decide) rfl (fun ls hl => ?_)
      refine lv_goto (tgt := 7) hx hb dX8_save_56 (by decide) ?_
      exact hk7 v1 v2 (v3 + (1 : Int32)) S H locs ls hf (lv_sub hl [2, 3, 4, 0] rfl) hh
  have hL7 : ∀ (n : Nat) (v1 : Int32) (v2 : Int32) (v3 : Int32) (S : zMd), ∀ (H : Heap) (locs : List Loc) (ls : Array Slot), fX8_save_l7 n v1 v2 v3 S = some R → lv_has ls 5 [(0, .ref a0), (1, .int v1), (2, .int v2), (3, .int v3)] → zW K A s H locs (cMd K a0 a1 a2 a3 a4 a5 a6 a7 a8 a9 a10 a11 a12 a13 a14 a15 a16 a17 a18 a19 S) → W p l e ({ frames := 4, cells := 0, slots := 0, locals := 88 } : Room) s m ([.ref a0] : List Value).toArray below meth c H locs 0 0 Q (F0 m 7 ls []) := by
    intro n
    induction n with
    | zero =>
      intro v1 v2 v3 S H locs ls hf hl hh
      rw [fX8_save_l7] at hf; cases hf
    | succ n ih =>
      intro v1 v2 v3 S H locs ls hf hl hh
      rw [fX8_save_l7] at hf
      refine lv_iload_n hx hb dX8_save_7 rfl (lv_at hl 3 rfl) ?_
      refine lv_aload_n hx hb dX8_save_8 rfl (lv_at hl 0 rfl) ?_
      refine zget (v := .int (md_houses S)) (ref := "SumOfTwoThatStandModel") (C := RX8) (T := TX8) (N := 33) (index := 70) X hh inX8_save_X8 0 rfl rfl 9 (by decide) mmX8_save_0 rfl rfl dX8_save_9 ?_
      refine lv_icmp_ge (tgt := 59) hx hb dX8_save_12 (by decide) (fun c2 => ?_) (fun c2 => ?_)
      · replace hf := (if_pos c2).symm.trans hf
        refine lv_iload_n hx hb dX8_save_59 rfl (lv_at hl 1 rfl) ?_
        exact hr2 60 ls H locs v1 S hf dX8_save_60 hh
      · replace hf := (if_neg c2).symm.trans hf
        refine lv_aload_n hx hb dX8_save_15 rfl (lv_at hl 0 rfl) ?_
        refine zget (v := .ref a7) (ref := "SumOfTwoThatStandModel") (C := RX8) (T := TX8) (N := 33) (index := 28) X hh inX8_save_X8 0 rfl rfl 6 (by decide) mmX8_save_1 rfl rfl dX8_save_16 ?_
        refine lv_iload_n hx hb dX8_save_19 rfl (lv_at hl 3 rfl) ?_
        obtain ⟨g3, hf⟩ := ob_ix hf
        refine ziald (f := (md_stands S)) X hh 7 rfl g3 dX8_save_20 ?_
        refine lv_iconst (v := (1 : Int32)) hx hb dX8_save_21 (by decide) ?_
        refine lv_icmp_ne (tgt := 36) hx hb dX8_save_22 (by decide) (fun c4 => ?_) (fun c4 => ?_)
        · replace hf := (if_neg c4).symm.trans hf
          refine lv_iconst (v := (0 : Int32)) hx hb dX8_save_36 (by decide) ?_
          exact hJ37 v1 v2 v3 (0 : Int32) S (fX8_save_l7  n) (ih) H locs ls hf (lv_sub hl [0, 1, 2, 3] rfl) hh
        · replace hf := (if_pos c4).symm.trans hf
          refine lv_aload_n hx hb dX8_save_25 rfl (lv_at hl 0 rfl) ?_
          refine lv_iload_n hx hb dX8_save_26 rfl (lv_at hl 3 rfl) ?_
          obtain ⟨u5, hu5, hf⟩ := ob_bind hf
          refine zcallV (ci := 7) (q0 := 0) (As := [.int v3]) (rest := []) (wr := []) (ws' := cMd K a0 a1 a2 a3 a4 a5 a6 a7 a8 a9 a10 a11 a12 a13 a14 a15 a16 a17 a18 a19 u5.2) (ov := some (.int u5.1)) X hh hl (kX8_hangsOn l K a0 a1 a2 a3 a4 a5 a6 a7 a8 a9 a10 a11 a12 a13 a14 a15 a16 a17 a18 a19 S v3 u5 hu5) (fun ht => cwV 1 ht gX8_save_X8_hangsOn rfl rfl rfl ⟨rfl, hdX8_hangsOn⟩ ⟨Nat.le_of_ble_eq_true rfl, Nat.le_of_ble_eq_true rfl⟩) [0, 1, 2, 3, 4, 5, 6, 7, 8, 9, 10, 11, 12, 13, 14, 15, 16, 17, 18, 19] [] [0, 1, 2, 3, 4, 5, 6, 7, 8, 9, 10, 11, 12, 13, 14, 15, 16, 17, 18, 19] rfl rfl rfl rfl (by decide) rfl rfl rfl rfl rfl rfl (Nat.le_of_ble_eq_true rfl) dX8_save_27 ⟨Nat.zero_le _, Nat.zero_le _⟩ (fun H locs hh => ?_)
          obtain ⟨u6, hu6, hf⟩ := ob_bind hf
          refine zcallS (As := [.int u5.1]) (rest := []) (wr := cMd K a0 a1 a2 a3 a4 a5 a6 a7 a8 a9 a10 a11 a12 a13 a14 a15 a16 a17 a18 a19 u5.2) (ws' := cMd K a0 a1 a2 a3 a4 a5 a6 a7 a8 a9 a10 a11 a12 a13 a14 a15 a16 a17 a18 a19 u5.2) (ov := some (.int u6)) X hh hl (kX8_bits l K u5.1 u6 hu6) (fun ht => va_cwS 1 ht gX8_save_X8_bits rfl rfl rfl hdX8_bits ⟨Nat.le_of_ble_eq_true rfl, Nat.le_of_ble_eq_true rfl⟩) [] [0, 1, 2, 3, 4, 5, 6, 7, 8, 9, 10, 11, 12, 13, 14, 15, 16, 17, 18, 19] [0, 1, 2, 3, 4, 5, 6, 7, 8, 9, 10, 11, 12, 13, 14, 15, 16, 17, 18, 19] rfl rfl rfl rfl (by decide) rfl rfl rfl rfl (Nat.le_of_ble_eq_true rfl) dX8_save_30 ⟨Nat.zero_le _, Nat.zero_le _⟩ (fun H locs hh => ?_)
          refine lv_goto (tgt := 37) hx hb dX8_save_33 (by decide) ?_
          exact hJ37 v1 v2 v3 u6 u5.2 (fX8_save_l7  n) (ih) H locs ls hf (lv_sub hl [0, 1, 2, 3] rfl) hh
  unfold fX8_save at hf
  refine (fun (hmain : ∀ (H : Heap) (locs : List Loc), zW K A s H locs (cMd K a0 a1 a2 a3 a4 a5 a6 a7 a8 a9 a10 a11 a12 a13 a14 a15 a16 a17 a18 a19 S) → W p l e ({ frames := 4, cells := 0, slots := 0, locals := 88 } : Room) s m ([.ref a0] : List Value).toArray below meth c H locs 0 0 Q (F0 m 0 ls [])) => hmain s.heap [] hh) (fun H locs hh => ?_)
  refine lv_bipush (v := (-9 : Int32)) hx hb dX8_save_0 (by decide) ?_
  refine lv_istore_n (lv' := [(1, .int (-9 : Int32)), (0, .ref a0)]) hx hb dX8_save_2 rfl hl (by decide) rfl (fun ls hl => ?_)
  refine lv_iconst (v := (0 : Int32)) hx hb dX8_save_3 (by decide) ?_
  refine lv_istore_n (lv' := [(2, .int (0 : Int32)), (1, .int (-9 : Int32)), (0, .ref a0)]) hx hb dX8_save_4 rfl hl (by decide) rfl (fun ls hl => ?_)
  refine lv_iconst (v := (0 : Int32)) hx hb dX8_save_5 (by decide) ?_
  refine lv_istore_n (lv' := [(3, .int (0 : Int32)), (2, .int (0 : Int32)), (1, .int (-9 : Int32)), (0, .ref a0)]) hx hb dX8_save_6 rfl hl (by decide) rfl (fun ls hl => ?_)
  exact hL7 FU (-9 : Int32) (0 : Int32) (0 : Int32) S H locs ls hf (lv_sub hl [3, 2, 1, 0] rfl) hh
