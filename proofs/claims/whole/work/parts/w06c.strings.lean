/-! text constants: what String's methods answer over them -/
theorem zC_s {l : Launch} {y : MethodName} {ws ws' : List Cond} {rm : Room} {K : zK} {av : List Value} {w w' : va_W} {cc : ByteArray} {maxL : Nat} (r : Nat) (hy : plainName y.cls = true) (hw : ws = Cond.code y cc maxL (some (.object "java/lang/String")) :: ws') (hle : (lg_sl av).length ≤ maxL) (hc : rm.cells = 0) (hs : rm.slots = 0)
    (body : ∀ (p : Program) (e : Env) (s : State) (m : MethodId) (below : List Frame) (meth : Method) (c : Code) (Q : State → Prop) (A : Nat → Prop), zX p m c cc maxL s av.toArray ws y.cls K A →
      (∀ (pc : Nat) (ls : Array Slot) (H : Heap) (locs : List Loc) (v : Nat), v = r → decode cc pc = .ok (.areturn, 1) → zW K A s H locs w' → W p l e rm s m av.toArray below meth c H locs 0 0 Q (F0 m pc ls [.ref (K.2.2.1 v)])) →
      ∀ ls, lv_has ls maxL (lv_args 0 av) → zW K A s s.heap [] w → W p l e rm s m av.toArray below meth c s.heap [] 0 0 Q (F0 m 0 ls [])) :
    zC l y ws rm K av w (some (.ref (K.2.2.1 r))) w' := by
  intro sz
  refine Met.ofW (cc := cc) (maxL := maxL) (ret := some (.object "java/lang/String")) hy hw ?_
  intro p e s m args below meth c s₁ B hml hv
  obtain ⟨rfl, hsz, hP, hK, hD0, hE⟩ := hv
  subst hsz
  have hD := hD0.self (sz := s.heap.size)
  have hA : ∀ q : Nat, s.heap.size ≤ q → va_A w s.heap.size q := fun q h => Or.inr h
  have hl := lv_entry av (n := maxL) hle
  rw [lg_entry_eq]
  refine body p e s m below meth c _ (va_A w s.heap.size) ⟨⟨B.exec, B.bytes, hml, findClass_of_methodNamed B.named, atoms_spec (ws := ws) B.pre⟩, hK, hA, hE⟩ ?_ _ hl ⟨hP, hD, va_S.rf⟩
  intro pc ls H locs v hv hd hh
  subst hv
  obtain ⟨h1, h2, h3⟩ := hh
  exact W.aret (v := .ref (K.2.2.1 v)) B.exec B.bytes B.returns (Or.inl ⟨_, rfl⟩) (Or.inr ⟨_, rfl⟩) (fun t ht hW => ⟨rfl, ⟨by rw [ht]; exact h1, va_K.moved hW.alike hK, h2⟩, h3.F ht⟩) h3.2.2 hd (hlocks := B.notSynchronized)
/-- a call on a text constant -/
theorem zcallK {p : Program} {l : Launch} {e : Env} {R : Room} {s : State} {m : MethodId} {args : Array Value} {below : List Frame} {meth : Method} {c : Code} {H : Heap} {locs : List Loc} {cells slots : Nat} {Q : State → Prop} {cc : ByteArray} {nL : Nat} {Ts : List Cond} {own : String} {K : zK} {A : Nat → Prop} {wr ws ws' : va_W} {i : Nat} {y : MethodName} {bytes : ByteArray} {maxL n index pc : Nat} {ret : Option FieldType} {wl : List Cond} {rm : Room} {As rest : List Value} {ls : Array Slot} {st0 : List Value} {ov : Option Value} {lv : List (Nat × Value)}
    (X : zX p m c cc nL s args Ts own K A) (hh : zW K A s H locs ws) (hl : lv_has ls nL lv) (hi : i < 5) (hM : zC l y wl rm K (.ref (K.2.2.1 i) :: As) [] ov []) (cw : ∀ ht : ∀ w ∈ Ts, w.before args s = true, CallW R s args own RJ0 index y bytes maxL ret wl rm 0 0 n)
    (isC isR pm : List Nat) (hC : isC.map (fun i => ws[i]?) = ([] : va_W).map some) (hR : isR.map (fun i => ws[i]?) = wr.map some) (hnC : va_nd isC = true) (hn : va_nd isR = true) (hdis : ∀ i ∈ isR, i ∉ isC) (hpm : va_nd pm = true) (hnew : pm.map (fun i => (wr ++ [])[i]?) = ws'.map some)
    (hlen : As.length = n) (hstack : st0 = As.reverse ++ .ref (K.2.2.1 i) :: rest) (hroom : (rest.map fun v => v.category).sum ≤ 8) (hdg : decode cc pc = .ok (.invokevirtual index, 3)) (hf : cells ≤ R.cells ∧ slots ≤ R.slots)
    (kk : ∀ (H1 : Heap) (locs1 : List Loc), zW K A s H1 locs1 ws' → W p l e R s m args below meth c H1 locs1 cells slots Q (F0 m (pc + 3) ls (ov.toList ++ rest))) : W p l e R s m args below meth c H locs cells slots Q (F0 m pc ls st0) :=
  zJoin X hh isC isR pm hC hR hn hdis hpm hnew (va_runV X.1 (hM H.size) (cw X.1.2.2.2.2) ⟨zPc_blind _ _ _ _, vk_recv X.2.2.2.1 hi hh.2.2, zPre X hh isC hC hnC⟩ rfl hlen hl.1 hstack (lv_room hroom) hdg hf) kk
theorem hdJ0_isEmpty_aae02 : yJ0_isEmpty_aae02.cls ≠ "java/lang/invoke/MethodHandle" ∧ yJ0_isEmpty_aae02.cls ≠ "java/lang/invoke/VarHandle" ∧ (parseMethodDescriptor yJ0_isEmpty_aae02.desc).map (fun d => d.parameters.length) = some 0 := by decide +kernel
theorem hdJ0_length_8abf5 : yJ0_length_8abf5.cls ≠ "java/lang/invoke/MethodHandle" ∧ yJ0_length_8abf5.cls ≠ "java/lang/invoke/VarHandle" ∧ (parseMethodDescriptor yJ0_length_8abf5.desc).map (fun d => d.parameters.length) = some 0 := by decide +kernel
theorem hdJ0_charAt_5068e : yJ0_charAt_5068e.cls ≠ "java/lang/invoke/MethodHandle" ∧ yJ0_charAt_5068e.cls ≠ "java/lang/invoke/VarHandle" ∧ (parseMethodDescriptor yJ0_charAt_5068e.desc).map (fun d => d.parameters.length) = some 1 := by decide +kernel
theorem hdJ0_coder_7d493 : yJ0_coder_7d493.cls ≠ "java/lang/invoke/MethodHandle" ∧ yJ0_coder_7d493.cls ≠ "java/lang/invoke/VarHandle" ∧ (parseMethodDescriptor yJ0_coder_7d493.desc).map (fun d => d.parameters.length) = some 0 := by decide +kernel
theorem hdJ0_isLatin1_aae02 : yJ0_isLatin1_aae02.cls ≠ "java/lang/invoke/MethodHandle" ∧ yJ0_isLatin1_aae02.cls ≠ "java/lang/invoke/VarHandle" ∧ (parseMethodDescriptor yJ0_isLatin1_aae02.desc).map (fun d => d.parameters.length) = some 0 := by decide +kernel
theorem hdJ0_checkIndex_df160 : yJ0_checkIndex_df160.cls ≠ "java/lang/invoke/MethodHandle" ∧ yJ0_checkIndex_df160.cls ≠ "java/lang/invoke/VarHandle" ∧ (parseMethodDescriptor yJ0_checkIndex_df160.desc).map (fun d => d.parameters.length) = some 2 := by decide +kernel
theorem hdJ1_charAt_3b067 : yJ1_charAt_3b067.cls ≠ "java/lang/invoke/MethodHandle" ∧ yJ1_charAt_3b067.cls ≠ "java/lang/invoke/VarHandle" ∧ (parseMethodDescriptor yJ1_charAt_3b067.desc).map (fun d => d.parameters.length) = some 2 := by decide +kernel
theorem hdJ3_checkIndex_8e157 : yJ3_checkIndex_8e157.cls ≠ "java/lang/invoke/MethodHandle" ∧ yJ3_checkIndex_8e157.cls ≠ "java/lang/invoke/VarHandle" ∧ (parseMethodDescriptor yJ3_checkIndex_8e157.desc).map (fun d => d.parameters.length) = some 3 := by decide +kernel
set_option maxHeartbeats 4000000 in
set_option maxRecDepth 100000 in
theorem kJ0_isEmpty (l : Launch) (K : zK) (k : Nat) (hk : k < 5) : zC l yJ0_isEmpty_aae02 wsJ0_isEmpty_aae02 ({ frames := 0, cells := 0, slots := 0, locals := 0 } : Room) K [.ref (K.2.2.1 k)] [] (some (.int (zIsE k))) [] := by
  refine zC_z .boolean (zIsE k) (cc := cJ0_isEmpty_aae02) (maxL := 1) (by decide +kernel) rfl (Nat.le_of_ble_eq_true rfl) rfl rfl ?_
  intro p e s m below meth c Q A X hret ls hl hh
  have X : zX p m c cJ0_isEmpty_aae02 1 s ([.ref (K.2.2.1 k)] : List Value).toArray wsJ0_isEmpty_aae02 RJ0 K A := X
  have hx := X.1.1
  have hb := X.1.2.1
  have hE := X.2.2.2.1.1 k hk
  have hS := hh.2.2
  have hl : lv_has ls 1 [(0, .ref (K.2.2.1 k))] := hl
  refine lv_aload_n hx hb dJ0_isEmpty_aae02_0 rfl (lv_at hl 0 rfl) ?_
  refine vk_getf (ref := "java/lang/String") hx hb hE.2.2.1 hS X.1.2.2.2.1 (X.1.2.2.2.2 (Cond.fieldLink RJ0 9 "java/lang/String" "value" "[B") (by decide +kernel)) (fun _ h => h) dJ0_isEmpty_aae02_1 ?_
  refine va_tlen hx hb hE.2.2.2 hS (v := zLenI k) rfl dJ0_isEmpty_aae02_4 ?_
  refine lv_if_ne (tgt := 12) hx hb dJ0_isEmpty_aae02_5 (by decide) (fun c1 => ?_) (fun c1 => ?_)
  · refine lv_iconst (v := (0 : Int32)) hx hb dJ0_isEmpty_aae02_12 (by decide) ?_
    exact hret 13 ls _ _ _ (by unfold zIsE; rw [if_neg c1]) rfl dJ0_isEmpty_aae02_13 hh
  · refine lv_iconst (v := (1 : Int32)) hx hb dJ0_isEmpty_aae02_8 (by decide) ?_
    refine lv_goto (tgt := 13) hx hb dJ0_isEmpty_aae02_9 (by decide) ?_
    exact hret 13 ls _ _ _ (by unfold zIsE; rw [if_pos c1]) rfl dJ0_isEmpty_aae02_13 hh
set_option maxHeartbeats 4000000 in
set_option maxRecDepth 100000 in
theorem kJ0_coder (l : Launch) (K : zK) (k : Nat) (hk : k < 5) : zC l yJ0_coder_7d493 wsJ0_coder_7d493 ({ frames := 0, cells := 0, slots := 0, locals := 0 } : Room) K [.ref (K.2.2.1 k)] [] (some (.int 0)) [] := by
  refine zC_z .byte 0 (cc := cJ0_coder_7d493) (maxL := 1) (by decide +kernel) rfl (Nat.le_of_ble_eq_true rfl) rfl rfl ?_
  intro p e s m below meth c Q A X hret ls hl hh
  have X : zX p m c cJ0_coder_7d493 1 s ([.ref (K.2.2.1 k)] : List Value).toArray wsJ0_coder_7d493 RJ0 K A := X
  have hx := X.1.1
  have hb := X.1.2.1
  have hE := X.2.2.2.1.1 k hk
  have hS := hh.2.2
  have hl : lv_has ls 1 [(0, .ref (K.2.2.1 k))] := hl
  refine va_gets (ref := "java/lang/String") hx hb X.2.2.2.2.2.1 hS X.1.2.2.2.1 (X.1.2.2.2.2 (Cond.fieldLink RJ0 38 "java/lang/String" "COMPACT_STRINGS" "Z") (by decide +kernel)) (fun _ h => h) dJ0_coder_7d493_0 ?_
  refine lv_if_eq (tgt := 13) hx hb dJ0_coder_7d493_3 (by decide) (fun c1 => ?_) (fun c1 => ?_)
  · exact absurd c1 (by decide)
  · refine lv_aload_n hx hb dJ0_coder_7d493_6 rfl (lv_at hl 0 rfl) ?_
    refine vk_getf (ref := "java/lang/String") hx hb hE.2.1 hS X.1.2.2.2.1 (X.1.2.2.2.2 (Cond.fieldLink RJ0 15 "java/lang/String" "coder" "B") (by decide +kernel)) (fun _ h => h) dJ0_coder_7d493_7 ?_
    refine lv_goto (tgt := 14) hx hb dJ0_coder_7d493_10 (by decide) ?_
    exact hret 14 ls _ _ _ rfl rfl dJ0_coder_7d493_14 hh
set_option maxHeartbeats 4000000 in
set_option maxRecDepth 100000 in
theorem kJ0_isLatin1 (l : Launch) (K : zK) (k : Nat) (hk : k < 5) : zC l yJ0_isLatin1_aae02 wsJ0_isLatin1_aae02 ({ frames := 0, cells := 0, slots := 0, locals := 0 } : Room) K [.ref (K.2.2.1 k)] [] (some (.int 1)) [] := by
  refine zC_z .boolean 1 (cc := cJ0_isLatin1_aae02) (maxL := 1) (by decide +kernel) rfl (Nat.le_of_ble_eq_true rfl) rfl rfl ?_
  intro p e s m below meth c Q A X hret ls hl hh
  have X : zX p m c cJ0_isLatin1_aae02 1 s ([.ref (K.2.2.1 k)] : List Value).toArray wsJ0_isLatin1_aae02 RJ0 K A := X
  have hx := X.1.1
  have hb := X.1.2.1
  have hE := X.2.2.2.1.1 k hk
  have hS := hh.2.2
  have hl : lv_has ls 1 [(0, .ref (K.2.2.1 k))] := hl
  refine va_gets (ref := "java/lang/String") hx hb X.2.2.2.2.2.1 hS X.1.2.2.2.1 (X.1.2.2.2.2 (Cond.fieldLink RJ0 38 "java/lang/String" "COMPACT_STRINGS" "Z") (by decide +kernel)) (fun _ h => h) dJ0_isLatin1_aae02_0 ?_
  refine lv_if_eq (tgt := 17) hx hb dJ0_isLatin1_aae02_3 (by decide) (fun c1 => ?_) (fun c1 => ?_)
  · exact absurd c1 (by decide)
  · refine lv_aload_n hx hb dJ0_isLatin1_aae02_6 rfl (lv_at hl 0 rfl) ?_
    refine vk_getf (ref := "java/lang/String") hx hb hE.2.1 hS X.1.2.2.2.1 (X.1.2.2.2.2 (Cond.fieldLink RJ0 15 "java/lang/String" "coder" "B") (by decide +kernel)) (fun _ h => h) dJ0_isLatin1_aae02_7 ?_
    refine lv_if_ne (tgt := 17) hx hb dJ0_isLatin1_aae02_10 (by decide) (fun c2 => ?_) (fun c2 => ?_)
    · exact absurd rfl c2
    · refine lv_iconst (v := (1 : Int32)) hx hb dJ0_isLatin1_aae02_13 (by decide) ?_
      refine lv_goto (tgt := 18) hx hb dJ0_isLatin1_aae02_14 (by decide) ?_
      exact hret 18 ls _ _ _ rfl rfl dJ0_isLatin1_aae02_18 hh
set_option maxHeartbeats 4000000 in
set_option maxRecDepth 100000 in
theorem kJ0_length (l : Launch) (K : zK) (k : Nat) (hk : k < 5) : zC l yJ0_length_8abf5 wsJ0_length_8abf5 ({ frames := 1, cells := 0, slots := 0, locals := 20 } : Room) K [.ref (K.2.2.1 k)] [] (some (.int (zLenI k))) [] := by
  refine zC_i (zLenI k) (cc := cJ0_length_8abf5) (maxL := 1) (by decide +kernel) rfl (Nat.le_of_ble_eq_true rfl) rfl rfl ?_
  intro p e s m below meth c Q A X hret ls hl hh
  have X : zX p m c cJ0_length_8abf5 1 s ([.ref (K.2.2.1 k)] : List Value).toArray wsJ0_length_8abf5 RJ0 K A := X
  have hx := X.1.1
  have hb := X.1.2.1
  have hE := X.2.2.2.1.1 k hk
  have hS := hh.2.2
  have hl : lv_has ls 1 [(0, .ref (K.2.2.1 k))] := hl
  refine lv_aload_n hx hb dJ0_length_8abf5_0 rfl (lv_at hl 0 rfl) ?_
  refine vk_getf (ref := "java/lang/String") hx hb hE.2.2.1 hS X.1.2.2.2.1 (X.1.2.2.2.2 (Cond.fieldLink RJ0 9 "java/lang/String" "value" "[B") (by decide +kernel)) (fun _ h => h) dJ0_length_8abf5_1 ?_
  refine va_tlen hx hb hE.2.2.2 hS (v := zLenI k) rfl dJ0_length_8abf5_4 ?_
  refine lv_aload_n hx hb dJ0_length_8abf5_5 rfl (lv_at hl 0 rfl) ?_
  refine zcallK (i := k) (As := []) (rest := [.int (zLenI k)]) (wr := []) (ws' := []) (ov := some (.int 0)) X hh hl hk (kJ0_coder l K k hk) (fun ht => cwV 0 ht gJ0_length_8abf5_J0_coder_7d493 rfl rfl rfl ⟨rfl, hdJ0_coder_7d493⟩ ⟨Nat.le_of_ble_eq_true rfl, Nat.le_of_ble_eq_true rfl⟩) [] [] [] rfl rfl rfl rfl (by decide) rfl rfl rfl rfl (Nat.le_of_ble_eq_true rfl) dJ0_length_8abf5_6 ⟨Nat.zero_le _, Nat.zero_le _⟩ (fun H locs hh => ?_)
  refine lv_ishr (x := zLenI k) (y := 0) hx hb dJ0_length_8abf5_9 ?_
  exact hret 10 ls _ _ _ (sb_shr0 _) dJ0_length_8abf5_10 hh
set_option maxHeartbeats 4000000 in
set_option maxRecDepth 100000 in
theorem kJ3_checkIndex (l : Launch) (K : zK) (i n : Int32) (v3 : Value) (h3 : v3 = .null ∨ ∃ t, v3 = .ref t) (h0 : ¬ i < 0) (h1 : i < n) : zC l yJ3_checkIndex_8e157 wsJ3_checkIndex_8e157 ({ frames := 0, cells := 0, slots := 0, locals := 0 } : Room) K [.int i, .int n, v3] [] (some (.int i)) [] := by
  have hle : (lg_sl [.int i, .int n, v3]).length ≤ 3 := by rcases h3 with rfl | ⟨t, rfl⟩ <;> exact Nat.le_of_ble_eq_true rfl
  refine zC_i i (cc := cJ3_checkIndex_8e157) (maxL := 3) (by decide +kernel) rfl hle rfl rfl ?_
  intro p e s m below meth c Q A X hret ls hl hh
  have hx := X.1.1
  have hb := X.1.2.1
  have hl : lv_has ls 3 [(0, .int i), (1, .int n)] := lv_sub hl [0, 1] rfl
  refine lv_iload_n hx hb dJ3_checkIndex_8e157_0 rfl (lv_at hl 0 rfl) ?_
  refine lv_if_lt (tgt := 9) hx hb dJ3_checkIndex_8e157_1 (by decide) (fun c1 => absurd c1 h0) (fun c1 => ?_)
  refine lv_iload_n hx hb dJ3_checkIndex_8e157_4 rfl (lv_at hl 0 rfl) ?_
  refine lv_iload_n hx hb dJ3_checkIndex_8e157_5 rfl (lv_at hl 1 rfl) ?_
  refine lv_icmp_lt (tgt := 16) hx hb dJ3_checkIndex_8e157_6 (by decide) (fun c2 => ?_) (fun c2 => absurd h1 c2)
  refine lv_iload_n hx hb dJ3_checkIndex_8e157_16 rfl (lv_at hl 0 rfl) ?_
  exact hret 17 ls _ _ _ rfl dJ3_checkIndex_8e157_17 hh
set_option maxHeartbeats 4000000 in
set_option maxRecDepth 100000 in
theorem kJ0_checkIndex (l : Launch) (K : zK) (i n : Int32) (h0 : ¬ i < 0) (h1 : i < n) : zC l yJ0_checkIndex_df160 wsJ0_checkIndex_df160 ({ frames := 1, cells := 0, slots := 0, locals := 22 } : Room) K [.int i, .int n] [] none [] := by
  refine zC_v (cc := cJ0_checkIndex_df160) (maxL := 2) (by decide +kernel) rfl (Nat.le_of_ble_eq_true rfl) rfl rfl ?_
  intro p e s m below meth c Q A X hret ls hl hh
  have X : zX p m c cJ0_checkIndex_df160 2 s ([.int i, .int n] : List Value).toArray wsJ0_checkIndex_df160 RJ0 K A := X
  have hx := X.1.1
  have hb := X.1.2.1
  have hS := hh.2.2
  have hl : lv_has ls 2 [(0, .int i), (1, .int n)] := hl
  have key : ∀ v3 : Value, va_Z "jdk/internal/util/Preconditions" "SIOOBE_FORMATTER" "Ljava/util/function/BiFunction;" v3 A s s.heap → (v3 = .null ∨ ∃ t, v3 = .ref t) → W p l e ({ frames := 1, cells := 0, slots := 0, locals := 22 } : Room) s m ([.int i, .int n] : List Value).toArray below meth c s.heap [] 0 0 Q (F0 m 0 ls []) := by
    intro v3 hZ h3
    refine lv_iload_n hx hb dJ0_checkIndex_df160_0 rfl (lv_at hl 0 rfl) ?_
    refine lv_iload_n hx hb dJ0_checkIndex_df160_1 rfl (lv_at hl 1 rfl) ?_
    refine va_gets (ref := "jdk/internal/util/Preconditions") hx hb hZ hS X.1.2.2.2.1 (X.1.2.2.2.2 (Cond.fieldLink RJ0 1053 "jdk/internal/util/Preconditions" "SIOOBE_FORMATTER" "Ljava/util/function/BiFunction;") (by decide +kernel)) (fun _ h => h) dJ0_checkIndex_df160_2 ?_
    refine zcallS (As := [.int i, .int n, v3]) (rest := []) (wr := []) (ws' := []) (ov := some (.int i)) X hh hl (kJ3_checkIndex l K i n v3 h3 h0 h1) (fun ht => va_cwS 3 ht gJ0_checkIndex_df160_J3_checkIndex_8e157 rfl rfl rfl hdJ3_checkIndex_8e157 ⟨Nat.le_of_ble_eq_true rfl, Nat.le_of_ble_eq_true rfl⟩) [] [] [] rfl rfl rfl rfl (by decide) rfl rfl rfl rfl (Nat.le_of_ble_eq_true rfl) dJ0_checkIndex_df160_5 ⟨Nat.zero_le _, Nat.zero_le _⟩ (fun H locs hh => ?_)
    refine lv_pop (va := .int i) hx hb dJ0_checkIndex_df160_8 rfl ?_
    exact hret 9 ls _ _ dJ0_checkIndex_df160_9 hh
  rcases X.2.2.2.2.2.2 with hZ | ⟨t, hZ⟩
  · exact key _ hZ (Or.inl rfl)
  · exact key _ hZ (Or.inr ⟨t, rfl⟩)
theorem zLen_small : ∀ k, k < 5 → zLen.getD k 0 < 2 ^ 31 := by decide
theorem z_in {k : Nat} {i : Int32} (hk : k < 5) (h0 : ¬ i < 0) (h1 : ¬ zLenI k ≤ i) : vp_in i (zLen.getD k 0) := by
  have hL := zLen_small k hk
  rw [vp_in_iff]
  have h2 : (zLenI k).toInt = (zLen.getD k 0 : Int) := nI_toInt hL
  have h3 : ¬ (zLenI k).toInt ≤ i.toInt := fun h => h1 (Int32.le_iff_toInt_le.mpr h)
  have h4 : ¬ i.toInt < 0 := fun h => h0 (Int32.lt_iff_toInt_lt.mpr (by simpa using h))
  omega
set_option maxHeartbeats 4000000 in
set_option maxRecDepth 100000 in
theorem kJ1_charAt (l : Launch) (K : zK) (k : Nat) (i : Int32) (hk : k < 5) (hi : ¬ (i < 0 ∨ zLenI k ≤ i)) : zC l yJ1_charAt_3b067 wsJ1_charAt_3b067 ({ frames := 2, cells := 0, slots := 0, locals := 43 } : Room) K [.ref (K.2.2.2 k), .int i] [] (some (.int (zChr k i))) [] := by
  have h0 : ¬ i < 0 := fun h => hi (Or.inl h)
  have h1 : ¬ zLenI k ≤ i := fun h => hi (Or.inr h)
  refine zC_z .char (zChr k i) (cc := cJ1_charAt_3b067) (maxL := 2) (by decide +kernel) rfl (Nat.le_of_ble_eq_true rfl) rfl rfl ?_
  intro p e s m below meth c Q A X hret ls hl hh
  have X : zX p m c cJ1_charAt_3b067 2 s ([.ref (K.2.2.2 k), .int i] : List Value).toArray wsJ1_charAt_3b067 RJ1 K A := X
  have hx := X.1.1
  have hb := X.1.2.1
  have hE := X.2.2.2.1.1 k hk
  have hS := hh.2.2
  have hl : lv_has ls 2 [(0, .ref (K.2.2.2 k)), (1, .int i)] := hl
  refine lv_iload_n hx hb dJ1_charAt_3b067_0 rfl (lv_at hl 1 rfl) ?_
  refine lv_aload_n hx hb dJ1_charAt_3b067_1 rfl (lv_at hl 0 rfl) ?_
  refine va_tlen hx hb hE.2.2.2 hS (v := zLenI k) rfl dJ1_charAt_3b067_2 ?_
  refine zcallS (As := [.int i, .int (zLenI k)]) (rest := []) (wr := []) (ws' := []) (ov := none) X hh hl (kJ0_checkIndex l K i (zLenI k) h0 (Int32.not_le.mp h1)) (fun ht => va_cwS 2 ht gJ1_charAt_3b067_J0_checkIndex_df160 rfl rfl rfl hdJ0_checkIndex_df160 ⟨Nat.le_of_ble_eq_true rfl, Nat.le_of_ble_eq_true rfl⟩) [] [] [] rfl rfl rfl rfl (by decide) rfl rfl rfl rfl (Nat.le_of_ble_eq_true rfl) dJ1_charAt_3b067_3 ⟨Nat.zero_le _, Nat.zero_le _⟩ (fun H locs hh => ?_)
  have hS := hh.2.2
  refine lv_aload_n hx hb dJ1_charAt_3b067_6 rfl (lv_at hl 0 rfl) ?_
  refine lv_iload_n hx hb dJ1_charAt_3b067_7 rfl (lv_at hl 1 rfl) ?_
  refine va_tb hx hb hE.2.2.2 hS (z_in hk h0 h1) (v := .int ((zByt.getD k []).getD i.toNatClampNeg 0)) rfl dJ1_charAt_3b067_8 ?_
  refine lv_sipush (v := (255 : Int32)) hx hb dJ1_charAt_3b067_9 (by decide) ?_
  refine lv_iand hx hb dJ1_charAt_3b067_12 ?_
  refine lv_i2c (v := zChr k i) hx hb dJ1_charAt_3b067_13 rfl ?_
  exact hret 14 ls _ _ _ rfl (pk_nc _) dJ1_charAt_3b067_14 hh
set_option maxHeartbeats 4000000 in
set_option maxRecDepth 100000 in
theorem kJ0_charAt (l : Launch) (K : zK) (k : Nat) (i : Int32) (hk : k < 5) (hi : ¬ (i < 0 ∨ zLenI k ≤ i)) : zC l yJ0_charAt_5068e wsJ0_charAt_5068e ({ frames := 3, cells := 0, slots := 0, locals := 64 } : Room) K [.ref (K.2.2.1 k), .int i] [] (some (.int (zChr k i))) [] := by
  refine zC_z .char (zChr k i) (cc := cJ0_charAt_5068e) (maxL := 2) (by decide +kernel) rfl (Nat.le_of_ble_eq_true rfl) rfl rfl ?_
  intro p e s m below meth c Q A X hret ls hl hh
  have X : zX p m c cJ0_charAt_5068e 2 s ([.ref (K.2.2.1 k), .int i] : List Value).toArray wsJ0_charAt_5068e RJ0 K A := X
  have hx := X.1.1
  have hb := X.1.2.1
  have hE := X.2.2.2.1.1 k hk
  have hl : lv_has ls 2 [(0, .ref (K.2.2.1 k)), (1, .int i)] := hl
  refine lv_aload_n hx hb dJ0_charAt_5068e_0 rfl (lv_at hl 0 rfl) ?_
  refine zcallK (i := k) (As := []) (rest := []) (wr := []) (ws' := []) (ov := some (.int 1)) X hh hl hk (kJ0_isLatin1 l K k hk) (fun ht => cwV 0 ht gJ0_charAt_5068e_J0_isLatin1_aae02 rfl rfl rfl ⟨rfl, hdJ0_isLatin1_aae02⟩ ⟨Nat.le_of_ble_eq_true rfl, Nat.le_of_ble_eq_true rfl⟩) [] [] [] rfl rfl rfl rfl (by decide) rfl rfl rfl rfl (Nat.le_of_ble_eq_true rfl) dJ0_charAt_5068e_1 ⟨Nat.zero_le _, Nat.zero_le _⟩ (fun H locs hh => ?_)
  refine lv_if_eq (x := 1) (tgt := 16) hx hb dJ0_charAt_5068e_4 (by decide) (fun c1 => absurd c1 (by decide)) (fun c1 => ?_)
  refine lv_aload_n hx hb dJ0_charAt_5068e_7 rfl (lv_at hl 0 rfl) ?_
  refine vk_getf (ref := "java/lang/String") hx hb hE.2.2.1 hh.2.2 X.1.2.2.2.1 (X.1.2.2.2.2 (Cond.fieldLink RJ0 9 "java/lang/String" "value" "[B") (by decide +kernel)) (fun _ h => h) dJ0_charAt_5068e_8 ?_
  refine lv_iload_n hx hb dJ0_charAt_5068e_11 rfl (lv_at hl 1 rfl) ?_
  refine zcallS (As := [.ref (K.2.2.2 k), .int i]) (rest := []) (wr := []) (ws' := []) (ov := some (.int (zChr k i))) X hh hl (kJ1_charAt l K k i hk hi) (fun ht => va_cwS 2 ht gJ0_charAt_5068e_J1_charAt_3b067 rfl rfl rfl hdJ1_charAt_3b067 ⟨Nat.le_of_ble_eq_true rfl, Nat.le_of_ble_eq_true rfl⟩) [] [] [] rfl rfl rfl rfl (by decide) rfl rfl rfl rfl (Nat.le_of_ble_eq_true rfl) dJ0_charAt_5068e_12 ⟨Nat.zero_le _, Nat.zero_le _⟩ (fun H locs hh => ?_)
  exact hret 15 ls _ _ _ rfl (pk_nc _) dJ0_charAt_5068e_15 hh
