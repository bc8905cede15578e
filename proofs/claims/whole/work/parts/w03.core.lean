/-! core: one form of context, world, contract; calls -/
/-- what is fixed in a launch: the classes, the array classes, where the text constants stand -/
abbrev zK : Type := va_G × (ClassId × ClassId) × (Nat → Nat) × (Nat → Nat)
def zTY (K : zK) : List (ClassId × FieldType) := [(K.2.1.1, .int), (K.2.1.2, .boolean)]
def zTx (i : Nat) : String := match i with
  | 0 => "h,h,dd;"
  | 1 => "h;"
  | 2 => "dd;"
  | 3 => ";"
  | _ => ""
/-- text constants and statics that nobody writes -/
def zE (K : zK) (A : Nat → Prop) (U : State) (H : Heap) : Prop :=
  vk_S 5 zLen zByt K.2.2.1 K.2.2.2 A U H ∧ (∀ i : Nat, i < 5 → vk_R "SumOfTwoThatStand$Letters" (81 + 2 * i) (zTx i) (K.2.2.1 i) U) ∧ va_Z "java/lang/String" "COMPACT_STRINGS" "Z" (.int 1) A U H ∧ va_Zq "jdk/internal/util/Preconditions" "SIOOBE_FORMATTER" "Ljava/util/function/BiFunction;" A U H
theorem zE.kept {K : zK} {A : Nat → Prop} {U : State} {H H1 : Heap} (h : zE K A U H) (hq : ∀ a : Nat, a < H.size → ¬ A a → H1[a]? = H[a]?) : zE K A U H1 := ⟨h.1.kept hq, h.2.1, h.2.2.1.kept hq, h.2.2.2.kept hq⟩
theorem zE.narrow {K : zK} {A B : Nat → Prop} {U : State} {H : Heap} (h : zE K A U H) (hAB : ∀ q, B q → A q) : zE K B U H := ⟨h.1.narrow hAB, h.2.1, h.2.2.1.narrow hAB, h.2.2.2.narrow hAB⟩
theorem zE.warm {K : zK} {A : Nat → Prop} {s U : State} {H : Heap} (hW : s.WarmedH U.vm) (h : zE K A s H) : zE K A U H := ⟨vk_S.moved hW.alike h.1, fun i hi => (h.2.1 i hi).warm hW, va_Z.moved hW.alike h.2.2.1, va_Zq.moved hW.alike h.2.2.2⟩
theorem zE.same {K : zK} {A : Nat → Prop} {s U : State} {H : Heap} (hv : U.vm = s.vm) (h : zE K A s H) : zE K A U H := ⟨vk_S.moved (by rw [hv]; exact Vm.Alike.refl _) h.1, fun i hi => (h.2.1 i hi).same hv, va_Z.moved (by rw [hv]; exact Vm.Alike.refl _) h.2.2.1, va_Zq.moved (by rw [hv]; exact Vm.Alike.refl _) h.2.2.2⟩
/-- the world here and now -/
def zW (K : zK) (A : Nat → Prop) (s : State) (H : Heap) (locs : List Loc) (ws : va_W) : Prop :=
  va_P K.1 vwCl ws H ∧ va_D A ws ∧ va_S A s.heap H locs
/-- the fixed things of a method's run -/
def zX (p : Program) (m : MethodId) (c : Code) (cc : ByteArray) (nL : Nat) (s : State) (args : Array Value) (Ts : List Cond) (own : String) (K : zK) (A : Nat → Prop) : Prop :=
  CallFix p m c cc nL s args Ts own ∧ va_K K.1 vwCl (zTY K) s ∧ (∀ q, s.heap.size ≤ q → A q) ∧ zE K A s s.heap
def zPc (K : zK) (av : List Value) (w : va_W) (sz : Nat) : Array Value → State → Prop :=
  va_Pc av (fun U => U.heap.size = sz ∧ va_P K.1 vwCl w U.heap ∧ va_K K.1 vwCl (zTY K) U ∧ va_D (fun _ => True) w ∧ zE K (va_A w sz) U U.heap)
def zB (K : zK) (A : Nat → Prop) (w : va_W) (t : State) : Prop :=
  va_P K.1 vwCl w t.heap ∧ va_K K.1 vwCl (zTY K) t ∧ va_D A w
/-- a method's end: the answer, the world, and that all else stays -/
def zQ (K : zK) (A : Nat → Prop) (ov : Option Value) (w : va_W) : Array Value → State → Outcome → State → Prop :=
  fun _ st oc t => oc = .returned ov ∧ zB K A w t ∧ va_F A st t
/-- a contract: from the world w with these arguments it returns ov, with the world w' -/
def zC (l : Launch) (y : MethodName) (ws : List Cond) (rm : Room) (K : zK) (av : List Value) (w : va_W) (ov : Option Value) (w' : va_W) : Prop :=
  ∀ sz : Nat, Met l y ws rm (zPc K av w sz) (zQ K (va_A w sz) ov w') 0 0 (va_A w sz)
theorem zPc_blind (K : zK) (av : List Value) (w : va_W) (sz : Nat) : FrameBlind (zPc K av w sz) := fun a U g mk q => by
  obtain ⟨q0, q1, qP, qK, qD, qE⟩ := q
  exact ⟨q0, q1, qP, va_K.moved (u := U) (U := U.calling g mk a) (Vm.Alike.refl U.vm) qK, qD, qE.same (s := U) (U := U.calling g mk a) rfl⟩
/-- two worlds are one when their lists are -/
theorem zW.to {K : zK} {A : Nat → Prop} {s : State} {H : Heap} {locs : List Loc} {w w' : va_W} (h : zW K A s H locs w) (e : w = w') : zW K A s H locs w' := e ▸ h
theorem zfm {ws : va_W} : ∀ (is : List Nat) (w : va_W), is.map (fun i => ws[i]?) = w.map some → is.filterMap (fun i => ws[i]?) = w := by
  intro is
  induction is with
  | nil => intro w h; cases w with
    | nil => rfl
    | cons a b => cases h
  | cons i is ih =>
    intro w h
    cases w with
    | nil => cases h
    | cons a b =>
      rw [List.map_cons, List.map_cons] at h
      injection h with h1 h3
      rw [List.filterMap_cons, h1, ih b h3]
section ZS
variable {l : Launch} {y : MethodName} {ws ws' : List Cond} {rm : Room} {K : zK} {av : List Value} {w w' : va_W} {cc : ByteArray} {maxL : Nat}
theorem zC_i (r : Int32) (hy : plainName y.cls = true) (hw : ws = Cond.code y cc maxL (some .int) :: ws') (hle : (lg_sl av).length ≤ maxL) (hc : rm.cells = 0) (hs : rm.slots = 0)
    (body : ∀ (p : Program) (e : Env) (s : State) (m : MethodId) (below : List Frame) (meth : Method) (c : Code) (Q : State → Prop) (A : Nat → Prop), zX p m c cc maxL s av.toArray ws y.cls K A →
      (∀ (pc : Nat) (ls : Array Slot) (H : Heap) (locs : List Loc) (v : Int32), v = r → decode cc pc = .ok (.ireturn, 1) → zW K A s H locs w' → W p l e rm s m av.toArray below meth c H locs 0 0 Q (F0 m pc ls [.int v])) →
      ∀ ls, lv_has ls maxL (lv_args 0 av) → zW K A s s.heap [] w → W p l e rm s m av.toArray below meth c s.heap [] 0 0 Q (F0 m 0 ls [])) :
    zC l y ws rm K av w (some (.int r)) w' := by
  intro sz
  refine Met.ofW (cc := cc) (maxL := maxL) (ret := some .int) hy hw ?_
  intro p e s m args below meth c s₁ B hml hv
  obtain ⟨rfl, hsz, hP, hK, hD0, hE⟩ := hv
  subst hsz
  have hD := hD0.self (sz := s.heap.size)
  have hA : ∀ q : Nat, s.heap.size ≤ q → va_A w s.heap.size q := fun q h => Or.inr h
  have hl := lv_entry av (n := maxL) hle
  rw [lg_entry_eq]
  refine body p e s m below meth c _ (va_A w s.heap.size) ⟨⟨B.exec, B.bytes, hml, findClass_of_methodNamed B.named, atoms_spec (ws := ws) B.pre⟩, hK, hA, hE⟩ ?_ _ hl ⟨hP, hD, va_S.rf⟩
  intro pc ls H locs v hv hd hh
  subst hv
  obtain ⟨h1, h2, h3⟩ := hh
  exact W.iret (v := v) B.exec B.bytes B.returns (fun t ht hW => ⟨rfl, ⟨by rw [ht]; exact h1, va_K.moved hW.alike hK, h2⟩, h3.F ht⟩) h3.2.2 hd (hlocks := B.notSynchronized)
theorem zC_z (ty : FieldType) (r : Int32) (hy : plainName y.cls = true) (hw : ws = Cond.code y cc maxL (some ty) :: ws') (hle : (lg_sl av).length ≤ maxL) (hc : rm.cells = 0) (hs : rm.slots = 0)
    (body : ∀ (p : Program) (e : Env) (s : State) (m : MethodId) (below : List Frame) (meth : Method) (c : Code) (Q : State → Prop) (A : Nat → Prop), zX p m c cc maxL s av.toArray ws y.cls K A →
      (∀ (pc : Nat) (ls : Array Slot) (H : Heap) (locs : List Loc) (v : Int32), v = r → narrow ty (.int v) = .int v → decode cc pc = .ok (.ireturn, 1) → zW K A s H locs w' → W p l e rm s m av.toArray below meth c H locs 0 0 Q (F0 m pc ls [.int v])) →
      ∀ ls, lv_has ls maxL (lv_args 0 av) → zW K A s s.heap [] w → W p l e rm s m av.toArray below meth c s.heap [] 0 0 Q (F0 m 0 ls [])) :
    zC l y ws rm K av w (some (.int r)) w' := by
  intro sz
  refine Met.ofW (cc := cc) (maxL := maxL) (ret := some ty) hy hw ?_
  intro p e s m args below meth c s₁ B hml hv
  obtain ⟨rfl, hsz, hP, hK, hD0, hE⟩ := hv
  subst hsz
  have hD := hD0.self (sz := s.heap.size)
  have hA : ∀ q : Nat, s.heap.size ≤ q → va_A w s.heap.size q := fun q h => Or.inr h
  have hl := lv_entry av (n := maxL) hle
  rw [lg_entry_eq]
  refine body p e s m below meth c _ (va_A w s.heap.size) ⟨⟨B.exec, B.bytes, hml, findClass_of_methodNamed B.named, atoms_spec (ws := ws) B.pre⟩, hK, hA, hE⟩ ?_ _ hl ⟨hP, hD, va_S.rf⟩
  intro pc ls H locs v hv hn hd hh
  subst hv
  obtain ⟨h1, h2, h3⟩ := hh
  exact W.zret (v := v) B.exec B.bytes B.returns hn (fun t ht hW => ⟨rfl, ⟨by rw [ht]; exact h1, va_K.moved hW.alike hK, h2⟩, h3.F ht⟩) h3.2.2 hd (hlocks := B.notSynchronized)
theorem zC_l (r : Int64) (hy : plainName y.cls = true) (hw : ws = Cond.code y cc maxL (some .long) :: ws') (hle : (lg_sl av).length ≤ maxL) (hc : rm.cells = 0) (hs : rm.slots = 0)
    (body : ∀ (p : Program) (e : Env) (s : State) (m : MethodId) (below : List Frame) (meth : Method) (c : Code) (Q : State → Prop) (A : Nat → Prop), zX p m c cc maxL s av.toArray ws y.cls K A →
      (∀ (pc : Nat) (ls : Array Slot) (H : Heap) (locs : List Loc) (v : Int64), v = r → decode cc pc = .ok (.lreturn, 1) → zW K A s H locs w' → W p l e rm s m av.toArray below meth c H locs 0 0 Q (F0 m pc ls [.long v])) →
      ∀ ls, lv_has ls maxL (lv_args 0 av) → zW K A s s.heap [] w → W p l e rm s m av.toArray below meth c s.heap [] 0 0 Q (F0 m 0 ls [])) :
    zC l y ws rm K av w (some (.long r)) w' := by
  intro sz
  refine Met.ofW (cc := cc) (maxL := maxL) (ret := some .long) hy hw ?_
  intro p e s m args below meth c s₁ B hml hv
  obtain ⟨rfl, hsz, hP, hK, hD0, hE⟩ := hv
  subst hsz
  have hD := hD0.self (sz := s.heap.size)
  have hA : ∀ q : Nat, s.heap.size ≤ q → va_A w s.heap.size q := fun q h => Or.inr h
  have hl := lv_entry av (n := maxL) hle
  rw [lg_entry_eq]
  refine body p e s m below meth c _ (va_A w s.heap.size) ⟨⟨B.exec, B.bytes, hml, findClass_of_methodNamed B.named, atoms_spec (ws := ws) B.pre⟩, hK, hA, hE⟩ ?_ _ hl ⟨hP, hD, va_S.rf⟩
  intro pc ls H locs v hv hd hh
  subst hv
  obtain ⟨h1, h2, h3⟩ := hh
  exact W.lret (v := v) B.exec B.bytes B.returns (fun t ht hW => ⟨rfl, ⟨by rw [ht]; exact h1, va_K.moved hW.alike hK, h2⟩, h3.F ht⟩) h3.2.2 hd (hlocks := B.notSynchronized)
theorem zC_v (hy : plainName y.cls = true) (hw : ws = Cond.code y cc maxL none :: ws') (hle : (lg_sl av).length ≤ maxL) (hc : rm.cells = 0) (hs : rm.slots = 0)
    (body : ∀ (p : Program) (e : Env) (s : State) (m : MethodId) (below : List Frame) (meth : Method) (c : Code) (Q : State → Prop) (A : Nat → Prop), zX p m c cc maxL s av.toArray ws y.cls K A →
      (∀ (pc : Nat) (ls : Array Slot) (H : Heap) (locs : List Loc), decode cc pc = .ok (.return_, 1) → zW K A s H locs w' → W p l e rm s m av.toArray below meth c H locs 0 0 Q (F0 m pc ls [])) →
      ∀ ls, lv_has ls maxL (lv_args 0 av) → zW K A s s.heap [] w → W p l e rm s m av.toArray below meth c s.heap [] 0 0 Q (F0 m 0 ls [])) :
    zC l y ws rm K av w none w' := by
  intro sz
  refine Met.ofW (cc := cc) (maxL := maxL) (ret := none) hy hw ?_
  intro p e s m args below meth c s₁ B hml hv
  obtain ⟨rfl, hsz, hP, hK, hD0, hE⟩ := hv
  subst hsz
  have hD := hD0.self (sz := s.heap.size)
  have hA : ∀ q : Nat, s.heap.size ≤ q → va_A w s.heap.size q := fun q h => Or.inr h
  have hl := lv_entry av (n := maxL) hle
  rw [lg_entry_eq]
  refine body p e s m below meth c _ (va_A w s.heap.size) ⟨⟨B.exec, B.bytes, hml, findClass_of_methodNamed B.named, atoms_spec (ws := ws) B.pre⟩, hK, hA, hE⟩ ?_ _ hl ⟨hP, hD, va_S.rf⟩
  intro pc ls H locs hd hh
  obtain ⟨h1, h2, h3⟩ := hh
  exact W.vret B.exec B.bytes B.returns (fun t ht hW => ⟨rfl, ⟨by rw [ht]; exact h1, va_K.moved hW.alike hK, h2⟩, h3.F ht⟩) h3.2.2 hd (hlocks := B.notSynchronized)
end ZS
/-- the cells at these places -/
def zsel (ws : va_W) (is : List Nat) : va_W := is.filterMap (fun i => ws[i]?)
section ZC
variable {p : Program} {l : Launch} {e : Env} {R : Room} {s : State} {m : MethodId} {args : Array Value} {below : List Frame} {meth : Method} {c : Code} {H : Heap} {locs : List Loc} {cells slots : Nat} {Q : State → Prop}
variable {cc : ByteArray} {nL : Nat} {Ts : List Cond} {own : String} {K : zK} {A : Nat → Prop} {wc wc' wr ws ws' : va_W}
/-- behind a call: the answer on the stack, the world put together again -/
theorem zJoin {pc : Nat} {ls : Array Slot} {st0 rest : List Value} {ov : Option Value} {a : Array Value} (X : zX p m c cc nL s args Ts own K A) (hh : zW K A s H locs ws) (isC isR pm : List Nat) (hC : isC.map (fun i => ws[i]?) = wc.map some) (hR : isR.map (fun i => ws[i]?) = wr.map some) (hn : va_nd isR = true) (hdis : ∀ i ∈ isR, i ∉ isC) (hpm : va_nd pm = true) (hnew : pm.map (fun i => (wr ++ wc')[i]?) = ws'.map some)
    (hr : va_Run p l e R s m args below meth c H locs cells slots 0 0 (F0 m pc ls st0) rest (zQ K (va_A wc H.size) ov wc' a) (va_A wc H.size))
    (kk : ∀ (H1 : Heap) (locs1 : List Loc), zW K A s H1 locs1 ws' → W p l e R s m args below meth c H1 locs1 cells slots Q (F0 m (pc + 3) ls (ov.toList ++ rest))) : W p l e R s m args below meth c H locs cells slots Q (F0 m pc ls st0) := by
  intro T hT Xs
  obtain ⟨hP, hD, hS⟩ := hh
  have hF := va_free hD hS X.2.2.1 isC hC
  obtain ⟨v, st₀, t, T', L, h0, X', hL, e1, e2, ⟨hv, ⟨qP, qK, qD⟩, hz, hk⟩, st⟩ := hr T hT Xs
  cases hv
  rw [h0] at hz hk
  have hP1 := qP
  obtain ⟨jP, jD⟩ := va_join hP hD isC isR hC hR hn hdis hk hF hP1 qD
  have hS' : va_S A s.heap t.heap (locs ++ L) := ⟨Nat.le_trans hS.1 hz, fun q h1 h2 => by
    rw [hk q (Nat.lt_of_lt_of_le h1 hS.1) (fun z => h2 (hF q z))]
    exact hS.2.1 q h1 h2, fun q hq => by
      rcases List.mem_append.mp hq with h | h
      · exact hS.2.2 q h
      · exact hF _ (hL q h)⟩
  have hh' : zW K A s T'.heap (locs ++ L) ws' := by
    rw [e1]
    exact ⟨jP.sub pm (zfm pm ws' hnew), jD.sub pm hpm hnew, hS'⟩
  obtain ⟨t2, a1, b1⟩ := kk T'.heap (locs ++ L) hh' T' rfl X'
  exact ⟨t2, st t2 a1, b1⟩
theorem zPre {av : List Value} (X : zX p m c cc nL s args Ts own K A) (hh : zW K A s H locs ws) (isC : List Nat) (hC : isC.map (fun i => ws[i]?) = wc.map some) (hnC : va_nd isC = true) : ∀ U : State, U.heap = H → s.WarmedH U.vm → zPc K av wc H.size av.toArray U := by
  intro U hU hW
  have hs : isC.filterMap (fun i => ws[i]?) = wc := zfm isC wc hC
  have hF := va_free hh.2.1 hh.2.2 X.2.2.1 isC hC
  refine ⟨rfl, by rw [hU], by rw [hU]; exact hh.1.sub isC hs, va_K.moved hW.alike X.2.1, (hh.2.1.sub isC hnC hC).weaken (fun _ _ _ _ => trivial), by rw [hU]; exact (X.2.2.2.kept hh.2.2.2.1).narrow hF |>.warm hW⟩
/-- invokevirtual -/
theorem zcallV {ci q0 : Nat} {qc : vw_C} {fs : List Value} {y : MethodName} {bytes : ByteArray} {maxL n index pc : Nat} {ret : Option FieldType} {wl : List Cond} {rm : Room} {b : Nat} {As rest : List Value} {ls : Array Slot} {st0 : List Value} {ov : Option Value} {lv : List (Nat × Value)}
    (X : zX p m c cc nL s args Ts own K A) (hh : zW K A s H locs ws) (hl : lv_has ls nL lv) (hM : zC l y wl rm K (.ref b :: As) wc ov wc') (cw : ∀ ht : ∀ w ∈ Ts, w.before args s = true, CallW R s args own qc.1 index y bytes maxL ret wl rm 0 0 n)
    (isC isR pm : List Nat) (hC : isC.map (fun i => ws[i]?) = wc.map some) (hR : isR.map (fun i => ws[i]?) = wr.map some) (hnC : va_nd isC = true) (hn : va_nd isR = true) (hdis : ∀ i ∈ isR, i ∉ isC) (hpm : va_nd pm = true) (hnew : pm.map (fun i => (wr ++ wc')[i]?) = ws'.map some)
    (hc : vwCl[ci]? = some qc) (he : ws[q0]? = some (b, .inr (ci, fs)))
    (hlen : As.length = n) (hstack : st0 = As.reverse ++ .ref b :: rest) (hroom : (rest.map fun v => v.category).sum ≤ 8) (hdg : decode cc pc = .ok (.invokevirtual index, 3)) (hf : cells ≤ R.cells ∧ slots ≤ R.slots)
    (kk : ∀ (H1 : Heap) (locs1 : List Loc), zW K A s H1 locs1 ws' → W p l e R s m args below meth c H1 locs1 cells slots Q (F0 m (pc + 3) ls (ov.toList ++ rest))) : W p l e R s m args below meth c H locs cells slots Q (F0 m pc ls st0) :=
  zJoin X hh isC isR pm hC hR hn hdis hpm hnew (va_runV X.1 (hM H.size) (cw X.1.2.2.2.2) ⟨zPc_blind _ _ _ _, va_recv X.2.1 hh.1 hc he, zPre X hh isC hC hnC⟩ rfl hlen hl.1 hstack (lv_room hroom) hdg hf) kk
/-- invokestatic -/
theorem zcallS {y : MethodName} {bytes : ByteArray} {maxL n index pc : Nat} {ret : Option FieldType} {wl : List Cond} {rm : Room} {As rest : List Value} {ls : Array Slot} {st0 : List Value} {ov : Option Value} {lv : List (Nat × Value)}
    (X : zX p m c cc nL s args Ts own K A) (hh : zW K A s H locs ws) (hl : lv_has ls nL lv) (hM : zC l y wl rm K As wc ov wc') (cw : ∀ ht : ∀ w ∈ Ts, w.before args s = true, CallB R s args own index y bytes maxL ret wl rm 0 0 n ∧ (Cond.static y).before args s = true)
    (isC isR pm : List Nat) (hC : isC.map (fun i => ws[i]?) = wc.map some) (hR : isR.map (fun i => ws[i]?) = wr.map some) (hnC : va_nd isC = true) (hn : va_nd isR = true) (hdis : ∀ i ∈ isR, i ∉ isC) (hpm : va_nd pm = true) (hnew : pm.map (fun i => (wr ++ wc')[i]?) = ws'.map some)
    (hlen : As.length = n) (hstack : st0 = As.reverse ++ rest) (hroom : (rest.map fun v => v.category).sum ≤ 8) (hdg : decode cc pc = .ok (.invokestatic index, 3)) (hf : cells ≤ R.cells ∧ slots ≤ R.slots)
    (kk : ∀ (H1 : Heap) (locs1 : List Loc), zW K A s H1 locs1 ws' → W p l e R s m args below meth c H1 locs1 cells slots Q (F0 m (pc + 3) ls (ov.toList ++ rest))) : W p l e R s m args below meth c H locs cells slots Q (F0 m pc ls st0) :=
  zJoin X hh isC isR pm hC hR hn hdis hpm hnew (va_runS X.1 (hM H.size) (cw X.1.2.2.2.2) ⟨zPc_blind _ _ _ _, zPre X hh isC hC hnC⟩ rfl hlen hl.1 hstack (lv_room hroom) hdg hf) kk
/-- invokevirtual of an inherited method -/
theorem zcallU {ci q0 : Nat} {qc : vw_C} {fs : List Value} {owner : String} {x y : MethodName} {bytes : ByteArray} {maxL n index pc : Nat} {ret : Option FieldType} {wl : List Cond} {rm : Room} {b : Nat} {As rest : List Value} {ls : Array Slot} {st0 : List Value} {ov : Option Value} {lv : List (Nat × Value)}
    (X : zX p m c cc nL s args Ts own K A) (hh : zW K A s H locs ws) (hl : lv_has ls nL lv) (hM : zC l y wl rm K (.ref b :: As) wc ov wc') (cw : ∀ ht : ∀ w ∈ Ts, w.before args s = true, va_CU R s args own qc.1 owner index x y bytes maxL ret wl rm 0 0 n)
    (isC isR pm : List Nat) (hC : isC.map (fun i => ws[i]?) = wc.map some) (hR : isR.map (fun i => ws[i]?) = wr.map some) (hnC : va_nd isC = true) (hn : va_nd isR = true) (hdis : ∀ i ∈ isR, i ∉ isC) (hpm : va_nd pm = true) (hnew : pm.map (fun i => (wr ++ wc')[i]?) = ws'.map some)
    (hc : vwCl[ci]? = some qc) (he : ws[q0]? = some (b, .inr (ci, fs)))
    (hlen : As.length = n) (hstack : st0 = As.reverse ++ .ref b :: rest) (hroom : (rest.map fun v => v.category).sum ≤ 8) (hdg : decode cc pc = .ok (.invokevirtual index, 3)) (hf : cells ≤ R.cells ∧ slots ≤ R.slots)
    (kk : ∀ (H1 : Heap) (locs1 : List Loc), zW K A s H1 locs1 ws' → W p l e R s m args below meth c H1 locs1 cells slots Q (F0 m (pc + 3) ls (ov.toList ++ rest))) : W p l e R s m args below meth c H locs cells slots Q (F0 m pc ls st0) :=
  zJoin X hh isC isR pm hC hR hn hdis hpm hnew (va_runU X.1 (hM H.size) (cw X.1.2.2.2.2) ⟨zPc_blind _ _ _ _, va_recv X.2.1 hh.1 hc he, zPre X hh isC hC hnC⟩ rfl hlen hl.1 hstack (lv_room hroom) hdg hf) kk
variable {pc : Nat} {ls : Array Slot} {rest : List Value} {a : Nat}
/-- getfield -/
theorem zget (X : zX p m c cc nL s args Ts own K A) (hh : zW K A s H locs ws) {ref C : String} {T : u_T} {N ci index : Nat} (hin : ∀ w ∈ u_ws C T N, w ∈ Ts) (q0 : Nat) {fs : List Value} (he : ws[q0]? = some (a, .inr (ci, fs))) (hc : vwCl[ci]? = some (C, T, N)) (k : Nat) (hk : k < N) (hlink : Cond.fieldLink own index ref (T k).2.1 (T k).2.2.1 ∈ Ts) (hsame : (T k).1 = ref) {v : Value} (hv : fs[k]? = some v) (hdg : decode cc pc = .ok (.getfield index, 3))
    (kk : W p l e R s m args below meth c H locs cells slots Q (F0 m (pc + 3) ls (v :: rest))) : W p l e R s m args below meth c H locs cells slots Q (F0 m pc ls (.ref a :: rest)) :=
  va_get X.1.1 X.1.2.1 X.1.2.2.2.2 hin X.1.2.2.2.1 X.2.1 hh.1 q0 he hc k hk (X.1.2.2.2.2 _ hlink) (by rw [hsame]; exact fun _ h => h) hv hdg kk
/-- putfield of a field that isn't final -/
theorem zput (X : zX p m c cc nL s args Ts own K A) (hh : zW K A s H locs ws) {ref C : String} {T : u_T} {N ci index : Nat} (hin : ∀ w ∈ u_ws C T N, w ∈ Ts) (ty0 : Nat → FieldType) (hty : ∀ k, k < N → parseFieldDescriptor (T k).2.2.1 = some (ty0 k)) (hnm : ∀ a, a < N → ∀ b, b < N → a ≠ b → (T a).2.1 ≠ (T b).2.1) (q0 : Nat) {fs : List Value} (he : ws[q0]? = some (a, .inr (ci, fs))) (hc : vwCl[ci]? = some (C, T, N)) (k : Nat) (hk : k < N) (hlink : Cond.fieldLink own index ref (T k).2.1 (T k).2.2.1 ∈ Ts) (hsame : (T k).1 = ref) (hfin : (T k).2.2.2 = false) {ty : FieldType} {v : Value} (hd : parseFieldDescriptor (T k).2.2.1 = some ty) (hn : narrow ty v = v) (hfit : fits ty v = true) (hl : k < fs.length) (hdg : decode cc pc = .ok (.putfield index, 3))
    (kk : ∀ (H1 : Heap) (locs1 : List Loc), zW K A s H1 locs1 (ws.set q0 (a, .inr (ci, fs.set k v))) → W p l e R s m args below meth c H1 locs1 cells slots Q (F0 m (pc + 3) ls rest)) : W p l e R s m args below meth c H locs cells slots Q (F0 m pc ls (v :: .ref a :: rest)) :=
  va_put X.1.1 X.1.2.1 X.1.2.2.2.2 hin ty0 hty hnm X.1.2.2.2.1 X.2.1 hh.1 hh.2.1 hh.2.2 q0 he hc k hk (X.1.2.2.2.2 _ hlink) (by rw [hsame]; exact fun _ h => h) hfin hd hn hfit hl hdg (fun H1 locs1 h1 h2 h3 => kk H1 locs1 ⟨h1, h2, h3⟩)
theorem ziald (X : zX p m c cc nL s args Ts own K A) (hh : zW K A s H locs ws) (q0 : Nat) {n : Nat} {f : Nat → Int32} (ha : ws[q0]? = some (a, .inl (K.2.1.1, n, .inl f))) {i : Int32} (hin : ¬ (i < 0 ∨ n ≤ i.toNatClampNeg)) (hdg : decode cc pc = .ok (.iaload, 1))
    (kk : W p l e R s m args below meth c H locs cells slots Q (F0 m (pc + 1) ls (.int (f i.toNatClampNeg) :: rest))) : W p l e R s m args below meth c H locs cells slots Q (F0 m pc ls (.int i :: .ref a :: rest)) :=
  va_iald X.1.1 X.1.2.1 X.2.1 hh.1 q0 0 ha rfl hin hdg kk
theorem zzald (X : zX p m c cc nL s args Ts own K A) (hh : zW K A s H locs ws) (q0 : Nat) {n : Nat} {f : Nat → Int32} (ha : ws[q0]? = some (a, .inl (K.2.1.2, n, .inl f))) {i : Int32} (hin : ¬ (i < 0 ∨ n ≤ i.toNatClampNeg)) (hdg : decode cc pc = .ok (.baload, 1))
    (kk : W p l e R s m args below meth c H locs cells slots Q (F0 m (pc + 1) ls (.int (f i.toNatClampNeg) :: rest))) : W p l e R s m args below meth c H locs cells slots Q (F0 m pc ls (.int i :: .ref a :: rest)) :=
  va_zald X.1.1 X.1.2.1 X.2.1 hh.1 q0 1 ha rfl hin hdg kk
theorem ziast (X : zX p m c cc nL s args Ts own K A) (hh : zW K A s H locs ws) (q0 : Nat) {n : Nat} {f : Nat → Int32} (ha : ws[q0]? = some (a, .inl (K.2.1.1, n, .inl f))) {i x : Int32} (hin : ¬ (i < 0 ∨ n ≤ i.toNatClampNeg)) (hdg : decode cc pc = .ok (.iastore, 1))
    (kk : ∀ (H1 : Heap) (locs1 : List Loc), zW K A s H1 locs1 (ws.set q0 (a, .inl (K.2.1.1, n, .inl (upd f i.toNatClampNeg x)))) → W p l e R s m args below meth c H1 locs1 cells slots Q (F0 m (pc + 1) ls rest)) : W p l e R s m args below meth c H locs cells slots Q (F0 m pc ls (.int x :: .int i :: .ref a :: rest)) :=
  va_iast X.1.1 X.1.2.1 X.2.1 hh.1 hh.2.1 hh.2.2 q0 0 ha rfl hin hdg (fun H1 locs1 h1 h2 h3 => kk H1 locs1 ⟨h1, h2, h3⟩)
theorem zzast (X : zX p m c cc nL s args Ts own K A) (hh : zW K A s H locs ws) (q0 : Nat) {n : Nat} {f : Nat → Int32} (ha : ws[q0]? = some (a, .inl (K.2.1.2, n, .inl f))) {i x : Int32} (hin : ¬ (i < 0 ∨ n ≤ i.toNatClampNeg)) (hdg : decode cc pc = .ok (.bastore, 1))
    (kk : ∀ (H1 : Heap) (locs1 : List Loc), zW K A s H1 locs1 (ws.set q0 (a, .inl (K.2.1.2, n, .inl (upd f i.toNatClampNeg (vp_nar .boolean x))))) → W p l e R s m args below meth c H1 locs1 cells slots Q (F0 m (pc + 1) ls rest)) : W p l e R s m args below meth c H locs cells slots Q (F0 m pc ls (.int x :: .int i :: .ref a :: rest)) :=
  va_zast X.1.1 X.1.2.1 X.2.1 hh.1 hh.2.1 hh.2.2 q0 1 ha rfl hin hdg (fun H1 locs1 h1 h2 h3 => kk H1 locs1 ⟨h1, h2, h3⟩)
theorem zalenI (X : zX p m c cc nL s args Ts own K A) (hh : zW K A s H locs ws) (q0 : Nat) {x : vp_A} (ha : ws[q0]? = some (a, .inl (K.2.1.1, x))) {v : Int32} (hv : Int32.ofNat x.1 = v) (hdg : decode cc pc = .ok (.arraylength, 1))
    (kk : W p l e R s m args below meth c H locs cells slots Q (F0 m (pc + 1) ls (.int v :: rest))) : W p l e R s m args below meth c H locs cells slots Q (F0 m pc ls (.ref a :: rest)) :=
  va_alen X.1.1 X.1.2.1 X.2.1 hh.1 q0 0 ha rfl hv hdg kk
theorem zalenZ (X : zX p m c cc nL s args Ts own K A) (hh : zW K A s H locs ws) (q0 : Nat) {x : vp_A} (ha : ws[q0]? = some (a, .inl (K.2.1.2, x))) {v : Int32} (hv : Int32.ofNat x.1 = v) (hdg : decode cc pc = .ok (.arraylength, 1))
    (kk : W p l e R s m args below meth c H locs cells slots Q (F0 m (pc + 1) ls (.int v :: rest))) : W p l e R s m args below meth c H locs cells slots Q (F0 m pc ls (.ref a :: rest)) :=
  va_alen X.1.1 X.1.2.1 X.2.1 hh.1 q0 1 ha rfl hv hdg kk
end ZC
/-! reading a mirrored function backwards -/
theorem nar_ok {v : Int32} (h : v &&& 1 = v) : narrow .boolean (.int v) = .int v := by
  show Value.int (v &&& 1) = .int v
  rw [h]
theorem fit_ok {v : Int32} (h : v &&& 1 = v) : fits .boolean (.int v) = true := by
  show (v == 0 || v == 1) = true
  have h2 : v.toBitVec &&& 1#32 = v.toBitVec := congrArg Int32.toBitVec h
  have h3 : v.toBitVec = 0#32 ∨ v.toBitVec = 1#32 := by
    generalize v.toBitVec = x at h2
    rw [← h2]
    by_cases hb : x.getLsbD 0
    · right
      ext i
      simp [BitVec.getElem_one]
      rcases Nat.eq_zero_or_pos i with hi | hi
      · subst hi; simpa using hb
      · simp [Nat.ne_of_gt hi]
    · left
      ext i
      simp [BitVec.getElem_one]
      intro hx hi
      subst hi
      exact hb (by simpa using hx)
  rcases h3 with h3 | h3
  · have : v = 0 := Int32.toBitVec_inj.mp h3
    subst this; rfl
  · have : v = 1 := Int32.toBitVec_inj.mp h3
    subst this; rfl
