/-! constructors: contracts with new cells -/
def zQN (K : zK) (A : Nat → Prop) (w : (Nat → Nat) → va_W) : Array Value → State → Outcome → State → Prop :=
  fun _ st oc t => (∃ q : Nat → Nat, oc = .returned none ∧ zB K A (w q) t) ∧ va_F A st t
def zN (l : Launch) (y : MethodName) (ws : List Cond) (rm : Room) (P2 : State → Prop) (K : zK) (av : List Value) (w : va_W) (mc ms : Nat) (w' : (Nat → Nat) → va_W) : Prop :=
  ∀ sz : Nat, Met l y ws rm (fun a U => zPc K av w sz a U ∧ P2 U) (zQN K (va_A w sz) w') mc ms (va_A w sz)
theorem zN_start {l : Launch} {y : MethodName} {ws ws' : List Cond} {rm : Room} {P2 : State → Prop} {K : zK} {av : List Value} {w : va_W} {mc ms : Nat} {w' : (Nat → Nat) → va_W} {cc : ByteArray} {maxL : Nat} (hy : plainName y.cls = true) (hw : ws = Cond.code y cc maxL none :: ws') (hle : (lg_sl av).length ≤ maxL) (hnm : y.name = "<init>")
    (body : ∀ (p : Program) (e : Env) (s : State) (m : MethodId) (below : List Frame) (meth : Method) (c : Code) (Q : State → Prop) (A : Nat → Prop), zX p m c cc maxL s av.toArray ws y.cls K A → P2 s → meth.name = "<init>" →
      (∀ (pc : Nat) (ls : Array Slot) (H : Heap) (locs : List Loc) (q : Nat → Nat), decode cc pc = .ok (.return_, 1) → zW K A s H locs (w' q) → W p l e rm s m av.toArray below meth c H locs mc ms Q (F0 m pc ls [])) →
      ∀ ls, lv_has ls maxL (lv_args 0 av) → zW K A s s.heap [] w → W p l e rm s m av.toArray below meth c s.heap [] 0 0 Q (F0 m 0 ls [])) :
    zN l y ws rm P2 K av w mc ms w' := by
  intro sz
  refine Met.ofW (cc := cc) (maxL := maxL) (ret := none) hy hw ?_
  intro p e s m args below meth c s₁ B hml hv
  obtain ⟨⟨rfl, hsz, hP, hK, hD0, hE⟩, h2⟩ := hv
  subst hsz
  have hD := hD0.self (sz := s.heap.size)
  have hA : ∀ q : Nat, s.heap.size ≤ q → va_A w s.heap.size q := fun q h => Or.inr h
  have hl := lv_entry av (n := maxL) hle
  rw [lg_entry_eq]
  have hin : meth.name = "<init>" := by rw [← hnm]; exact (name_of_methodNamed B.named B.method).1
  refine body p e s m below meth c _ (va_A w s.heap.size) ⟨⟨B.exec, B.bytes, hml, findClass_of_methodNamed B.named, atoms_spec (ws := ws) B.pre⟩, hK, hA, hE⟩ h2 hin ?_ _ hl ⟨hP, hD, va_S.rf⟩
  intro pc ls H locs q hd hh
  obtain ⟨h1, h2, h3⟩ := hh
  exact W.vret B.exec B.bytes B.returns (fun t ht hW => ⟨⟨q, rfl, by rw [ht]; exact h1, va_K.moved hW.alike hK, h2⟩, h3.F ht⟩) h3.2.2 hd (hlocks := B.notSynchronized)
section ZN
variable {p : Program} {l : Launch} {e : Env} {R : Room} {s : State} {m : MethodId} {args : Array Value} {below : List Frame} {meth : Method} {c : Code} {H : Heap} {locs : List Loc} {cells slots : Nat} {Q : State → Prop}
variable {cc : ByteArray} {nL : Nat} {Ts : List Cond} {own : String} {K : zK} {A : Nat → Prop} {wc wr ws : va_W} {wc' ws' : (Nat → Nat) → va_W}
theorem zJoinN {mc ms : Nat} {pc : Nat} {ls : Array Slot} {st0 rest : List Value} {a : Array Value} (X : zX p m c cc nL s args Ts own K A) (hh : zW K A s H locs ws) (isC isR pm : List Nat) (hC : isC.map (fun i => ws[i]?) = wc.map some) (hR : isR.map (fun i => ws[i]?) = wr.map some) (hn : va_nd isR = true) (hdis : ∀ i ∈ isR, i ∉ isC) (hpm : va_nd pm = true) (hnew : ∀ q : Nat → Nat, pm.map (fun i => (wr ++ wc' q)[i]?) = (ws' q).map some)
    (hr : va_Run p l e R s m args below meth c H locs cells slots mc ms (F0 m pc ls st0) rest (zQN K (va_A wc H.size) wc' a) (va_A wc H.size))
    (kk : ∀ (q : Nat → Nat) (H1 : Heap) (locs1 : List Loc), zW K A s H1 locs1 (ws' q) → W p l e R s m args below meth c H1 locs1 (cells + mc) (slots + ms) Q (F0 m (pc + 3) ls rest)) : W p l e R s m args below meth c H locs cells slots Q (F0 m pc ls st0) := by
  intro T hT Xs
  obtain ⟨hP, hD, hS⟩ := hh
  have hF := va_free hD hS X.2.2.1 isC hC
  obtain ⟨v, st₀, t, T', L, h0, X', hL, e1, e2, ⟨⟨q, hv, qP, qK, qD⟩, hz, hk⟩, st⟩ := hr T hT Xs
  cases hv
  rw [h0] at hz hk
  obtain ⟨jP, jD⟩ := va_join hP hD isC isR hC hR hn hdis hk hF qP qD
  have hS' : va_S A s.heap t.heap (locs ++ L) := ⟨Nat.le_trans hS.1 hz, fun q h1 h2 => by
    rw [hk q (Nat.lt_of_lt_of_le h1 hS.1) (fun z => h2 (hF q z))]
    exact hS.2.1 q h1 h2, fun q hq => by
      rcases List.mem_append.mp hq with h | h
      · exact hS.2.2 q h
      · exact hF _ (hL q h)⟩
  have hh' : zW K A s T'.heap (locs ++ L) (ws' q) := by
    rw [e1]
    exact ⟨jP.sub pm (zfm pm (ws' q) (hnew q)), jD.sub pm hpm (hnew q), hS'⟩
  obtain ⟨t2, a1, b1⟩ := kk q T'.heap (locs ++ L) hh' T' rfl X'
  exact ⟨t2, st t2 a1, b1⟩
theorem zPcN_blind {P2 : State → Prop} (hb : ∀ (U : State) (g : JFrame) (mk : MethodId) (a : Array Value), P2 U → P2 (U.calling g mk a)) (K : zK) (av : List Value) (w : va_W) (sz : Nat) : FrameBlind (fun a U => zPc K av w sz a U ∧ P2 U) :=
  fun a U g mk q => ⟨zPc_blind K av w sz a U g mk q.1, hb U g mk a q.2⟩
/-- a constructor's call -/
theorem zcallI {P2 : State → Prop} {mc ms : Nat} {y : MethodName} {bytes : ByteArray} {maxL n index pc : Nat} {wl : List Cond} {rm : Room} {b : Nat} {As rest : List Value} {ls : Array Slot} {st0 : List Value} {lv : List (Nat × Value)}
    (X : zX p m c cc nL s args Ts own K A) (hh : zW K A s H locs ws) (hl : lv_has ls nL lv) (hM : zN l y wl rm P2 K (.ref b :: As) wc mc ms wc') (hb2 : ∀ (U : State) (g : JFrame) (mk : MethodId) (a : Array Value), P2 U → P2 (U.calling g mk a)) (h2 : ∀ U : State, s.WarmedH U.vm → P2 U)
    (cw : ∀ ht : ∀ w ∈ Ts, w.before args s = true, CallB R s args own index y bytes maxL none wl rm mc ms n ∧ y.name = "<init>" ∧ (Cond.instanceMethod y).before args s = true)
    (isC isR pm : List Nat) (hC : isC.map (fun i => ws[i]?) = wc.map some) (hR : isR.map (fun i => ws[i]?) = wr.map some) (hnC : va_nd isC = true) (hn : va_nd isR = true) (hdis : ∀ i ∈ isR, i ∉ isC) (hpm : va_nd pm = true) (hnew : ∀ q : Nat → Nat, pm.map (fun i => (wr ++ wc' q)[i]?) = (ws' q).map some)
    (hlen : As.length = n) (hstack : st0 = As.reverse ++ .ref b :: rest) (hroom : (rest.map fun v => v.category).sum ≤ 8) (hdg : decode cc pc = .ok (.invokespecial index, 3)) (hf : cells + mc ≤ R.cells ∧ slots + ms ≤ R.slots)
    (kk : ∀ (q : Nat → Nat) (H1 : Heap) (locs1 : List Loc), zW K A s H1 locs1 (ws' q) → W p l e R s m args below meth c H1 locs1 (cells + mc) (slots + ms) Q (F0 m (pc + 3) ls rest)) : W p l e R s m args below meth c H locs cells slots Q (F0 m pc ls st0) :=
  zJoinN X hh isC isR pm hC hR hn hdis hpm hnew (va_runI X.1 (hM H.size) (cw X.1.2.2.2.2) ⟨zPcN_blind hb2 _ _ _ _, fun U hU hW => ⟨zPre X hh isC hC hnC U hU hW, h2 U hW⟩⟩ rfl hlen hl.1 hstack (lv_room hroom) hdg hf) kk
/-- a nest mate's private constructor -/
theorem zcallIN {P2 : State → Prop} {mc ms : Nat} {host : String} {y : MethodName} {bytes : ByteArray} {maxL n index pc : Nat} {wl : List Cond} {rm : Room} {b : Nat} {As rest : List Value} {ls : Array Slot} {st0 : List Value} {lv : List (Nat × Value)}
    (X : zX p m c cc nL s args Ts own K A) (hh : zW K A s H locs ws) (hl : lv_has ls nL lv) (hM : zN l y wl rm P2 K (.ref b :: As) wc mc ms wc') (hb2 : ∀ (U : State) (g : JFrame) (mk : MethodId) (a : Array Value), P2 U → P2 (U.calling g mk a)) (h2 : ∀ U : State, s.WarmedH U.vm → P2 U)
    (cw : ∀ ht : ∀ w ∈ Ts, w.before args s = true, va_CN R s args own index y host bytes maxL none wl rm mc ms n ∧ y.name = "<init>" ∧ (Cond.instanceMethod y).before args s = true)
    (isC isR pm : List Nat) (hC : isC.map (fun i => ws[i]?) = wc.map some) (hR : isR.map (fun i => ws[i]?) = wr.map some) (hnC : va_nd isC = true) (hn : va_nd isR = true) (hdis : ∀ i ∈ isR, i ∉ isC) (hpm : va_nd pm = true) (hnew : ∀ q : Nat → Nat, pm.map (fun i => (wr ++ wc' q)[i]?) = (ws' q).map some)
    (hlen : As.length = n) (hstack : st0 = As.reverse ++ .ref b :: rest) (hroom : (rest.map fun v => v.category).sum ≤ 8) (hdg : decode cc pc = .ok (.invokespecial index, 3)) (hf : cells + mc ≤ R.cells ∧ slots + ms ≤ R.slots)
    (kk : ∀ (q : Nat → Nat) (H1 : Heap) (locs1 : List Loc), zW K A s H1 locs1 (ws' q) → W p l e R s m args below meth c H1 locs1 (cells + mc) (slots + ms) Q (F0 m (pc + 3) ls rest)) : W p l e R s m args below meth c H locs cells slots Q (F0 m pc ls st0) :=
  zJoinN X hh isC isR pm hC hR hn hdis hpm hnew (va_runIN X.1 (hM H.size) (cw X.1.2.2.2.2) ⟨zPcN_blind hb2 _ _ _ _, fun U hU hW => ⟨zPre X hh isC hC hnC U hU hW, h2 U hW⟩⟩ rfl hlen hl.1 hstack (lv_room hroom) hdg hf) kk
variable {pc : Nat} {ls : Array Slot} {rest : List Value} {a : Nat}
/-- a final field in a constructor -/
theorem zputF (X : zX p m c cc nL s args Ts own K A) (hh : zW K A s H locs ws) (hin2 : meth.name = "<init>") {ref C : String} {T : u_T} {N ci index : Nat} (hin : ∀ w ∈ u_ws C T N, w ∈ Ts) (ty0 : Nat → FieldType) (hty : ∀ k, k < N → parseFieldDescriptor (T k).2.2.1 = some (ty0 k)) (hnm : ∀ a, a < N → ∀ b, b < N → a ≠ b → (T a).2.1 ≠ (T b).2.1) (q0 : Nat) {fs : List Value} (he : ws[q0]? = some (a, .inr (ci, fs))) (hc : vwCl[ci]? = some (C, T, N)) (k : Nat) (hk : k < N) (hlink : Cond.fieldLink own index ref (T k).2.1 (T k).2.2.1 ∈ Ts) (hsame : (T k).1 = ref) (hdecl : (T k).1 = own) (hfin : (T k).2.2.2 = true) {ty : FieldType} {v : Value} (hd : parseFieldDescriptor (T k).2.2.1 = some ty) (hn : narrow ty v = v) (hfit : fits ty v = true) (hl : k < fs.length) (hdg : decode cc pc = .ok (.putfield index, 3))
    (kk : ∀ (H1 : Heap) (locs1 : List Loc), zW K A s H1 locs1 (ws.set q0 (a, .inr (ci, fs.set k v))) → W p l e R s m args below meth c H1 locs1 cells slots Q (F0 m (pc + 3) ls rest)) : W p l e R s m args below meth c H locs cells slots Q (F0 m pc ls (v :: .ref a :: rest)) :=
  va_putF X.1.1 X.1.2.1 X.1.2.2.2.2 hin ty0 hty hnm X.1.2.2.2.1 X.2.1 hh.1 hh.2.1 hh.2.2 q0 he hc k hk (X.1.2.2.2.2 _ hlink) (by rw [hsame]; exact fun _ h => h) hfin hin2 hdecl hd hn hfit hl hdg (fun H1 locs1 h1 h2 h3 => kk H1 locs1 ⟨h1, h2, h3⟩)
theorem znewI (X : zX p m c cc nL s args Ts own K A) (hh : zW K A s H locs ws) (hac : Cond.arrayClass .int ∈ Ts) {n : Int32} {N : Nat} (hn : ¬ n < 0) (hN : n.toNatClampNeg = N) (hbytes : N * 4 ≤ 536870912) (hcells : cells + 1 ≤ R.cells) (hslots : slots + N ≤ R.slots) (hdg : decode cc pc = .ok (.newarray .int, 2))
    (kk : ∀ (q : Nat) (H1 : Heap), zW K A s H1 locs (ws ++ [(q, .inl (K.2.1.1, N, .inl (fun _ => 0)))]) → W p l e R s m args below meth c H1 locs (cells + 1) (slots + N) Q (F0 m (pc + 2) ls (.ref q :: rest))) : W p l e R s m args below meth c H locs cells slots Q (F0 m pc ls (.int n :: rest)) :=
  va_newa (atype := .int) (ty := .int) (a0 := (N, .inl (fun _ => 0))) X.1.1 X.1.2.1 (X.1.2.2.2.2 _ hac) rfl X.2.1 hh.1 hh.2.1 hh.2.2 X.2.2.1 (fun _ => rfl) hn hN hbytes hcells hslots hdg (fun q cA H1 hK2 h1 h2 h3 => by
    have e1 := (hK2.2 2 (cA, .int) rfl).2
    have e2 := (X.2.1.2 0 (K.2.1.1, .int) rfl).2
    have e3 : cA = K.2.1.1 := Option.some.inj (Eq.trans (Eq.symm e1) e2)
    subst e3
    exact kk q H1 ⟨h1, h2, h3⟩)
theorem znewZ (X : zX p m c cc nL s args Ts own K A) (hh : zW K A s H locs ws) (hac : Cond.arrayClass .boolean ∈ Ts) {n : Int32} {N : Nat} (hn : ¬ n < 0) (hN : n.toNatClampNeg = N) (hbytes : N * 1 ≤ 536870912) (hcells : cells + 1 ≤ R.cells) (hslots : slots + N ≤ R.slots) (hdg : decode cc pc = .ok (.newarray .boolean, 2))
    (kk : ∀ (q : Nat) (H1 : Heap), zW K A s H1 locs (ws ++ [(q, .inl (K.2.1.2, N, .inl (fun _ => 0)))]) → W p l e R s m args below meth c H1 locs (cells + 1) (slots + N) Q (F0 m (pc + 2) ls (.ref q :: rest))) : W p l e R s m args below meth c H locs cells slots Q (F0 m pc ls (.int n :: rest)) :=
  va_newa (atype := .boolean) (ty := .boolean) (a0 := (N, .inl (fun _ => 0))) X.1.1 X.1.2.1 (X.1.2.2.2.2 _ hac) rfl X.2.1 hh.1 hh.2.1 hh.2.2 X.2.2.1 (fun _ => rfl) hn hN hbytes hcells hslots hdg (fun q cA H1 hK2 h1 h2 h3 => by
    have e1 := (hK2.2 2 (cA, .boolean) rfl).2
    have e2 := (X.2.1.2 1 (K.2.1.2, .boolean) rfl).2
    have e3 : cA = K.2.1.2 := Option.some.inj (Eq.trans (Eq.symm e1) e2)
    subst e3
    exact kk q H1 ⟨h1, h2, h3⟩)
theorem znewO (X : zX p m c cc nL s args Ts own K A) (hh : zW K A s H locs ws) {C : String} {T : u_T} {N ci index : Nat} (hin : ∀ w ∈ u_ws C T N, w ∈ Ts) (ty : Nat → FieldType) (hty : ∀ k, k < N → parseFieldDescriptor (T k).2.2.1 = some (ty k)) (hcl : Cond.classLink own index C ∈ Ts) (hinst : Cond.instantiable C N ∈ Ts) (hini : Cond.initialized C ∈ Ts) (hc : vwCl[ci]? = some (C, T, N)) {fs : List Value} (hfs : ∀ j, j < N → defaultValue (ty j) = vp_V fs j) (hcells : cells + 1 ≤ R.cells) (hslots : slots + N ≤ R.slots) (hdg : decode cc pc = .ok (.new index, 3))
    (kk : ∀ (q : Nat) (H1 : Heap), zW K A s H1 locs (ws ++ [(q, .inr (ci, fs))]) → W p l e R s m args below meth c H1 locs (cells + 1) (slots + N) Q (F0 m (pc + 3) ls (.ref q :: rest))) : W p l e R s m args below meth c H locs cells slots Q (F0 m pc ls rest) :=
  va_new X.1.1 X.1.2.1 X.1.2.2.2.2 hin ty hty X.1.2.2.2.1 (X.1.2.2.2.2 _ hcl) (X.1.2.2.2.2 _ hinst) (X.1.2.2.2.2 _ hini) X.2.1 hh.1 hh.2.1 hh.2.2 X.2.2.1 hc hfs hcells hslots hdg (fun q H1 h1 h2 h3 => kk q H1 ⟨h1, h2, h3⟩)
end ZN
theorem zT_blind : ∀ (U : State) (g : JFrame) (mk : MethodId) (a : Array Value), (fun _ : State => True) U → (fun _ : State => True) (U.calling g mk a) := fun _ _ _ _ _ => trivial
