/-! the law's start: the classes, the array classes, the text constants, the statics -/
theorem zArr {args : Array Value} {s : State} {ty : FieldType} (hty : (∃ t, ty = t ∧ (t = .int ∨ t = .boolean))) (harr : (Cond.arrayClass ty).before args s = true) : ∃ cA : ClassId, ArrOfT s cA ty ∧ va_RA s cA ty := by
  obtain ⟨cA, kA, comp, h1, h2, h3⟩ := Cond.arrayClass_spec harr
  refine ⟨cA, fun n z => ⟨fun k h => (by cases h), kA, h2, comp, h3⟩, ?_⟩
  obtain ⟨t, rfl, h⟩ := hty
  rcases h with rfl | rfl <;> exact h1
theorem zs_ex : ∀ i, i < 5 → Cond.exactly (Term.string "SumOfTwoThatStand$Letters" (81 + 2 * i)) "java/lang/String" ∈ flatC (Jvm.Cond.and given_1 narrow_1) := by decide +kernel
theorem zs_co : ∀ i, i < 5 → Cond.eq (.field (Term.string "SumOfTwoThatStand$Letters" (81 + 2 * i)) "java/lang/String" "coder" "B") (.int 0) ∈ flatC (Jvm.Cond.and given_1 narrow_1) := by decide +kernel
theorem zs_ar : ∀ i, i < 5 → Cond.arrayOf (.field (Term.string "SumOfTwoThatStand$Letters" (81 + 2 * i)) "java/lang/String" "value" "[B") .byte ∈ flatC (Jvm.Cond.and given_1 narrow_1) := by decide +kernel
theorem zs_le : ∀ i, i < 5 → Cond.eq (.length (.field (Term.string "SumOfTwoThatStand$Letters" (81 + 2 * i)) "java/lang/String" "value" "[B")) (.int (Int32.ofNat (zLen.getD i 0))) ∈ flatC (Jvm.Cond.and given_1 narrow_1) := by decide +kernel
theorem zs_el : ∀ i, i < 5 → ∀ j, j < zLen.getD i 0 → Cond.eq (.elem (.field (Term.string "SumOfTwoThatStand$Letters" (81 + 2 * i)) "java/lang/String" "value" "[B") (.int (Int32.ofNat j))) (.int ((zByt.getD i []).getD j 0)) ∈ flatC (Jvm.Cond.and given_1 narrow_1) := by decide +kernel
theorem zs_ne : ∀ i, i < 5 → ∀ j, j < 5 → i ≠ j → (Cond.not (Cond.eq (Term.string "SumOfTwoThatStand$Letters" (81 + 2 * i)) (Term.string "SumOfTwoThatStand$Letters" (81 + 2 * j))) ∈ flatC (Jvm.Cond.and given_1 narrow_1)) ∨ (Cond.not (Cond.eq (Term.string "SumOfTwoThatStand$Letters" (81 + 2 * j)) (Term.string "SumOfTwoThatStand$Letters" (81 + 2 * i))) ∈ flatC (Jvm.Cond.and given_1 narrow_1)) := by decide +kernel
theorem zs_ref : ∀ i, i < 5 → Cond.stringRef "SumOfTwoThatStand$Letters" (81 + 2 * i) (zTx i) ∈ lw_tbl := by decide +kernel
theorem zs_st1 : Cond.eq (.static "java/lang/String" "COMPACT_STRINGS" "Z") (.int 1) ∈ flatC (Jvm.Cond.and given_1 narrow_1) := by decide +kernel
theorem zs_st2 : Cond.isRef (.static "jdk/internal/util/Preconditions" "SIOOBE_FORMATTER" "Ljava/util/function/BiFunction;") ∈ flatC (Jvm.Cond.and given_1 narrow_1) := by decide +kernel
theorem zs_l1 : Cond.laysStatic "java/lang/String" "COMPACT_STRINGS" "Z" ∈ lw_tbl := by decide +kernel
theorem zs_l2 : Cond.laysStatic "jdk/internal/util/Preconditions" "SIOOBE_FORMATTER" "Ljava/util/function/BiFunction;" ∈ lw_tbl := by decide +kernel
theorem zs_i1 : Cond.initialized "java/lang/String" ∈ lw_tbl := by decide +kernel
theorem zs_i2 : Cond.initialized "jdk/internal/util/Preconditions" ∈ lw_tbl := by decide +kernel
theorem zs_n1 : Cond.methodLinkNest "SumOfTwoThatStand" 45 yX3_init "SumOfTwoThatStand" ∈ lw_tbl := by decide +kernel
theorem zs_n2 : Cond.methodLinkNest "SumOfTwoThatStand" 52 yX1_init "SumOfTwoThatStand" ∈ lw_tbl := by decide +kernel
theorem zs_a1 : Cond.arrayClass .int ∈ lw_tbl := by decide +kernel
theorem zs_a2 : Cond.arrayClass .boolean ∈ lw_tbl := by decide +kernel
theorem zs_c0 : Cond.instantiable RX0 1 ∈ lw_tbl := by decide +kernel
theorem zs_c1 : Cond.instantiable RX1 1 ∈ lw_tbl := by decide +kernel
theorem zs_c2 : Cond.instantiable RX2 7 ∈ lw_tbl := by decide +kernel
theorem zs_c3 : Cond.instantiable RX3 1 ∈ lw_tbl := by decide +kernel
theorem zs_c4 : Cond.instantiable RX4 2 ∈ lw_tbl := by decide +kernel
theorem zs_c5 : Cond.instantiable RX5 11 ∈ lw_tbl := by decide +kernel
theorem zs_c7 : Cond.instantiable RX7 10 ∈ lw_tbl := by decide +kernel
theorem zs_c8 : Cond.instantiable RX8 33 ∈ lw_tbl := by decide +kernel
theorem zLen_lt : ∀ i : Nat, i < 5 → zLen.getD i 0 < 2 ^ 31 := by decide
set_option maxHeartbeats 4000000 in
set_option maxRecDepth 100000 in
theorem zLaw_env {p : Program} {s : State} {m : MethodId} {meth : Method} {c : Code} {b L : Nat} {xs : Nat → Int32} (C0 : lw_At p s m meth c b L xs) : ∃ K : zK, va_K K.1 vwCl (zTY K) s ∧ zE K (fun q => s.heap.size ≤ q) s s.heap ∧ ∀ U : State, s.WarmedH U.vm → zNest U := by
  obtain ⟨hx, hb, hr, hml, hown, hts, hX, hbl, hlocks, hgv⟩ := C0
  have hs := flat_of_before _ hgv
  have hA : ∀ a : Nat, a < s.heap.size → ¬ (fun q : Nat => s.heap.size ≤ q) a := fun a h => Nat.not_le.mpr h
  obtain ⟨c0, i0, k0⟩ := u_known (C := RX0) (T := TX0) (N := 1) (n := 1) hts inX0 (hts _ zs_c0)
  obtain ⟨c1, i1, k1⟩ := u_known (C := RX1) (T := TX1) (N := 1) (n := 1) hts inX1 (hts _ zs_c1)
  obtain ⟨c2, i2, k2⟩ := u_known (C := RX2) (T := TX2) (N := 7) (n := 7) hts inX2 (hts _ zs_c2)
  obtain ⟨c3, i3, k3⟩ := u_known (C := RX3) (T := TX3) (N := 1) (n := 1) hts inX3 (hts _ zs_c3)
  obtain ⟨c4, i4, k4⟩ := u_known (C := RX4) (T := TX4) (N := 2) (n := 2) hts inX4 (hts _ zs_c4)
  obtain ⟨c5, i5, k5⟩ := u_known (C := RX5) (T := TX5) (N := 11) (n := 11) hts inX5 (hts _ zs_c5)
  obtain ⟨c7, i7, k7⟩ := u_known (C := RX7) (T := TX7) (N := 10) (n := 10) hts inX7 (hts _ zs_c7)
  obtain ⟨c8, i8, k8⟩ := u_known (C := RX8) (T := TX8) (N := 33) (n := 33) hts inX8 (hts _ zs_c8)
  obtain ⟨dC, dI, hKc⟩ : ∃ (dC : Nat → ClassId) (dI : Nat → Nat → Nat), ∀ (k : Nat) (q : vw_C), vwCl[k]? = some q → u_Kn s q.1 q.2.1 q.2.2 (dC k) (dI k) := by
    refine ⟨fun k => if k = 0 then c0 else if k = 1 then c1 else if k = 2 then c2 else if k = 3 then c3 else if k = 4 then c4 else if k = 5 then c5 else if k = 6 then c7 else c8, fun k => if k = 0 then i0 else if k = 1 then i1 else if k = 2 then i2 else if k = 3 then i3 else if k = 4 then i4 else if k = 5 then i5 else if k = 6 then i7 else i8, ?_⟩
    intro k q hq
    match k, hq with
    | 0, hq => cases hq; exact k0
    | 1, hq => cases hq; exact k1
    | 2, hq => cases hq; exact k2
    | 3, hq => cases hq; exact k3
    | 4, hq => cases hq; exact k4
    | 5, hq => cases hq; exact k5
    | 6, hq => cases hq; exact k7
    | 7, hq => cases hq; exact k8
    | k + 8, hq => simp [vwCl] at hq
  obtain ⟨cI, aI, rI⟩ := zArr ⟨.int, rfl, Or.inl rfl⟩ (hts _ zs_a1)
  obtain ⟨cZ, aZ, rZ⟩ := zArr ⟨.boolean, rfl, Or.inr rfl⟩ (hts _ zs_a2)
  obtain ⟨adK, adV, hSS, hev⟩ := vk_Sof (N := 5) (tm := fun i => Term.string "SumOfTwoThatStand$Letters" (81 + 2 * i)) (len := zLen) (byt := zByt) (A := fun q : Nat => s.heap.size ≤ q) zLen_lt (fun i hi => hs _ (zs_ex i hi)) (fun i hi => hs _ (zs_co i hi)) (fun i hi => hs _ (zs_ar i hi)) (fun i hi => hs _ (zs_le i hi)) (fun i hi j hj => hs _ (zs_el i hi j hj)) (fun i j hi hj hij => (zs_ne i hi j hj hij).elim (fun h => Or.inl (hs _ h)) (fun h => Or.inr (hs _ h))) hA
  refine ⟨((dC, dI), (cI, cZ), adK, adV), ⟨hKc, ?_⟩, ⟨hSS, ?_, ?_, ?_⟩, ?_⟩
  · intro k q hq
    match k, hq with
    | 0, hq => cases hq; exact ⟨aI, rI⟩
    | 1, hq => cases hq; exact ⟨aZ, rZ⟩
    | k + 2, hq => simp [zTY] at hq
  · intro i hi
    exact vk_R.of (hts _ (zs_ref i hi)) (hev i hi)
  · exact va_Zof (hts _ zs_l1) (hts _ zs_i1) (va_eqt (hs _ zs_st1)) hA
  · exact va_Zqof (hts _ zs_l2) (hts _ zs_i2) (hs _ zs_st2) hA
  · intro U hU
    exact ⟨va_Nw.warmM hU (va_Nw.of rfl (hts _ zs_n1)), va_Nw.warmM hU (va_Nw.of rfl (hts _ zs_n2))⟩
theorem zNest_blind : ∀ (U : State) (g : JFrame) (mk : MethodId) (a : Array Value), zNest U → zNest (U.calling g mk a) := fun U g mk a h => ⟨va_Nw.same (U := U.calling g mk a) rfl rfl h.1, va_Nw.same (U := U.calling g mk a) rfl rfl h.2⟩
theorem zOut {i L : Nat} (h : L < i) (hL : L ≤ 2560) (h0 : i ≤ 2570) : nI L - (5 : Int32) < nI i := by
  have e : (nI L - nI 5).toInt = (L : Int) - 5 := pk_sub_toInt (by omega) (by omega)
  rw [Int32.lt_iff_toInt_lt, nI_toInt (by omega)]
  show (nI L - nI 5).toInt < _
  omega
theorem zOut2 {i L : Nat} (c : ¬ nI L - (5 : Int32) < nI i) (hL : L ≤ 2560) (h0 : i ≤ 2570) : i + 5 ≤ L := by
  have e : (nI L - nI 5).toInt = (L : Int) - 5 := pk_sub_toInt (by omega) (by omega)
  rw [Int32.lt_iff_toInt_lt, nI_toInt (by omega)] at c
  have c2 : ¬ (nI L - nI 5).toInt < (i : Int) := c
  omega
theorem mL_0 : Cond.classLink RL 7 RX7 ∈ wsL_law := by decide +kernel
theorem mL_1 : Cond.instantiable RX7 10 ∈ wsL_law := by decide +kernel
theorem mL_2 : Cond.initialized RX7 ∈ wsL_law := by decide +kernel
theorem mL_3 : Cond.methodLink RL 9 yX7_init ∈ wsL_law := by decide +kernel
theorem mL_4 : Cond.instanceMethod yX7_init ∈ wsL_law := by decide +kernel
theorem mL_5 : Cond.classLink RL 10 RX8 ∈ wsL_law := by decide +kernel
theorem mL_6 : Cond.instantiable RX8 33 ∈ wsL_law := by decide +kernel
theorem mL_7 : Cond.initialized RX8 ∈ wsL_law := by decide +kernel
theorem mL_8 : Cond.methodLink RL 12 yX8_init ∈ wsL_law := by decide +kernel
theorem mL_9 : Cond.instanceMethod yX8_init ∈ wsL_law := by decide +kernel
