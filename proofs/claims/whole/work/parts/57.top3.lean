/-! images, counts, seeds, more -/
theorem RT.live2 {M : zMn} {T T' : zMd} (h : RT M T) {S' : zSt} {c w : Nat} (hs : SR c w S' T') (hf : FR T T') (hk : SE (zload T 0) (zload T' 0)) : RT (mn_set_live M S') T' := by
  obtain ⟨h1, ⟨h2, h2'⟩, ⟨k, x1, x2, x3, x4⟩, ⟨k2, y1, y2, y3, y4⟩, h5, h6⟩ := h
  obtain ⟨f1, f2, f3, f4, f5, f6, f7, f8, f9, f10, f11, f12⟩ := hf
  refine ⟨⟨c, w, hs⟩, ⟨h2.trans f10.symm, ?_⟩, ⟨k, x1, x2, f6.trans x3, fun i hi => (x4 i hi).trans (by rw [f2])⟩, ⟨k2, y1, y2, f12.trans y3, fun i hi => (y4 i hi).trans (by rw [f11])⟩, fun i hi => (h5 i hi).trans (by rw [f1]), h6⟩
  rcases h2' with z | ⟨z, c', w', z2⟩
  · exact Or.inl (f10.trans z)
  · exact Or.inr ⟨f10.trans z, c', w', z2.se hk⟩
theorem cpy12 (f g : Nat → Int32) {j : Nat} (h : j < 12) : va_cpy f g (0 : Int32).toNatClampNeg (0 : Int32).toNatClampNeg (12 : Int32).toNatClampNeg j = f j := by
  show va_cpy f g 0 0 12 j = f j
  rw [pk_cpy_in (by omega) (by omega)]
  congr 1
  omega
theorem SR.become {c w : Nat} {S : zSt} {T : zMd} (h : SR c w S T) (S0 : zSt) : SR c w (fX5_become S0 S) T := by
  obtain ⟨s1, s2, s3, s4, s5, s6, s7, s8, s9⟩ := h
  refine ⟨s1, s2, s3, s4, s5, fun j hj => ?_, s7, s8, s9⟩
  obtain ⟨a1, a2, a3, a4, a5, a6, a7, a8⟩ := s6 j hj
  have h12 : j < 12 := by omega
  exact ⟨(cpy12 _ _ h12).trans a1, (cpy12 _ _ h12).trans a2, (cpy12 _ _ h12).trans a3, (cpy12 _ _ h12).trans a4, (cpy12 _ _ h12).trans a5, (cpy12 _ _ h12).trans a6, (cpy12 _ _ h12).trans a7, a8⟩
theorem sim_image : zSim_image RT := by
  intro M T h
  have hr := h
  obtain ⟨⟨c, w, hs⟩, h2, ⟨k, x1, x2, x3, x4⟩, ⟨k2, y1, y2, y3, y4⟩, h5, h6⟩ := h
  obtain ⟨T', k1, k3, k4, k5, k6⟩ := keep_ok (md_set_hasImage T 1) 0 (by omega)
  have hs1 : SR c w (mn_live M) (md_set_hasImage T 1) := hs
  obtain ⟨f1, f2, f3, f4, f5, f6, f7, f8, f9, f10, f11, f12⟩ := k4
  refine ⟨nI c, mn_set_isKept (mn_set_kept M (fX5_become (mn_kept M) (mn_live M))) 1, T', ?_, ?_, ?_⟩
  · unfold fX7_image fX5_cameCount
    rw [hs.came]
  · unfold fX8_image
    have k1' : fX8_passesAll (md_set_hasImage T 1) 0 1 = some T' := k1
    rw [k1']
    show some (md_houses T', T') = _
    rw [(hs1.se k3).houses]
  · refine ⟨⟨c, w, hs1.se k3⟩, ⟨f10.symm, Or.inr ⟨f10, c, w, ?_⟩⟩, ⟨k, x1, x2, f6.trans x3, fun i hi => (x4 i hi).trans (by rw [f2]; rfl)⟩, ⟨k2, y1, y2, f12.trans y3, fun i hi => (y4 i hi).trans (by rw [f11]; rfl)⟩, fun i hi => (h5 i hi).trans (by rw [f1]; rfl), h6⟩
    exact (hs1.become (mn_kept M)).se k5
theorem sim_restore : zSim_restore RT := by
  intro M T h
  have hr := h
  obtain ⟨h1, ⟨h2, h2'⟩, -⟩ := h
  unfold fX7_restore fX8_restore
  rw [h2]
  rcases h2' with z | ⟨z, c, w, hs⟩
  · simp only [if_pos z]
    obtain ⟨M', T', x, y, e⟩ := refuse_3 hr
    exact ⟨-3, M', T', by rw [x]; rfl, by rw [y]; rfl, e⟩
  · have n0 : ¬ md_hasImage T = 0 := by rw [z]; decide
    simp only [if_neg n0]
    obtain ⟨T', l1, l2, l3, l4⟩ := load_ok T 0 (by omega)
    have l1' : fX8_passesAll T 0 0 = some T' := l1
    have hs' : SR c w (fX5_become (mn_live M) (mn_kept M)) T' := (hs.become (mn_live M)).se l2
    refine ⟨nI c, _, T', ?_, ?_, hr.live2 hs' l3 (l4 0)⟩
    · unfold fX5_cameCount
      rw [hs'.came]
    · rw [l1']
      show some (md_houses T', T') = _
      rw [hs'.houses]
theorem sim_count : zSim_count RT := by
  intro M T p h
  have hr := h
  obtain ⟨⟨c, w, hs⟩, h2, ⟨k, x1, x2, x3, x4⟩, ⟨k2, y1, y2, y3, y4⟩, h5, h6⟩ := h
  have fin : ∀ r, fX7_count M p = some r → fX8_count T p = some r → ∃ (r : Int32) (M' : zMn) (S' : zMd), fX7_count M p = some r ∧ fX8_count T p = some r ∧ RT M T := fun r a b => ⟨r, M, T, a, b, hr⟩
  by_cases hin : ∃ n, 11 ≤ n ∧ n ≤ 16 ∧ p = nI n
  · obtain ⟨n, n1, n2, rfl⟩ := hin
    have e1 : nI n - 10 = nI (n - 10) := pk_sub (b := 10) (by omega)
    refine fin (md_refused T (n - 10)) ?_ ?_
    · unfold fX7_count
      rw [if_neg (show ¬ nI n ≤ (10 : Int32) from nI_ge (a := 10) (by omega) (by omega)), if_neg (show ¬ (17 : Int32) ≤ nI n from nI_ge (b := 17) (by omega) (by omega)), e1, ix_nI (by omega) (by omega), nI_clamp (by omega), h5 _ (by omega)]
    · unfold fX8_count fX8_isIn
      rw [if_neg (show ¬ nI n < (11 : Int32) from nI_nlt (b := 11) (by omega) (by omega)), if_neg (show ¬ (16 : Int32) < nI n from nI_nlt (a := 16) (by omega) (by omega)), if_neg (by decide), e1, ix_nI (by omega) (by omega), nI_clamp (by omega)]
  · have c7 : fX7_count M p = fX7_count_j22 M p := by
      unfold fX7_count
      by_cases g : p ≤ 10
      · rw [if_pos g]
      · rw [if_neg g]
        by_cases g2 : (17 : Int32) ≤ p
        · rw [if_pos g2]
        · exfalso
          apply hin
          have p1 : ¬ p.toInt ≤ (10 : Int) := fun t => g (Int32.le_iff_toInt_le.mpr t)
          have p2 : ¬ (17 : Int) ≤ p.toInt := fun t => g2 (Int32.le_iff_toInt_le.mpr t)
          refine ⟨p.toInt.toNat, by omega, by omega, Int32.toInt_inj.mp ?_⟩
          rw [nI_toInt (by omega)]
          omega
    have c8 : fX8_isIn p 11 16 = 0 := by
      unfold fX8_isIn
      by_cases g : p < 11
      · rw [if_pos g]
      · rw [if_neg g]
        by_cases g2 : (16 : Int32) < p
        · rw [if_pos g2]
        · exfalso
          apply hin
          have p1 : ¬ p.toInt < (11 : Int) := fun t => g (Int32.lt_iff_toInt_lt.mpr t)
          have p2 : ¬ (16 : Int) < p.toInt := fun t => g2 (Int32.lt_iff_toInt_lt.mpr t)
          refine ⟨p.toInt.toNat, by omega, by omega, Int32.toInt_inj.mp ?_⟩
          rw [nI_toInt (by omega)]
          omega
    rw [c7] at fin ⊢
    unfold fX8_count at fin ⊢
    rw [c8, if_pos rfl] at fin ⊢
    unfold fX7_count_j22 at fin ⊢
    by_cases e0 : p = 0
    · simp only [if_pos e0] at fin ⊢
      exact fin (nI c) (by unfold fX5_cameCount; rw [hs.came]) (by rw [hs.houses])
    simp only [if_neg e0] at fin ⊢
    by_cases e1 : p = 1
    · simp only [if_pos e1] at fin ⊢
      refine fin (nI (zpop w 31)) (by unfold fX5_standingCount; rw [hs.st, z_bitCount w hs.w12]) ?_
      rw [hs.hs]
      rw [Option.bind_some]
      rw [bits_eq hs.w12]; rfl
    simp only [if_neg e1] at fin ⊢
    by_cases e2 : p = 2
    · simp only [if_pos e2] at fin ⊢
      obtain ⟨r, a, b⟩ := greatest_eq hs
      exact fin r (by rw [a]; rfl) (by rw [b]; rfl)
    simp only [if_neg e2] at fin ⊢
    by_cases e3 : p = 3
    · simp only [if_pos e3] at fin ⊢
      exact fin (md_sums T) (by unfold fX5_sumsLaw; rw [hs.sums]) rfl
    simp only [if_neg e3] at fin ⊢
    by_cases e4 : p = 4
    · simp only [if_pos e4] at fin ⊢
      exact fin (md_falls T) (by unfold fX5_fallsLaw; rw [hs.falls]) rfl
    simp only [if_neg e4] at fin ⊢
    by_cases e5 : p = 5
    · simp only [if_pos e5] at fin ⊢
      obtain ⟨r, a, b⟩ := allEarned_eq hs
      exact fin r (by rw [a]; rfl) (by rw [b]; rfl)
    simp only [if_neg e5] at fin ⊢
    by_cases e6 : p = 6
    · simp only [if_pos e6] at fin ⊢
      exact fin (nI k) (by unfold fX6_howMany_L; rw [x2]) (by rw [x3])
    simp only [if_neg e6] at fin ⊢
    by_cases e7 : p = 7
    · simp only [if_pos e7] at fin ⊢
      exact fin (nI k2) (by unfold fX6_howMany_R; rw [y2]) (by rw [y3])
    simp only [if_neg e7] at fin ⊢
    exact fin (-9) rfl rfl
theorem sim_far : zSim_far RT := by
  intro M T p h
  unfold fX7_far fX8_far
  have e0 : fX8_bound p 1 12 = fX7_outside p 1 12 := rfl
  rw [e0]
  rcases outside_3 p 1 12 (by omega) (by omega) with e | e | ⟨e, -⟩
  · have e' : fX7_outside p 1 12 = -4 := e
    rw [e', if_neg (by decide), if_neg (by decide)]
    obtain ⟨M', T', x, y, z⟩ := refuse_4 h
    exact ⟨-4, M', T', by rw [x]; rfl, by rw [y]; rfl, z⟩
  · have e' : fX7_outside p 1 12 = -6 := e
    rw [e', if_neg (by decide), if_neg (by decide)]
    obtain ⟨M', T', x, y, z⟩ := refuse_6 h
    exact ⟨-6, M', T', by rw [x]; rfl, by rw [y]; rfl, z⟩
  · have e' : fX7_outside p 1 12 = 0 := e
    rw [e', if_pos rfl, if_pos rfl]
    exact ⟨_, M, T, rfl, rfl, h⟩
/-- the same bits of chance -/
theorem draw_eq (x : Int32) {c : Nat} (h1 : 1 ≤ c) (h2 : c ≤ 12) : ∃ j, j < c ∧ fX7_draw x (nI c) = some (nI j) ∧ (x &&& 2147483647) / 65536 - (x &&& 2147483647) / 65536 / nI c * nI c = nI j := by
  have e1 : x &&& 2147483647 = nI (x.toBitVec.toNat % 2 ^ 31) := pk_and x 31 (by decide)
  have hm : x.toBitVec.toNat % 2 ^ 31 < 2 ^ 31 := Nat.mod_lt _ (by omega)
  have e2 : ((nI (x.toBitVec.toNat % 2 ^ 31)).toUInt32 >>> ((16 : Int32).toUInt32 &&& Int32.toUInt32 31)).toInt32 = nI (x.toBitVec.toNat % 2 ^ 31 / 2 ^ 16) := pk_ushrN (by omega) 16 16 (by decide)
  have e3 : nI (x.toBitVec.toNat % 2 ^ 31) / 65536 = nI (x.toBitVec.toNat % 2 ^ 31 / 65536) := pk_div (d := 65536) hm (by omega) (by omega)
  have hd : x.toBitVec.toNat % 2 ^ 31 / 65536 < 2 ^ 31 := Nat.lt_of_le_of_lt (Nat.div_le_self _ _) hm
  have e4 := pk_rem (a := x.toBitVec.toNat % 2 ^ 31 / 65536) (d := c) hd (by omega) (by omega)
  refine ⟨x.toBitVec.toNat % 2 ^ 31 / 65536 % c, Nat.mod_lt _ (by omega), ?_, ?_⟩
  · unfold fX7_draw
    rw [if_pos (show (1 : Int32) ≤ nI c from nI_le (a := 1) h1 (by omega)), if_neg (nI_ne0 (by omega) (by omega)), e1, e2]
    exact congrArg some e4
  · rw [e1, e3]
    exact e4
theorem lots_lots (T : zMd) (a b : Int32) : md_set_lots (md_set_lots T a) b = md_set_lots T b := rfl
theorem build_0 {c w : Nat} {S : zSt} {T : zMd} (h : SR c w S T) {a b : Nat} (ha : a < c) (hb : b < c) : ∃ (c' w' : Nat) (S' : zSt) (T' : zMd) (r : Int32), fX5_build S (nI a) (nI b) 0 0 = some (r, S') ∧ ((fX8_canBe T (nI a) (nI b)).bind fun u3 => if u3 = 0 then some T else if (12 : Int32) ≤ md_houses T then some T else (fX8_builds T (nI a) (nI b) 0 0).bind fun u6 => some u6) = some T' ∧ SR c' w' S' T' ∧ FR T T' ∧ md_kept T' = md_kept T ∧ md_lots T' = md_lots T := by
  have hc := h.c
  obtain ⟨r, hr, e1, e2, e3⟩ := canBe_eq h ha hb
  rw [e2]
  by_cases h12 : c = 12
  · subst h12
    have e6 : fX5_hasRoom S = 0 := by
      unfold fX5_hasRoom
      rw [h.came]; decide
    refine ⟨12, w, S, T, 0, ?_, ?_, h, FR.rf, rfl, rfl⟩
    · unfold fX5_build
      rw [e6, if_pos rfl]
    · show (if r = 0 then some T else if (12 : Int32) ≤ md_houses T then some T else _) = _
      by_cases g : r = 0
      · rw [if_pos g]
      · rw [if_neg g, h.houses, if_pos (by decide)]
  · rcases hr with rfl | rfl
    · refine ⟨c, w, S, T, 0, ?_, rfl, h, FR.rf, rfl, rfl⟩
      have e6 : fX5_hasRoom S = 1 := by
        unfold fX5_hasRoom
        rw [h.came, if_neg (show ¬ (12 : Int32) ≤ nI c from nI_ge (b := 12) (by omega) (by omega))]
      unfold fX5_build
      rw [e6, if_neg (by decide), if_neg (by decide), e1]
      rfl
    · obtain ⟨sa, sb, h9⟩ := e3 rfl
      obtain ⟨w', S', T', b1, b2, b3, b4, b5, b6⟩ := build_eq h (by omega) ha hb (k := 0) (f := 0) (by decide) e1 h9
      refine ⟨c + 1, w', S', T', 1, b1, ?_, b3, b4, b5, b6⟩
      show (if (1 : Int32) = 0 then some T else if (12 : Int32) ≤ md_houses T then some T else _) = _
      rw [if_neg (by decide), h.houses, if_neg (show ¬ (12 : Int32) ≤ nI c from nI_ge (b := 12) (by omega) (by omega)), b2]
      rfl
/-- what seeds answers behind the last of its tries -/
def zSeedEnd (v3 : Int32) (T : zMd) : Option (Int32 × zMd) := if v3 = 0 then ((fX8_standing T).bind fun u5 => (fX8_bits u5).bind fun u6 => fX8_seeds_j83 u6 T) else ((fX8_greatest T).bind fun u4 => fX8_seeds_j83 u4 T)
theorem seeds_l (N : Nat) (hN : N < 2 ^ 30) (v3 : Int32) : ∀ d i k (S : zSt) (T : zMd) (c w : Nat), i + d = N → d < k → SR c w S T → ∃ (c' w' : Nat) (S' : zSt) (T' : zMd), fX7_sow_l5 (nI N) k (md_lots T) (nI i) S = some S' ∧ fX8_seeds_l49 (nI N) v3 k (nI i) T = zSeedEnd v3 T' ∧ SR c' w' S' T' ∧ FR T T' ∧ md_kept T' = md_kept T := by
  intro d
  induction d with
  | zero =>
    intro i k S T c w hi hk hs
    obtain ⟨k, rfl⟩ : ∃ k', k = k' + 1 := ⟨k - 1, by omega⟩
    refine ⟨c, w, S, T, ?_, ?_, hs, FR.rf, rfl⟩
    · rw [fX7_sow_l5, if_pos (nI_le (by omega) (by omega))]
    · rw [fX8_seeds_l49, if_pos (nI_le (by omega) (by omega))]; rfl
  | succ d ih =>
    intro i k S T c w hi hk hs
    obtain ⟨k, rfl⟩ : ∃ k', k = k' + 1 := ⟨k - 1, by omega⟩
    obtain ⟨z1, ez1⟩ : ∃ z1, z1 = md_lots T * 1103515245 + 12345 := ⟨_, rfl⟩
    obtain ⟨z2, ez2⟩ : ∃ z2, z2 = z1 * 1103515245 + 12345 := ⟨_, rfl⟩
    obtain ⟨a, ha, a1, a2⟩ := draw_eq z1 hs.c1 hs.c
    obtain ⟨b, hb, b1, b2⟩ := draw_eq z2 hs.c1 hs.c
    have nh : ¬ nI c = 0 := nI_ne0 (by have := hs.c1; omega) (by have := hs.c; omega)
    have hs2 : SR c w S (md_set_lots T z2) := hs
    obtain ⟨c', w', S', T', r, p1, p2, p3, p4, p5, p6⟩ := build_0 hs2 ha hb
    have p6' : md_lots T' = z2 := p6
    obtain ⟨c2, w2, S2, T2, q1, q2, q3, q4, q5⟩ := ih (i + 1) k S' T' c' w' (by omega) (by omega) p3
    refine ⟨c2, w2, S2, T2, ?_, ?_, q3, FR.tr p4 q4, q5.trans p5⟩
    · rw [fX7_sow_l5, if_neg (nI_ge (by omega) (by omega))]
      unfold fX7_nextSeed fX5_cameCount
      rw [hs.came, ← ez1, ← ez2, a1, nI_1]
      rw [Option.bind_some]
      rw [b1]
      rw [Option.bind_some]
      rw [p1]
      rw [p6'] at q1
      exact q1
    · rw [fX8_seeds_l49, if_neg (nI_ge (by omega) (by omega))]
      have hd1 : fX8_draw T (nI c) = some (nI a, md_set_lots T z1) := by
        unfold fX8_draw
        rw [if_neg nh, ← ez1, a2]
      have hl : md_lots (md_set_lots T z1) = z1 := rfl
      have hd2 : fX8_draw (md_set_lots T z1) (nI c) = some (nI b, md_set_lots T z2) := by
        unfold fX8_draw
        rw [if_neg nh, hl, ← ez2, b2, lots_lots]
      have hh : md_houses (md_set_lots T z1) = nI c := hs.houses
      have e : fX8_buildsByLot T = some T' := by
        unfold fX8_buildsByLot
        rw [hs.houses, hd1]
        rw [Option.bind_some]
        show ((fX8_draw (md_set_lots T z1) (md_houses (md_set_lots T z1))).bind _) = _
        rw [hh, hd2]
        rw [Option.bind_some]
        exact p2
      rw [e, nI_1]
      exact q2
theorem sim_seeds : zSim_seeds RT := by
  intro M T n z q h
  have hr := h
  obtain ⟨⟨c, w, hs⟩, -⟩ := h
  unfold fX7_seeds fX8_seeds
  have R : ∀ t : Int32, (t = -2 ∨ t = -4 ∨ t = -6) → ∃ r M' T', fX7_seeds_j19 n z q t M = some (r, M') ∧ fX8_seeds_j21 n z q t T = some (r, T') ∧ RT M' T' := by
    intro t ht
    unfold fX7_seeds_j19 fX8_seeds_j21
    rcases ht with rfl | rfl | rfl
    · rw [if_neg (by decide), if_neg (by decide)]
      obtain ⟨M', T', x, y, e⟩ := refuse_2 hr
      exact ⟨-2, M', T', by rw [x]; rfl, by rw [y]; rfl, e⟩
    · rw [if_neg (by decide), if_neg (by decide)]
      obtain ⟨M', T', x, y, e⟩ := refuse_4 hr
      exact ⟨-4, M', T', by rw [x]; rfl, by rw [y]; rfl, e⟩
    · rw [if_neg (by decide), if_neg (by decide)]
      obtain ⟨M', T', x, y, e⟩ := refuse_6 hr
      exact ⟨-6, M', T', by rw [x]; rfl, by rw [y]; rfl, e⟩
  have e0 : fX8_bound n 1 40 = fX7_outside n 1 40 := rfl
  rcases two_3 q with ⟨t1, t2⟩ | ⟨t1, t2, t3⟩
  · rw [t1, t2, if_pos rfl, if_pos rfl]
    exact R (-2) (Or.inl rfl)
  rw [t1, t2, if_neg (by decide), if_neg (by decide), e0]
  rcases outside_3 n 1 40 (by omega) (by omega) with e | e | ⟨e, N, hN1, hN2, rfl⟩
  · have e' : fX7_outside n 1 40 = -4 := e
    rw [e']; exact R (-4) (Or.inr (Or.inl rfl))
  · have e' : fX7_outside n 1 40 = -6 := e
    rw [e']; exact R (-6) (Or.inr (Or.inr rfl))
  have e' : fX7_outside (nI N) 1 40 = 0 := e
  rw [e']
  unfold fX7_seeds_j19 fX8_seeds_j21
  rw [if_pos (show (0 : Int32) = 0 from rfl), if_pos (show (0 : Int32) = 0 from rfl)]
  obtain ⟨T1, k1, k2, k3, k4, k5⟩ := keep_ok T 2 (by omega)
  have k1' : fX8_passesAll T 2 1 = some T1 := k1
  rw [k1']
  have hs1 : SR c w (fX5_become (mn_mind M) (mn_live M)) (md_set_lots T1 z) := (hs.se k2).become (mn_mind M)
  obtain ⟨c', w', S', T', q1, q2, q3, q4, q5⟩ := seeds_l N (by omega) q N 0 FU _ _ c w (by omega) (FU_big _ (by omega)) hs1
  have q1' : fX7_sow (fX5_become (mn_mind M) (mn_live M)) (nI N) z = some S' := q1
  obtain ⟨T5, l1, l2, l3, l4⟩ := load_ok T' 2 (by omega)
  have l1' : fX8_passesAll T' 2 0 = some T5 := l1
  have sk : ∀ cu, SE (zload T1 cu) (zload T' cu) := fun cu => zload_se (fun j _ _ => by rw [q5]; rfl)
  have rt : RT M T5 := hr.same ((k4.tr (sk 200)).tr l2) ((k3.tr (FR.tr ⟨rfl, rfl, rfl, rfl, rfl, rfl, rfl, rfl, rfl, rfl, rfl, rfl⟩ q4)).tr l3) (((k5 0 (by omega) (by omega)).tr (sk 0)).tr (l4 0))
  have q2' : fX8_seeds_l49 (nI N) q FU 0 (md_set_lots T1 z) = zSeedEnd q T' := q2
  rw [q1']
  repeat rw [Option.bind_some]
  rw [q2']
  have j83 : ∀ v : Int32, fX8_seeds_j83 v T' = some (v, T5) := by
    intro v
    unfold fX8_seeds_j83
    rw [l1']
    rw [Option.bind_some]
  unfold zSeedEnd
  by_cases g : q = 0
  · simp only [if_pos g]
    refine ⟨nI (zpop w' 31), mn_set_mind M S', T5, ?_, ?_, rt⟩
    · unfold fX5_standingCount
      rw [q3.st, z_bitCount _ q3.w12]
    · rw [q3.hs]
      rw [Option.bind_some]
      rw [bits_eq q3.w12]
      rw [Option.bind_some]
      exact j83 _
  · simp only [if_neg g]
    obtain ⟨r, g1, g2⟩ := greatest_eq q3
    refine ⟨r, mn_set_mind M S', T5, ?_, ?_, rt⟩
    · rw [g1]; rfl
    · rw [g2]
      rw [Option.bind_some]
      exact j83 _
