/-! one more, two more -/
theorem RT.mind {M : zMn} {T : zMd} (h : RT M T) (S : zSt) : RT (mn_set_mind M S) T := h
theorem more_in (n : Int32) {c w : Nat} (hc12 : c < 12) (a : Nat) (ha : a < c) (K1 : Int32 → zMn → Option (Int32 × zMn)) (K2 : Int32 → Int32 → zMd → Option (Int32 × zMd))
    (h1 : ∀ T, K2 1 (nI (a + 1)) T = some (1, T))
    (h0 : ∀ M T, RT M T → SR c w (mn_live M) T → ∃ (r : Int32) (M' : zMn) (T' : zMd), (r = 0 ∨ r = 1) ∧ K1 (nI (a + 1)) M = some (r, M') ∧ K2 0 (nI (a + 1)) T = some (r, T') ∧ RT M' T') :
    ∀ d i k (M : zMn) (T : zMd), i + d = c → d + 1 < k → RT M T → SR c w (mn_live M) T → ∃ (r : Int32) (M' : zMn) (T' : zMd), (r = 0 ∨ r = 1) ∧ fX7_comesNextButOne_l15 n (nI a) K1 k (nI i) M = some (r, M') ∧ fX8_comesToIn2_l30 n (nI c) (nI a) K2 k 0 (nI i) T = some (r, T') ∧ RT M' T' := by
  intro d
  induction d with
  | zero =>
    intro i k M T hi hk hr hs
    obtain ⟨k, rfl⟩ : ∃ k', k = k' + 1 := ⟨k - 1, by omega⟩
    obtain ⟨r, M', T', q0, q1, q2, q3⟩ := h0 M T hr hs
    refine ⟨r, M', T', q0, ?_, ?_, q3⟩
    · rw [fX7_comesNextButOne_l15]
      unfold fX5_cameCount
      rw [hs.came, if_pos (nI_le (by omega) (by omega)), nI_1]
      exact q1
    · rw [fX8_comesToIn2_l30, if_pos (nI_le (by omega) (by omega)), nI_1]
      exact q2
  | succ d ih =>
    intro i k M T hi hk hr hs
    obtain ⟨k, rfl⟩ : ∃ k', k = k' + 1 := ⟨k - 1, by omega⟩
    have hsb := hs.become (mn_mind M)
    obtain ⟨r, hr01, e1, e2, e3⟩ := canBe_eq hsb ha (b := i) (by omega)
    have e6 : fX5_hasRoom (fX5_become (mn_mind M) (mn_live M)) = 1 := by
      unfold fX5_hasRoom
      rw [hsb.came, if_neg (show ¬ (12 : Int32) ≤ nI c from nI_ge (b := 12) (by omega) (by omega))]
    rw [fX7_comesNextButOne_l15, fX8_comesToIn2_l30]
    unfold fX5_cameCount
    rw [hs.came, if_neg (nI_ge (by omega) (by omega)), if_neg (nI_ge (by omega) (by omega)), if_pos rfl, e2, nI_1]
    rcases hr01 with rfl | rfl
    · have eb : fX5_build (fX5_become (mn_mind M) (mn_live M)) (nI a) (nI i) 0 0 = some (0, fX5_become (mn_mind M) (mn_live M)) := by
        unfold fX5_build
        rw [e6, if_neg (by decide), if_neg (by decide), e1]
        rfl
      rw [eb]
      exact ih (i + 1) k (mn_set_mind M (fX5_become (mn_mind M) (mn_live M))) T (by omega) (by omega) hr hs
    · obtain ⟨sa, sb, h9⟩ := e3 rfl
      obtain ⟨T1, k1, k2, k3, k4, k5⟩ := keep_ok T 2 (by omega)
      have k1' : fX8_passesAll T 2 1 = some T1 := k1
      have h9' : ∃ n, 1 ≤ n ∧ n ≤ 9999 ∧ md_number T1 a + md_number T1 i = nI n := by
        rw [(k2.1 a (by omega)).1, (k2.1 i (by omega)).1]
        exact h9
      obtain ⟨w', S', T2, b1, b2, b3, b4, b5, -⟩ := build_eq (hsb.se k2) hc12 ha (b := i) (by omega) (k := 0) (f := 0) (by decide) e1 h9'
      obtain ⟨r2, hr2, g1, g2⟩ := comesNext_eq b3 n
      obtain ⟨T5, l1, l2, l3, l4⟩ := load_ok T2 2 (by omega)
      have l1' : fX8_passesAll T2 2 0 = some T5 := l1
      have sk : ∀ cu, SE (zload T1 cu) (zload T2 cu) := fun cu => zload_se (fun j _ _ => by rw [b5])
      have seT : SE T T5 := (k4.tr (sk 200)).tr l2
      have rt : RT M T5 := hr.same seT ((k3.tr b4).tr l3) (((k5 0 (by omega) (by omega)).tr (sk 0)).tr (l4 0))
      rw [b1]
      repeat rw [Option.bind_some]
      rw [if_neg (show ¬ (1 : Int32) = 0 from by decide), if_neg (by decide), g1, k1']
      repeat rw [Option.bind_some]
      rw [b2]
      repeat rw [Option.bind_some]
      rw [g2]
      repeat rw [Option.bind_some]
      rw [l1']
      repeat rw [Option.bind_some]
      rcases hr2 with rfl | rfl
      · exact ih (i + 1) k (mn_set_mind M S') T5 (by omega) (by omega) rt (hs.se seT)
      · refine ⟨1, mn_set_mind M S', T5, Or.inr rfl, rfl, ?_, rt⟩
        show fX8_comesToIn2_l30 n (nI c) (nI a) K2 k 1 (nI (i + 1)) T5 = _
        obtain ⟨k, rfl⟩ : ∃ k', k = k' + 1 := ⟨k - 1, by omega⟩
        rw [fX8_comesToIn2_l30]
        by_cases g : nI c ≤ nI (i + 1)
        · rw [if_pos g, nI_1]; exact h1 T5
        · rw [if_neg g, if_neg (by decide), nI_1]; exact h1 T5
theorem more_1 (n : Int32) (c a k : Nat) (T : zMd) : fX8_comesToIn2_l10 n (nI c) (k + 1) 1 (nI a) T = some (1, T) := by
  rw [fX8_comesToIn2_l10]
  by_cases g : nI c ≤ nI a
  · rw [if_pos g]; rfl
  · rw [if_neg g]
    by_cases g2 : (12 : Int32) ≤ nI c
    · rw [if_pos g2]; rfl
    · rw [if_neg g2, if_neg (by decide)]; rfl
theorem more_out (n : Int32) {c w : Nat} (hc12 : c < 12) : ∀ d i k (M : zMn) (T : zMd), i + d = c → d + 1 < k → RT M T → SR c w (mn_live M) T → ∃ (r : Int32) (M' : zMn) (T' : zMd), (r = 0 ∨ r = 1) ∧ fX7_comesNextButOne_l2 n k (nI i) M = some (r, M') ∧ fX8_comesToIn2_l10 n (nI c) k 0 (nI i) T = some (r, T') ∧ RT M' T' := by
  intro d
  induction d with
  | zero =>
    intro i k M T hi hk hr hs
    obtain ⟨k, rfl⟩ : ∃ k', k = k' + 1 := ⟨k - 1, by omega⟩
    refine ⟨0, M, T, Or.inl rfl, ?_, ?_, hr⟩
    · rw [fX7_comesNextButOne_l2]
      unfold fX5_cameCount
      rw [hs.came, if_pos (nI_le (by omega) (by omega))]
    · rw [fX8_comesToIn2_l10, if_pos (nI_le (by omega) (by omega))]; rfl
  | succ d ih =>
    intro i k M T hi hk hr hs
    obtain ⟨k, rfl⟩ : ∃ k', k = k' + 1 := ⟨k - 1, by omega⟩
    rw [fX7_comesNextButOne_l2, fX8_comesToIn2_l10]
    unfold fX5_cameCount
    rw [hs.came, if_neg (nI_ge (by omega) (by omega)), if_neg (nI_ge (by omega) (by omega)), if_neg (show ¬ (12 : Int32) ≤ nI c from nI_ge (b := 12) hc12 (by omega)), if_pos rfl]
    obtain ⟨k', rfl⟩ : ∃ k', k = k' + 1 := ⟨k - 1, by omega⟩
    exact more_in n hc12 i (by omega) _ _ (fun T => more_1 n c (i + 1) k' T) (fun M2 T2 hr2 hs2 => ih (i + 1) (k' + 1) M2 T2 (by omega) (by omega) hr2 hs2) (c - i) i FU M T (by omega) (FU_big _ (by omega)) hr hs
/-- with twelve houses none comes -/
theorem more_12_in (n a : Int32) {w : Nat} (K1 : Int32 → zMn → Option (Int32 × zMn)) (T : zMd) (h0 : ∀ M, RT M T → SR 12 w (mn_live M) T → ∃ (M' : zMn), K1 (a + 1) M = some (0, M') ∧ RT M' T) : ∀ d i k (M : zMn), i + d = 12 → d < k → RT M T → SR 12 w (mn_live M) T → ∃ (M' : zMn), fX7_comesNextButOne_l15 n a K1 k (nI i) M = some (0, M') ∧ RT M' T := by
  intro d
  induction d with
  | zero =>
    intro i k M hi hk hr hs
    obtain ⟨k, rfl⟩ : ∃ k', k = k' + 1 := ⟨k - 1, by omega⟩
    rw [fX7_comesNextButOne_l15]
    unfold fX5_cameCount
    rw [hs.came, if_pos (nI_le (by omega) (by omega))]
    exact h0 M hr hs
  | succ d ih =>
    intro i k M hi hk hr hs
    obtain ⟨k, rfl⟩ : ∃ k', k = k' + 1 := ⟨k - 1, by omega⟩
    have e6 : fX5_hasRoom (fX5_become (mn_mind M) (mn_live M)) = 0 := by
      unfold fX5_hasRoom
      rw [(hs.become (mn_mind M)).came]; decide
    have eb : fX5_build (fX5_become (mn_mind M) (mn_live M)) a (nI i) 0 0 = some (0, fX5_become (mn_mind M) (mn_live M)) := by
      unfold fX5_build
      rw [e6, if_pos rfl]
    rw [fX7_comesNextButOne_l15]
    unfold fX5_cameCount
    rw [hs.came, if_neg (nI_ge (by omega) (by omega)), eb, nI_1]
    exact ih (i + 1) k (mn_set_mind M (fX5_become (mn_mind M) (mn_live M))) (by omega) (by omega) hr hs
theorem more_12_out (n : Int32) {w : Nat} (T : zMd) : ∀ d i k (M : zMn), i + d = 12 → d < k → RT M T → SR 12 w (mn_live M) T → ∃ (M' : zMn), fX7_comesNextButOne_l2 n k (nI i) M = some (0, M') ∧ RT M' T := by
  intro d
  induction d with
  | zero =>
    intro i k M hi hk hr hs
    obtain ⟨k, rfl⟩ : ∃ k', k = k' + 1 := ⟨k - 1, by omega⟩
    refine ⟨M, ?_, hr⟩
    rw [fX7_comesNextButOne_l2]
    unfold fX5_cameCount
    rw [hs.came, if_pos (nI_le (by omega) (by omega))]
  | succ d ih =>
    intro i k M hi hk hr hs
    obtain ⟨k, rfl⟩ : ∃ k', k = k' + 1 := ⟨k - 1, by omega⟩
    rw [fX7_comesNextButOne_l2]
    unfold fX5_cameCount
    rw [hs.came, if_neg (nI_ge (by omega) (by omega))]
    refine more_12_in n (nI i) _ T (fun M2 hr2 hs2 => ?_) (12 - i) i FU M (by omega) (FU_big _ (by omega)) hr hs
    rw [nI_1]
    exact ih (i + 1) k M2 (by omega) (by omega) hr2 hs2
theorem sim_more : zSim_more RT := by
  intro M T p h
  have hr := h
  obtain ⟨⟨c, w, hs⟩, -⟩ := h
  have hc := hs.c
  unfold fX7_more fX8_more
  have e0 : fX8_bound p 1 300 = fX7_outside p 1 300 := rfl
  rw [e0]
  rcases outside_3 p 1 300 (by omega) (by omega) with e | e | ⟨e, -⟩
  · have e' : fX7_outside p 1 300 = -4 := e
    rw [e', if_neg (by decide), if_neg (by decide)]
    obtain ⟨M', T', x, y, z⟩ := refuse_4 hr
    exact ⟨-4, M', T', by rw [x]; rfl, by rw [y]; rfl, z⟩
  · have e' : fX7_outside p 1 300 = -6 := e
    rw [e', if_neg (by decide), if_neg (by decide)]
    obtain ⟨M', T', x, y, z⟩ := refuse_6 hr
    exact ⟨-6, M', T', by rw [x]; rfl, by rw [y]; rfl, z⟩
  have e' : fX7_outside p 1 300 = 0 := e
  rw [e', if_pos rfl, if_pos rfl]
  obtain ⟨r, r01, a1, a2⟩ := isThere_eq hs p
  rw [a1, a2]
  rcases r01 with rfl | rfl
  · obtain ⟨r, r01, b1, b2⟩ := comesNext_eq hs p
    show ∃ r M' S', ((fX5_comesNext (mn_live M) p).bind _) = some (r, M') ∧ ((fX8_comesToIn1 T p).bind _) = some (r, S') ∧ _
    rw [b1, b2]
    rcases r01 with rfl | rfl
    · show ∃ r M' S', ((fX7_comesNextButOne M p).bind _) = some (r, M') ∧ ((fX8_comesToIn2 T p).bind _) = some (r, S') ∧ _
      by_cases h12 : c = 12
      · subst h12
        obtain ⟨M', q1, q2⟩ := more_12_out p T 12 0 FU M (by omega) (FU_big _ (by omega)) hr hs
        have q1' : fX7_comesNextButOne M p = some (0, M') := q1
        have q3 : fX8_comesToIn2 T p = some (0, T) := by
          unfold fX8_comesToIn2
          show fX8_comesToIn2_l10 p (md_houses T) (FU - 1 + 1) 0 0 T = _
          rw [fX8_comesToIn2_l10, hs.houses, if_neg (show ¬ nI 12 ≤ (0 : Int32) by decide), if_pos (show (12 : Int32) ≤ nI 12 by decide)]
          rfl
        rw [q1', q3]
        exact ⟨-9, M', T, rfl, rfl, q2⟩
      · obtain ⟨r, M', T', r01, q1, q2, q3⟩ := more_out p (c := c) (w := w) (by omega) c 0 FU M T (by omega) (FU_big _ (by omega)) hr hs
        have q1' : fX7_comesNextButOne M p = some (r, M') := q1
        have q2' : fX8_comesToIn2 T p = some (r, T') := by
          unfold fX8_comesToIn2
          rw [hs.houses]
          exact q2
        rw [q1', q2']
        rcases r01 with rfl | rfl
        · exact ⟨-9, M', T', rfl, rfl, q3⟩
        · exact ⟨2, M', T', rfl, rfl, q3⟩
    · exact ⟨1, M, T, rfl, rfl, hr⟩
  · exact ⟨0, M, T, rfl, rfl, hr⟩
