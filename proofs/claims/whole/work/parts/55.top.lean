/-! the whole states: one relation; the plain calls -/
def RT (M : zMn) (T : zMd) : Prop :=
  (∃ c w, SR c w (mn_live M) T) ∧
  (mn_isKept M = md_hasImage T ∧ (md_hasImage T = 0 ∨ (md_hasImage T = 1 ∧ ∃ c w, SR c w (mn_kept M) (zload T 0)))) ∧
  (∃ k, k ≤ 64 ∧ lt_length (mn_letters M) = nI k ∧ md_taped T = nI k ∧ ∀ i, i < k → lt_all (mn_letters M) i = md_tape T i) ∧
  (∃ k, k ≤ 12 ∧ rw_length (mn_told M) = nI k ∧ md_rowMany T = nI k ∧ ∀ i, i < k → rw_all (mn_told M) i = md_row T i) ∧
  (∀ i, i < 7 → mn_refusals M i = md_refused T i) ∧
  ch_numbers (mn_chains M) 0 = 1
theorem SR.of {c w : Nat} {S : zSt} {T T' : zMd} (h : SR c w S T) (e : md_number T' = md_number T ∧ md_kind T' = md_kind T ∧ md_figure T' = md_figure T ∧ md_one T' = md_one T ∧ md_other T' = md_other T ∧ md_stands T' = md_stands T ∧ md_uses T' = md_uses T ∧ md_earned T' = md_earned T ∧ md_houses T' = md_houses T ∧ md_sums T' = md_sums T ∧ md_falls T' = md_falls T) : SR c w S T' := by
  obtain ⟨a1, a2, a3, a4, a5, a6, a7, a8, a9, a10, a11⟩ := e
  exact h.se ⟨fun j _ => ⟨by rw [a1], by rw [a2], by rw [a3], by rw [a4], by rw [a5], by rw [a6], by rw [a7], by rw [a8]⟩, a9, a10, a11⟩
theorem RT.of {M M' : zMn} {T T' : zMd} (h : RT M T) (m1 : mn_live M' = mn_live M) (m2 : mn_isKept M' = mn_isKept M) (m3 : mn_kept M' = mn_kept M) (m4 : mn_chains M' = mn_chains M)
    (e : md_number T' = md_number T ∧ md_kind T' = md_kind T ∧ md_figure T' = md_figure T ∧ md_one T' = md_one T ∧ md_other T' = md_other T ∧ md_stands T' = md_stands T ∧ md_uses T' = md_uses T ∧ md_earned T' = md_earned T ∧ md_houses T' = md_houses T ∧ md_sums T' = md_sums T ∧ md_falls T' = md_falls T) (ek : md_kept T' = md_kept T) (ei : md_hasImage T' = md_hasImage T)
    (h3 : ∃ k, k ≤ 64 ∧ lt_length (mn_letters M') = nI k ∧ md_taped T' = nI k ∧ ∀ i, i < k → lt_all (mn_letters M') i = md_tape T' i)
    (h4 : ∃ k, k ≤ 12 ∧ rw_length (mn_told M') = nI k ∧ md_rowMany T' = nI k ∧ ∀ i, i < k → rw_all (mn_told M') i = md_row T' i)
    (h5 : ∀ i, i < 7 → mn_refusals M' i = md_refused T' i) : RT M' T' := by
  obtain ⟨⟨c, w, g1⟩, ⟨g2, g3⟩, -, -, -, g6⟩ := h
  refine ⟨⟨c, w, ?_⟩, ⟨?_, ?_⟩, h3, h4, h5, ?_⟩
  · rw [m1]; exact g1.of e
  · rw [m2, ei]; exact g2
  · rw [ei, m3]
    rcases g3 with z | ⟨z, c', w', z2⟩
    · exact Or.inl z
    · exact Or.inr ⟨z, c', w', z2.se (zload_se (fun j _ _ => by rw [ek]))⟩
  · rw [m4]; exact g6
theorem refuse_ok {M : zMn} {T : zMd} (h : RT M T) (r : Int32) (k : Nat) (hk : k < 7) (e : -r = nI k) (e1 : ¬ 0 ≤ r) (e2 : ¬ r ≤ (-7 : Int32)) : ∃ M' T', fX7_refuse M r = some (r, M') ∧ fX8_no T r = some (r, T') ∧ RT M' T' := by
  obtain ⟨h1, h2, h3, h4, h5, h6⟩ := h
  refine ⟨mn_set_refusals M (upd (mn_refusals M) k (mn_refusals M k + 1)), md_set_refused T (upd (md_refused T) k (md_refused T k + 1)), ?_, ?_, ?_⟩
  · unfold fX7_refuse
    rw [if_neg e1, if_neg e2, e, ix_nI hk (by omega), nI_clamp (by omega)]
  · unfold fX8_no
    rw [e, ix_nI hk (by omega), nI_clamp (by omega)]
  · refine ⟨h1, h2, h3, h4, fun i hi => ?_, h6⟩
    show upd _ _ _ i = upd _ _ _ i
    rw [upd_at, upd_at, h5 i hi, h5 k hk]
theorem refuse_1 {M : zMn} {T : zMd} (h : RT M T) : ∃ M' T', fX7_refuse M (-1) = some (-1, M') ∧ fX8_no T (-1) = some (-1, T') ∧ RT M' T' := refuse_ok h (-1) 1 (by omega) (by decide) (by decide) (by decide)
theorem refuse_2 {M : zMn} {T : zMd} (h : RT M T) : ∃ M' T', fX7_refuse M (-2) = some (-2, M') ∧ fX8_no T (-2) = some (-2, T') ∧ RT M' T' := refuse_ok h (-2) 2 (by omega) (by decide) (by decide) (by decide)
theorem refuse_3 {M : zMn} {T : zMd} (h : RT M T) : ∃ M' T', fX7_refuse M (-3) = some (-3, M') ∧ fX8_no T (-3) = some (-3, T') ∧ RT M' T' := refuse_ok h (-3) 3 (by omega) (by decide) (by decide) (by decide)
theorem refuse_4 {M : zMn} {T : zMd} (h : RT M T) : ∃ M' T', fX7_refuse M (-4) = some (-4, M') ∧ fX8_no T (-4) = some (-4, T') ∧ RT M' T' := refuse_ok h (-4) 4 (by omega) (by decide) (by decide) (by decide)
theorem refuse_6 {M : zMn} {T : zMd} (h : RT M T) : ∃ M' T', fX7_refuse M (-6) = some (-6, M') ∧ fX8_no T (-6) = some (-6, T') ∧ RT M' T' := refuse_ok h (-6) 6 (by omega) (by decide) (by decide) (by decide)
/-- a bound: the refusal, or 0 -/
theorem bound_cases (x : Int32) (a b : Int32) : fX8_bound x a b = fX7_outside x a b := rfl
theorem outside_3 (x : Int32) (a b : Nat) (ha : a < 2 ^ 31) (hb : b < 2 ^ 31) : (fX7_outside x (nI a) (nI b) = -4) ∨ (fX7_outside x (nI a) (nI b) = -6) ∨ (fX7_outside x (nI a) (nI b) = 0 ∧ ∃ n, a ≤ n ∧ n ≤ b ∧ x = nI n) := by
  unfold fX7_outside
  by_cases h1 : nI a ≤ x
  · rw [if_pos h1]
    by_cases h2 : x ≤ nI b
    · rw [if_pos h2]
      refine Or.inr (Or.inr ⟨rfl, ?_⟩)
      have p1 := Int32.le_iff_toInt_le.mp h1
      have p2 := Int32.le_iff_toInt_le.mp h2
      rw [nI_toInt ha] at p1
      rw [nI_toInt hb] at p2
      refine ⟨x.toInt.toNat, by omega, by omega, ?_⟩
      apply Int32.toInt_inj.mp
      rw [nI_toInt (by omega)]
      omega
    · rw [if_neg h2]
      exact Or.inr (Or.inl rfl)
  · rw [if_neg h1]
    exact Or.inl rfl
theorem two_3 (x : Int32) : (fX7_isOneOfTwo x = 0 ∧ fX8_isIn x 0 1 = 0) ∨ (fX7_isOneOfTwo x = 1 ∧ fX8_isIn x 0 1 = 1 ∧ (x = 0 ∨ x = 1)) := by
  unfold fX7_isOneOfTwo fX8_isIn
  by_cases h0 : x = 0
  · subst h0; exact Or.inr ⟨by decide, by decide, Or.inl rfl⟩
  · by_cases h1 : x = 1
    · subst h1; exact Or.inr ⟨by decide, by decide, Or.inr rfl⟩
    · left
      refine ⟨by rw [if_neg h0, if_neg h1], ?_⟩
      by_cases h2 : x < 0
      · rw [if_pos h2]
      · rw [if_neg h2, if_pos]
        have a1 : x.toInt ≠ 0 := fun q => h0 (Int32.toInt_inj.mp q)
        have a2 : x.toInt ≠ 1 := fun q => h1 (Int32.toInt_inj.mp q)
        have a3 : ¬ x.toInt < 0 := fun q => h2 (Int32.lt_iff_toInt_lt.mpr q)
        rw [Int32.lt_iff_toInt_lt]
        show (1 : Int) < x.toInt
        omega
theorem sim_feed : zSim_feed RT := by
  intro M T p h
  have hr := h
  obtain ⟨h1, h2, ⟨k, hk, ek, ek2, hs⟩, h4, h5, h6⟩ := h
  unfold fX7_feed fX8_feed
  rw [ek2]
  rcases outside_3 p 0 255 (by omega) (by omega) with e | e | ⟨e, n, -, hn, rfl⟩
  · have e0 : ¬ (0 : Int32) ≤ p := by
      intro q
      have e' : fX7_outside p 0 255 = -4 := e
      unfold fX7_outside at e'
      rw [if_pos q] at e'
      by_cases q2 : p ≤ 255
      · rw [if_pos q2] at e'; exact absurd e' (by decide)
      · rw [if_neg q2] at e'; exact absurd e' (by decide)
    obtain ⟨M', T', a, b, c⟩ := refuse_4 hr
    refine ⟨-4, M', T', ?_, ?_, c⟩
    · rw [if_neg e0, a]; rfl
    · have e' : fX8_bound p 0 255 = -4 := e
      rw [e', if_neg (by decide)]
      unfold fX8_feed_j25
      rw [if_neg (by decide), b]; rfl
  · have e0 : (0 : Int32) ≤ p ∧ (255 : Int32) < p := by
      have e' : fX7_outside p 0 255 = -6 := e
      unfold fX7_outside at e'
      by_cases q : (0 : Int32) ≤ p
      · rw [if_pos q] at e'
        by_cases q2 : p ≤ 255
        · rw [if_pos q2] at e'; exact absurd e' (by decide)
        · exact ⟨q, Int32.not_le.mp q2⟩
      · rw [if_neg q] at e'; exact absurd e' (by decide)
    obtain ⟨M', T', a, b, c⟩ := refuse_6 hr
    refine ⟨-6, M', T', ?_, ?_, c⟩
    · rw [if_pos e0.1, if_pos e0.2]
      unfold fX7_feed_j28
      rw [a]; rfl
    · have e' : fX8_bound p 0 255 = -6 := e
      rw [e', if_neg (by decide)]
      unfold fX8_feed_j25
      rw [if_neg (by decide), b]; rfl
  · have e' : fX8_bound (nI n) 0 255 = 0 := e
    have g0 : (0 : Int32) ≤ nI n := nI_pos' (by omega)
    have g1 : ¬ (255 : Int32) < nI n := nI_nlt (b := n) (a := 255) hn (by omega)
    rw [if_pos g0, if_neg g1, e', if_pos rfl]
    by_cases q : k = 64
    · subst q
      have e6 : fX6_hasRoom_L (mn_letters M) = 0 := by
        unfold fX6_hasRoom_L
        rw [ek]; decide
      obtain ⟨M', T', a, b, c⟩ := refuse_6 hr
      refine ⟨-6, M', T', ?_, ?_, c⟩
      · rw [e6, if_pos rfl]
        unfold fX7_feed_j28
        rw [a]; rfl
      · rw [if_pos (by decide)]
        unfold fX8_feed_j25
        rw [if_neg (by decide), b]; rfl
    · have e6 : fX6_hasRoom_L (mn_letters M) = 1 := by
        unfold fX6_hasRoom_L
        rw [ek, if_neg (show ¬ (64 : Int32) ≤ nI k from nI_ge (b := 64) (by omega) (by omega))]
      have e7 : ¬ nI k = 64 := fun z => q ((nI_eq (b := 64) (by omega) (by omega)).mp z)
      refine ⟨nI (k + 1), mn_set_letters M (lt_set_length (lt_set_all (mn_letters M) (upd (lt_all (mn_letters M)) k (nI n))) (nI (k + 1))), md_set_taped (md_set_tape T (upd (md_tape T) k (nI n))) (nI (k + 1)), ?_, ?_, ?_⟩
      · rw [e6, if_neg (by decide)]
        unfold fX6_take_L
        rw [e6, if_neg (by decide), ek, ix_nI (by omega) (by omega), nI_clamp (by omega), nI_1]
        rfl
      · rw [if_neg e7]
        unfold fX8_feed_j25
        rw [if_pos rfl, ek2, ix_nI (by omega) (by omega), nI_clamp (by omega), nI_1]
      · refine RT.of hr rfl rfl rfl rfl ⟨rfl, rfl, rfl, rfl, rfl, rfl, rfl, rfl, rfl, rfl, rfl⟩ rfl rfl ⟨k + 1, by omega, rfl, rfl, fun i hi => ?_⟩ h4 h5
        show upd _ _ _ i = upd _ _ _ i
        rw [upd_at, upd_at]
        by_cases z : i = k
        · simp only [if_pos z]
        · rw [if_neg z, if_neg z, hs i (by omega)]
theorem sim_row : zSim_row RT := by
  intro M T p h
  have hr := h
  obtain ⟨h1, h2, h3, ⟨k, hk, ek, ek2, hs⟩, h5, h6⟩ := h
  unfold fX7_row fX8_row
  rw [ek2]
  have e0 : fX8_bound p 1 9999 = fX7_outside p 1 9999 := rfl
  rw [e0]
  rcases outside_3 p 1 9999 (by omega) (by omega) with e | e | ⟨e, n, hn1, hn, rfl⟩
  · have e' : fX7_outside p 1 9999 = -4 := e
    obtain ⟨M', T', a, b, c⟩ := refuse_4 hr
    refine ⟨-4, M', T', ?_, ?_, c⟩
    · rw [e', if_neg (by decide)]
      unfold fX7_row_j26
      rw [if_neg (by decide), a]; rfl
    · rw [e', if_neg (by decide)]
      unfold fX8_row_j25
      rw [if_neg (by decide), b]; rfl
  · have e' : fX7_outside p 1 9999 = -6 := e
    obtain ⟨M', T', a, b, c⟩ := refuse_6 hr
    refine ⟨-6, M', T', ?_, ?_, c⟩
    · rw [e', if_neg (by decide)]
      unfold fX7_row_j26
      rw [if_neg (by decide), a]; rfl
    · rw [e', if_neg (by decide)]
      unfold fX8_row_j25
      rw [if_neg (by decide), b]; rfl
  · have e' : fX7_outside (nI n) 1 9999 = 0 := e
    rw [e', if_pos rfl, if_pos rfl]
    by_cases q : k = 12
    · subst q
      have e6 : fX6_hasRoom_R (mn_told M) = 0 := by
        unfold fX6_hasRoom_R
        rw [ek]; decide
      obtain ⟨M', T', a, b, c⟩ := refuse_6 hr
      refine ⟨-6, M', T', ?_, ?_, c⟩
      · rw [e6, if_pos rfl]
        unfold fX7_row_j26
        rw [if_neg (by decide), a]; rfl
      · rw [if_pos (by decide)]
        unfold fX8_row_j25
        rw [if_neg (by decide), b]; rfl
    · have e6 : fX6_hasRoom_R (mn_told M) = 1 := by
        unfold fX6_hasRoom_R
        rw [ek, if_neg (show ¬ (12 : Int32) ≤ nI k from nI_ge (b := 12) (by omega) (by omega))]
      have e7 : ¬ nI k = 12 := fun z => q ((nI_eq (b := 12) (by omega) (by omega)).mp z)
      refine ⟨nI (k + 1), mn_set_told M (rw_set_length (rw_set_all (mn_told M) (upd (rw_all (mn_told M)) k (nI n))) (nI (k + 1))), md_set_rowMany (md_set_row T (upd (md_row T) k (nI n))) (nI (k + 1)), ?_, ?_, ?_⟩
      · rw [e6, if_neg (by decide)]
        unfold fX7_row_j26
        rw [if_pos rfl]
        unfold fX6_take_R
        rw [e6, if_neg (by decide), ek, ix_nI (by omega) (by omega), nI_clamp (by omega), nI_1]
        rfl
      · rw [if_neg e7]
        unfold fX8_row_j25
        rw [if_pos rfl, ek2, ix_nI (by omega) (by omega), nI_clamp (by omega), nI_1]
      · refine RT.of hr rfl rfl rfl rfl ⟨rfl, rfl, rfl, rfl, rfl, rfl, rfl, rfl, rfl, rfl, rfl⟩ rfl rfl h3 ⟨k + 1, by omega, rfl, rfl, fun i hi => ?_⟩ h5
        show upd _ _ _ i = upd _ _ _ i
        rw [upd_at, upd_at]
        by_cases z : i = k
        · simp only [if_pos z]
        · rw [if_neg z, if_neg z, hs i (by omega)]
theorem sim_house : zSim_house RT := by
  intro M T p q h
  have hr := h
  obtain ⟨⟨c, w, hs⟩, -⟩ := h
  have hc := hs.c
  unfold fX7_house fX8_house
  by_cases ho : p < 0 ∨ nI c ≤ p
  · obtain ⟨M', T', a, b, e⟩ := refuse_1 hr
    refine ⟨-1, M', T', ?_, ?_, e⟩
    · rw [has_out hs ho, if_pos rfl, a]; rfl
    · rw [isHouse_out hs ho]
      repeat rw [Option.bind_some]
      rw [if_pos (show (0 : Int32) = 0 from rfl), b]; rfl
  · obtain ⟨j, hj, rfl⟩ : ∃ j, j < c ∧ p = nI j := by
      rcases pk_ix p (n := c) (by omega) with z | z | z
      · exact absurd (Or.inl z) ho
      · exact absurd (Or.inr z) ho
      · exact z
    have a := hs.arr j hj
    rw [has_in hs hj, if_neg (by decide), isHouse_in hs hj]
    repeat rw [Option.bind_some]
    rw [if_neg (show ¬ (1 : Int32) = 0 from by decide)]
    unfold fX5_tell
    rw [has_in hs hj, if_neg (show ¬ (1 : Int32) = 0 from by decide)]
    have i12 : ∀ k : Option Int32, ix 12 (nI j) k = k := fun k => ix_nI (by omega) (by omega)
    have i12' : ∀ k : Option (Int32 × zMd), ix 12 (nI j) k = k := fun k => ix_nI (by omega) (by omega)
    have cl : (nI j).toNatClampNeg = j := nI_clamp (by omega)
    simp only [i12, i12', cl, hs.st, isIn_nI (show w < 2 ^ 31 from by have := hs.w12; omega) (show j < 12 from by omega)]
    by_cases e0 : q = 0
    · subst e0
      refine ⟨md_kind T j, M, T, ?_, ?_, hr⟩
      · rw [if_neg (by decide), if_pos (by decide), if_pos rfl, a.1]; rfl
      · rw [if_pos rfl]
    by_cases e1 : q = 1
    · subst e1
      refine ⟨md_figure T j, M, T, ?_, ?_, hr⟩
      · rw [if_neg (by decide), if_pos (by decide), if_neg (by decide), if_pos rfl, a.2.1]; rfl
      · rw [if_neg (by decide), if_pos rfl]
    by_cases e2 : q = 2
    · subst e2
      refine ⟨md_number T j, M, T, ?_, ?_, hr⟩
      · rw [if_neg (by decide), if_pos (by decide), if_neg (by decide), if_neg (by decide), if_pos rfl, a.2.2.1]; rfl
      · rw [if_neg (by decide), if_neg (by decide), if_pos rfl]
    by_cases e3 : q = 3
    · subst e3
      refine ⟨md_one T j, M, T, ?_, ?_, hr⟩
      · rw [if_neg (by decide), if_pos (by decide), if_neg (by decide), if_neg (by decide), if_neg (by decide), if_pos rfl, a.2.2.2.1]; rfl
      · rw [if_neg (by decide), if_neg (by decide), if_neg (by decide), if_pos rfl]
    by_cases e4 : q = 4
    · subst e4
      refine ⟨md_other T j, M, T, ?_, ?_, hr⟩
      · rw [if_neg (by decide), if_pos (by decide), if_neg (by decide), if_neg (by decide), if_neg (by decide), if_neg (by decide), if_pos rfl, a.2.2.2.2.1]; rfl
      · rw [if_neg (by decide), if_neg (by decide), if_neg (by decide), if_neg (by decide), if_pos rfl]
    by_cases e5 : q = 5
    · subst e5
      refine ⟨md_stands T j, M, T, ?_, ?_, hr⟩
      · rw [if_neg (by decide), if_pos (by decide), if_neg (by decide), if_neg (by decide), if_neg (by decide), if_neg (by decide), if_neg (by decide), if_pos rfl, a.2.2.2.2.2.2.2]
        rcases zbit01 w j with z | z
        · rw [z]; rfl
        · rw [z]; rfl
      · rw [if_neg (by decide), if_neg (by decide), if_neg (by decide), if_neg (by decide), if_neg (by decide), if_pos rfl]
    by_cases e6 : q = 6
    · subst e6
      refine ⟨md_uses T j, M, T, ?_, ?_, hr⟩
      · rw [if_neg (by decide), if_pos (by decide), if_neg (by decide), if_neg (by decide), if_neg (by decide), if_neg (by decide), if_neg (by decide), if_neg (by decide), if_pos rfl, a.2.2.2.2.2.1]; rfl
      · rw [if_neg (by decide), if_neg (by decide), if_neg (by decide), if_neg (by decide), if_neg (by decide), if_neg (by decide), if_pos rfl]
    by_cases e7 : q = 7
    · subst e7
      refine ⟨md_earned T j, M, T, ?_, ?_, hr⟩
      · rw [if_neg (by decide), if_pos (by decide), if_neg (by decide), if_neg (by decide), if_neg (by decide), if_neg (by decide), if_neg (by decide), if_neg (by decide), if_neg (by decide), if_pos rfl, a.2.2.2.2.2.2.1]; rfl
      · rw [if_neg (by decide), if_neg (by decide), if_neg (by decide), if_neg (by decide), if_neg (by decide), if_neg (by decide), if_neg (by decide), if_pos rfl]
    have n0 : q.toInt ≠ 0 := fun z => e0 (Int32.toInt_inj.mp z)
    have n1 : q.toInt ≠ 1 := fun z => e1 (Int32.toInt_inj.mp z)
    have n2 : q.toInt ≠ 2 := fun z => e2 (Int32.toInt_inj.mp z)
    have n3 : q.toInt ≠ 3 := fun z => e3 (Int32.toInt_inj.mp z)
    have n4 : q.toInt ≠ 4 := fun z => e4 (Int32.toInt_inj.mp z)
    have n5 : q.toInt ≠ 5 := fun z => e5 (Int32.toInt_inj.mp z)
    have n6 : q.toInt ≠ 6 := fun z => e6 (Int32.toInt_inj.mp z)
    have n7 : q.toInt ≠ 7 := fun z => e7 (Int32.toInt_inj.mp z)
    obtain ⟨M', T', x, y, z⟩ := refuse_2 hr
    refine ⟨-2, M', T', ?_, ?_, z⟩
    · by_cases g : q < 0
      · rw [if_pos g]
        unfold fX7_house_j27
        rw [x]; rfl
      · rw [if_neg g, if_neg]
        · unfold fX7_house_j27
          rw [x]; rfl
        · rw [Int32.le_iff_toInt_le]
          have g2 : ¬ q.toInt < 0 := fun t => g (Int32.lt_iff_toInt_lt.mpr t)
          show ¬ q.toInt ≤ (7 : Int)
          omega
    · rw [if_neg e0, if_neg e1, if_neg e2, if_neg e3, if_neg e4, if_neg e5, if_neg e6, if_neg e7, y]; rfl
theorem in_of {c : Nat} (hc : c ≤ 12) {p : Int32} (ho : ¬ (p < 0 ∨ nI c ≤ p)) : ∃ j, j < c ∧ p = nI j := by
  rcases pk_ix p (n := c) (by omega) with z | z | z
  · exact absurd (Or.inl z) ho
  · exact absurd (Or.inr z) ho
  · exact z
theorem z_tbN' (s n : Nat) : (s.testBit n = false) ∨ (s.testBit n = true) := by
  cases s.testBit n
  · exact Or.inl rfl
  · exact Or.inr rfl
theorem sim_may : zSim_may RT := by
  intro M T p q h
  have hr := h
  obtain ⟨⟨c, w, hs⟩, -⟩ := h
  have hc := hs.c
  have no1 : (fX7_may_j22 M, fX8_may_j16 p q T) = (fX7_may_j22 M, fX8_may_j16 p q T) := rfl
  have R1 : ∃ r M' T', fX7_may_j22 M = some (r, M') ∧ fX8_may_j16 p q T = some (r, T') ∧ RT M' T' := by
    obtain ⟨M', T', a, b, e⟩ := refuse_1 hr
    refine ⟨-1, M', T', ?_, ?_, e⟩
    · unfold fX7_may_j22; rw [a]; rfl
    · unfold fX8_may_j16 fX8_may_j42
      rw [if_neg (by decide), b]; rfl
  have R3 : ∃ r M' T', fX7_may_j50 M = some (r, M') ∧ fX8_may_j36 p q T = some (r, T') ∧ RT M' T' := by
    obtain ⟨M', T', a, b, e⟩ := refuse_3 hr
    refine ⟨-3, M', T', ?_, ?_, e⟩
    · unfold fX7_may_j50; rw [a]; rfl
    · unfold fX8_may_j36 fX8_may_j42
      rw [if_neg (by decide), b]; rfl
  unfold fX7_may fX8_may
  by_cases ho : p < 0 ∨ nI c ≤ p
  · rw [has_out hs ho, if_pos rfl, isHouse_out hs ho]
    exact R1
  obtain ⟨a, ha, rfl⟩ := in_of hc ho
  rw [has_in hs ha, if_neg (by decide), isHouse_in hs ha]
  repeat rw [Option.bind_some]
  rw [if_neg (show ¬ (1 : Int32) = 0 from by decide)]
  by_cases ho2 : q < 0 ∨ nI c ≤ q
  · rw [has_out hs ho2, if_pos rfl, isHouse_out hs ho2]
    exact R1
  obtain ⟨b, hb, rfl⟩ := in_of hc ho2
  rw [has_in hs hb, if_neg (by decide), isHouse_in hs hb, stands_in hs ha, stands_in hs hb, doesStand_in hs ha, doesStand_in hs hb]
  repeat rw [Option.bind_some]
  rw [if_neg (show ¬ (1 : Int32) = 0 from by decide)]
  by_cases sa : w.testBit a = true
  · have na : ¬ zbit w a = 0 := fun z => by rw [zbit1.mpr sa] at z; exact absurd z (by decide)
    by_cases sb : w.testBit b = true
    · have nb : ¬ zbit w b = 0 := fun z => by rw [zbit1.mpr sb] at z; exact absurd z (by decide)
      simp only [if_neg na, if_neg nb]
      obtain ⟨r, hr2, e1, e2, -⟩ := mayBe_std hs ha hb sa sb
      unfold fX8_may_j42
      rw [if_pos rfl, e1, e2]
      rcases hr2 with rfl | rfl
      · exact ⟨0, M, T, rfl, rfl, hr⟩
      · exact ⟨1, M, T, rfl, rfl, hr⟩
    · have nb : zbit w b = 0 := zbit0.mpr ((z_tbN' w b).resolve_right sb)
      simp only [if_neg na, if_pos nb]
      exact R3
  · have na : zbit w a = 0 := zbit0.mpr ((z_tbN' w a).resolve_right sa)
    simp only [if_pos na]
    exact R3
theorem sim_cost : zSim_cost RT := by
  intro M T p q h
  have hr := h
  obtain ⟨⟨c, w, hs⟩, -⟩ := h
  have hc := hs.c
  have R1 : ∃ r M' T', fX7_cost_j22 M = some (r, M') ∧ fX8_cost_j16 p q T = some (r, T') ∧ RT M' T' := by
    obtain ⟨M', T', a, b, e⟩ := refuse_1 hr
    refine ⟨-1, M', T', ?_, ?_, e⟩
    · unfold fX7_cost_j22; rw [a]; rfl
    · unfold fX8_cost_j16 fX8_cost_j35
      rw [if_neg (by decide), b]; rfl
  unfold fX7_cost fX8_cost
  by_cases ho : p < 0 ∨ nI c ≤ p
  · rw [has_out hs ho, if_pos rfl, isHouse_out hs ho]
    exact R1
  obtain ⟨a, ha, rfl⟩ := in_of hc ho
  rw [has_in hs ha, if_neg (by decide), isHouse_in hs ha]
  repeat rw [Option.bind_some]
  rw [if_neg (show ¬ (1 : Int32) = 0 from by decide)]
  by_cases ho2 : q < 0 ∨ nI c ≤ q
  · rw [has_out hs ho2, if_pos rfl, isHouse_out hs ho2]
    exact R1
  obtain ⟨b, hb, rfl⟩ := in_of hc ho2
  rw [has_in hs hb, if_neg (by decide), isHouse_in hs hb]
  repeat rw [Option.bind_some]
  obtain ⟨r, hr2, e1, e2, -⟩ := canBe_eq hs ha hb
  rw [if_neg (by decide), e1, e2]
  rcases hr2 with rfl | rfl
  · obtain ⟨M', T', x, y, z⟩ := refuse_3 hr
    refine ⟨-3, M', T', ?_, ?_, z⟩
    · repeat rw [Option.bind_some]
      rw [if_pos (show (0 : Int32) = 0 from rfl), x]; rfl
    · repeat rw [Option.bind_some]
      rw [if_pos (show (0 : Int32) = 0 from rfl)]
      unfold fX8_cost_j35
      rw [if_neg (by decide), y]; rfl
  · obtain ⟨fa, x1, x2⟩ := fee_eq hs ha
    obtain ⟨fb, y1, y2⟩ := fee_eq hs hb
    refine ⟨fa + fb, M, T, ?_, ?_, hr⟩
    · repeat rw [Option.bind_some]
      rw [if_neg (show ¬ (1 : Int32) = 0 from by decide), x1, y1]; rfl
    · repeat rw [Option.bind_some]
      rw [if_neg (show ¬ (1 : Int32) = 0 from by decide)]
      unfold fX8_cost_j35
      rw [if_pos rfl, x2, y2]; rfl
/-- the live street changes, all else stays -/
theorem RT.live {M : zMn} {T T' : zMd} (h : RT M T) {S' : zSt} {c w : Nat} (hs : SR c w S' T') (hf : FR T T') (hk : ∀ j, j < 99 → md_kept T' j = md_kept T j) : RT (mn_set_live M S') T' := by
  obtain ⟨h1, ⟨h2, h2'⟩, ⟨k, x1, x2, x3, x4⟩, ⟨k2, y1, y2, y3, y4⟩, h5, h6⟩ := h
  obtain ⟨f1, f2, f3, f4, f5, f6, f7, f8, f9, f10, f11, f12⟩ := hf
  refine ⟨⟨c, w, hs⟩, ⟨h2.trans f10.symm, ?_⟩, ⟨k, x1, x2, f6.trans x3, fun i hi => (x4 i hi).trans (by rw [f2])⟩, ⟨k2, y1, y2, f12.trans y3, fun i hi => (y4 i hi).trans (by rw [f11])⟩, fun i hi => (h5 i hi).trans (by rw [f1]), h6⟩
  rcases h2' with z | ⟨z, c', w', z2⟩
  · exact Or.inl (f10.trans z)
  · exact Or.inr ⟨f10.trans z, c', w', z2.se (zload_se (fun j _ hj => hk j (by omega)))⟩
