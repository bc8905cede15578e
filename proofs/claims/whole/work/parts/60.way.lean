/-! a way to a number: by halves, by factors -/
theorem z_halves : ∀ n, n < 301 → 1 ≤ n → fX8_halves (nI n) = some (fX0_byHalves (nI n)) := by decide +kernel
def zBF (n : Nat) : Nat := [0, 1, 2, 3, 3, 4, 4, 5, 4, 5, 5, 6, 5, 6, 6, 6, 5, 6, 6, 7, 6, 7, 7, 8, 6, 7, 7, 7, 7, 8, 7, 8, 6, 8, 7, 8, 7, 8, 8, 8, 7, 8, 8, 9, 8, 8, 9, 10, 7, 9, 8, 8, 8, 9, 8, 9, 8, 9, 9, 10, 8, 9, 9, 9, 7, 9, 9, 10, 8, 10, 9, 10, 8, 9, 9, 9, 9, 10, 9, 10, 8, 9, 9, 10, 9, 9, 10, 10, 9, 10, 9, 10, 10, 10, 11, 10, 8, 9, 10, 10, 9, 10, 9, 10, 9, 10, 10, 11, 9, 10, 10, 10, 9, 10, 10, 11, 10, 10, 11, 10, 9, 11, 10, 10, 10, 10, 10, 11, 8, 11, 10, 11, 10, 11, 11, 10, 9, 10, 11, 12, 10, 12, 11, 11, 9, 11, 10, 11, 10, 11, 10, 11, 10, 10, 11, 11, 10, 11, 11, 11, 9, 12, 10, 11, 10, 11, 11, 12, 10, 11, 10, 11, 11, 12, 11, 11, 10, 12, 11, 12, 10, 11, 11, 11, 11, 11, 11, 11, 12, 11, 11, 12, 9, 10, 10, 11, 11, 12, 11, 12, 10, 12, 11, 12, 10, 11, 11, 12, 10, 12, 11, 12, 11, 12, 12, 12, 10, 12, 11, 11, 11, 11, 11, 12, 10, 11, 11, 12, 11, 12, 12, 12, 11, 12, 11, 13, 12, 12, 11, 12, 10, 11, 12, 11, 11, 12, 11, 12, 11, 12, 11, 12, 11, 13, 12, 11, 9, 10, 12, 12, 11, 12, 12, 13, 11, 12, 12, 12, 12, 13, 11, 12, 10, 12, 11, 12, 12, 13, 13, 12, 11, 12, 13, 14, 12, 12, 12, 12, 10, 11, 12, 11, 11, 12, 12, 13, 11, 12, 12, 13, 11].getD n 0
def zLF (n : Nat) : Nat := [0, 0, 2, 3, 2, 5, 2, 7, 2, 3, 2, 11, 2, 13, 2, 3, 2, 17, 2, 19, 2, 3, 2, 23, 2, 5, 2, 3, 2, 29, 2, 31, 2, 3, 2, 5, 2, 37, 2, 3, 2, 41, 2, 43, 2, 3, 2, 47, 2, 7, 2, 3, 2, 53, 2, 5, 2, 3, 2, 59, 2, 61, 2, 3, 2, 5, 2, 67, 2, 3, 2, 71, 2, 73, 2, 3, 2, 7, 2, 79, 2, 3, 2, 83, 2, 5, 2, 3, 2, 89, 2, 7, 2, 3, 2, 5, 2, 97, 2, 3, 2, 101, 2, 103, 2, 3, 2, 107, 2, 109, 2, 3, 2, 113, 2, 5, 2, 3, 2, 7, 2, 11, 2, 3, 2, 5, 2, 127, 2, 3, 2, 131, 2, 7, 2, 3, 2, 137, 2, 139, 2, 3, 2, 11, 2, 5, 2, 3, 2, 149, 2, 151, 2, 3, 2, 5, 2, 157, 2, 3, 2, 7, 2, 163, 2, 3, 2, 167, 2, 13, 2, 3, 2, 173, 2, 5, 2, 3, 2, 179, 2, 181, 2, 3, 2, 5, 2, 11, 2, 3, 2, 191, 2, 193, 2, 3, 2, 197, 2, 199, 2, 3, 2, 7, 2, 5, 2, 3, 2, 11, 2, 211, 2, 3, 2, 5, 2, 7, 2, 3, 2, 13, 2, 223, 2, 3, 2, 227, 2, 229, 2, 3, 2, 233, 2, 5, 2, 3, 2, 239, 2, 241, 2, 3, 2, 5, 2, 13, 2, 3, 2, 251, 2, 11, 2, 3, 2, 257, 2, 7, 2, 3, 2, 263, 2, 5, 2, 3, 2, 269, 2, 271, 2, 3, 2, 5, 2, 277, 2, 3, 2, 281, 2, 283, 2, 3, 2, 7, 2, 17, 2, 3, 2, 293, 2, 5, 2, 3, 2, 13, 2].getD n 0
theorem z_split : ∀ n, n < 301 → 1 ≤ n → fX0_splitDown 44 (nI n) 0 = some (nI (zBF n)) := by decide +kernel
theorem z_lf : ∀ n, n < 301 → 2 ≤ n → fX8_leastFactor (nI n) = some (nI (zLF n)) ∧ 2 ≤ zLF n ∧ zLF n ≤ n := by decide +kernel
theorem z_bf : ∀ n, n < 301 → 2 ≤ n → (zLF n = n → zBF n = zBF (n - 1) + 1) ∧ (zLF n ≠ n → 1 ≤ n / zLF n ∧ n / zLF n < n ∧ 1 ≤ zBF (zLF n) ∧ zBF n = zBF (zLF n) + zBF (n / zLF n) - 1) := by decide +kernel
theorem factors_l {v : Nat} (hv : v ≤ 300) (hv1 : 1 ≤ v) : ∀ d i n (T : zMd), i + d = v + 1 → 2 ≤ i → d < n → (∀ m, 1 ≤ m → m < i → md_byFactors T m = nI (zBF m)) →
    ∃ F, fX8_factors_l9 (nI v) n (nI i) T = some (nI (zBF v), md_set_byFactors T F) := by
  intro d
  induction d with
  | zero =>
    intro i n T hi h2 hn hB
    obtain ⟨n, rfl⟩ : ∃ k', n = k' + 1 := ⟨n - 1, by omega⟩
    refine ⟨md_byFactors T, ?_⟩
    rw [fX8_factors_l9, if_pos (nI_lt (by omega) (by omega)), ix_nI (by omega) (by omega), nI_clamp (by omega), hB v hv1 (by omega)]
    rfl
  | succ d ih =>
    intro i n T hi h2 hn hB
    obtain ⟨n, rfl⟩ : ∃ k', n = k' + 1 := ⟨n - 1, by omega⟩
    obtain ⟨l1, l2, l3⟩ := z_lf i (by omega) h2
    obtain ⟨b1, b2⟩ := z_bf i (by omega) h2
    rw [fX8_factors_l9, if_neg (nI_nlt (by omega) (by omega)), l1]
    repeat rw [Option.bind_some]
    have step : ∀ x, x = nI (zBF i) → ∃ F, fX8_factors_j59 (nI v) (nI i) (nI i) x T (fX8_factors_l9 (nI v) n) = some (nI (zBF v), md_set_byFactors T F) := by
      intro x hx
      unfold fX8_factors_j59
      rw [ix_nI (by omega) (by omega), nI_clamp (by omega), nI_1, hx]
      obtain ⟨F, e⟩ := ih (i + 1) n (md_set_byFactors T (upd (md_byFactors T) i (nI (zBF i)))) (by omega) (by omega) (by omega) (fun m h1 h2 => by
        show upd _ _ _ m = _
        rw [upd_at]
        by_cases q : m = i
        · rw [if_pos q, q]
        · rw [if_neg q]; exact hB m h1 (by omega))
      exact ⟨F, e⟩
    by_cases q : zLF i = i
    · rw [if_pos (by rw [q])]
      have e1 : nI i - 1 = nI (i - 1) := by
        have := nI_pred (i - 1)
        rwa [show i - 1 + 1 = i from by omega] at this
      rw [e1, ix_nI (by omega) (by omega), nI_clamp (by omega), hB (i - 1) (by omega) (by omega)]
      exact step _ (by rw [nI_1, b1 q])
    · obtain ⟨c1, c2, c3, c4⟩ := b2 q
      rw [if_neg (fun z => q ((nI_eq (by omega) (by omega)).mp z)), ix_nI (by omega) (by omega), if_neg (nI_ne0 (by omega) (by omega)), pk_div (by omega) (by omega) (by omega), ix_nI (by omega) (by omega), nI_clamp (by omega), nI_clamp (by omega), hB (zLF i) (by omega) (by omega), hB (i / zLF i) c1 (by omega)]
      refine step _ ?_
      rw [nI_add, show (1 : Int32) = nI 1 from rfl, pk_sub (by omega), c4]
theorem sim_way : zSim_way RT := by
  intro M T p q h
  have hr := h
  unfold fX7_way fX8_way
  have R : ∀ t : Int32, (t = -2 ∨ t = -4 ∨ t = -6) → ∃ r M' T', fX7_way_j20 p q t M = some (r, M') ∧ fX8_way_j22 p q t T = some (r, T') ∧ RT M' T' := by
    intro t ht
    unfold fX7_way_j20 fX8_way_j22
    rcases ht with rfl | rfl | rfl
    · rw [if_neg (by decide), if_neg (by decide)]
      obtain ⟨M', T', x, y, e⟩ := refuse_2 hr
      exact ⟨-2, M', T', by rw [x]; rfl, by rw [y]; rfl, e⟩
    · rw [if_neg (by decide), if_neg (by decide)]
      obtain ⟨M', T', x, y, e⟩ := refuse_4 hr
      exact ⟨-4, M', T', by rw [x]; rfl, by rw [y]; rfl, e⟩
    · rw [if_neg (by decide), if_neg (by decide)]
      obtain ⟨M', T', x, y, e⟩ := refuse_6 hr
      exact ⟨-6, M', T', by rw [x]; rfl, by rw [y]; rfl, e⟩
  have e0 : fX8_bound p 1 300 = fX7_outside p 1 300 := rfl
  rcases two_3 q with ⟨t1, t2⟩ | ⟨t1, t2, t3⟩
  · rw [t1, t2, if_pos rfl, if_pos rfl]
    exact R (-2) (Or.inl rfl)
  rw [t1, t2, if_neg (by decide), if_neg (by decide), e0]
  rcases outside_3 p 1 300 (by omega) (by omega) with e | e | ⟨e, N, hN1, hN2, rfl⟩
  · have e' : fX7_outside p 1 300 = -4 := e
    rw [e']; exact R (-4) (Or.inr (Or.inl rfl))
  · have e' : fX7_outside p 1 300 = -6 := e
    rw [e']; exact R (-6) (Or.inr (Or.inr rfl))
  have e' : fX7_outside (nI N) 1 300 = 0 := e
  rw [e']
  unfold fX7_way_j20 fX8_way_j22
  simp only [if_pos rfl]
  by_cases g : q = 0
  · simp only [if_pos g]
    refine ⟨fX0_byHalves (nI N), M, T, rfl, ?_, hr⟩
    rw [z_halves N (by omega) hN1]; rfl
  · simp only [if_neg g]
    obtain ⟨F, f1⟩ := factors_l hN2 hN1 (N - 1) 2 FU (md_set_byFactors T (upd (md_byFactors T) 1 1)) (by omega) (by omega) (FU_big _ (by omega)) (fun m h1 h2 => by
      have e : m = 1 := by omega
      subst e; rfl)
    have f1' : fX8_factors_l9 (nI N) FU 2 (md_set_byFactors T (upd (md_byFactors T) (1 : Int32).toNatClampNeg 1)) = some (nI (zBF N), md_set_byFactors T F) := f1
    refine ⟨nI (zBF N), M, md_set_byFactors T F, ?_, ?_, hr.byF F⟩
    · unfold fX0_byFactors
      rw [z_split N (by omega) hN1]; rfl
    · unfold fX8_factors
      rw [f1', show (ix 301 (1 : Int32) (some (nI (zBF N), md_set_byFactors T F))) = some (nI (zBF N), md_set_byFactors T F) from ix_nI (n := 301) (j := 1) (by omega) (by omega)]
      rfl
