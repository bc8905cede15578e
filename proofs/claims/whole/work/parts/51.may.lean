/-! who lends, what may be -/
theorem z_nlz' : ∀ qa, qa < 64 → ∀ qb, qb < 64 → (64 * qa + qb) ≠ 0 → 31 - fJ6_numberOfLeadingZeros_0f7a4 (nI (64 * qa + qb)) = nI (Nat.log2 (64 * qa + qb)) := by decide +kernel
theorem z_nlz : ∀ w, w < 4096 → w ≠ 0 → 31 - fJ6_numberOfLeadingZeros_0f7a4 (nI w) = nI (Nat.log2 w) := by
  intro w hw
  have t := z_nlz' (w / 64) (by omega) (w % 64) (by omega)
  rw [show 64 * (w / 64) + w % 64 = w from by omega] at t
  exact t
theorem z_topa : ∀ i, i < 12 → ∀ qa, qa < 64 → ∀ qb, qb < 64 → (64 * qa + qb).testBit i = true → 2 ^ i ≤ 64 * qa + qb := by decide +kernel
theorem z_topb : ∀ i, i < 12 → ∀ qa, qa < 64 → ∀ qb, qb < 64 → 2 ^ i ≤ 64 * qa + qb → 64 * qa + qb < 2 ^ (i + 1) → Nat.log2 (64 * qa + qb) = i := by decide +kernel
theorem z_topc : ∀ i, i < 12 → ∀ qa, qa < 64 → ∀ qb, qb < 64 → (64 * qa + qb).testBit i = false → 2 ^ i ≤ 64 * qa + qb → 2 ^ (i + 1) ≤ 64 * qa + qb := by decide +kernel
theorem z_top : ∀ w, w < 4096 → ∀ i, i < 12 → (w.testBit i = true → 2 ^ i ≤ w ∧ (w < 2 ^ (i + 1) → Nat.log2 w = i)) ∧ (w.testBit i = false → 2 ^ i ≤ w → 2 ^ (i + 1) ≤ w) := by
  intro w hw i hi
  have a := z_topa i hi (w / 64) (by omega) (w % 64) (by omega)
  have b := z_topb i hi (w / 64) (by omega) (w % 64) (by omega)
  have c := z_topc i hi (w / 64) (by omega) (w % 64) (by omega)
  rw [show 64 * (w / 64) + w % 64 = w from by omega] at a b c
  exact ⟨fun z => ⟨a z, fun y => b (a z) y⟩, c⟩
section SRm
variable {c w : Nat} {S : zSt} {T : zMd}
theorem latest_l (h : SR c w S T) : ∀ d i k v, i + d = c → d < k → fX8_latest_l5 T k v (nI i) = some (if 2 ^ i ≤ w then nI (Nat.log2 w) else v) := by
  have hc := h.c
  have hw := h.w12
  have hwc := h.w
  intro d
  induction d with
  | zero =>
    intro i k v hi hk
    obtain ⟨k, rfl⟩ : ∃ k', k = k' + 1 := ⟨k - 1, by omega⟩
    have e : i = c := by omega
    subst e
    rw [fX8_latest_l5, h.houses, if_pos (nI_le (by omega) (by omega)), if_neg (by omega)]
  | succ d ih =>
    intro i k v hi hk
    obtain ⟨k, rfl⟩ : ∃ k', k = k' + 1 := ⟨k - 1, by omega⟩
    have a := (h.arr i (by omega)).2.2.2.2.2.2.2
    obtain ⟨t1, t2⟩ := z_top w hw i (by omega)
    rw [fX8_latest_l5, h.houses, if_neg (nI_ge (by omega) (by omega)), ix_nI (by omega) (by omega), nI_clamp (by omega), a, nI_1, ih (i + 1) k _ (by omega) (by omega), ih (i + 1) k _ (by omega) (by omega)]
    by_cases hb : w.testBit i = true
    · obtain ⟨p1, p2⟩ := t1 hb
      rw [if_pos (zbit1.mpr hb), if_pos p1]
      by_cases q : 2 ^ (i + 1) ≤ w
      · rw [if_pos q]
      · rw [if_neg q, p2 (by omega)]
    · have hb' : w.testBit i = false := by simpa using hb
      rw [if_neg (fun q => hb (zbit1.mp q))]
      by_cases q : 2 ^ (i + 1) ≤ w
      · rw [if_pos q, if_pos (by rw [Nat.pow_succ] at q; omega)]
      · rw [if_neg q, if_neg (fun q2 => q (t2 hb' q2))]
theorem latest_eq (h : SR c w S T) (hw0 : w ≠ 0) : fX8_latest T = some (nI (Nat.log2 w)) := by
  have hc := h.c
  have := latest_l h c 0 FU (-9) (by omega) (FU_big _ (by omega))
  rw [if_pos (by omega)] at this
  exact this
theorem isLawful_eq (h : SR c w S T) (hw0 : w ≠ 0) (a b : Int32) : ∃ r : Int32, (r = 0 ∨ r = 1) ∧ fX5_isLawful S a b = r ∧ fX8_isLawful T a b = some r := by
  unfold fX5_isLawful fX8_isLawful
  rw [h.st, z_nlz w h.w12 hw0, latest_eq h hw0, h.sums]
  by_cases h1 : md_sums T = 1
  · have h2 : ¬ md_sums T = 2 := by rw [h1]; decide
    rw [if_pos h1, if_neg h2, if_pos h1]
    show ∃ r : Int32, _ ∧ _ ∧ (if a = nI w.log2 then some 1 else (if b = nI w.log2 then some 1 else some 0)) = some r
    by_cases e1 : a = nI w.log2
    · simp only [if_pos e1]; exact ⟨1, Or.inr rfl, rfl, rfl⟩
    · simp only [if_neg e1]
      by_cases e2 : b = nI w.log2
      · simp only [if_pos e2]; exact ⟨1, Or.inr rfl, rfl, rfl⟩
      · simp only [if_neg e2]; exact ⟨0, Or.inl rfl, rfl, rfl⟩
  · simp only [if_neg h1]
    by_cases h2 : md_sums T = 2
    · simp only [if_pos h2]
      by_cases e : a = b
      · simp only [if_pos e]; exact ⟨1, Or.inr rfl, rfl, rfl⟩
      · simp only [if_neg e]; exact ⟨0, Or.inl rfl, rfl, rfl⟩
    · simp only [if_neg h2]; exact ⟨1, Or.inr rfl, rfl, rfl⟩
theorem mayBe_std (h : SR c w S T) {a b : Nat} (ha : a < c) (hb : b < c) (sa : w.testBit a = true) (sb : w.testBit b = true) : ∃ r : Int32, (r = 0 ∨ r = 1) ∧ fX5_mayBe S (nI a) (nI b) = some r ∧ fX8_mayBe T (nI a) (nI b) = some r ∧ (r = 1 → ∃ n, 1 ≤ n ∧ n ≤ 9999 ∧ md_number T a + md_number T b = nI n) := by
  have hc := h.c
  have hw0 : w ≠ 0 := by intro e; rw [e] at sa; simp at sa
  obtain ⟨na, p1, p2, ena⟩ := h.num a ha
  obtain ⟨nb, p3, p4, enb⟩ := h.num b hb
  obtain ⟨r1, hr1, x1, y1⟩ := lends_eq h ha (n := na + nb) (by omega)
  obtain ⟨r2, hr2, x2, y2⟩ := lends_eq h hb (n := na + nb) (by omega)
  obtain ⟨r3, hr3, x3, y3⟩ := isThere_eq h (nI (na + nb))
  obtain ⟨r4, hr4, x4, y4⟩ := isLawful_eq h hw0 (nI a) (nI b)
  have ia : ∀ k : Option Int32, ix 12 (nI a) k = k := fun k => ix_nI (by omega) (by omega)
  have ib : ∀ k : Option Int32, ix 12 (nI b) k = k := fun k => ix_nI (by omega) (by omega)
  have ca : (nI a).toNatClampNeg = a := nI_clamp (by omega)
  have cb : (nI b).toNatClampNeg = b := nI_clamp (by omega)
  have fa := (h.arr a ha).2.2.1
  have fb := (h.arr b hb).2.2.1
  unfold fX5_mayBe fX8_mayBe
  rw [stands_in h ha, stands_in h hb, zbit1.mpr sa, zbit1.mpr sb, x4, ia, ib, ia, ib, ca, cb, fa, fb, ena, enb, nI_add, x1, x2, x3, y1, y2, y3, y4]
  by_cases h9 : (9999 : Int32) < nI (na + nb)
  · simp only [if_pos h9]
    rcases hr4 with rfl | rfl <;> rcases hr1 with rfl | rfl <;> rcases hr2 with rfl | rfl <;> exact ⟨0, Or.inl rfl, rfl, rfl, fun q => absurd q (by decide)⟩
  · simp only [if_neg h9]
    have hn : ∃ n, 1 ≤ n ∧ n ≤ 9999 ∧ nI (na + nb) = nI n := by
      refine ⟨na + nb, by omega, ?_, rfl⟩
      have h10 : ¬ 9999 < na + nb := fun q => h9 ((nI_ltI (a := 9999) (by omega) (by omega)).mpr q)
      omega
    rcases hr4 with rfl | rfl <;> rcases hr1 with rfl | rfl <;> rcases hr2 with rfl | rfl <;> rcases hr3 with rfl | rfl <;> first | exact ⟨0, Or.inl rfl, rfl, rfl, fun q => absurd q (by decide)⟩ | exact ⟨1, Or.inr rfl, rfl, rfl, fun _ => hn⟩
theorem canBe_eq (h : SR c w S T) {a b : Nat} (ha : a < c) (hb : b < c) : ∃ r : Int32, (r = 0 ∨ r = 1) ∧ fX5_mayBe S (nI a) (nI b) = some r ∧ fX8_canBe T (nI a) (nI b) = some r ∧ (r = 1 → w.testBit a = true ∧ w.testBit b = true ∧ ∃ n, 1 ≤ n ∧ n ≤ 9999 ∧ md_number T a + md_number T b = nI n) := by
  unfold fX8_canBe
  rw [doesStand_in h ha, doesStand_in h hb]
  by_cases sa : w.testBit a = true
  · by_cases sb : w.testBit b = true
    · obtain ⟨r, hr, e1, e2, e3⟩ := mayBe_std h ha hb sa sb
      rw [zbit1.mpr sa, zbit1.mpr sb, e2]
      refine ⟨r, hr, e1, ?_, fun q => ⟨sa, sb, e3 q⟩⟩
      rcases hr with rfl | rfl <;> rfl
    · have sb' : zbit w b = 0 := zbit0.mpr (by simpa using sb)
      refine ⟨0, Or.inl rfl, ?_, ?_, fun q => absurd q (by decide)⟩
      · unfold fX5_mayBe
        rw [stands_in h ha, stands_in h hb, zbit1.mpr sa, sb']
        rfl
      · rw [zbit1.mpr sa, sb']
        rfl
  · have sa' : zbit w a = 0 := zbit0.mpr (by simpa using sa)
    refine ⟨0, Or.inl rfl, ?_, ?_, fun q => absurd q (by decide)⟩
    · unfold fX5_mayBe
      rw [stands_in h ha, sa']
      rfl
    · rw [sa']
      rfl
theorem greatest_l (h : SR c w S T) : ∀ d i k v, i + d = c → d < k → ∃ r, fX5_greatest_l4 S k v (nI i) = some r ∧ fX8_greatest_l4 T k v (nI i) = some r := by
  have hc := h.c
  have hw := h.w12
  intro d
  induction d with
  | zero =>
    intro i k v hi hk
    obtain ⟨k, rfl⟩ : ∃ k', k = k' + 1 := ⟨k - 1, by omega⟩
    refine ⟨v, ?_, ?_⟩
    · rw [fX5_greatest_l4, h.came, if_pos (nI_le (by omega) (by omega))]
    · rw [fX8_greatest_l4, h.houses, if_pos (nI_le (by omega) (by omega))]
  | succ d ih =>
    intro i k v hi hk
    obtain ⟨k, rfl⟩ : ∃ k', k = k' + 1 := ⟨k - 1, by omega⟩
    have a := h.arr i (by omega)
    rw [fX5_greatest_l4, fX8_greatest_l4, h.came, h.houses, if_neg (nI_ge (by omega) (by omega)), if_neg (nI_ge (by omega) (by omega)), h.st, isIn_nI (by omega) (by omega), ix_nI (by omega) (by omega), ix_nI (by omega) (by omega), nI_clamp (by omega), a.2.2.2.2.2.2.2, a.2.2.1, nI_1]
    rcases zbit01 w i with e | e
    · rw [e, if_pos rfl, if_neg (by decide)]
      exact ih (i + 1) k v (by omega) (by omega)
    · rw [e, if_neg (by decide), if_pos rfl]
      by_cases q : md_number T i ≤ v
      · rw [if_pos q, if_neg (Int32.not_lt.mpr q)]
        exact ih (i + 1) k v (by omega) (by omega)
      · rw [if_neg q, if_pos (Int32.not_le.mp q)]
        exact ih (i + 1) k _ (by omega) (by omega)
theorem greatest_eq (h : SR c w S T) : ∃ r, fX5_greatest S = some r ∧ fX8_greatest T = some r := by
  have hc := h.c
  exact greatest_l h c 0 FU 0 (by omega) (FU_big _ (by omega))
theorem allEarned_l (h : SR c w S T) : ∀ d i k v, i + d = c → d < k → ∃ r, fX5_allEarned_l4 S k v (nI i) = some r ∧ fX8_allEarned_l4 T k v (nI i) = some r := by
  have hc := h.c
  intro d
  induction d with
  | zero =>
    intro i k v hi hk
    obtain ⟨k, rfl⟩ : ∃ k', k = k' + 1 := ⟨k - 1, by omega⟩
    refine ⟨v, ?_, ?_⟩
    · rw [fX5_allEarned_l4, h.came, if_pos (nI_le (by omega) (by omega))]
    · rw [fX8_allEarned_l4, h.houses, if_pos (nI_le (by omega) (by omega))]
  | succ d ih =>
    intro i k v hi hk
    obtain ⟨k, rfl⟩ : ∃ k', k = k' + 1 := ⟨k - 1, by omega⟩
    have a := h.arr i (by omega)
    rw [fX5_allEarned_l4, fX8_allEarned_l4, h.came, h.houses, if_neg (nI_ge (by omega) (by omega)), if_neg (nI_ge (by omega) (by omega)), ix_nI (by omega) (by omega), ix_nI (by omega) (by omega), nI_clamp (by omega), a.2.2.2.2.2.2.1, nI_1]
    exact ih (i + 1) k _ (by omega) (by omega)
theorem allEarned_eq (h : SR c w S T) : ∃ r, fX5_allEarned S = some r ∧ fX8_allEarned T = some r := by
  have hc := h.c
  exact allEarned_l h c 0 FU 0 (by omega) (FU_big _ (by omega))
theorem comesNext_in (h : SR c w S T) (n : Int32) (a : Nat) (ha : a < c) (K1 K2 : Int32 → Option Int32) (hK : ∃ r : Int32, (r = 0 ∨ r = 1) ∧ K1 (nI (a + 1)) = some r ∧ K2 (nI (a + 1)) = some r) : ∀ d i k, i + d = c → d < k → ∃ r : Int32, (r = 0 ∨ r = 1) ∧ fX5_comesNext_l21 S n (nI a) K1 k (nI i) = some r ∧ fX8_comesToIn1_l21 T n (nI a) K2 k (nI i) = some r := by
  have hc := h.c
  intro d
  induction d with
  | zero =>
    intro i k hi hk
    obtain ⟨k, rfl⟩ : ∃ k', k = k' + 1 := ⟨k - 1, by omega⟩
    rw [fX5_comesNext_l21, fX8_comesToIn1_l21, h.came, h.houses, if_pos (nI_le (by omega) (by omega)), if_pos (nI_le (by omega) (by omega)), nI_1]
    exact hK
  | succ d ih =>
    intro i k hi hk
    obtain ⟨k, rfl⟩ : ∃ k', k = k' + 1 := ⟨k - 1, by omega⟩
    have x := h.arr i (by omega)
    have y := h.arr a ha
    obtain ⟨r, hr, e1, e2⟩ := ih (i + 1) k (by omega) (by omega)
    obtain ⟨q, hq, f1, f2, -⟩ := canBe_eq h ha (b := i) (by omega)
    rw [fX5_comesNext_l21, fX8_comesToIn1_l21, h.came, h.houses, if_neg (nI_ge (by omega) (by omega)), if_neg (nI_ge (by omega) (by omega)), ix_nI (by omega) (by omega), ix_nI (by omega) (by omega), ix_nI (by omega) (by omega), ix_nI (by omega) (by omega), nI_clamp (by omega), nI_clamp (by omega), x.2.2.1, y.2.2.1, nI_1, f1, f2, e1, e2]
    by_cases z : md_number T a + md_number T i = n
    · simp only [if_pos z]
      rcases hq with rfl | rfl
      · exact ⟨r, hr, rfl, rfl⟩
      · exact ⟨1, Or.inr rfl, rfl, rfl⟩
    · simp only [if_neg z]
      exact ⟨r, hr, rfl, rfl⟩
theorem comesNext_out (h : SR c w S T) (hc12 : c < 12) (n : Int32) : ∀ d i k, i + d = c → d < k → ∃ r : Int32, (r = 0 ∨ r = 1) ∧ fX5_comesNext_l11 S n k (nI i) = some r ∧ fX8_comesToIn1_l2 T n k (nI i) = some r := by
  have hc := h.c
  intro d
  induction d with
  | zero =>
    intro i k hi hk
    obtain ⟨k, rfl⟩ : ∃ k', k = k' + 1 := ⟨k - 1, by omega⟩
    rw [fX5_comesNext_l11, fX8_comesToIn1_l2, h.came, h.houses, if_pos (nI_le (by omega) (by omega)), if_pos (nI_le (by omega) (by omega))]
    exact ⟨0, Or.inl rfl, rfl, rfl⟩
  | succ d ih =>
    intro i k hi hk
    obtain ⟨k, rfl⟩ : ∃ k', k = k' + 1 := ⟨k - 1, by omega⟩
    rw [fX5_comesNext_l11, fX8_comesToIn1_l2, h.came, h.houses, if_neg (nI_ge (by omega) (by omega)), if_neg (nI_ge (by omega) (by omega)), if_neg (show ¬ (12 : Int32) ≤ nI c from nI_ge (b := 12) hc12 (by omega))]
    exact comesNext_in h n i (by omega) _ _ (ih (i + 1) k (by omega) (by omega)) (c - i) i FU (by omega) (FU_big _ (by omega))
theorem comesNext_eq (h : SR c w S T) (n : Int32) : ∃ r : Int32, (r = 0 ∨ r = 1) ∧ fX5_comesNext S n = some r ∧ fX8_comesToIn1 T n = some r := by
  have hc := h.c
  have hc1 := h.c1
  by_cases q : c < 12
  · have e : fX5_hasRoom S = 1 := by
      unfold fX5_hasRoom
      rw [h.came, if_neg (show ¬ (12 : Int32) ≤ nI c from nI_ge (b := 12) q (by omega))]
    unfold fX5_comesNext
    rw [e, if_neg (by decide)]
    exact comesNext_out h q n c 0 FU (by omega) (FU_big _ (by omega))
  · have e12 : c = 12 := by omega
    subst e12
    have e : fX5_hasRoom S = 0 := by
      unfold fX5_hasRoom
      rw [h.came, if_pos (show (12 : Int32) ≤ nI 12 from nI_le (a := 12) (by omega) (by omega))]
    refine ⟨0, Or.inl rfl, ?_, ?_⟩
    · unfold fX5_comesNext
      rw [e, if_pos rfl]
    · show fX8_comesToIn1_l2 T n (FU - 1 + 1) 0 = some 0
      rw [fX8_comesToIn1_l2, h.houses, if_neg (show ¬ nI 12 ≤ (0 : Int32) from by decide), if_pos (show (12 : Int32) ≤ nI 12 from by decide)]
end SRm
