/-! two who build by turns -/
def zNew (s n : Nat) : Prop := s.testBit n = false ∧ ∃ i, 1 ≤ i ∧ 2 * i ≤ n ∧ s.testBit i = true ∧ s.testBit (n - i) = true
def zWon (p : Nat) (f : Nat → Int32) (s : Nat) : Prop := zNew s p ∨ ∃ i, 2 ≤ i ∧ i < p ∧ zNew s i ∧ f (s ||| 2 ^ i) = 0
theorem z_tbN (s n : Nat) : (s.testBit n = false) ∨ (s.testBit n = true) := by
  cases s.testBit n
  · exact Or.inl rfl
  · exact Or.inr rfl
theorem z_or_add' : ∀ i, i < 12 → ∀ qa, qa < 64 → ∀ qb, qb < 64 → (64 * qa + qb).testBit i = false → (64 * qa + qb) ||| 2 ^ i = (64 * qa + qb) + 2 ^ i := by decide +kernel
theorem z_or_add : ∀ i, i < 12 → ∀ s, s < 4096 → s.testBit i = false → s ||| 2 ^ i = s + 2 ^ i := by
  intro i hi s hw
  have t := z_or_add' i hi (s / 64) (by omega) (s % 64) (by omega)
  rw [show 64 * (s / 64) + s % 64 = s from by omega] at t
  exact t
theorem zWon_congr {p : Nat} {f g : Nat → Int32} {s : Nat} (h : ∀ i, 2 ≤ i → i < p → s.testBit i = false → f (s ||| 2 ^ i) = g (s ||| 2 ^ i)) : zWon p f s ↔ zWon p g s := by
  constructor
  · rintro (z | ⟨i, h1, h2, h3, h4⟩)
    · exact Or.inl z
    · exact Or.inr ⟨i, h1, h2, h3, by rw [← h i h1 h2 h3.1]; exact h4⟩
  · rintro (z | ⟨i, h1, h2, h3, h4⟩)
    · exact Or.inl z
    · exact Or.inr ⟨i, h1, h2, h3, by rw [h i h1 h2 h3.1]; exact h4⟩
theorem has8 {w h : Nat} (hw : w < 2 ^ 31) (hh : h < 32) : fX8_has (nI w) (nI h) = zbit w h := by
  unfold fX8_has
  rw [z_bit hw hh]
  rcases zbit01 w h with e | e
  · rw [e]; rfl
  · rw [e]; rfl
theorem isSumIn_eq (T : zMd) {s n : Nat} (hs : s < 4096) (hn : n ≤ 12) : ((∃ i, 1 ≤ i ∧ 2 * i ≤ n ∧ s.testBit i = true ∧ s.testBit (n - i) = true) ∧ fX8_isSumIn T (nI s) (nI n) = some 1) ∨ ((¬ ∃ i, 1 ≤ i ∧ 2 * i ≤ n ∧ s.testBit i = true ∧ s.testBit (n - i) = true) ∧ fX8_isSumIn T (nI s) (nI n) = some 0) := by
  rcases zscan (fun k v => fX8_isSumIn_l2 T (nI s) (nI n) k v) (n / 2 + 1) (fun i => s.testBit i = true ∧ s.testBit (n - i) = true) (some 0) (some 1)
    (fun k => by
      show fX8_isSumIn_l2 T (nI s) (nI n) (k + 1) (nI (n / 2 + 1)) = some 0
      rw [fX8_isSumIn_l2, show (2 : Int32) = nI 2 from rfl, pk_mul, if_pos (nI_lt (by omega) (by omega))])
    (fun k i hi => by
      show _ ∧ fX8_isSumIn_l2 T (nI s) (nI n) (k + 1) (nI i) = some 1 ∨ _ ∧ fX8_isSumIn_l2 T (nI s) (nI n) (k + 1) (nI i) = fX8_isSumIn_l2 T (nI s) (nI n) k (nI (i + 1))
      rw [fX8_isSumIn_l2, show (2 : Int32) = nI 2 from rfl, pk_mul, if_neg (nI_nlt (by omega) (by omega)), has8 (by omega) (by omega), pk_sub (by omega), has8 (by omega) (by omega), nI_1]
      rcases z_tbN s i with e | e
      · rw [if_pos (zbit0.mpr e)]
        exact Or.inr ⟨fun z => (by have z1 := z.1; rw [e] at z1; exact absurd z1 (by decide)), rfl⟩
      · rw [if_neg (fun z => by rw [zbit1.mpr e] at z; exact absurd z (by decide))]
        rcases z_tbN s (n - i) with g | g
        · rw [if_pos (zbit0.mpr g)]
          exact Or.inr ⟨fun z => (by have z1 := z.2; rw [g] at z1; exact absurd z1 (by decide)), rfl⟩
        · rw [if_neg (fun z => by rw [zbit1.mpr g] at z; exact absurd z (by decide))]
          exact Or.inl ⟨⟨e, g⟩, rfl⟩) (n / 2) 1 FU (by omega) (FU_big _ (by omega)) with ⟨⟨j, x1, x2, x3, x4⟩, x5⟩ | ⟨x1, x2⟩
  · exact Or.inl ⟨⟨j, x1, by omega, x3, x4⟩, x5⟩
  · exact Or.inr ⟨fun ⟨i, y1, y2, y3, y4⟩ => x1 i y1 (by omega) ⟨y3, y4⟩, x2⟩
theorem doesWin_eq (T : zMd) {s p : Nat} (hp2 : 2 ≤ p) (hp : p ≤ 12) (hs : s < 2 ^ p) (hs' : s < 4096) : (zWon p (md_wins T) s ∧ fX8_doesWin T (nI s) (nI p) = some 1) ∨ (¬ zWon p (md_wins T) s ∧ fX8_doesWin T (nI s) (nI p) = some 0) := by
  rcases zscan (fun k v => fX8_doesWin_l2 T (nI s) (nI p) k v) (p + 1) (fun i => zNew s i ∧ (i = p ∨ md_wins T (s ||| 2 ^ i) = 0)) (some 0) (some 1)
    (fun k => by
      show fX8_doesWin_l2 T (nI s) (nI p) (k + 1) (nI (p + 1)) = some 0
      rw [fX8_doesWin_l2, if_pos (nI_lt (by omega) (by omega))])
    (fun k i hi => by
      show _ ∧ fX8_doesWin_l2 T (nI s) (nI p) (k + 1) (nI i) = some 1 ∨ _ ∧ fX8_doesWin_l2 T (nI s) (nI p) (k + 1) (nI i) = fX8_doesWin_l2 T (nI s) (nI p) k (nI (i + 1))
      rw [fX8_doesWin_l2, if_neg (nI_nlt (by omega) (by omega)), has8 (by omega) (by omega), nI_1]
      rcases z_tbN s i with e | e
      · rw [if_pos (zbit0.mpr e)]
        rcases isSumIn_eq T hs' (n := i) (by omega) with ⟨x1, x2⟩ | ⟨x1, x2⟩
        · rw [x2]
          repeat rw [Option.bind_some]
          rw [if_neg (show ¬ (1 : Int32) = 0 from by decide)]
          by_cases q : i = p
          · rw [if_pos (by rw [q])]
            exact Or.inl ⟨⟨⟨e, x1⟩, Or.inl q⟩, rfl⟩
          · rw [if_neg (fun z => q ((nI_eq (by omega) (by omega)).mp z))]
            have hl : s ||| 2 ^ i < 2 ^ 12 := Nat.or_lt_two_pow (by omega) (Nat.pow_lt_pow_right (by omega) (by omega))
            rw [z_one (by omega), z_or (by omega) (by have := Nat.right_le_or (n := s) (m := 2 ^ i); omega), ix_nI (by omega) (by omega), nI_clamp (by omega)]
            by_cases g : md_wins T (s ||| 2 ^ i) = 0
            · rw [if_pos g]
              exact Or.inl ⟨⟨⟨e, x1⟩, Or.inr g⟩, rfl⟩
            · rw [if_neg g]
              exact Or.inr ⟨fun z => z.2.elim q g, rfl⟩
        · rw [x2]
          repeat rw [Option.bind_some]
          rw [if_pos (show (0 : Int32) = 0 from rfl)]
          exact Or.inr ⟨fun z => x1 z.1.2, rfl⟩
      · rw [if_neg (fun z => by rw [zbit1.mpr e] at z; exact absurd z (by decide))]
        exact Or.inr ⟨fun z => (by have z1 := z.1.1; rw [e] at z1; exact absurd z1 (by decide)), rfl⟩) (p - 1) 2 FU (by omega) (FU_big _ (by omega)) with ⟨⟨j, x1, x2, x3, x4⟩, x5⟩ | ⟨x1, x2⟩
  · refine Or.inl ⟨?_, x5⟩
    by_cases q : j = p
    · rw [q] at x3; exact Or.inl x3
    · exact Or.inr ⟨j, x1, by omega, x3, x4.resolve_left q⟩
  · refine Or.inr ⟨fun z => ?_, x2⟩
    rcases z with z | ⟨i, y1, y2, y3, y4⟩
    · exact x1 p (by omega) (by omega) ⟨z, Or.inl rfl⟩
    · exact x1 i y1 (by omega) ⟨y3, Or.inr y4⟩
def zGoodM (p : Nat) (W : Nat → Int32) (s : Nat) : Prop := s.testBit 1 = true → (zWon p W s ∧ W s = 1) ∨ (¬ zWon p W s ∧ W s = 0)
theorem zGoodM_upd {p : Nat} (hp : p ≤ 12) {W : Nat → Int32} {s j : Nat} {x : Int32} (hs : s < 4096) (hj : j < s) (h : zGoodM p W s) : zGoodM p (upd W j x) s := by
  intro hb
  have e : zWon p W s ↔ zWon p (upd W j x) s := zWon_congr (fun i h1 h2 h3 => by
    rw [upd_at, if_neg]
    have := Nat.left_le_or (n := s) (m := 2 ^ i)
    omega)
  have e2 : upd W j x s = W s := by rw [upd_at, if_neg (by omega)]
  rw [e2, ← e]
  exact h hb
theorem game_m {p : Nat} (hp2 : 2 ≤ p) (hp : p ≤ 12) (hP : 2 ^ p ≤ 4096) : ∀ j f (T : zMd), j < 2 ^ p → j < f → (∀ s, j < s → s < 2 ^ p → zGoodM p (md_wins T) s) → ∃ W, fX8_game_l24 (nI p) f (nI j) T = some (W 2, md_set_wins T W) ∧ ∀ s, 2 ≤ s → s < 2 ^ p → zGoodM p W s := by
  intro j
  induction j with
  | zero =>
    intro f T hj hf hG
    obtain ⟨f, rfl⟩ : ∃ k', f = k' + 1 := ⟨f - 1, by omega⟩
    refine ⟨md_wins T, ?_, fun s h1 h2 => hG s (by omega) h2⟩
    rw [fX8_game_l24, if_pos (show nI 0 < (2 : Int32) from by decide), show ix 8192 (2 : Int32) (some (md_wins T (2 : Int32).toNatClampNeg, T)) = some (md_wins T (2 : Int32).toNatClampNeg, T) from ix_nI (n := 8192) (j := 2) (by omega) (by omega)]
    rfl
  | succ j ih =>
    intro f T hj hf hG
    obtain ⟨f, rfl⟩ : ∃ k', f = k' + 1 := ⟨f - 1, by omega⟩
    by_cases q : j = 0
    · subst q
      refine ⟨md_wins T, ?_, fun s h1 h2 => hG s (by omega) h2⟩
      rw [fX8_game_l24, if_pos (show nI (0 + 1) < (2 : Int32) from by decide), show ix 8192 (2 : Int32) (some (md_wins T (2 : Int32).toNatClampNeg, T)) = some (md_wins T (2 : Int32).toNatClampNeg, T) from ix_nI (n := 8192) (j := 2) (by omega) (by omega)]
      rfl
    · have step : ∀ x, (∀ y, (y = x) → zGoodM p (upd (md_wins T) (j + 1) y) (j + 1)) → ∃ W, fX8_game_j56 (nI p) (nI (j + 1)) (nI (j + 1)) x T (fX8_game_l24 (nI p) f) = some (W 2, md_set_wins T W) ∧ ∀ s, 2 ≤ s → s < 2 ^ p → zGoodM p W s := by
        intro x hx
        unfold fX8_game_j56
        rw [ix_nI (by omega) (by omega), nI_clamp (by omega), pk_m1]
        obtain ⟨W, e1, e2⟩ := ih f (md_set_wins T (upd (md_wins T) (j + 1) x)) (by omega) (by omega) (fun s h1 h2 => by
          by_cases z : s = j + 1
          · rw [z]; exact hx x rfl
          · exact zGoodM_upd hp (by omega) (by omega) (hG s (by omega) h2))
        exact ⟨W, e1, e2⟩
      have same : ∀ y, zWon p (md_wins T) (j + 1) ↔ zWon p (upd (md_wins T) (j + 1) y) (j + 1) := fun y => zWon_congr (fun i h1 h2 h3 => by
        rw [upd_at, if_neg]
        rw [z_or_add i (by omega) (j + 1) (by omega) h3]
        have := Nat.two_pow_pos i
        omega)
      rw [fX8_game_l24, if_neg (show ¬ nI (j + 1) < (2 : Int32) from nI_nlt (a := j + 1) (b := 2) (by omega) (by omega)), show (1 : Int32) = nI 1 from rfl, has8 (by omega) (by omega)]
      rcases z_tbN (j + 1) 1 with e | e
      · rw [if_pos (zbit0.mpr e)]
        unfold fX8_game_j55
        exact step 0 (fun y _ z => by rw [e] at z; exact absurd z (by decide))
      · rw [if_neg (fun z => by rw [zbit1.mpr e] at z; exact absurd z (by decide))]
        rcases doesWin_eq T hp2 hp hj (by omega) with ⟨x1, x2⟩ | ⟨x1, x2⟩
        · rw [x2]
          repeat rw [Option.bind_some]
          rw [if_neg (show ¬ (1 : Int32) = 0 from by decide)]
          exact step (nI 1) (fun y hy _ => Or.inl ⟨(same y).mp x1, by rw [upd_at, if_pos rfl, hy]; rfl⟩)
        · rw [x2]
          repeat rw [Option.bind_some]
          rw [if_pos (show (0 : Int32) = 0 from rfl)]
          unfold fX8_game_j55
          exact step 0 (fun y hy _ => Or.inr ⟨fun z => x1 ((same y).mpr z), by rw [upd_at, if_pos rfl, hy]⟩)
theorem sumsOf_l {s p : Nat} (hs : s < 4096) (hp : p ≤ 12) : ∀ d i k u, i + d = p → 1 ≤ i → d < k → u < 2 ^ 24 → (∀ n, u.testBit n = true ↔ ∃ j, 1 ≤ j ∧ j < i ∧ j ≤ n ∧ s.testBit j = true ∧ s.testBit (n - j) = true) →
    ∃ u', fX1_sumsOf_l4 (nI s) (nI p) k (nI u) (nI i) = some (nI u') ∧ u' < 2 ^ 24 ∧ ∀ n, u'.testBit n = true ↔ ∃ j, 1 ≤ j ∧ j < p ∧ j ≤ n ∧ s.testBit j = true ∧ s.testBit (n - j) = true := by
  intro d
  induction d with
  | zero =>
    intro i k u hi h1 hk hu hc
    obtain ⟨k, rfl⟩ : ∃ k', k = k' + 1 := ⟨k - 1, by omega⟩
    have e : i = p := by omega
    subst e
    refine ⟨u, ?_, hu, hc⟩
    rw [fX1_sumsOf_l4, if_pos (nI_le (by omega) (by omega))]
  | succ d ih =>
    intro i k u hi h1 hk hu hc
    obtain ⟨k, rfl⟩ : ∃ k', k = k' + 1 := ⟨k - 1, by omega⟩
    rw [fX1_sumsOf_l4, if_neg (nI_ge (by omega) (by omega)), z_bit (by omega) (by omega), nI_1]
    rcases z_tbN s i with e | e
    · rw [if_neg (fun z => by rw [zbit0.mpr e] at z; exact absurd z (by decide))]
      refine ih (i + 1) k u (by omega) (by omega) (by omega) hu (fun n => (hc n).trans ?_)
      constructor
      · rintro ⟨j, a1, a2, a3, a4, a5⟩
        exact ⟨j, a1, by omega, a3, a4, a5⟩
      · rintro ⟨j, a1, a2, a3, a4, a5⟩
        refine ⟨j, a1, ?_, a3, a4, a5⟩
        by_cases z : j = i
        · rw [z, e] at a4; exact absurd a4 (by decide)
        · omega
    · have hm : s * 2 ^ i < 2 ^ 24 := by
        have h2 : 2 ^ i ≤ 2 ^ 12 := Nat.pow_le_pow_right (by omega) (by omega)
        have h3 : s * 2 ^ i ≤ s * 2 ^ 12 := Nat.mul_le_mul_left s h2
        omega
      rw [if_pos (zbit1.mpr e), z_and31 i (by omega), pk_shlN (nI i) i (z_sm i (by omega)) (by omega), z_or (by omega) (by omega)]
      refine ih (i + 1) k (u ||| s * 2 ^ i) (by omega) (by omega) (by omega) (Nat.or_lt_two_pow hu hm) (fun n => ?_)
      rw [Nat.testBit_or, ← Nat.shiftLeft_eq, Nat.testBit_shiftLeft, Bool.or_eq_true, Bool.and_eq_true, decide_eq_true_eq, hc n]
      constructor
      · rintro (⟨j, a1, a2, a3, a4, a5⟩ | ⟨a1, a2⟩)
        · exact ⟨j, a1, by omega, a3, a4, a5⟩
        · exact ⟨i, h1, by omega, a1, e, a2⟩
      · rintro ⟨j, a1, a2, a3, a4, a5⟩
        by_cases z : j = i
        · subst z
          exact Or.inr ⟨a3, a5⟩
        · exact Or.inl ⟨j, a1, by omega, a3, a4, a5⟩
theorem isWon_eq (S : zGm) {s p : Nat} (hp2 : 2 ≤ p) (hp : p ≤ 12) (hs : s < 2 ^ p) (hs' : s < 4096) (h0 : s.testBit 0 = false) : (zWon p (fun t => gm_wins S (t / 4)) s ∧ fX1_isWon S (nI s) (nI p) = some 1) ∨ (¬ zWon p (fun t => gm_wins S (t / 4)) s ∧ fX1_isWon S (nI s) (nI p) = some 0) := by
  obtain ⟨u, e1, hu, hc⟩ := sumsOf_l hs' hp (p - 1) 1 FU 0 (by omega) (by omega) (FU_big _ (by omega)) (by omega) (fun n => by
    rw [Nat.zero_testBit]
    exact ⟨fun z => absurd z (by decide), fun ⟨j, a1, a2, _⟩ => by omega⟩)
  have e1' : fX1_sumsOf (nI s) (nI p) = some (nI u) := e1
  have hn : u &&& (s ^^^ 4294967295) < 2 ^ 31 := by
    have := Nat.and_le_left (n := u) (m := s ^^^ 4294967295)
    omega
  have tb : ∀ m, m ≤ p → ((u &&& (s ^^^ 4294967295)).testBit m = true ↔ zNew s m) := by
    intro m hm
    rw [Nat.testBit_and, z_tb_not s m (by omega), Bool.and_eq_true, hc m]
    constructor
    · rintro ⟨⟨j, a1, a2, a3, a4, a5⟩, a6⟩
      have g : s.testBit m = false := by
        rcases z_tbN s m with z | z
        · exact z
        · rw [z] at a6; exact absurd a6 (by decide)
      refine ⟨g, ?_⟩
      have hm0 : m - j ≠ 0 := fun z => by rw [z, h0] at a5; exact absurd a5 (by decide)
      by_cases z : 2 * j ≤ m
      · exact ⟨j, a1, z, a4, a5⟩
      · exact ⟨m - j, by omega, by omega, a5, by rw [show m - (m - j) = j from by omega]; exact a4⟩
    · rintro ⟨g, j, a1, a2, a3, a4⟩
      exact ⟨⟨j, a1, by omega, by omega, a3, a4⟩, by rw [g]; rfl⟩
  unfold fX1_isWon
  rw [e1']
  repeat rw [Option.bind_some]
  rw [z_andnot (by omega) (by omega), z_bit hn (by omega)]
  by_cases q : zNew s p
  · rw [if_pos (zbit1.mpr ((tb p (by omega)).mpr q))]
    exact Or.inl ⟨Or.inl q, rfl⟩
  · rw [if_neg (fun z => q ((tb p (by omega)).mp (zbit1.mp z)))]
    rcases zscan (fun k v => fX1_isWon_l24 S (nI s) (nI p) (nI (u &&& (s ^^^ 4294967295))) k v) p (fun i => zNew s i ∧ gm_wins S ((s ||| 2 ^ i) / 4) = 0) (some 0) (some 1)
      (fun k => by
        show fX1_isWon_l24 S (nI s) (nI p) (nI (u &&& (s ^^^ 4294967295))) (k + 1) (nI p) = some 0
        rw [fX1_isWon_l24, if_pos (nI_le (by omega) (by omega))])
      (fun k i hi => by
        show _ ∧ fX1_isWon_l24 S (nI s) (nI p) (nI (u &&& (s ^^^ 4294967295))) (k + 1) (nI i) = some 1 ∨ _ ∧ fX1_isWon_l24 S (nI s) (nI p) (nI (u &&& (s ^^^ 4294967295))) (k + 1) (nI i) = fX1_isWon_l24 S (nI s) (nI p) (nI (u &&& (s ^^^ 4294967295))) k (nI (i + 1))
        rw [fX1_isWon_l24, if_neg (nI_ge hi (by omega)), z_bit hn (by omega), nI_1]
        by_cases g : zNew s i
        · have hl : s ||| 2 ^ i < 2 ^ 12 := Nat.or_lt_two_pow (by omega) (Nat.pow_lt_pow_right (by omega) (by omega))
          have hr := Nat.right_le_or (n := s) (m := 2 ^ i)
          rw [if_pos (zbit1.mpr ((tb i (by omega)).mpr g)), z_one (by omega), z_or (by omega) (by omega), show (2 : Int32) = nI 2 from rfl, z_shr (by omega) (by omega), if_neg (show ¬ (1024 : Int32) ≤ nI ((s ||| 2 ^ i) / 2 ^ 2) from nI_ge (b := 1024) (by omega) (by omega)), ix_nI (by omega) (by omega), nI_clamp (by omega)]
          by_cases z : gm_wins S ((s ||| 2 ^ i) / 4) = 0
          · rw [if_pos z]
            exact Or.inl ⟨⟨g, z⟩, rfl⟩
          · rw [if_neg z]
            exact Or.inr ⟨fun y => z y.2, rfl⟩
        · rw [if_neg (fun z => g ((tb i (by omega)).mp (zbit1.mp z)))]
          exact Or.inr ⟨fun y => g y.1, rfl⟩) (p - 2) 2 FU (by omega) (FU_big _ (by omega)) with ⟨⟨j, x1, x2, x3, x4⟩, x5⟩ | ⟨x1, x2⟩
    · exact Or.inl ⟨Or.inr ⟨j, x1, x2, x3, x4⟩, x5⟩
    · refine Or.inr ⟨fun z => ?_, x2⟩
      rcases z with z | ⟨i, y1, y2, y3, y4⟩
      · exact q z
      · exact x1 i y1 y2 ⟨y3, y4⟩
def zGoodC (p : Nat) (C : Nat → Int32) (v : Nat) : Prop := (zWon p (fun t => C (t / 4)) (4 * v + 2) ∧ C v = 1) ∨ (¬ zWon p (fun t => C (t / 4)) (4 * v + 2) ∧ C v = 0)
theorem z_42_0 (v : Nat) : (4 * v + 2).testBit 0 = false := by
  rw [Nat.testBit_eq_decide_div_mod_eq]
  exact decide_eq_false (by omega)
theorem z_42_1 (v : Nat) : (4 * v + 2).testBit 1 = true := by
  rw [Nat.testBit_eq_decide_div_mod_eq]
  exact decide_eq_true (by omega)
theorem z_42_q {v i : Nat} (hv : 4 * v + 2 < 4096) (h2 : 2 ≤ i) (hi : i < 12) (h : (4 * v + 2).testBit i = false) : ((4 * v + 2) ||| 2 ^ i) = 4 * (v + 2 ^ (i - 2)) + 2 ∧ ((4 * v + 2) ||| 2 ^ i) / 4 = v + 2 ^ (i - 2) := by
  have e : ((4 * v + 2) ||| 2 ^ i) = 4 * (v + 2 ^ (i - 2)) + 2 := by
    rw [z_or_add i hi _ hv h]
    have e2 : 2 ^ i = 4 * 2 ^ (i - 2) := by
      rw [show (4 : Nat) = 2 ^ 2 from rfl, ← Nat.pow_add, show 2 + (i - 2) = i from by omega]
    omega
  exact ⟨e, by omega⟩
theorem zGoodC_upd {p : Nat} (hp : p ≤ 12) {C : Nat → Int32} {v j : Nat} {x : Int32} (hv : 4 * v + 2 < 4096) (hj : j < v) (h : zGoodC p C v) : zGoodC p (upd C j x) v := by
  have e : zWon p (fun t => C (t / 4)) (4 * v + 2) ↔ zWon p (fun t => upd C j x (t / 4)) (4 * v + 2) := zWon_congr (fun i h1 h2 h3 => by
    obtain ⟨-, g⟩ := z_42_q hv h1 (by omega) h3
    show C _ = upd C j x _
    have := Nat.two_pow_pos (i - 2)
    rw [g, upd_at, if_neg (by omega)])
  have e2 : upd C j x v = C v := by rw [upd_at, if_neg (by omega)]
  unfold zGoodC
  rw [e2, ← e]
  exact h
theorem game_c {p : Nat} (hp2 : 2 ≤ p) (hp : p ≤ 12) (hP : 4 * 2 ^ (p - 2) = 2 ^ p) (hP2 : 2 ^ p ≤ 4096) : ∀ j f (S : zGm), j ≤ 2 ^ (p - 2) → j < f → (∀ v, j ≤ v → v < 2 ^ (p - 2) → zGoodC p (gm_wins S) v) → ∃ C, fX1_isWonByFirst_l21 (nI p) f (nI j + (-1)) S = some (C 0, gm_set_wins S C) ∧ ∀ v, v < 2 ^ (p - 2) → zGoodC p C v := by
  intro j
  induction j with
  | zero =>
    intro f S hj hf hG
    obtain ⟨f, rfl⟩ : ∃ k', f = k' + 1 := ⟨f - 1, by omega⟩
    refine ⟨gm_wins S, ?_, fun v h2 => hG v (by omega) h2⟩
    have e : gm_wins S 0 &&& 1 = gm_wins S 0 := by
      rcases hG 0 (by omega) (Nat.two_pow_pos _) with ⟨-, z⟩ | ⟨-, z⟩
      · rw [z]; rfl
      · rw [z]; rfl
    have e' : (gm_wins S (0 : Int32).toNatClampNeg &&& 1 = gm_wins S (0 : Int32).toNatClampNeg) := e
    rw [fX1_isWonByFirst_l21, if_pos (show nI 0 + (-1) < (0 : Int32) from by decide), if_pos e']
    exact (ix_nI (n := 1024) (j := 0) (by omega) (by omega)).trans rfl
  | succ j ih =>
    intro f S hj hf hG
    obtain ⟨f, rfl⟩ : ∃ k', f = k' + 1 := ⟨f - 1, by omega⟩
    have same : ∀ y, zWon p (fun t => gm_wins S (t / 4)) (4 * j + 2) ↔ zWon p (fun t => upd (gm_wins S) j y (t / 4)) (4 * j + 2) := fun y => zWon_congr (fun i h1 h2 h3 => by
      obtain ⟨-, g⟩ := z_42_q (v := j) (by omega) h1 (by omega) h3
      show gm_wins S _ = upd (gm_wins S) j y _
      have := Nat.two_pow_pos (i - 2)
      rw [g, upd_at, if_neg (by omega)])
    have em : (nI j <<< ((2 : Int32) &&& 31)) ||| (2 : Int32) = nI (4 * j + 2) := by
      rw [show (2 : Int32) &&& 31 = nI 2 from by decide, pk_shlN (nI 2) 2 (by decide) (by omega), show (2 : Int32) = nI 2 from rfl, z_or (by omega) (by omega)]
      congr 1
      rw [Nat.mul_comm, ← Nat.two_pow_add_eq_or_of_lt (b := 2) (i := 2) (by omega) j]
    have step : ∀ x, zGoodC p (upd (gm_wins S) j x) j → ∃ C, fX1_isWonByFirst_l21 (nI p) f (nI j + (-1)) (gm_set_wins S (upd (gm_wins S) j x)) = some (C 0, gm_set_wins S C) ∧ ∀ v, v < 2 ^ (p - 2) → zGoodC p C v := by
      intro x hx
      obtain ⟨C, e1, e2⟩ := ih f (gm_set_wins S (upd (gm_wins S) j x)) (by omega) (by omega) (fun v h1 h2 => by
        by_cases z : v = j
        · rw [z]; exact hx
        · exact zGoodC_upd hp (by omega) (by omega) (hG v (by omega) h2))
      exact ⟨C, e1, e2⟩
    rw [fX1_isWonByFirst_l21, pk_m1, if_neg (nI_pos (by omega)), em]
    rcases isWon_eq S hp2 hp (s := 4 * j + 2) (by omega) (by omega) (z_42_0 j) with ⟨x1, x2⟩ | ⟨x1, x2⟩
    · rw [x2]
      show ∃ C, ix 1024 (nI j) _ = _ ∧ _
      rw [ix_nI (by omega) (by omega), nI_clamp (by omega)]
      exact step _ (Or.inl ⟨(same _).mp x1, by rw [upd_at, if_pos rfl]; rfl⟩)
    · rw [x2]
      show ∃ C, ix 1024 (nI j) _ = _ ∧ _
      rw [ix_nI (by omega) (by omega), nI_clamp (by omega)]
      exact step _ (Or.inr ⟨fun z => x1 ((same _).mpr z), by rw [upd_at, if_pos rfl]; rfl⟩)
theorem game_same {p : Nat} (hp2 : 2 ≤ p) (hp : p ≤ 12) (hP : 4 * 2 ^ (p - 2) = 2 ^ p) (hP2 : 2 ^ p ≤ 4096) {C W : Nat → Int32} (hC : ∀ v, v < 2 ^ (p - 2) → zGoodC p C v) (hW : ∀ s, 2 ≤ s → s < 2 ^ p → zGoodM p W s) : ∀ d v, v < 2 ^ (p - 2) → 2 ^ (p - 2) ≤ v + d → C v = W (4 * v + 2) := by
  intro d
  induction d with
  | zero => intro v h1 h2; omega
  | succ d ih =>
    intro v h1 h2
    have e : zWon p (fun t => C (t / 4)) (4 * v + 2) ↔ zWon p W (4 * v + 2) := zWon_congr (fun i g1 g2 g3 => by
      obtain ⟨a, b⟩ := z_42_q (v := v) (by omega) g1 (by omega) g3
      show C _ = W _
      have hl : (4 * v + 2) ||| 2 ^ i < 2 ^ p := Nat.or_lt_two_pow (by omega) (Nat.pow_lt_pow_right (by omega) g2)
      have := Nat.two_pow_pos (i - 2)
      rw [b, a]
      exact ih _ (by omega) (by omega))
    rcases hC v h1 with ⟨x1, x2⟩ | ⟨x1, x2⟩
    · rcases hW (4 * v + 2) (by omega) (by omega) (z_42_1 v) with ⟨y1, y2⟩ | ⟨y1, y2⟩
      · rw [x2, y2]
      · exact absurd (e.mp x1) y1
    · rcases hW (4 * v + 2) (by omega) (by omega) (z_42_1 v) with ⟨y1, y2⟩ | ⟨y1, y2⟩
      · exact absurd (e.mpr y1) x1
      · rw [x2, y2]
theorem sim_game : zSim_game RT := by
  intro M T p h
  have hr := h
  unfold fX7_game fX8_game
  have e0 : fX8_bound p 2 12 = fX7_outside p 2 12 := rfl
  rw [e0]
  rcases outside_3 p 2 12 (by omega) (by omega) with e | e | ⟨e, N, hN1, hN2, rfl⟩
  · have e' : fX7_outside p 2 12 = -4 := e
    rw [e', if_neg (by decide), if_neg (by decide)]
    obtain ⟨M', T', x, y, z⟩ := refuse_4 h
    exact ⟨-4, M', T', by rw [x]; rfl, by rw [y]; rfl, z⟩
  · have e' : fX7_outside p 2 12 = -6 := e
    rw [e', if_neg (by decide), if_neg (by decide)]
    obtain ⟨M', T', x, y, z⟩ := refuse_6 h
    exact ⟨-6, M', T', by rw [x]; rfl, by rw [y]; rfl, z⟩
  · have e' : fX7_outside (nI N) 2 12 = 0 := e
    rw [e', if_pos rfl, if_pos rfl]
    have hP : 4 * 2 ^ (N - 2) = 2 ^ N := by
      rw [show (4 : Nat) = 2 ^ 2 from rfl, ← Nat.pow_add, show 2 + (N - 2) = N from by omega]
    have hP2 : 2 ^ N ≤ 4096 := Nat.le_trans (Nat.pow_le_pow_right (by omega) hN2) (show 2 ^ 12 ≤ 4096 from by decide)
    have hP3 := Nat.two_pow_pos (N - 2)
    obtain ⟨C, c1, c2⟩ := game_c hN1 hN2 hP hP2 (2 ^ (N - 2)) FU (mn_builders M) (Nat.le_refl _) (FU_big _ (by omega)) (fun v h1 h2 => absurd h2 (by omega))
    obtain ⟨W, w1, w2⟩ := game_m hN1 hN2 hP2 (2 ^ N - 1) FU T (by omega) (FU_big _ (by omega)) (fun s h1 h2 => absurd h2 (by omega))
    have cw : C 0 = W 2 := game_same hN1 hN2 hP hP2 c2 w2 (2 ^ (N - 2)) 0 (by omega) (by omega)
    have ec : fX1_isWonByFirst (mn_builders M) (nI N) = some (C 0, gm_set_wins (mn_builders M) C) := by
      unfold fX1_isWonByFirst
      rw [if_neg (show ¬ nI N < (2 : Int32) from nI_nlt (a := N) (b := 2) hN1 (by omega)), if_pos (show nI N ≤ (12 : Int32) from nI_le (b := 12) hN2 (by omega)), show (2 : Int32) = nI 2 from rfl, pk_sub hN1, z_one (by omega), Int32.sub_eq_add_neg]
      exact c1
    have em : fX8_game_l24 (nI N) FU (((1 : Int32) <<< (nI N &&& 31)) - 1) T = some (W 2, md_set_wins T W) := by
      rw [z_one (by omega), show (1 : Int32) = nI 1 from rfl, pk_sub (by omega)]
      exact w1
    rw [ec, em]
    refine ⟨W 2, mn_set_builders M (gm_set_wins (mn_builders M) C), md_set_wins T W, ?_, ?_, (hr.wins W).builders C⟩
    · repeat rw [Option.bind_some]
      rcases c2 0 (by omega) with ⟨-, z⟩ | ⟨-, z⟩
      · rw [z, if_neg (show ¬ (1 : Int32) = 0 from by decide), ← cw, z]
      · rw [z, if_pos (show (0 : Int32) = 0 from rfl), ← cw, z]
    · rfl
