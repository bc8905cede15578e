/-! what falls with what -/
def zpop (w : Nat) : Nat → Nat
  | 0 => 0
  | n + 1 => zpop w n + (if w.testBit n then 1 else 0)
theorem z_bitCount' : ∀ qa, qa < 64 → ∀ qb, qb < 64 → fJ6_bitCount_0f7a4 (nI (64 * qa + qb)) = nI (zpop (64 * qa + qb) 31) := by decide +kernel
theorem z_bitCount : ∀ w, w < 4096 → fJ6_bitCount_0f7a4 (nI w) = nI (zpop w 31) := by
  intro w hw
  have t := z_bitCount' (w / 64) (by omega) (w % 64) (by omega)
  rw [show 64 * (w / 64) + w % 64 = w from by omega] at t
  exact t
theorem zpop_le (w : Nat) : ∀ n, zpop w n ≤ n := by
  intro n
  induction n with
  | zero => exact Nat.le_refl _
  | succ n ih =>
    rw [zpop]
    by_cases h : w.testBit n
    · rw [if_pos h]; omega
    · rw [if_neg h]; omega
theorem bits_l (w : Nat) (hw : w < 4096) : ∀ d i k, i + d = 31 → d < k → fX8_bits_l4 (nI w) k (nI (zpop w i)) (nI i) = some (nI (zpop w 31)) := by
  intro d
  induction d with
  | zero =>
    intro i k hi hk
    obtain ⟨k, rfl⟩ : ∃ k', k = k' + 1 := ⟨k - 1, by omega⟩
    have e : i = 31 := by omega
    subst e
    rw [fX8_bits_l4, if_pos (by decide)]
  | succ d ih =>
    intro i k hi hk
    obtain ⟨k, rfl⟩ : ∃ k', k = k' + 1 := ⟨k - 1, by omega⟩
    rw [fX8_bits_l4, if_neg (show ¬ (31 : Int32) ≤ nI i from nI_ge (b := 31) (by omega) (by omega)), z_bit (by omega) (by omega), nI_1]
    have e : nI (zpop w i) + zbit w i = nI (zpop w (i + 1)) := by
      rw [zpop]
      unfold zbit
      by_cases h : w.testBit i
      · rw [if_pos h, if_pos h, nI_1]
      · simp only [if_neg h]
        exact nI_add _ 0
    rw [e]
    exact ih (i + 1) k (by omega) (by omega)
theorem bits_eq {w : Nat} (hw : w < 4096) : fX8_bits (nI w) = some (nI (zpop w 31)) :=
  bits_l w hw 31 0 FU (by omega) (FU_big _ (by omega))
theorem z_orbit {w i : Nat} (hw : w < 4096) (hi : i < 12) : nI (w % 2 ^ i) ||| (zbit w i <<< (nI i &&& 31)) = nI (w % 2 ^ (i + 1)) := by
  have p2 : 2 ^ i < 2 ^ 12 := Nat.pow_lt_pow_right (by omega) (by omega)
  have p1 : 0 < 2 ^ i := Nat.pow_pos (by omega)
  have m1 : w % 2 ^ i < 2 ^ i := Nat.mod_lt _ p1
  have e : zbit w i <<< (nI i &&& 31) = nI (if w.testBit i then 2 ^ i else 0) := by
    unfold zbit
    by_cases h : w.testBit i
    · rw [if_pos h, if_pos h, z_one (by omega)]
    · rw [if_neg h, if_neg h, z_and31 i (by omega)]
      apply Int32.toBitVec_inj.mp
      apply BitVec.eq_of_toNat_eq
      rw [pk_shl (0 : Int32) (nI i) i (z_sm i (by omega)), pk_tn (by omega)]
      show 0 * 2 ^ i % 2 ^ 32 = 0
      rw [Nat.zero_mul, Nat.zero_mod]
  rw [e, z_or (by omega) (by by_cases h : w.testBit i <;> simp [h] <;> omega)]
  congr 1
  apply Nat.eq_of_testBit_eq
  intro j
  rw [Nat.testBit_or, Nat.testBit_mod_two_pow, Nat.testBit_mod_two_pow]
  by_cases h : w.testBit i
  · rw [if_pos h, Nat.testBit_two_pow]
    by_cases ej : j = i
    · subst ej; simp [h]
    · have n1 : ¬ i = j := fun q => ej q.symm
      have n2 : (j < i + 1) = (j < i) := by simp; omega
      simp [n1, n2]
  · rw [if_neg h, Nat.zero_testBit]
    by_cases ej : j = i
    · subst ej; simp [h]
    · have n2 : (j < i + 1) = (j < i) := by simp; omega
      simp [n2]
theorem standing_l {c w : Nat} {T : zMd} (hc : c ≤ 12) (hh : md_houses T = nI c) (hw : w < 2 ^ c) (hs : ∀ h, h < c → md_stands T h = zbit w h) : ∀ d i k, i + d = c → d < k → fX8_standing_l4 T k (nI (w % 2 ^ i)) (nI i) = some (nI w) := by
  have hw12 : w < 4096 := Nat.lt_of_lt_of_le hw (Nat.pow_le_pow_right (by omega) hc)
  intro d
  induction d with
  | zero =>
    intro i k hi hk
    obtain ⟨k, rfl⟩ : ∃ k', k = k' + 1 := ⟨k - 1, by omega⟩
    have e : i = c := by omega
    subst e
    rw [fX8_standing_l4, hh, if_pos (nI_le (by omega) (by omega)), Nat.mod_eq_of_lt hw]
  | succ d ih =>
    intro i k hi hk
    obtain ⟨k, rfl⟩ : ∃ k', k = k' + 1 := ⟨k - 1, by omega⟩
    rw [fX8_standing_l4, hh, if_neg (nI_ge (by omega) (by omega)), ix_nI (by omega) (by omega), nI_clamp (by omega), hs i (by omega), z_orbit hw12 (by omega), nI_1]
    exact ih (i + 1) k (by omega) (by omega)
theorem standing_eq {c w : Nat} {T : zMd} (hc : c ≤ 12) (hh : md_houses T = nI c) (hw : w < 2 ^ c) (hs : ∀ h, h < c → md_stands T h = zbit w h) : fX8_standing T = some (nI w) := by
  have := standing_l hc hh hw hs c 0 FU (by omega) (FU_big _ (by omega))
  rw [Nat.pow_zero, Nat.mod_one] at this
  exact this
/-- the houses below h looked at once, upwards -/
def zG (T : zMd) (x : Nat) : Nat → Nat
  | 0 => x
  | h + 1 => if h ≠ 0 ∧ (md_falls T = 1 ∨ md_kind T h = 5) ∧ ¬ ((zG T x h).testBit (md_one T h).toNatClampNeg = true ∧ (zG T x h).testBit (md_other T h).toNatClampNeg = true) then zclr (zG T x h) h else zG T x h
theorem zG_le (T : zMd) (x : Nat) : ∀ h, zG T x h ≤ x := by
  intro h
  induction h with
  | zero => exact Nat.le_refl _
  | succ h ih =>
    rw [zG]
    split
    · exact Nat.le_trans (zclr_le _ _) ih
    · exact ih
theorem zG_tb (T : zMd) (x : Nat) : ∀ h i, i < 32 → i ≠ h → (zG T x (h + 1)).testBit i = (zG T x h).testBit i := by
  intro h i hi hne
  rw [zG]
  split
  · rw [zclr_tb _ _ _ hi]
    have : ¬ h = i := fun q => hne q.symm
    simp [this]
  · rfl
theorem zG_low (T : zMd) (x : Nat) : ∀ h2 h i, i < 32 → i < h → h ≤ h2 → (zG T x h2).testBit i = (zG T x h).testBit i := by
  intro h2
  induction h2 with
  | zero => intro h i _ hi hh; omega
  | succ h2 ih =>
    intro h i h32 hi hh
    by_cases e : h = h2 + 1
    · subst e; rfl
    · rw [zG_tb T x h2 i h32 (by omega)]
      exact ih h i h32 hi (by omega)
theorem zG_sub (T : zMd) (x : Nat) : ∀ h i, i < 32 → (zG T x h).testBit i = true → x.testBit i = true := by
  intro h
  induction h with
  | zero => intro i _ q; exact q
  | succ h ih =>
    intro i hi q
    rw [zG] at q
    split at q
    · rw [zclr_tb _ _ _ hi] at q
      simp at q
      exact ih i hi q.1
    · exact ih i hi q
theorem zclr_not {w a : Nat} (hw : w < 2 ^ 31) (h : w.testBit a = false) : zclr w a = w := by
  apply Nat.eq_of_testBit_eq
  intro j
  by_cases hj : j < 32
  · rw [zclr_tb _ _ _ hj]
    by_cases e : a = j
    · subst e; simp [h]
    · simp [e]
  · unfold zclr
    rw [Nat.testBit_and]
    have : w.testBit j = false := Nat.testBit_lt_two_pow (Nat.lt_of_lt_of_le hw (Nat.pow_le_pow_right (by omega) (by omega)))
    simp [this]
section SRf
variable {c w : Nat} {S : zSt} {T : zMd}
/-- a house's two, as places -/
theorem SR.ab (h : SR c w S T) {j : Nat} (hj : j < c) (h0 : j ≠ 0) : ∃ a b, a < j ∧ b < j ∧ md_one T j = nI a ∧ md_other T j = nI b ∧ (md_one T j).toNatClampNeg = a ∧ (md_other T j).toNatClampNeg = b := by
  have hc := h.c
  rcases h.two j hj with ⟨e, -⟩ | ⟨a, b, ha, hb, ea, eb⟩
  · exact absurd e h0
  · exact ⟨a, b, ha, hb, ea, eb, by rw [ea]; exact nI_clamp (by omega), by rw [eb]; exact nI_clamp (by omega)⟩
theorem fallsWith_l (h : SR c w S T) {x : Nat} (hx : x < 4096) : ∀ d i k, i + d = c → 1 ≤ i → d < k → fX5_fallsWith_l23 S k (nI (zG T x i)) (nI i) = some (nI w &&& (nI (zG T x c) ^^^ (-1 : Int32))) := by
  have hc := h.c
  intro d
  induction d with
  | zero =>
    intro i k hi h1 hk
    obtain ⟨k, rfl⟩ : ∃ k', k = k' + 1 := ⟨k - 1, by omega⟩
    have e : i = c := by omega
    subst e
    rw [fX5_fallsWith_l23, h.came, if_pos (nI_le (by omega) (by omega)), h.st]
  | succ d ih =>
    intro i k hi h1 hk
    obtain ⟨k, rfl⟩ : ∃ k', k = k' + 1 := ⟨k - 1, by omega⟩
    have a := h.arr i (by omega)
    obtain ⟨p, q, hp, hq, ep, eq, fp, fq⟩ := h.ab (j := i) (by omega) (by omega)
    have hg := zG_le T x i
    have step : fX5_fallsWith_j54 S (nI (zG T x i)) (nI i) 1 (fX5_fallsWith_l23 S k) = fX5_fallsWith_l23 S k (nI (if (zG T x i).testBit p = true ∧ (zG T x i).testBit q = true then zG T x i else zclr (zG T x i) i)) (nI (i + 1)) := by
      unfold fX5_fallsWith_j54 fX5_fallsWith_j87
      rw [if_neg (by decide), ix_nI (by omega) (by omega), nI_clamp (by omega), a.2.2.2.1, a.2.2.2.2.1, ep, eq, isIn_nI (by omega) (by omega), isIn_nI (by omega) (by omega), z_clr (by omega) (by omega), nI_1]
      by_cases t1 : (zG T x i).testBit p = true
      · rw [if_neg (fun z => by rw [zbit1.mpr t1] at z; exact absurd z (by decide))]
        by_cases t2 : (zG T x i).testBit q = true
        · rw [if_neg (fun z => by rw [zbit1.mpr t2] at z; exact absurd z (by decide)), if_pos ⟨t1, t2⟩]
        · rw [if_pos (zbit0.mpr (by simpa using t2)), if_neg (fun z => t2 z.2)]
      · rw [if_pos (zbit0.mpr (by simpa using t1)), if_neg (fun z => t1 z.1)]
    have nx := ih (i + 1) k (by omega) (by omega) (by omega)
    have hz : zG T x (i + 1) = if md_falls T = 1 ∨ md_kind T i = 5 then (if (zG T x i).testBit p = true ∧ (zG T x i).testBit q = true then zG T x i else zclr (zG T x i) i) else zG T x i := by
      rw [zG, fp, fq]
      by_cases u : md_falls T = 1 ∨ md_kind T i = 5
      · rw [if_pos u]
        by_cases v : (zG T x i).testBit p = true ∧ (zG T x i).testBit q = true
        · rw [if_pos v, if_neg (fun z => z.2.2 v)]
        · rw [if_neg v, if_pos ⟨by omega, u, v⟩]
      · rw [if_neg u, if_neg (fun z => u z.2.1)]
    rw [fX5_fallsWith_l23, h.came, if_neg (nI_ge (by omega) (by omega)), h.falls]
    rw [hz] at nx
    by_cases f1 : md_falls T = 1
    · rw [if_pos f1]
      unfold fX5_fallsWith_j49
      rw [step]
      rw [if_pos (Or.inl f1)] at nx
      exact nx
    · rw [if_neg f1, ix_nI (by omega) (by omega), nI_clamp (by omega), a.1]
      by_cases f2 : md_kind T i = 5
      · rw [if_pos f2]
        unfold fX5_fallsWith_j49
        rw [step]
        rw [if_pos (Or.inr f2)] at nx
        exact nx
      · rw [if_neg f2]
        rw [if_neg (fun z => z.elim f1 f2)] at nx
        unfold fX5_fallsWith_j54
        rw [if_pos rfl, nI_1]
        exact nx
theorem fallsWith_in (h : SR c w S T) {j : Nat} (hj : j < c) (hs : w.testBit j = true) : fX5_fallsWith S (nI j) = some (nI w &&& (nI (zG T (zclr w j) c) ^^^ (-1 : Int32))) := by
  have hc := h.c
  have hw := h.w12
  have hl := zclr_le w j
  unfold fX5_fallsWith
  rw [stands_in h hj, zbit1.mpr hs, if_neg (by decide), h.st, z_clr (by omega) (by omega)]
  exact fallsWith_l h (x := zclr w j) (by omega) (c - 1) 1 FU (by have := h.c1; omega) (by omega) (FU_big _ (by omega))
/-- once through the houses in the reference -/
theorem burns_in (h : SR c w S T) (k9 : Int32 → zMd → Option zMd) {x : Nat} (hx : x < 4096) : ∀ d i k g Y, i + d = c → d < k → (g = 0 ∨ g = 1) → (∀ h, h < c → Y h = zbit (zG T x i) h) → ∃ g' Y', (g' = 0 ∨ g' = 1) ∧ (∀ h, h < c → Y' h = zbit (zG T x c) h) ∧ fX8_burns_l17 k9 k g (nI i) (md_set_stands T Y) = k9 g' (md_set_stands T Y') := by
  have hc := h.c
  intro d
  induction d with
  | zero =>
    intro i k g Y hi hk hg hY
    obtain ⟨k, rfl⟩ : ∃ k', k = k' + 1 := ⟨k - 1, by omega⟩
    have e : i = c := by omega
    subst e
    refine ⟨g, Y, hg, hY, ?_⟩
    rw [fX8_burns_l17]
    show (if md_houses T ≤ nI i then _ else _) = _
    rw [h.houses, if_pos (nI_le (by omega) (by omega))]
  | succ d ih =>
    intro i k g Y hi hk hg hY
    obtain ⟨k, rfl⟩ : ∃ k', k = k' + 1 := ⟨k - 1, by omega⟩
    have gl := zG_le T x i
    have fw : ∃ r : Int32, fX8_fallsWith (md_set_stands T Y) (nI i) = some r ∧ ((r = 0 ∧ zG T x (i + 1) = zG T x i) ∨ (r = 1 ∧ zG T x (i + 1) = zclr (zG T x i) i)) := by
      unfold fX8_fallsWith
      rw [ix_nI (by omega) (by omega), nI_clamp (by omega)]
      show ∃ r : Int32, (if Y i = 1 then if md_falls T = 1 then fX8_fallsWith_j28 (md_set_stands T Y) (nI i) else if md_kind T i = 5 then fX8_fallsWith_j28 (md_set_stands T Y) (nI i) else some 0 else some 0) = some r ∧ _
      rw [hY i (by omega)]
      by_cases b : (zG T x i).testBit i = true
      · rw [if_pos (zbit1.mpr b)]
        have j28 : ∃ r : Int32, fX8_fallsWith_j28 (md_set_stands T Y) (nI i) = some r ∧ ((r = 0 ∧ (i = 0 ∨ ((zG T x i).testBit (md_one T i).toNatClampNeg = true ∧ (zG T x i).testBit (md_other T i).toNatClampNeg = true))) ∨ (r = 1 ∧ i ≠ 0 ∧ ¬ ((zG T x i).testBit (md_one T i).toNatClampNeg = true ∧ (zG T x i).testBit (md_other T i).toNatClampNeg = true))) := by
          unfold fX8_fallsWith_j28
          rw [ix_nI (by omega) (by omega), nI_clamp (by omega)]
          show ∃ r : Int32, (fX8_hasFallen (md_set_stands T Y) (md_one T i)).bind _ = some r ∧ _
          rcases h.two i (by omega) with ⟨e0, e1, e2⟩ | ⟨p, q, hp, hq, ep, eq⟩
          · refine ⟨0, ?_, Or.inl ⟨rfl, Or.inl e0⟩⟩
            rw [e1]
            show (fX8_hasFallen (md_set_stands T Y) (md_other T i)).bind _ = _
            rw [e2]
            rfl
          · have hf : ∀ p, p < i → fX8_hasFallen (md_set_stands T Y) (nI p) = some (if (zG T x i).testBit p = true then 0 else 1) := by
              intro p hp
              unfold fX8_hasFallen
              rw [if_neg (nI_pos (by omega)), ix_nI (by omega) (by omega), nI_clamp (by omega)]
              show (if Y p = 0 then some (1 : Int32) else some 0) = _
              rw [hY p (by omega)]
              by_cases t : (zG T x i).testBit p = true
              · rw [if_pos t, zbit1.mpr t]; rfl
              · rw [if_neg t, zbit0.mpr (by simpa using t)]; rfl
            rw [ep, hf p hp, nI_clamp (by omega)]
            by_cases t1 : (zG T x i).testBit p = true
            · rw [if_pos t1]
              show ∃ r : Int32, (fX8_hasFallen (md_set_stands T Y) (md_other T i)).bind _ = some r ∧ _
              rw [eq, hf q hq, nI_clamp (by omega)]
              by_cases t2 : (zG T x i).testBit q = true
              · rw [if_pos t2]
                exact ⟨0, rfl, Or.inl ⟨rfl, Or.inr ⟨t1, t2⟩⟩⟩
              · rw [if_neg t2]
                exact ⟨1, rfl, Or.inr ⟨rfl, by omega, fun z => t2 z.2⟩⟩
            · rw [if_neg t1]
              exact ⟨1, rfl, Or.inr ⟨rfl, by omega, fun z => t1 z.1⟩⟩
        obtain ⟨r, er, hr⟩ := j28
        by_cases u : md_falls T = 1 ∨ md_kind T i = 5
        · refine ⟨r, ?_, ?_⟩
          · by_cases f1 : md_falls T = 1
            · rw [if_pos f1]; exact er
            · rw [if_neg f1, if_pos (u.resolve_left f1)]; exact er
          · rw [zG]
            rcases hr with ⟨r0, z⟩ | ⟨r1, z0, z⟩
            · refine Or.inl ⟨r0, if_neg (fun y => ?_)⟩
              rcases z with z | z
              · exact y.1 z
              · exact y.2.2 z
            · exact Or.inr ⟨r1, if_pos ⟨z0, u, z⟩⟩
        · refine ⟨0, ?_, Or.inl ⟨rfl, ?_⟩⟩
          · rw [if_neg (fun f => u (Or.inl f)), if_neg (fun f => u (Or.inr f))]
          · rw [zG, if_neg (fun y => u y.2.1)]
      · have b' : (zG T x i).testBit i = false := by simpa using b
        rw [zbit0.mpr b', if_neg (by decide)]
        refine ⟨0, rfl, Or.inl ⟨rfl, ?_⟩⟩
        rw [zG]
        split
        · exact zclr_not (by omega) b'
        · rfl
    obtain ⟨r, er, hr⟩ := fw
    rw [fX8_burns_l17]
    show ∃ g' Y', _ ∧ _ ∧ (if md_houses T ≤ nI i then _ else (fX8_fallsWith (md_set_stands T Y) (nI i)).bind _) = _
    rw [h.houses, if_neg (nI_ge (by omega) (by omega)), er, nI_1]
    rcases hr with ⟨rfl, ez⟩ | ⟨rfl, ez⟩
    · show ∃ g' Y', _ ∧ _ ∧ fX8_burns_l17 k9 k g (nI (i + 1)) (md_set_stands T Y) = _
      exact ih (i + 1) k g Y (by omega) (by omega) hg (by rw [ez]; exact hY)
    · show ∃ g' Y', _ ∧ _ ∧ ix 12 (nI i) (fX8_burns_l17 k9 k 1 (nI (i + 1)) (md_set_stands T (upd Y (nI i).toNatClampNeg 0))) = _
      rw [ix_nI (by omega) (by omega), nI_clamp (by omega)]
      refine ih (i + 1) k 1 (upd Y i 0) (by omega) (by omega) (Or.inr rfl) (fun j hj => ?_)
      rw [ez, zbit_clr _ _ _ (by omega), upd_at, hY j hj]
/-- a pass that finds nothing -/
theorem burns_ok (h : SR c w S T) (k9 : Int32 → zMd → Option zMd) {x : Nat} (hx : x < 4096) (Y : Nat → Int32) (hY : ∀ h, h < c → Y h = zbit (zG T x c) h) : ∀ d i k g, i + d = c → d < k → fX8_burns_l17 k9 k g (nI i) (md_set_stands T Y) = k9 g (md_set_stands T Y) := by
  have hc := h.c
  have gl := zG_le T x c
  intro d
  induction d with
  | zero =>
    intro i k g hi hk
    obtain ⟨k, rfl⟩ : ∃ k', k = k' + 1 := ⟨k - 1, by omega⟩
    have e : i = c := by omega
    subst e
    rw [fX8_burns_l17]
    show (if md_houses T ≤ nI i then _ else _) = _
    rw [h.houses, if_pos (nI_le (by omega) (by omega))]
  | succ d ih =>
    intro i k g hi hk
    obtain ⟨k, rfl⟩ : ∃ k', k = k' + 1 := ⟨k - 1, by omega⟩
    have fw : fX8_fallsWith (md_set_stands T Y) (nI i) = some 0 := by
      unfold fX8_fallsWith
      rw [ix_nI (by omega) (by omega), nI_clamp (by omega)]
      show (if Y i = 1 then if md_falls T = 1 then fX8_fallsWith_j28 (md_set_stands T Y) (nI i) else if md_kind T i = 5 then fX8_fallsWith_j28 (md_set_stands T Y) (nI i) else some 0 else some 0) = some 0
      rw [hY i (by omega)]
      by_cases b : (zG T x c).testBit i = true
      · rw [if_pos (zbit1.mpr b)]
        have j28 : (md_falls T = 1 ∨ md_kind T i = 5) → fX8_fallsWith_j28 (md_set_stands T Y) (nI i) = some 0 := by
          intro u
          unfold fX8_fallsWith_j28
          rw [ix_nI (by omega) (by omega), nI_clamp (by omega)]
          show (fX8_hasFallen (md_set_stands T Y) (md_one T i)).bind _ = _
          rcases h.two i (by omega) with ⟨e0, e1, e2⟩ | ⟨p, q, hp, hq, ep, eq⟩
          · rw [e1]
            show (fX8_hasFallen (md_set_stands T Y) (md_other T i)).bind _ = _
            rw [e2]
            rfl
          · have b2 : (zG T x (i + 1)).testBit i = true := by rw [← zG_low T x c (i + 1) i (by omega) (by omega) (by omega)]; exact b
            have two : (zG T x i).testBit p = true ∧ (zG T x i).testBit q = true := by
              rw [zG, ep, eq, nI_clamp (by omega), nI_clamp (by omega)] at b2
              by_cases v : (zG T x i).testBit p = true ∧ (zG T x i).testBit q = true
              · exact v
              · rw [if_pos ⟨by omega, u, v⟩, zclr_tb _ _ _ (by omega)] at b2
                simp at b2
            have hf : ∀ p, p < i → (zG T x i).testBit p = true → fX8_hasFallen (md_set_stands T Y) (nI p) = some 0 := by
              intro p hp t
              unfold fX8_hasFallen
              rw [if_neg (nI_pos (by omega)), ix_nI (by omega) (by omega), nI_clamp (by omega)]
              show (if Y p = 0 then some (1 : Int32) else some 0) = _
              rw [hY p (by omega), zbit1.mpr (by rw [zG_low T x c i p (by omega) hp (by omega)]; exact t)]
              rfl
            rw [ep, hf p hp two.1]
            show (fX8_hasFallen (md_set_stands T Y) (md_other T i)).bind _ = _
            rw [eq, hf q hq two.2]
            rfl
        by_cases f1 : md_falls T = 1
        · rw [if_pos f1]; exact j28 (Or.inl f1)
        · rw [if_neg f1]
          by_cases f2 : md_kind T i = 5
          · rw [if_pos f2]; exact j28 (Or.inr f2)
          · rw [if_neg f2]
      · rw [zbit0.mpr (by simpa using b), if_neg (by decide)]
    rw [fX8_burns_l17]
    show (if md_houses T ≤ nI i then _ else (fX8_fallsWith (md_set_stands T Y) (nI i)).bind _) = _
    rw [h.houses, if_neg (nI_ge (by omega) (by omega)), fw, nI_1]
    exact ih (i + 1) k g (by omega) (by omega)
theorem burns_eq (h : SR c w S T) {j : Nat} (hj : j < c) : ∃ Y, (∀ h, h < c → Y h = zbit (zG T (zclr w j) c) h) ∧ fX8_burns T (nI j) = some (md_set_stands T Y) := by
  have hc := h.c
  have hw := h.w12
  have hl := zclr_le w j
  have e1 : ∃ f, FU = f + 3 := ⟨FU - 3, by unfold FU; omega⟩
  obtain ⟨f, ef⟩ := e1
  have hf : 1000 < f := by have : FU = 1000000000000000000000000000000000000000000000000000000000000 := rfl; omega
  unfold fX8_burns
  rw [ix_nI (by omega) (by omega), nI_clamp (by omega)]
  have h0 : ∀ h, h < c → upd (md_stands T) j 0 h = zbit (zG T (zclr w j) 0) h := by
    intro i hi
    show _ = zbit (zclr w j) i
    rw [zbit_clr _ _ _ (by omega), upd_at, (h.arr i hi).2.2.2.2.2.2.2]
  obtain ⟨g', Y', hg', hY', e⟩ := burns_in h (fX8_burns_l9 (f + 2)) (x := zclr w j) (by omega) c 0 FU 0 _ (by omega) (FU_big _ (by omega)) (Or.inl rfl) h0
  refine ⟨Y', hY', ?_⟩
  have e2 : fX8_burns_l9 FU 1 (md_set_stands T (upd (md_stands T) j 0)) = fX8_burns_l17 (fX8_burns_l9 (f + 2)) FU 0 0 (md_set_stands T (upd (md_stands T) j 0)) := by
    conv => lhs; rw [ef]
    rw [fX8_burns_l9, if_neg (by decide)]
  rw [e2]
  refine Eq.trans e ?_
  rcases hg' with rfl | rfl
  · rw [fX8_burns_l9, if_pos rfl]
  · rw [fX8_burns_l9, if_neg (by decide)]
    have := burns_ok h (fX8_burns_l9 (f + 1)) (x := zclr w j) (by omega) Y' hY' c 0 FU 0 (by omega) (FU_big _ (by omega))
    refine Eq.trans this ?_
    rw [fX8_burns_l9, if_pos rfl]
end SRf
