/-! the two streets: one relation, and what reads them -/
theorem ix_nI {α : Type} {n j : Nat} {k : Option α} (h : j < n) (hn : n < 2 ^ 31) : ix n (nI j) k = k := by
  unfold ix
  exact if_neg (nI_in h hn)
theorem FU_big (d : Nat) (h : d ≤ 1000000000) : d < FU := by unfold FU; omega
/-- the bit h of w, as an int -/
def zbit (w h : Nat) : Int32 := if w.testBit h then 1 else 0
theorem zbit01 (w h : Nat) : zbit w h = 0 ∨ zbit w h = 1 := by
  unfold zbit
  by_cases hb : w.testBit h
  · right; rw [if_pos hb]
  · left; rw [if_neg hb]
theorem zbit1 {w h : Nat} : zbit w h = 1 ↔ w.testBit h = true := by
  unfold zbit
  by_cases hb : w.testBit h
  · rw [if_pos hb]; simp [hb]
  · rw [if_neg hb]; simp [hb]
theorem zbit0 {w h : Nat} : zbit w h = 0 ↔ w.testBit h = false := by
  unfold zbit
  by_cases hb : w.testBit h
  · rw [if_pos hb]; simp [hb]
  · rw [if_neg hb]; simp [hb]
theorem z_and31 : ∀ h, h < 32 → nI h &&& 31 = nI h := by decide +kernel
theorem z_sm : ∀ h, h < 32 → ((nI h).toBitVec.smod 32).toNat = h := by decide +kernel
theorem z_shr {w h : Nat} (hw : w < 2 ^ 31) (hh : h < 32) : nI w >>> (nI h &&& 31) = nI (w / 2 ^ h) := by
  rw [z_and31 h hh]
  exact pk_shrN hw (nI h) h (z_sm h hh)
theorem z_and1 {n : Nat} (h : n < 2 ^ 32) : nI n &&& 1 = nI (n % 2) := pk_andN h 1 (by decide)
theorem z_bit {w h : Nat} (hw : w < 2 ^ 31) (hh : h < 32) : (nI w >>> (nI h &&& 31)) &&& 1 = zbit w h := by
  rw [z_shr hw hh, z_and1 (by have := Nat.div_le_self w (2 ^ h); omega)]
  unfold zbit
  rw [Nat.testBit_eq_decide_div_mod_eq]
  rcases Nat.mod_two_eq_zero_or_one (w / 2 ^ h) with e | e
  · rw [e]; rfl
  · rw [e]; rfl
theorem isIn_nI {w h : Nat} (hw : w < 2 ^ 31) (hh : h < 12) : fX5_isIn (nI w) (nI h) = zbit w h := by
  unfold fX5_isIn
  rw [if_neg (nI_pos (by omega)), if_neg (show ¬ (12 : Int32) ≤ nI h from nI_ge (b := 12) hh (by omega)), z_bit hw (by omega)]
  rcases zbit01 w h with e | e
  · rw [e]; rfl
  · rw [e]; rfl
theorem isIn_out {x b : Int32} (hb : b < 0) : fX5_isIn x b = 0 := by
  unfold fX5_isIn
  rw [if_pos hb]
/-- the class's street S and the reference's T tell the same: c houses came, the bits of w stand -/
def SR (c w : Nat) (S : zSt) (T : zMd) : Prop :=
  (1 ≤ c ∧ c ≤ 12) ∧ w < 2 ^ c ∧ st_came S = nI c ∧ md_houses T = nI c ∧ st_standing S = nI w ∧
  (∀ h, h < c → st_kinds S h = md_kind T h ∧ st_figures S h = md_figure T h ∧ st_numbers S h = md_number T h ∧ st_firsts S h = md_one T h ∧ st_seconds S h = md_other T h ∧ st_uses S h = md_uses T h ∧ st_earned S h = md_earned T h ∧ md_stands T h = zbit w h) ∧
  (st_sums S = md_sums T ∧ (md_sums T = 0 ∨ md_sums T = 1 ∨ md_sums T = 2)) ∧ (st_falls S = md_falls T ∧ (md_falls T = 0 ∨ md_falls T = 1)) ∧
  ∀ h, h < c → (∃ n, 1 ≤ n ∧ n ≤ 9999 ∧ md_number T h = nI n) ∧ ((h = 0 ∧ md_one T h = -4 ∧ md_other T h = -4) ∨ ∃ a b, a < h ∧ b < h ∧ md_one T h = nI a ∧ md_other T h = nI b)
theorem SR.c {c w : Nat} {S : zSt} {T : zMd} (h : SR c w S T) : c ≤ 12 := h.1.2
theorem SR.c1 {c w : Nat} {S : zSt} {T : zMd} (h : SR c w S T) : 1 ≤ c := h.1.1
theorem SR.w {c w : Nat} {S : zSt} {T : zMd} (h : SR c w S T) : w < 2 ^ c := h.2.1
theorem SR.w12 {c w : Nat} {S : zSt} {T : zMd} (h : SR c w S T) : w < 4096 := Nat.lt_of_lt_of_le h.2.1 (Nat.pow_le_pow_right (by omega) h.1.2)
theorem SR.came {c w : Nat} {S : zSt} {T : zMd} (h : SR c w S T) : st_came S = nI c := h.2.2.1
theorem SR.houses {c w : Nat} {S : zSt} {T : zMd} (h : SR c w S T) : md_houses T = nI c := h.2.2.2.1
theorem SR.st {c w : Nat} {S : zSt} {T : zMd} (h : SR c w S T) : st_standing S = nI w := h.2.2.2.2.1
theorem SR.arr {c w : Nat} {S : zSt} {T : zMd} (h : SR c w S T) : ∀ h, h < c → st_kinds S h = md_kind T h ∧ st_figures S h = md_figure T h ∧ st_numbers S h = md_number T h ∧ st_firsts S h = md_one T h ∧ st_seconds S h = md_other T h ∧ st_uses S h = md_uses T h ∧ st_earned S h = md_earned T h ∧ md_stands T h = zbit w h := h.2.2.2.2.2.1
theorem SR.sums {c w : Nat} {S : zSt} {T : zMd} (h : SR c w S T) : st_sums S = md_sums T := h.2.2.2.2.2.2.1.1
theorem SR.falls {c w : Nat} {S : zSt} {T : zMd} (h : SR c w S T) : st_falls S = md_falls T := h.2.2.2.2.2.2.2.1.1
theorem SR.num {c w : Nat} {S : zSt} {T : zMd} (h : SR c w S T) : ∀ j, j < c → ∃ n, 1 ≤ n ∧ n ≤ 9999 ∧ md_number T j = nI n := fun j hj => (h.2.2.2.2.2.2.2.2 j hj).1
theorem SR.two {c w : Nat} {S : zSt} {T : zMd} (h : SR c w S T) : ∀ j, j < c → (j = 0 ∧ md_one T j = -4 ∧ md_other T j = -4) ∨ ∃ a b, a < j ∧ b < j ∧ md_one T j = nI a ∧ md_other T j = nI b := fun j hj => (h.2.2.2.2.2.2.2.2 j hj).2
section SRr
variable {c w : Nat} {S : zSt} {T : zMd}
theorem has_in (h : SR c w S T) {j : Nat} (hj : j < c) : fX5_has S (nI j) = 1 := by
  have := h.c
  unfold fX5_has
  rw [h.came, if_neg (nI_pos (by omega)), if_neg (nI_ge hj (by omega))]
theorem has_out (h : SR c w S T) {x : Int32} (hx : x < 0 ∨ nI c ≤ x) : fX5_has S x = 0 := by
  unfold fX5_has
  by_cases h0 : x < 0
  · rw [if_pos h0]
  · rw [if_neg h0, h.came, if_pos (hx.resolve_left h0)]
theorem nI_m1 {c : Nat} (hc : c ≤ 12) : (nI c - 1).toInt = (c : Int) - 1 := by
  have := pk_sub_toInt (a := c) (b := 1) (by omega) (by omega)
  exact this
theorem isHouse_in (h : SR c w S T) {j : Nat} (hj : j < c) : fX8_isHouse T (nI j) = some 1 := by
  have := h.c
  have e : fX8_isIn (nI j) 0 (md_houses T - 1) = 1 := by
    unfold fX8_isIn
    rw [h.houses, if_neg (nI_pos (by omega)), if_neg]
    rw [Int32.lt_iff_toInt_lt, nI_m1 h.c, nI_toInt (by omega)]
    omega
  unfold fX8_isHouse
  rw [e]
  rfl
theorem isHouse_out (h : SR c w S T) {x : Int32} (hx : x < 0 ∨ nI c ≤ x) : fX8_isHouse T x = some 0 := by
  have := h.c
  have e : fX8_isIn x 0 (md_houses T - 1) = 0 := by
    unfold fX8_isIn
    by_cases h0 : x < 0
    · rw [if_pos h0]
    · rw [if_neg h0, h.houses, if_pos]
      have h1 := hx.resolve_left h0
      rw [Int32.le_iff_toInt_le, nI_toInt (by omega)] at h1
      rw [Int32.lt_iff_toInt_lt, nI_m1 h.c]
      omega
  unfold fX8_isHouse
  rw [e]
  rfl
theorem stands_in (h : SR c w S T) {j : Nat} (hj : j < c) : fX5_stands S (nI j) = zbit w j := by
  have := h.c
  have := h.w12
  unfold fX5_stands
  rw [has_in h hj, if_neg (by decide), h.st, isIn_nI (by omega) (by omega)]
  rcases zbit01 w j with e | e
  · rw [e]; rfl
  · rw [e]; rfl
theorem stands_out (h : SR c w S T) {x : Int32} (hx : x < 0 ∨ nI c ≤ x) : fX5_stands S x = 0 := by
  unfold fX5_stands
  rw [has_out h hx, if_pos rfl]
theorem doesStand_in (h : SR c w S T) {j : Nat} (hj : j < c) : fX8_doesStand T (nI j) = some (zbit w j) := by
  have := h.c
  unfold fX8_doesStand
  rw [isHouse_in h hj]
  show (if (1 : Int32) = 0 then some (0 : Int32) else ix 12 (nI j) (if md_stands T (nI j).toNatClampNeg = 1 then some 1 else some 0)) = _
  rw [if_neg (by decide), ix_nI (by omega) (by omega), nI_clamp (by omega), (h.arr j hj).2.2.2.2.2.2.2]
  rcases zbit01 w j with e | e
  · rw [e]; rfl
  · rw [e]; rfl
theorem doesStand_out (h : SR c w S T) {x : Int32} (hx : x < 0 ∨ nI c ≤ x) : fX8_doesStand T x = some 0 := by
  unfold fX8_doesStand
  rw [isHouse_out h hx]
  rfl
theorem isThere_l (h : SR c w S T) (n : Int32) : ∀ d i k, i + d = c → d < k → ∃ r : Int32, (r = 0 ∨ r = 1) ∧ fX5_isThere_l2 S n k (nI i) = some r ∧ fX8_isThere_l2 T n k (nI i) = some r := by
  have hc := h.c
  have hw := h.w12
  intro d
  induction d with
  | zero =>
    intro i k hi hk
    obtain ⟨k, rfl⟩ : ∃ k', k = k' + 1 := ⟨k - 1, by omega⟩
    refine ⟨0, Or.inl rfl, ?_, ?_⟩
    · rw [fX5_isThere_l2, h.came, if_pos (nI_le (by omega) (by omega))]
    · rw [fX8_isThere_l2, h.houses, if_pos (nI_le (by omega) (by omega))]
  | succ d ih =>
    intro i k hi hk
    obtain ⟨k, rfl⟩ : ∃ k', k = k' + 1 := ⟨k - 1, by omega⟩
    obtain ⟨r, hr, e1, e2⟩ := ih (i + 1) k (by omega) (by omega)
    have a := h.arr i (by omega)
    rw [fX5_isThere_l2, fX8_isThere_l2, h.came, h.houses, if_neg (nI_ge (by omega) (by omega)), if_neg (nI_ge (by omega) (by omega)), h.st, isIn_nI (by omega) (by omega), ix_nI (by omega) (by omega), ix_nI (by omega) (by omega), nI_clamp (by omega), a.2.2.2.2.2.2.2, a.2.2.1, nI_1, e1, e2]
    rcases zbit01 w i with e | e
    · rw [e, if_pos rfl, if_neg (by decide)]
      exact ⟨r, hr, rfl, rfl⟩
    · rw [e, if_neg (by decide), if_pos rfl]
      by_cases hn : md_number T i = n
      · simp only [if_pos hn]
        exact ⟨1, Or.inr rfl, rfl, rfl⟩
      · simp only [if_neg hn]
        exact ⟨r, hr, rfl, rfl⟩
theorem isThere_eq (h : SR c w S T) (n : Int32) : ∃ r : Int32, (r = 0 ∨ r = 1) ∧ fX5_isThere S n = some r ∧ fX8_isThere T n = some r := by
  have hc := h.c
  exact isThere_l h n c 0 FU (by omega) (FU_big _ (by omega))
theorem z_par {n : Nat} (h : n < 2 ^ 31) : (nI n &&& 1 = 0) ↔ (nI n - nI n / 2 * 2 = 0) := by
  rw [z_and1 (by omega)]
  have e : nI n - nI n / 2 * 2 = nI (n % 2) := pk_rem h (d := 2) (by omega) (by omega)
  rw [e]
theorem lends_eq (h : SR c w S T) {j : Nat} (hj : j < c) {n : Nat} (hn : n < 2 ^ 31) : ∃ r : Int32, (r = 0 ∨ r = 1) ∧ fX5_lends S (nI j) (nI n) = some r ∧ fX8_lends T (nI j) (nI n) = some r := by
  have hc := h.c
  have a := h.arr j hj
  unfold fX5_lends fX8_lends
  rw [has_in h hj, if_neg (by decide), ix_nI (by omega) (by omega), ix_nI (by omega) (by omega), nI_clamp (by omega), a.1, a.2.2.2.2.2.1]
  by_cases h1 : md_kind T j = 1
  · simp only [if_pos h1]
    by_cases h0 : md_uses T j = 0
    · simp only [if_pos h0]; exact ⟨1, Or.inr rfl, rfl, rfl⟩
    · simp only [if_neg h0]; exact ⟨0, Or.inl rfl, rfl, rfl⟩
  · simp only [if_neg h1]
    by_cases h2 : md_kind T j = 2
    · simp only [if_pos h2]; exact ⟨1, Or.inr rfl, rfl, rfl⟩
    · simp only [if_neg h2]
      by_cases h3 : md_kind T j = 3
      · simp only [if_pos h3]
        by_cases hp : nI n &&& 1 = 0
        · rw [if_pos hp, if_pos ((z_par hn).mp hp)]; exact ⟨1, Or.inr rfl, rfl, rfl⟩
        · rw [if_neg hp, if_neg (fun q => hp ((z_par hn).mpr q))]; exact ⟨0, Or.inl rfl, rfl, rfl⟩
      · simp only [if_neg h3]
        by_cases h4 : md_kind T j = 4
        · simp only [if_pos h4]; exact ⟨0, Or.inl rfl, rfl, rfl⟩
        · simp only [if_neg h4]; exact ⟨1, Or.inr rfl, rfl, rfl⟩
theorem fee_eq (h : SR c w S T) {j : Nat} (hj : j < c) : ∃ r : Int32, fX5_fee S (nI j) = some r ∧ fX8_fee T (nI j) = some r := by
  have hc := h.c
  have a := h.arr j hj
  unfold fX5_fee fX8_fee
  rw [has_in h hj, if_neg (by decide), ix_nI (by omega) (by omega), ix_nI (by omega) (by omega), nI_clamp (by omega), a.1, a.2.1]
  by_cases h2 : md_kind T j = 2
  · simp only [if_pos h2]; exact ⟨_, rfl, rfl⟩
  · simp only [if_neg h2]
    by_cases h3 : md_kind T j = 3
    · simp only [if_pos h3]; exact ⟨_, rfl, rfl⟩
    · simp only [if_neg h3]; exact ⟨_, rfl, rfl⟩
end SRr
