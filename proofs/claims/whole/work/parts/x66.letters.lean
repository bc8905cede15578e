/-! letters: what a text says -/
def zDg (x : Int32) : Prop := ¬ x < 48 ∧ ¬ (57 : Int32) < x
def zVl (x : Int32) : Nat := x.toNatClampNeg - 48
theorem zDg_val {x : Int32} (h : zDg x) : x = nI (48 + zVl x) ∧ zVl x ≤ 9 := by
  have h1 : ¬ x.toInt < (48 : Int) := fun z => h.1 (Int32.lt_iff_toInt_lt.mpr z)
  have h2 : ¬ (57 : Int) < x.toInt := fun z => h.2 (Int32.lt_iff_toInt_lt.mpr z)
  obtain ⟨j, hj, rfl⟩ : ∃ j : Nat, (48 ≤ j ∧ j ≤ 57) ∧ x = nI j := ⟨x.toInt.toNat, by omega, Int32.toInt_inj.mp (by rw [nI_toInt (by omega)]; omega)⟩
  unfold zVl
  rw [nI_clamp (by omega)]
  exact ⟨by rw [show 48 + (j - 48) = j from by omega], by omega⟩
theorem zDg_c (x : Int32) : (zDg x ∧ fX2_isDigit x = 1 ∧ fX8_isIn x 48 57 = 1) ∨ (¬ zDg x ∧ fX2_isDigit x = 0 ∧ fX8_isIn x 48 57 = 0) := by
  unfold zDg fX2_isDigit fX8_isIn
  by_cases g : x < 48
  · rw [if_pos g]; exact Or.inr ⟨fun z => z.1 g, rfl, rfl⟩
  · rw [if_neg g]
    by_cases g2 : (57 : Int32) < x
    · rw [if_pos g2]; exact Or.inr ⟨fun z => z.2 g2, rfl, rfl⟩
    · rw [if_neg g2]; exact Or.inl ⟨⟨g, g2⟩, rfl, rfl⟩
/-- the text: behind its end there is nothing -/
def zTxt (sg : Nat → Int32) (k : Nat) : Prop := k ≤ 64 ∧ ∀ i, k ≤ i → sg i = -1
def CL (sg : Nat → Int32) (k : Nat) (S : zLt) : Prop := lt_length S = nI k ∧ ∀ i, i < k → lt_all S i = sg i
def ML (sg : Nat → Int32) (k : Nat) (T : zMd) : Prop := md_taped T = nI k ∧ ∀ i, i < k → md_tape T i = sg i
theorem toldL {sg : Nat → Int32} {k i : Nat} {S : zLt} (hx : zTxt sg k) (h : CL sg k S) (ha : lt_at S = nI i) (hi : i ≤ 1000) : fX6_toldAt_L S (lt_at S) = some (sg i) := by
  have := hx.1
  unfold fX6_toldAt_L
  rw [ha, if_neg (nI_pos (by omega)), h.1]
  by_cases q : i < k
  · rw [if_neg (nI_ge q (by omega)), ix_nI (by omega) (by omega), nI_clamp (by omega), h.2 i q]
  · rw [if_pos (nI_le (by omega) (by omega)), hx.2 i (by omega)]
theorem signM {sg : Nat → Int32} {k i : Nat} {T : zMd} (hx : zTxt sg k) (h : ML sg k T) (ha : md_reading T = nI i) (hi : i ≤ 1000) : fX8_sign T = some (sg i) := by
  have := hx.1
  unfold fX8_sign
  rw [ha, h.1]
  by_cases q : i < k
  · rw [if_neg (nI_ge q (by omega)), ix_nI (by omega) (by omega), nI_clamp (by omega), h.2 i q]
  · rw [if_pos (nI_le (by omega) (by omega)), hx.2 i (by omega)]
/-- digits: where they end, and their value -/
noncomputable def zRn (sg : Nat → Int32) : Nat → Nat → Nat → Nat × Nat
  | 0, i, a => (i, a)
  | m + 1, i, a => zIf (zDg (sg i)) (zRn sg m (i + 1) (10 * a + zVl (sg i))) (i, a)
theorem zRn_le (sg : Nat → Int32) : ∀ m i a, i ≤ (zRn sg m i a).1 ∧ (zRn sg m i a).1 ≤ i + m := by
  intro m
  induction m with
  | zero => intro i a; exact ⟨Nat.le_refl _, Nat.le_refl _⟩
  | succ m ih =>
    intro i a
    rw [zRn]
    by_cases q : zDg (sg i)
    · rw [zIf_pos q]
      have := ih (i + 1) (10 * a + zVl (sg i))
      omega
    · rw [zIf_neg q]
      exact ⟨Nat.le_refl _, by omega⟩
theorem zRn_k {sg : Nat → Int32} {k : Nat} (hx : zTxt sg k) : ∀ m i a, i ≤ k → (zRn sg m i a).1 ≤ k := by
  intro m
  induction m with
  | zero => intro i a h; exact h
  | succ m ih =>
    intro i a h
    rw [zRn]
    by_cases q : zDg (sg i)
    · rw [zIf_pos q]
      refine ih (i + 1) _ ?_
      by_cases z : i < k
      · omega
      · rw [hx.2 i (by omega)] at q
        exact absurd (show (-1 : Int32) < 48 from by decide) q.1
    · rw [zIf_neg q]; exact h
theorem zRn_v (sg : Nat → Int32) : ∀ m i a, (zRn sg m i a).2 + 1 ≤ (a + 1) * 10 ^ m := by
  intro m
  induction m with
  | zero => intro i a; rw [zRn, Nat.pow_zero, Nat.mul_one]; exact Nat.le_refl _
  | succ m ih =>
    intro i a
    rw [zRn]
    have p0 : 1 ≤ 10 ^ (m + 1) := by
      have := Nat.pow_le_pow_left (show 1 ≤ 10 from by omega) (m + 1)
      rw [Nat.one_pow] at this
      exact this
    by_cases q : zDg (sg i)
    · rw [zIf_pos q]
      have h := ih (i + 1) (10 * a + zVl (sg i))
      have hv := (zDg_val q).2
      have h2 : (10 * a + zVl (sg i) + 1) * 10 ^ m ≤ (10 * (a + 1)) * 10 ^ m := Nat.mul_le_mul_right _ (by omega)
      rw [Nat.pow_succ, Nat.mul_comm (10 ^ m) 10, ← Nat.mul_assoc, Nat.mul_comm (a + 1) 10]
      omega
    · rw [zIf_neg q]
      exact Nat.le_mul_of_pos_right _ p0
theorem zRn_99 (sg : Nat → Int32) {m : Nat} (hm : m ≤ 2) (i : Nat) : (zRn sg m i 0).2 ≤ 99 := by
  have h := zRn_v sg m i 0
  have h2 : 10 ^ m ≤ 10 ^ 2 := Nat.pow_le_pow_right (by omega) hm
  omega
theorem dig_step (a v : Nat) : (nI a * (10 : Int32) + nI (48 + v)) - 48 = nI (10 * a + v) ∧ ((10 : Int32) * nI a + nI (48 + v)) - 48 = nI (10 * a + v) := by
  have e1 : nI a * (10 : Int32) = nI (a * 10) := pk_mul a 10
  have e2 : (10 : Int32) * nI a = nI (10 * a) := pk_mul 10 a
  have e3 : ∀ b, nI (b + (48 + v)) - 48 = nI (b + v) := fun b => by
    have : nI (b + (48 + v)) - nI 48 = nI (b + (48 + v) - 48) := pk_sub (by omega)
    rw [show b + (48 + v) - 48 = b + v from by omega] at this
    exact this
  rw [e1, e2, nI_add, nI_add, e3, e3, Nat.mul_comm a 10]
  exact ⟨rfl, rfl⟩
def zNf : List Int32 → Nat
  | [] => 0
  | c :: cs => (if c = 104 ∨ c = 100 then 1 else 0) + zNf cs
def zMo (c : Int32) : Nat := if c = 104 then 2 else 1
theorem zMo_le (c : Int32) : zMo c ≤ 2 ∧ 1 ≤ zMo c := by
  unfold zMo
  split <;> omega
/-- the parts of a form: whether they are there, where they end, and the figures -/
noncomputable def zPs (sg : Nat → Int32) : List Int32 → Nat → Bool × Nat × List Nat
  | [], i => (true, i, [])
  | c :: cs, i => if c = 104 ∨ c = 100 then (if (zRn sg (zMo c) i 0).1 = i then (false, i, []) else ((zPs sg cs (zRn sg (zMo c) i 0).1).1, (zPs sg cs (zRn sg (zMo c) i 0).1).2.1, (zRn sg (zMo c) i 0).2 :: (zPs sg cs (zRn sg (zMo c) i 0).1).2.2)) else if sg i = c then zPs sg cs (i + 1) else (false, i, [])
theorem zPs_le {sg : Nat → Int32} {k : Nat} (hx : zTxt sg k) : ∀ cs i, (∀ c, c ∈ cs → c ≠ -1) → i ≤ k → (zPs sg cs i).2.1 ≤ k ∧ ((zPs sg cs i).1 = true → i + cs.length ≤ (zPs sg cs i).2.1) := by
  intro cs
  induction cs with
  | nil => intro i _ hi; exact ⟨hi, fun _ => Nat.le_refl _⟩
  | cons c cs ih =>
    intro i hc hi
    have ih' : ∀ j, j ≤ k → _ := fun j => ih j (fun d hd => hc d (List.mem_cons_of_mem _ hd))
    rw [zPs]
    by_cases q : c = 104 ∨ c = 100
    · rw [if_pos q]
      have l1 := zRn_le sg (zMo c) i 0
      have l2 := zRn_k hx (zMo c) i 0 hi
      by_cases z : (zRn sg (zMo c) i 0).1 = i
      · rw [if_pos z]
        exact ⟨hi, fun y => by cases y⟩
      · rw [if_neg z]
        have h := ih' _ l2
        refine ⟨h.1, fun y => ?_⟩
        have := h.2 y
        rw [List.length_cons]
        show i + (cs.length + 1) ≤ (zPs sg cs (zRn sg (zMo c) i 0).1).2.1
        omega
    · rw [if_neg q]
      by_cases z : sg i = c
      · rw [if_pos z]
        have hik : i < k := by
          by_cases y : i < k
          · exact y
          · exact absurd ((hx.2 i (by omega)).symm.trans z).symm (hc c List.mem_cons_self)
        have h := ih' (i + 1) hik
        refine ⟨h.1, fun y => ?_⟩
        have := h.2 y
        rw [List.length_cons]
        omega
      · rw [if_neg z]
        exact ⟨hi, fun y => by cases y⟩
theorem zPs_v (sg : Nat → Int32) : ∀ cs i q, (zPs sg cs i).2.2.getD q 0 ≤ 99 := by
  intro cs
  induction cs with
  | nil => intro i q; exact Nat.zero_le _
  | cons c cs ih =>
    intro i q
    rw [zPs]
    by_cases g : c = 104 ∨ c = 100
    · rw [if_pos g]
      by_cases z : (zRn sg (zMo c) i 0).1 = i
      · rw [if_pos z]; exact Nat.zero_le _
      · rw [if_neg z]
        cases q with
        | zero => exact zRn_99 sg (zMo_le c).1 i
        | succ q => exact ih _ q
    · rw [if_neg g]
      by_cases z : sg i = c
      · rw [if_pos z]; exact ih _ q
      · rw [if_neg z]; exact Nat.zero_le _
/-! the class reads -/
def CY (S S' : zLt) : Prop := lt_all S' = lt_all S ∧ lt_length S' = lt_length S ∧ lt_verb S' = lt_verb S ∧ lt_statements S' = lt_statements S
theorem CY.rf (S : zLt) : CY S S := ⟨rfl, rfl, rfl, rfl⟩
theorem CY.tr {A B C : zLt} (h : CY A B) (g : CY B C) : CY A C := ⟨g.1.trans h.1, g.2.1.trans h.2.1, g.2.2.1.trans h.2.2.1, g.2.2.2.trans h.2.2.2⟩
theorem CL.cy {sg : Nat → Int32} {k : Nat} {S S' : zLt} (h : CL sg k S) (a : lt_all S' = lt_all S) (b : lt_length S' = lt_length S) : CL sg k S' := ⟨b.trans h.1, fun i hi => by rw [a]; exact h.2 i hi⟩
section LC
variable {sg : Nat → Int32} {k : Nat}
theorem rf_l (hx : zTxt sg k) {M : Nat} (hM : M ≤ 2) : ∀ m i a j f (S : zLt), CL sg k S → lt_at S = nI i → i + m ≤ 900 → j + m = M → m < f →
    ∃ S', fX2_readFigure_l4 (nI M) f (nI a) (nI j) S = fX2_readFigure_j56 (nI (zRn sg m i a).2) (nI (j + ((zRn sg m i a).1 - i))) S' ∧ CY S S' ∧ lt_at S' = nI (zRn sg m i a).1 ∧ lt_figures S' = lt_figures S ∧ lt_figureCount S' = lt_figureCount S := by
  intro m
  induction m with
  | zero =>
    intro i a j f S hC ha hi hj hf
    obtain ⟨f, rfl⟩ : ∃ k', f = k' + 1 := ⟨f - 1, by omega⟩
    refine ⟨S, ?_, CY.rf S, ha, rfl, rfl⟩
    rw [fX2_readFigure_l4, if_pos (nI_le (by omega) (by omega)), zRn, Nat.sub_self, Nat.add_zero]
  | succ m ih =>
    intro i a j f S hC ha hi hj hf
    obtain ⟨f, rfl⟩ : ∃ k', f = k' + 1 := ⟨f - 1, by omega⟩
    rw [fX2_readFigure_l4, if_neg (nI_ge (by omega) (by omega)), toldL hx hC ha (by omega), zRn]
    simp only [Option.bind_some]
    rcases zDg_c (sg i) with ⟨d1, d2, -⟩ | ⟨d1, d2, -⟩
    · obtain ⟨S', s1, s2, s3, s4, s5⟩ := ih (i + 1) (10 * a + zVl (sg i)) (j + 1) f (lt_set_at S (nI (i + 1))) hC rfl (by omega) (by omega) (by omega)
      have l1 := zRn_le sg m (i + 1) (10 * a + zVl (sg i))
      have ev : (nI a * (10 : Int32) + sg i) - 48 = nI (10 * a + zVl (sg i)) := by
        have := (dig_step a (zVl (sg i))).1
        rw [← (zDg_val d1).1] at this
        exact this
      rw [d2, if_neg (show ¬ (1 : Int32) = 0 from by decide), zIf_pos d1, ha, ev, nI_1, nI_1]
      refine ⟨S', ?_, s2, s3, s4, s5⟩
      rw [s1, show j + 1 + ((zRn sg m (i + 1) (10 * a + zVl (sg i))).1 - (i + 1)) = j + ((zRn sg m (i + 1) (10 * a + zVl (sg i))).1 - i) from by omega]
    · rw [d2, if_pos (show (0 : Int32) = 0 from rfl), zIf_neg d1]
      refine ⟨S, ?_, CY.rf S, ha, rfl, rfl⟩
      rw [Nat.sub_self, Nat.add_zero]
theorem rf_eq (hx : zTxt sg k) {M m i : Nat} (hM : M ≤ 2) {S : zLt} (hC : CL sg k S) (ha : lt_at S = nI i) (hi : i ≤ 800) (hm : lt_figureCount S = nI m) (hm4 : m < 4) :
    ∃ S', fX2_readFigure S (nI M) = some (if (zRn sg M i 0).1 = i then 0 else 1, S') ∧ CY S S' ∧ lt_at S' = nI (zRn sg M i 0).1 ∧ lt_figures S' = upd (lt_figures S) m (nI (zRn sg M i 0).2) ∧ lt_figureCount S' = nI (m + 1) := by
  obtain ⟨S', s1, s2, s3, s4, s5⟩ := rf_l hx hM M i 0 0 FU S hC ha (by omega) (by omega) (FU_big _ (by omega))
  have l1 := zRn_le sg M i 0
  refine ⟨lt_set_figureCount (lt_set_figures S' (upd (lt_figures S) m (nI (zRn sg M i 0).2))) (nI (m + 1)), ?_, s2, s3, rfl, rfl⟩
  have e : fX2_readFigure S (nI M) = fX2_readFigure_j56 (nI (zRn sg M i 0).2) (nI (0 + ((zRn sg M i 0).1 - i))) S' := s1
  rw [e]
  unfold fX2_readFigure_j56
  rw [s5, hm, if_neg (show ¬ (4 : Int32) ≤ nI m from nI_ge (b := 4) hm4 (by omega)), ix_nI (by omega) (by omega), nI_clamp (by omega), nI_1, s4]
  unfold fX2_readFigure_j88
  by_cases q : (zRn sg M i 0).1 = i
  · rw [if_pos q, if_pos (show nI (0 + ((zRn sg M i 0).1 - i)) ≤ (0 : Int32) from by rw [q, Nat.sub_self]; decide)]
  · rw [if_neg q, if_neg (nI_nle (by omega) (by omega))]
theorem rp_n (hx : zTxt sg k) {c : Int32} (hc : c = 104 ∨ c = 100) {m i : Nat} {S : zLt} (hC : CL sg k S) (ha : lt_at S = nI i) (hi : i ≤ 800) (hm : lt_figureCount S = nI m) (hm4 : m < 4) :
    ∃ S', fX2_readPart S c = some (if (zRn sg (zMo c) i 0).1 = i then 0 else 1, S') ∧ CY S S' ∧ lt_at S' = nI (zRn sg (zMo c) i 0).1 ∧ lt_figures S' = upd (lt_figures S) m (nI (zRn sg (zMo c) i 0).2) ∧ lt_figureCount S' = nI (m + 1) := by
  obtain ⟨S', s1, s2⟩ := rf_eq hx (zMo_le c).1 hC ha hi hm hm4
  refine ⟨S', ?_, s2⟩
  have hb : ∀ (P : Prop) [Decidable P], ((if P then (0 : Int32) else 1) &&& 1) = (if P then (0 : Int32) else 1) := fun P _ => by
    by_cases z : P
    · rw [if_pos z]; rfl
    · rw [if_neg z]; rfl
  unfold fX2_readPart
  rcases hc with rfl | rfl
  · have s1' : fX2_readFigure S 2 = some (if (zRn sg (zMo 104) i 0).1 = i then 0 else 1, S') := s1
    rw [if_pos rfl, s1']
    rw [Option.bind_some]
    exact if_pos (hb _)
  · have s1' : fX2_readFigure S 1 = some (if (zRn sg (zMo 100) i 0).1 = i then 0 else 1, S') := s1
    rw [if_neg (show ¬ (100 : Int32) = 104 from by decide), if_pos rfl, s1']
    rw [Option.bind_some]
    exact if_pos (hb _)
theorem rp_s (hx : zTxt sg k) {c : Int32} (hc : ¬ (c = 104 ∨ c = 100)) {i : Nat} {S : zLt} (hC : CL sg k S) (ha : lt_at S = nI i) (hi : i ≤ 800) :
    fX2_readPart S c = if sg i = c then some (1, lt_set_at S (nI (i + 1))) else some (0, S) := by
  unfold fX2_readPart
  rw [if_neg (fun z => hc (Or.inl z)), if_neg (fun z => hc (Or.inr z)), toldL hx hC ha (by omega)]
  rw [Option.bind_some]
  rw [ha, nI_1]
theorem drop_c {l : List Int32} {j : Nat} {c : Int32} {cs : List Int32} (h : l.drop j = c :: cs) : j < l.length ∧ l.getD j 0 = c ∧ l.drop (j + 1) = cs := by
  have hj : j < l.length := by
    by_cases z : j < l.length
    · exact z
    · rw [List.drop_eq_nil_of_le (by omega)] at h; cases h
  rw [List.drop_eq_getElem_cons hj] at h
  injection h with h1 h2
  refine ⟨hj, ?_, h2⟩
  rw [List.getD_eq_getElem?_getD, List.getElem?_eq_getElem hj]
  exact h1
theorem zLenI_at : ∀ w, w < 5 → zLenI w = nI (zByt.getD w []).length ∧ (zByt.getD w []).length ≤ 7 := by decide +kernel
theorem zChr_at : ∀ w, w < 5 → ∀ j, j < 7 → j < (zByt.getD w []).length → zChr w (nI j) = (zByt.getD w []).getD j 0 := by decide +kernel
theorem ps_c (hx : zTxt sg k) {w : Nat} (hw : w < 5) : ∀ cs j f i m (S : zLt), (zByt.getD w []).drop j = cs → cs.length < f → j ≤ 7 → CL sg k S → lt_at S = nI i → i + 2 * cs.length ≤ 700 → lt_figureCount S = nI m → m + zNf cs ≤ 4 →
    ∃ S', fX2_readStatement_l46 w f (nI j) S = some (if (zPs sg cs i).1 = true then 1 else 0, S') ∧ CY S S' ∧ lt_at S' = nI (zPs sg cs i).2.1 ∧ ((zPs sg cs i).1 = true → (∀ q, q < m → lt_figures S' q = lt_figures S q) ∧ ∀ q, q < zNf cs → lt_figures S' (m + q) = nI ((zPs sg cs i).2.2.getD q 0)) := by
  obtain ⟨hl, hl7⟩ := zLenI_at w hw
  intro cs
  induction cs with
  | nil =>
    intro j f i m S hd hf hj hC ha hi hm hm4
    obtain ⟨f, rfl⟩ : ∃ k', f = k' + 1 := ⟨f - 1, by omega⟩
    have hle : (zByt.getD w []).length ≤ j := List.drop_eq_nil_iff.mp hd
    refine ⟨S, ?_, CY.rf S, ha, fun _ => ⟨fun q _ => rfl, fun q hq => by rw [zNf] at hq; omega⟩⟩
    rw [fX2_readStatement_l46, if_pos hw, hl, if_pos (nI_le hle (by omega))]
    rfl
  | cons c cs ih =>
    intro j f i m S hd hf hj hC ha hi hm hm4
    obtain ⟨f, rfl⟩ : ∃ k', f = k' + 1 := ⟨f - 1, by omega⟩
    obtain ⟨d1, d2, d3⟩ := drop_c hd
    rw [List.length_cons] at hf hi
    rw [zNf] at hm4
    have hgo : fX2_readStatement_l46 w (f + 1) (nI j) S = (fX2_readPart S c).bind fun u5 => if u5.1 = 0 then some (0, u5.2) else fX2_readStatement_l46 w f (nI (j + 1)) u5.2 := by
      rw [fX2_readStatement_l46, if_pos hw, hl, if_neg (nI_ge d1 (by omega)), if_pos hw, if_neg (show ¬ (nI j < 0 ∨ nI (zByt.getD w []).length ≤ nI j) from fun z => z.elim (nI_pos (by omega)) (nI_ge d1 (by omega))), zChr_at w hw j (by omega) d1, d2, nI_1]
    rw [hgo]
    by_cases q : c = 104 ∨ c = 100
    · rw [if_pos q] at hm4
      obtain ⟨S1, s1, s2, s3, s4, s5⟩ := rp_n hx q hC ha (by omega) hm (by omega)
      have l1 := zRn_le sg (zMo c) i 0
      have l2 := (zMo_le c).1
      rw [s1]
      rw [Option.bind_some]
      rw [zPs, if_pos q]
      by_cases z : (zRn sg (zMo c) i 0).1 = i
      · rw [if_pos z, if_pos z]
        refine ⟨S1, ?_, s2, ?_, fun y => by cases y⟩
        · rw [if_pos (show (0 : Int32) = 0 from rfl)]; rfl
        · rw [s3, z]
      · rw [if_neg z, if_neg z, if_neg (show ¬ (1 : Int32) = 0 from by decide)]
        obtain ⟨S', t1, t2, t3, t4⟩ := ih (j + 1) f (zRn sg (zMo c) i 0).1 (m + 1) S1 d3 (by omega) (by omega) (hC.cy s2.1 s2.2.1) s3 (by omega) s5 (by omega)
        refine ⟨S', t1, s2.tr t2, t3, fun y => ?_⟩
        obtain ⟨u1, u2⟩ := t4 y
        refine ⟨fun r hr => ?_, fun r hr => ?_⟩
        · rw [u1 r (by omega), s4, upd_at, if_neg (by omega)]
        · cases r with
          | zero =>
            rw [Nat.add_zero, u1 m (by omega), s4, upd_at, if_pos rfl]
            rfl
          | succ r =>
            rw [zNf, if_pos q] at hr
            rw [show m + (r + 1) = m + 1 + r from by omega, u2 r (by omega)]
            rfl
    · rw [if_neg q] at hm4
      rw [rp_s hx q hC ha (by omega), zPs, if_neg q]
      by_cases z : sg i = c
      · rw [if_pos z, if_pos z]
        rw [Option.bind_some]
        rw [if_neg (show ¬ (1 : Int32) = 0 from by decide)]
        obtain ⟨S', t1, t2, t3, t4⟩ := ih (j + 1) f (i + 1) m (lt_set_at S (nI (i + 1))) d3 (by omega) (by omega) hC rfl (by omega) hm (by omega)
        refine ⟨S', t1, t2, t3, fun y => ?_⟩
        obtain ⟨u1, u2⟩ := t4 y
        refine ⟨u1, fun r hr => u2 r ?_⟩
        rw [zNf, if_neg q] at hr
        omega
      · rw [if_neg z, if_neg z]
        rw [Option.bind_some]
        rw [if_pos (show (0 : Int32) = 0 from rfl)]
        exact ⟨S, rfl, CY.rf S, ha, fun y => by cases y⟩
end LC
/-- a statement from a place on -/
noncomputable def zSs (sg : Nat → Int32) (i : Nat) : Bool × Nat × List Nat := if fX2_formOf (sg i) = 4 then (false, i, []) else zPs sg (zByt.getD (fX2_formOf (sg i)) []) (i + 1)
theorem formOf_cs (c : Int32) : (c = 97 ∧ fX2_formOf c = 0) ∨ (c = 98 ∧ fX2_formOf c = 1) ∨ (c = 108 ∧ fX2_formOf c = 2) ∨ (c = 110 ∧ fX2_formOf c = 3) ∨ ((¬ c = 97 ∧ ¬ c = 98 ∧ ¬ c = 108 ∧ ¬ c = 110) ∧ fX2_formOf c = 4) := by
  unfold fX2_formOf
  by_cases h1 : c = 97
  · rw [if_pos h1]; exact Or.inl ⟨h1, rfl⟩
  · rw [if_neg h1]
    by_cases h2 : c = 98
    · rw [if_pos h2]; exact Or.inr (Or.inl ⟨h2, rfl⟩)
    · rw [if_neg h2]
      by_cases h3 : c = 108
      · rw [if_pos h3]; exact Or.inr (Or.inr (Or.inl ⟨h3, rfl⟩))
      · rw [if_neg h3]
        by_cases h4 : c = 110
        · rw [if_pos h4]; exact Or.inr (Or.inr (Or.inr (Or.inl ⟨h4, rfl⟩)))
        · rw [if_neg h4]; exact Or.inr (Or.inr (Or.inr (Or.inr ⟨⟨h1, h2, h3, h4⟩, rfl⟩)))
theorem formOf_lt (c : Int32) : fX2_formOf c < 5 := by
  rcases formOf_cs c with ⟨-, h⟩ | ⟨-, h⟩ | ⟨-, h⟩ | ⟨-, h⟩ | ⟨-, h⟩ <;> rw [h] <;> omega
theorem zIsE_at : ∀ w, w < 5 → (w = 4 → zIsE w = 1) ∧ (w ≠ 4 → zIsE w = 0) := by decide +kernel
theorem zByt_nf : ∀ w, w < 5 → zNf (zByt.getD w []) ≤ 4 ∧ (zByt.getD w []).length ≤ 7 ∧ (w ≠ 4 → 1 ≤ (zByt.getD w []).length) := by decide +kernel
theorem zByt_m1 : ∀ w, w < 5 → ∀ c, c ∈ zByt.getD w [] → c ≠ -1 := by decide +kernel
theorem zSs_le {sg : Nat → Int32} {k i : Nat} (hx : zTxt sg k) (hi : i ≤ k) : (zSs sg i).2.1 ≤ k ∧ ((zSs sg i).1 = true → i + 2 ≤ (zSs sg i).2.1) := by
  unfold zSs
  by_cases q : fX2_formOf (sg i) = 4
  · rw [if_pos q]
    exact ⟨hi, fun y => by cases y⟩
  · rw [if_neg q]
    have hik : i < k := by
      by_cases y : i < k
      · exact y
      · exfalso
        rw [hx.2 i (by omega)] at q
        exact q (by decide)
    have h := zPs_le hx (zByt.getD (fX2_formOf (sg i)) []) (i + 1) (zByt_m1 _ (formOf_lt _)) hik
    refine ⟨h.1, fun y => ?_⟩
    have := h.2 y
    have := (zByt_nf _ (formOf_lt (sg i))).2.2 q
    omega
theorem zSs_v (sg : Nat → Int32) (i q : Nat) : (zSs sg i).2.2.getD q 0 ≤ 99 := by
  unfold zSs
  by_cases z : fX2_formOf (sg i) = 4
  · rw [if_pos z]; exact Nat.zero_le _
  · rw [if_neg z]; exact zPs_v sg _ _ q
theorem rs_c {sg : Nat → Int32} {k i : Nat} {S : zLt} (hx : zTxt sg k) (hC : CL sg k S) (ha : lt_at S = nI i) (hi : i ≤ 600) :
    ∃ S', fX2_readStatement S = some (if (zSs sg i).1 = true then 1 else 0, S') ∧ (lt_all S' = lt_all S ∧ lt_length S' = lt_length S ∧ lt_statements S' = lt_statements S) ∧ lt_at S' = nI (zSs sg i).2.1 ∧ ((zSs sg i).1 = true → lt_verb S' = sg i ∧ ∀ q, q < zNf (zByt.getD (fX2_formOf (sg i)) []) → lt_figures S' q = nI ((zSs sg i).2.2.getD q 0)) := by
  have hw := formOf_lt (sg i)
  obtain ⟨n1, n2, n3⟩ := zByt_nf _ hw
  unfold fX2_readStatement zSs
  rw [toldL hx hC ha (by omega)]
  rw [Option.bind_some]
  rw [if_pos hw]
  by_cases q : fX2_formOf (sg i) = 4
  · rw [(zIsE_at _ hw).1 q, if_neg (show ¬ (1 : Int32) = 0 from by decide), if_pos q]
    exact ⟨lt_set_figureCount (lt_set_verb S (sg i)) 0, rfl, ⟨rfl, rfl, rfl⟩, ha, fun y => by cases y⟩
  · rw [(zIsE_at _ hw).2 q, if_pos (show (0 : Int32) = 0 from rfl), if_neg q, ha, nI_1]
    obtain ⟨S', t1, t2, t3, t4⟩ := ps_c hx hw (zByt.getD (fX2_formOf (sg i)) []) 0 FU (i + 1) 0 (lt_set_figureCount (lt_set_verb (lt_set_at S (nI (i + 1))) (sg i)) 0) List.drop_zero (FU_big _ (by omega)) (by omega) hC rfl (by omega) rfl (by omega)
    refine ⟨S', t1, ⟨t2.1, t2.2.1, t2.2.2.2⟩, t3, fun y => ⟨t2.2.2.1, fun r hr => ?_⟩⟩
    have := (t4 y).2 r hr
    rw [Nat.zero_add] at this
    exact this
/-! the reference reads -/
def TZ (T T' : zMd) : Prop := (md_number T' = md_number T ∧ md_kind T' = md_kind T ∧ md_figure T' = md_figure T ∧ md_one T' = md_one T ∧ md_other T' = md_other T ∧ md_stands T' = md_stands T ∧ md_uses T' = md_uses T ∧ md_earned T' = md_earned T ∧ md_houses T' = md_houses T ∧ md_sums T' = md_sums T ∧ md_falls T' = md_falls T) ∧ md_kept T' = md_kept T ∧ md_hasImage T' = md_hasImage T ∧ (md_taped T' = md_taped T ∧ md_tape T' = md_tape T ∧ md_rowMany T' = md_rowMany T ∧ md_row T' = md_row T ∧ md_refused T' = md_refused T)
theorem TZ.rf (T : zMd) : TZ T T := ⟨⟨rfl, rfl, rfl, rfl, rfl, rfl, rfl, rfl, rfl, rfl, rfl⟩, rfl, rfl, ⟨rfl, rfl, rfl, rfl, rfl⟩⟩
theorem TZ.tr {A B C : zMd} (h : TZ A B) (g : TZ B C) : TZ A C := by
  obtain ⟨⟨a1, a2, a3, a4, a5, a6, a7, a8, a9, a10, a11⟩, a12, a13, ⟨a14, a15, a16, a17, a18⟩⟩ := h
  obtain ⟨⟨b1, b2, b3, b4, b5, b6, b7, b8, b9, b10, b11⟩, b12, b13, ⟨b14, b15, b16, b17, b18⟩⟩ := g
  exact ⟨⟨b1.trans a1, b2.trans a2, b3.trans a3, b4.trans a4, b5.trans a5, b6.trans a6, b7.trans a7, b8.trans a8, b9.trans a9, b10.trans a10, b11.trans a11⟩, b12.trans a12, b13.trans a13, ⟨b14.trans a14, b15.trans a15, b16.trans a16, b17.trans a17, b18.trans a18⟩⟩
theorem TZ.reading (T : zMd) (x : Int32) : TZ T (md_set_reading T x) := ⟨⟨rfl, rfl, rfl, rfl, rfl, rfl, rfl, rfl, rfl, rfl, rfl⟩, rfl, rfl, ⟨rfl, rfl, rfl, rfl, rfl⟩⟩
theorem TZ.told (T : zMd) (x : Nat → Int32) : TZ T (md_set_told T x) := ⟨⟨rfl, rfl, rfl, rfl, rfl, rfl, rfl, rfl, rfl, rfl, rfl⟩, rfl, rfl, ⟨rfl, rfl, rfl, rfl, rfl⟩⟩
theorem TZ.telling (T : zMd) (x : Int32) : TZ T (md_set_telling T x) := ⟨⟨rfl, rfl, rfl, rfl, rfl, rfl, rfl, rfl, rfl, rfl, rfl⟩, rfl, rfl, ⟨rfl, rfl, rfl, rfl, rfl⟩⟩
theorem TZ.sort (T : zMd) (x : Nat → Int32) : TZ T (md_set_sort T x) := ⟨⟨rfl, rfl, rfl, rfl, rfl, rfl, rfl, rfl, rfl, rfl, rfl⟩, rfl, rfl, ⟨rfl, rfl, rfl, rfl, rfl⟩⟩
theorem TZ.sortAt (T : zMd) (x : Nat → Int32) : TZ T (md_set_sortAt T x) := ⟨⟨rfl, rfl, rfl, rfl, rfl, rfl, rfl, rfl, rfl, rfl, rfl⟩, rfl, rfl, ⟨rfl, rfl, rfl, rfl, rfl⟩⟩
theorem TZ.statements (T : zMd) (x : Int32) : TZ T (md_set_statements T x) := ⟨⟨rfl, rfl, rfl, rfl, rfl, rfl, rfl, rfl, rfl, rfl, rfl⟩, rfl, rfl, ⟨rfl, rfl, rfl, rfl, rfl⟩⟩
/-- the tables of what was read -/
def TB (T T' : zMd) : Prop := md_sort T' = md_sort T ∧ md_sortAt T' = md_sortAt T ∧ md_statements T' = md_statements T
theorem TB.tr {A B C : zMd} (h : TB A B) (g : TB B C) : TB A C := ⟨g.1.trans h.1, g.2.1.trans h.2.1, g.2.2.trans h.2.2⟩
theorem ML.tz {sg : Nat → Int32} {k : Nat} {T T' : zMd} (h : ML sg k T) (z : TZ T T') : ML sg k T' := ⟨z.2.2.2.1.trans h.1, fun i hi => by rw [z.2.2.2.2.1]; exact h.2 i hi⟩
section LM
variable {sg : Nat → Int32} {k : Nat}
theorem rn_l (hx : zTxt sg k) {M : Nat} (hM : M ≤ 2) : ∀ m i a j f (T : zMd), ML sg k T → md_reading T = nI i → i + m ≤ 900 → j + m = M → m < f →
    ∃ T', fX8_readsNumber_l4 (nI M) f (nI a) (nI j) T = fX8_readsNumber_j52 (nI (zRn sg m i a).2) (nI (j + ((zRn sg m i a).1 - i))) T' ∧ TZ T T' ∧ TB T T' ∧ md_reading T' = nI (zRn sg m i a).1 ∧ md_told T' = md_told T ∧ md_telling T' = md_telling T := by
  intro m
  induction m with
  | zero =>
    intro i a j f T hC ha hi hj hf
    obtain ⟨f, rfl⟩ : ∃ k', f = k' + 1 := ⟨f - 1, by omega⟩
    refine ⟨T, ?_, TZ.rf T, ⟨rfl, rfl, rfl⟩, ha, rfl, rfl⟩
    rw [fX8_readsNumber_l4, if_pos (nI_le (by omega) (by omega)), zRn, Nat.sub_self, Nat.add_zero]
  | succ m ih =>
    intro i a j f T hC ha hi hj hf
    obtain ⟨f, rfl⟩ : ∃ k', f = k' + 1 := ⟨f - 1, by omega⟩
    rw [fX8_readsNumber_l4, if_neg (nI_ge (by omega) (by omega)), signM hx hC ha (by omega), zRn]
    simp only [Option.bind_some]
    rcases zDg_c (sg i) with ⟨d1, -, d2⟩ | ⟨d1, -, d2⟩
    · obtain ⟨T', s1, s2, s3, s4, s5, s6⟩ := ih (i + 1) (10 * a + zVl (sg i)) (j + 1) f (md_set_reading T (nI (i + 1))) (hC.tz (TZ.reading T _)) rfl (by omega) (by omega) (by omega)
      have l1 := zRn_le sg m (i + 1) (10 * a + zVl (sg i))
      have ev : ((10 : Int32) * nI a + sg i) - 48 = nI (10 * a + zVl (sg i)) := by
        have := (dig_step a (zVl (sg i))).2
        rw [← (zDg_val d1).1] at this
        exact this
      rw [d2, if_neg (show ¬ (1 : Int32) = 0 from by decide), zIf_pos d1, ha, ev, nI_1, nI_1]
      refine ⟨T', ?_, (TZ.reading T _).tr s2, TB.tr ⟨rfl, rfl, rfl⟩ s3, s4, s5, s6⟩
      rw [s1, show j + 1 + ((zRn sg m (i + 1) (10 * a + zVl (sg i))).1 - (i + 1)) = j + ((zRn sg m (i + 1) (10 * a + zVl (sg i))).1 - i) from by omega]
    · rw [d2, if_pos (show (0 : Int32) = 0 from rfl), zIf_neg d1]
      refine ⟨T, ?_, TZ.rf T, ⟨rfl, rfl, rfl⟩, ha, rfl, rfl⟩
      rw [Nat.sub_self, Nat.add_zero]
theorem rn_eq (hx : zTxt sg k) {M i tl : Nat} (hM : M ≤ 2) {T : zMd} (hC : ML sg k T) (ha : md_reading T = nI i) (hi : i ≤ 800) (ht : md_telling T = nI tl) (ht2 : tl < 132) :
    ∃ T', fX8_readsNumber T (nI M) = some (if (zRn sg M i 0).1 = i then 0 else 1, T') ∧ TZ T T' ∧ TB T T' ∧ md_reading T' = nI (zRn sg M i 0).1 ∧ md_told T' = upd (md_told T) tl (nI (zRn sg M i 0).2) ∧ md_telling T' = nI (tl + 1) := by
  obtain ⟨T', s1, s2, s3, s4, s5, s6⟩ := rn_l hx hM M i 0 0 FU T hC ha (by omega) (by omega) (FU_big _ (by omega))
  have l1 := zRn_le sg M i 0
  obtain ⟨T1, e1⟩ : ∃ T1, T1 = md_set_told T' (upd (md_told T) tl (nI (zRn sg M i 0).2)) := ⟨_, rfl⟩
  obtain ⟨T2, e2⟩ : ∃ T2, T2 = md_set_telling T1 (nI (tl + 1)) := ⟨_, rfl⟩
  have z1 : TZ T' T1 := by rw [e1]; exact TZ.told _ _
  have z2 : TZ T1 T2 := by rw [e2]; exact TZ.telling _ _
  have b1 : TB T' T1 := by rw [e1]; exact ⟨rfl, rfl, rfl⟩
  have b2 : TB T1 T2 := by rw [e2]; exact ⟨rfl, rfl, rfl⟩
  have r1 : md_reading T1 = md_reading T' := by rw [e1]; rfl
  have r2 : md_reading T2 = md_reading T1 := by rw [e2]; rfl
  have u1 : md_told T1 = upd (md_told T) tl (nI (zRn sg M i 0).2) := by rw [e1]; rfl
  have u2 : md_told T2 = md_told T1 := by rw [e2]; rfl
  have v2 : md_telling T2 = nI (tl + 1) := by rw [e2]; rfl
  refine ⟨T2, ?_, s2.tr (z1.tr z2), s3.tr (b1.tr b2), r2.trans (r1.trans s4), u2.trans u1, v2⟩
  have e : fX8_readsNumber T (nI M) = fX8_readsNumber_j52 (nI (zRn sg M i 0).2) (nI (0 + ((zRn sg M i 0).1 - i))) T' := s1
  rw [e]
  unfold fX8_readsNumber_j52
  rw [s6, ht, ix_nI (by omega) (by omega), nI_clamp (by omega), nI_1, s5, ← e1, ← e2]
  by_cases q : (zRn sg M i 0).1 = i
  · rw [if_pos q, if_pos (show nI (0 + ((zRn sg M i 0).1 - i)) ≤ (0 : Int32) from by rw [q, Nat.sub_self]; decide)]
  · rw [if_neg q, if_neg (nI_nle (by omega) (by omega))]
theorem rd_eq (hx : zTxt sg k) {i : Nat} {T : zMd} (hC : ML sg k T) (ha : md_reading T = nI i) (hi : i ≤ 800) (c : Int32) : fX8_reads T c = if sg i = c then some (1, md_set_reading T (nI (i + 1))) else some (0, T) := by
  unfold fX8_reads
  rw [signM hx hC ha (by omega)]
  rw [Option.bind_some]
  rw [ha, nI_1]
def fRp : List Int32 → zMd → Option (Int32 × zMd)
  | [], T => some (1, T)
  | c :: cs, T => (if c = 104 then fX8_readsNumber T 2 else if c = 100 then fX8_readsNumber T 1 else fX8_reads T c).bind fun u => if u.1 = 0 then some (0, u.2) else fRp cs u.2
theorem ps_m (hx : zTxt sg k) : ∀ cs i tl (T : zMd), ML sg k T → md_reading T = nI i → i + 2 * cs.length ≤ 700 → md_telling T = nI tl → tl + zNf cs ≤ 132 →
    ∃ T', fRp cs T = some (if (zPs sg cs i).1 = true then 1 else 0, T') ∧ TZ T T' ∧ TB T T' ∧ md_reading T' = nI (zPs sg cs i).2.1 ∧ ((zPs sg cs i).1 = true → (∀ q, q < tl → md_told T' q = md_told T q) ∧ ∀ q, q < zNf cs → md_told T' (tl + q) = nI ((zPs sg cs i).2.2.getD q 0)) := by
  intro cs
  induction cs with
  | nil =>
    intro i tl T hC ha hi ht ht2
    exact ⟨T, rfl, TZ.rf T, ⟨rfl, rfl, rfl⟩, ha, fun _ => ⟨fun q _ => rfl, fun q hq => by rw [zNf] at hq; omega⟩⟩
  | cons c cs ih =>
    intro i tl T hC ha hi ht ht2
    rw [List.length_cons] at hi
    rw [zNf] at ht2
    rw [fRp, zPs]
    by_cases q : c = 104 ∨ c = 100
    · rw [if_pos q] at ht2
      rw [if_pos q]
      obtain ⟨T1, s1, s2, s3, s4, s5, s6⟩ := rn_eq hx (zMo_le c).1 hC ha (by omega) ht (by omega)
      have l1 := zRn_le sg (zMo c) i 0
      have l2 := (zMo_le c).1
      have e1 : (if c = 104 then fX8_readsNumber T 2 else if c = 100 then fX8_readsNumber T 1 else fX8_reads T c) = some (if (zRn sg (zMo c) i 0).1 = i then 0 else 1, T1) := by
        rcases q with rfl | rfl
        · rw [if_pos rfl]; exact s1
        · rw [if_neg (show ¬ (100 : Int32) = 104 from by decide), if_pos rfl]; exact s1
      rw [e1]
      rw [Option.bind_some]
      by_cases z : (zRn sg (zMo c) i 0).1 = i
      · rw [if_pos z, if_pos z]
        refine ⟨T1, ?_, s2, s3, ?_, fun y => by cases y⟩
        · rw [if_pos (show (0 : Int32) = 0 from rfl)]; rfl
        · rw [s4, z]
      · rw [if_neg z, if_neg z, if_neg (show ¬ (1 : Int32) = 0 from by decide)]
        obtain ⟨T', t1, t2, t3, t4, t5⟩ := ih (zRn sg (zMo c) i 0).1 (tl + 1) T1 (hC.tz s2) s4 (by omega) s6 (by omega)
        refine ⟨T', t1, s2.tr t2, s3.tr t3, t4, fun y => ?_⟩
        obtain ⟨u1, u2⟩ := t5 y
        refine ⟨fun r hr => ?_, fun r hr => ?_⟩
        · rw [u1 r (by omega), s5, upd_at, if_neg (by omega)]
        · cases r with
          | zero =>
            rw [Nat.add_zero, u1 tl (by omega), s5, upd_at, if_pos rfl]
            rfl
          | succ r =>
            rw [zNf, if_pos q] at hr
            rw [show tl + (r + 1) = tl + 1 + r from by omega, u2 r (by omega)]
            rfl
    · rw [if_neg q] at ht2
      rw [if_neg q, if_neg (fun z => q (Or.inl z)), if_neg (fun z => q (Or.inr z)), rd_eq hx hC ha (by omega)]
      by_cases z : sg i = c
      · rw [if_pos z, if_pos z]
        rw [Option.bind_some]
        rw [if_neg (show ¬ (1 : Int32) = 0 from by decide)]
        obtain ⟨T', t1, t2, t3, t4, t5⟩ := ih (i + 1) tl (md_set_reading T (nI (i + 1))) (hC.tz (TZ.reading T _)) rfl (by omega) ht (by omega)
        refine ⟨T', t1, (TZ.reading T _).tr t2, TB.tr ⟨rfl, rfl, rfl⟩ t3, t4, fun y => ?_⟩
        obtain ⟨u1, u2⟩ := t5 y
        refine ⟨u1, fun r hr => u2 r ?_⟩
        rw [zNf, if_neg q] at hr
        omega
      · rw [if_neg z, if_neg z]
        rw [Option.bind_some]
        rw [if_pos (show (0 : Int32) = 0 from rfl)]
        exact ⟨T, rfl, TZ.rf T, ⟨rfl, rfl, rfl⟩, ha, fun y => by cases y⟩
/-! the reference's own order of reading is the form's -/
theorem ob_seq {X : Option (Int32 × zMd)} {K : Int32 × zMd → Option (Int32 × zMd)} {H : zMd → Option (Int32 × zMd)} : (X.bind fun u => if u.1 = 0 then some (0, u.2) else K u).bind (fun v => if v.1 = 0 then some (0, v.2) else H v.2) = X.bind fun u => if u.1 = 0 then some (0, u.2) else (K u).bind (fun v => if v.1 = 0 then some (0, v.2) else H v.2) := by
  cases X with
  | none => rfl
  | some u =>
    rw [Option.bind_some, Option.bind_some]
    by_cases h : u.1 = 0
    · rw [if_pos h, if_pos h]
      rw [Option.bind_some]
      exact if_pos rfl
    · rw [if_neg h, if_neg h]
theorem ob_one {T : zMd} {H : zMd → Option (Int32 × zMd)} : (some ((1 : Int32), T)).bind (fun v => if v.1 = 0 then some (0, v.2) else H v.2) = H T := by
  rw [Option.bind_some]
  exact if_neg (show ¬ (1 : Int32) = 0 from by decide)
def fEnd (T : zMd) : Option (Int32 × zMd) := (fX8_reads T 59).bind fun u4 => if u4.1 = 0 then some (0, u4.2) else some (1, u4.2)
theorem rp_end (T : zMd) : fRp [59] T = fEnd T := by
  rw [fRp, if_neg (show ¬ (59 : Int32) = 104 from by decide), if_neg (show ¬ (59 : Int32) = 100 from by decide)]
  rfl
theorem rp_104 (cs : List Int32) (T : zMd) : fRp (104 :: cs) T = (fX8_readsNumber T 2).bind fun u => if u.1 = 0 then some (0, u.2) else fRp cs u.2 := by
  rw [fRp, if_pos rfl]
theorem rp_100 (cs : List Int32) (T : zMd) : fRp (100 :: cs) T = (fX8_readsNumber T 1).bind fun u => if u.1 = 0 then some (0, u.2) else fRp cs u.2 := by
  rw [fRp, if_neg (show ¬ (100 : Int32) = 104 from by decide), if_pos rfl]
theorem rp_44 (cs : List Int32) (T : zMd) : fRp (44 :: cs) T = (fX8_reads T 44).bind fun u => if u.1 = 0 then some (0, u.2) else fRp cs u.2 := by
  rw [fRp, if_neg (show ¬ (44 : Int32) = 104 from by decide), if_neg (show ¬ (44 : Int32) = 100 from by decide)]
theorem all_a (T : zMd) : ((fX8_readsAll T 97).bind fun u2 => if u2.1 = 0 then some (0, u2.2) else fEnd u2.2) = fRp [104, 44, 104, 44, 100, 100, 59] T := by
  unfold fX8_readsAll
  rw [if_pos rfl, ob_seq, rp_104]
  congr 1; funext u1
  congr 1
  rw [ob_seq, rp_44]
  congr 1; funext u2
  congr 1
  rw [ob_seq, rp_104]
  congr 1; funext u3
  congr 1
  rw [ob_seq, rp_44]
  congr 1; funext u4
  congr 1
  rw [ob_seq, rp_100]
  congr 1; funext u5
  congr 1
  rw [ob_seq, rp_100]
  congr 1
theorem all_l (T : zMd) : ((fX8_readsAll T 108).bind fun u2 => if u2.1 = 0 then some (0, u2.2) else fEnd u2.2) = fRp [100, 100, 59] T := by
  unfold fX8_readsAll
  rw [if_neg (show ¬ (108 : Int32) = 97 from by decide), if_neg (show ¬ (108 : Int32) = 98 from by decide), if_pos rfl, ob_seq, rp_100]
  congr 1; funext u1
  congr 1
  rw [ob_seq, rp_100]
  congr 1
theorem all_n (T : zMd) : ((fX8_readsAll T 110).bind fun u2 => if u2.1 = 0 then some (0, u2.2) else fEnd u2.2) = fRp [59] T := by
  unfold fX8_readsAll
  rw [if_neg (show ¬ (110 : Int32) = 97 from by decide), if_neg (show ¬ (110 : Int32) = 98 from by decide), if_neg (show ¬ (110 : Int32) = 108 from by decide), ob_one, rp_end]
theorem all_b {T : zMd} {u : Int32 × zMd} (h : fX8_readsNumber T 2 = some u) (h1 : u.1 = 0 ∨ u.1 = 1) : ((fX8_readsAll T 98).bind fun u2 => if u2.1 = 0 then some (0, u2.2) else fEnd u2.2) = fRp [104, 59] T := by
  unfold fX8_readsAll
  rw [if_neg (show ¬ (98 : Int32) = 97 from by decide), if_pos rfl, rp_104, h]
  repeat rw [Option.bind_some]
  have hb : u.1 &&& 1 = u.1 := by rcases h1 with z | z <;> rw [z] <;> rfl
  rw [if_pos hb]
  rw [Option.bind_some]
  rw [rp_end]
theorem rs_m (hx : zTxt sg k) {i s : Nat} {T : zMd} (hC : ML sg k T) (ha : md_reading T = nI i) (hi : i ≤ 600) (hs : md_statements T = nI s) (hs2 : s ≤ 32) :
    ∃ T', fX8_statement T = some (if (zSs sg i).1 = true then 1 else 0, T') ∧ TZ T T' ∧ md_statements T' = nI s ∧ md_reading T' = nI (zSs sg i).2.1 ∧ ((zSs sg i).1 = true → md_sort T' = upd (md_sort T) s (sg i) ∧ md_sortAt T' = upd (md_sortAt T) s (nI i) ∧ (∀ q, q < 4 * s → md_told T' q = md_told T q) ∧ ∀ q, q < zNf (zByt.getD (fX2_formOf (sg i)) []) → md_told T' (4 * s + q) = nI ((zSs sg i).2.2.getD q 0)) := by
  have e4 : (4 : Int32) * nI s = nI (4 * s) := pk_mul 4 s
  obtain ⟨Ta, ea⟩ : ∃ Ta, Ta = md_set_sort T (upd (md_sort T) s (sg i)) := ⟨_, rfl⟩
  obtain ⟨Tb, eb⟩ : ∃ Tb, Tb = md_set_sortAt Ta (upd (md_sortAt T) s (nI i)) := ⟨_, rfl⟩
  obtain ⟨Tc, ec⟩ : ∃ Tc, Tc = md_set_telling Tb (nI (4 * s)) := ⟨_, rfl⟩
  obtain ⟨Td, ed⟩ : ∃ Td, Td = md_set_reading Tc (nI (i + 1)) := ⟨_, rfl⟩
  have za : TZ T Ta := by rw [ea]; exact TZ.sort _ _
  have zb : TZ Ta Tb := by rw [eb]; exact TZ.sortAt _ _
  have zc : TZ Tb Tc := by rw [ec]; exact TZ.telling _ _
  have zd : TZ Tc Td := by rw [ed]; exact TZ.reading _ _
  have z : TZ T Td := za.tr (zb.tr (zc.tr zd))
  have sa : md_sort Ta = upd (md_sort T) s (sg i) := by rw [ea]; rfl
  have sb : md_sort Tb = md_sort Ta := by rw [eb]; rfl
  have sc : md_sort Tc = md_sort Tb := by rw [ec]; rfl
  have sd : md_sort Td = md_sort Tc := by rw [ed]; rfl
  have pb : md_sortAt Tb = upd (md_sortAt T) s (nI i) := by rw [eb]; rfl
  have pc : md_sortAt Tc = md_sortAt Tb := by rw [ec]; rfl
  have pd : md_sortAt Td = md_sortAt Tc := by rw [ed]; rfl
  have ta : md_told Ta = md_told T := by rw [ea]; rfl
  have tb : md_told Tb = md_told Ta := by rw [eb]; rfl
  have tc : md_told Tc = md_told Tb := by rw [ec]; rfl
  have td : md_told Td = md_told Tc := by rw [ed]; rfl
  have na : md_statements Ta = md_statements T := by rw [ea]; rfl
  have nb : md_statements Tb = md_statements Ta := by rw [eb]; rfl
  have nc : md_statements Tc = md_statements Tb := by rw [ec]; rfl
  have nd : md_statements Td = md_statements Tc := by rw [ed]; rfl
  have tl : md_telling Tc = nI (4 * s) := by rw [ec]; rfl
  have tld : md_telling Td = md_telling Tc := by rw [ed]; rfl
  have rd : md_reading Td = nI (i + 1) := by rw [ed]; rfl
  have ej : ∀ b, sg i = b → fX8_statement_j31 b T = (fX8_readsAll Td b).bind fun u2 => if u2.1 = 0 then some (0, u2.2) else fEnd u2.2 := fun b hb => by
    unfold fX8_statement_j31
    rw [hs, ix_nI (by omega) (by omega), nI_clamp (by omega), ha, e4, nI_1, ← hb, ← ea, ← eb, ← ec, ← ed]
    rfl
  have fin : ∀ w, fX2_formOf (sg i) = w → w ≠ 4 → fX8_statement T = fRp (zByt.getD w []) Td → ∃ T', fX8_statement T = some (if (zSs sg i).1 = true then 1 else 0, T') ∧ TZ T T' ∧ md_statements T' = nI s ∧ md_reading T' = nI (zSs sg i).2.1 ∧ ((zSs sg i).1 = true → md_sort T' = upd (md_sort T) s (sg i) ∧ md_sortAt T' = upd (md_sortAt T) s (nI i) ∧ (∀ q, q < 4 * s → md_told T' q = md_told T q) ∧ ∀ q, q < zNf (zByt.getD (fX2_formOf (sg i)) []) → md_told T' (4 * s + q) = nI ((zSs sg i).2.2.getD q 0)) := by
    intro w hw h4 he
    have hw5 := formOf_lt (sg i)
    rw [hw] at hw5
    obtain ⟨n1, n2, -⟩ := zByt_nf w hw5
    have ess : zSs sg i = zPs sg (zByt.getD w []) (i + 1) := by
      unfold zSs
      rw [hw, if_neg h4]
    obtain ⟨T', t1, t2, t3, t4, t5⟩ := ps_m hx (zByt.getD w []) (i + 1) (4 * s) Td (hC.tz z) rd (by omega) (tld.trans tl) (by omega)
    rw [he, ess, hw]
    refine ⟨T', t1, z.tr t2, ?_, t4, fun y => ⟨?_, ?_, ?_, (t5 y).2⟩⟩
    · rw [t3.2.2, nd, nc, nb, na, hs]
    · rw [t3.1, sd, sc, sb, sa]
    · rw [t3.2.1, pd, pc, pb]
    · intro q hq
      rw [(t5 y).1 q hq, td, tc, tb, ta]
  have est : fX8_statement T = (some (sg i)).bind fun u6 => if u6 = 97 then fX8_statement_j31 u6 T else if u6 = 98 then fX8_statement_j31 u6 T else if u6 = 108 then fX8_statement_j31 u6 T else if u6 = 110 then fX8_statement_j31 u6 T else some (0, T) := by
    rw [← signM hx hC ha (by omega)]
    rfl
  rw [Option.bind_some] at est
  rcases formOf_cs (sg i) with ⟨hc, hf⟩ | ⟨hc, hf⟩ | ⟨hc, hf⟩ | ⟨hc, hf⟩ | ⟨hc, hf⟩
  · refine fin 0 hf (by decide) ?_
    rw [est, if_pos hc, ej _ rfl, hc, all_a]
    rfl
  · refine fin 1 hf (by decide) ?_
    rw [est, if_neg (by rw [hc]; decide), if_pos hc, ej _ rfl, hc]
    obtain ⟨Tn, n1, -⟩ := rn_eq hx (M := 2) (Nat.le_refl _) (hC.tz z) rd (by omega) (tld.trans tl) (by omega)
    have n1' : fX8_readsNumber Td 2 = some (if (zRn sg 2 (i + 1) 0).1 = i + 1 then 0 else 1, Tn) := n1
    rw [all_b n1' (by
      by_cases y : (zRn sg 2 (i + 1) 0).1 = i + 1
      · exact Or.inl (if_pos y)
      · exact Or.inr (if_neg y))]
    rfl
  · refine fin 2 hf (by decide) ?_
    rw [est, if_neg (by rw [hc]; decide), if_neg (by rw [hc]; decide), if_pos hc, ej _ rfl, hc, all_l]
    rfl
  · refine fin 3 hf (by decide) ?_
    rw [est, if_neg (by rw [hc]; decide), if_neg (by rw [hc]; decide), if_neg (by rw [hc]; decide), if_pos hc, ej _ rfl, hc, all_n]
    rfl
  · have ess : zSs sg i = (false, i, []) := by
      unfold zSs
      rw [if_pos hf]
    rw [est, if_neg hc.1, if_neg hc.2.1, if_neg hc.2.2.1, if_neg hc.2.2.2, ess]
    exact ⟨T, rfl, TZ.rf T, hs, ha, fun y => by cases y⟩
end LM
