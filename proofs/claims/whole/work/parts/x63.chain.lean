/-! chains: what one is, and which comes first -/
def zSm (e : Nat → Nat) (p x : Nat) : Prop := ∃ j k, j ≤ k ∧ k < p ∧ e j + e k = x
def zVal (e : Nat → Nat) (p : Nat) : Prop := e 0 = 1 ∧ ∀ i, 1 ≤ i → i < p → e (i - 1) < e i ∧ zSm e i (e i)
def zBy (e : Nat → Nat) (p y : Nat) : Prop := ∀ i, 1 ≤ i → i < p → y ≤ e (i - 1) ∨ e i ≤ y
def zCn (goal y n : Nat) (e : Nat → Nat) : Prop := zVal e n ∧ zBy e n y ∧ e (n - 1) = goal
def zAg (e b : Nat → Nat) (p : Nat) : Prop := ∀ i, i < p → e i = b i
theorem zVal.lt {e : Nat → Nat} {p : Nat} (h : zVal e p) : ∀ d i, i + (d + 1) < p → e i < e (i + (d + 1)) := by
  intro d
  induction d with
  | zero =>
    intro i hi
    have := (h.2 (i + 1) (by omega) hi).1
    rwa [Nat.add_sub_cancel] at this
  | succ d ih =>
    intro i hi
    have h1 := ih i (by omega)
    have h2 := (h.2 (i + (d + 1) + 1) (by omega) (by omega)).1
    rw [Nat.add_sub_cancel] at h2
    show e i < e (i + (d + 1) + 1)
    omega
theorem zVal.mono {e : Nat → Nat} {p : Nat} (h : zVal e p) {i j : Nat} (hij : i ≤ j) (hj : j < p) : e i ≤ e j := by
  by_cases q : i = j
  · rw [q]; exact Nat.le_refl _
  · have := h.lt (j - i - 1) i (by omega)
    rw [show i + (j - i - 1 + 1) = j from by omega] at this
    omega
theorem zVal.mono' {e : Nat → Nat} {p : Nat} (h : zVal e p) {i j : Nat} (hij : i < j) (hj : j < p) : e i < e j := by
  have := h.lt (j - i - 1) i (by omega)
  rwa [show i + (j - i - 1 + 1) = j from by omega] at this
theorem zVal.cut {e : Nat → Nat} {p q : Nat} (h : zVal e p) (hq : q ≤ p) : zVal e q := ⟨h.1, fun i h1 h2 => h.2 i h1 (by omega)⟩
theorem zVal.dbl {e : Nat → Nat} {p i : Nat} (h : zVal e p) (h1 : 1 ≤ i) (hi : i < p) : e i ≤ 2 * e (i - 1) := by
  obtain ⟨-, j, k, x1, x2, x3⟩ := h.2 i h1 hi
  have a := h.mono (i := j) (j := i - 1) (by omega) (by omega)
  have b := h.mono (i := k) (j := i - 1) (by omega) (by omega)
  omega
theorem zVal.grow {e : Nat → Nat} {p : Nat} (h : zVal e p) : ∀ d i, i + d < p → e (i + d) ≤ e i * 2 ^ d := by
  intro d
  induction d with
  | zero => intro i _; simp
  | succ d ih =>
    intro i hi
    have a := ih i (by omega)
    have b := h.dbl (i := i + d + 1) (by omega) hi
    rw [Nat.add_sub_cancel] at b
    show e (i + d + 1) ≤ _
    rw [Nat.pow_succ, ← Nat.mul_assoc]
    omega
theorem zVal.pow {e : Nat → Nat} {p i : Nat} (h : zVal e p) (hi : i < p) : e i ≤ 2 ^ i := by
  have := h.grow i 0 (by omega)
  rw [Nat.zero_add, h.1, Nat.one_mul] at this
  exact this
theorem zVal.one {e : Nat → Nat} {p i : Nat} (h : zVal e p) (hi : i < p) : 1 ≤ e i := by
  have := h.mono (Nat.zero_le i) hi
  rw [h.1] at this
  exact this
theorem zVal.ag {e b : Nat → Nat} {p : Nat} (h : zVal e p) (hp : 1 ≤ p) (g : zAg e b p) : zVal b p := by
  refine ⟨by rw [← g 0 (by omega)]; exact h.1, fun i h1 h2 => ?_⟩
  obtain ⟨x, j, k, y1, y2, y3⟩ := h.2 i h1 h2
  rw [← g i h2, ← g (i - 1) (by omega)]
  exact ⟨x, j, k, y1, y2, by rw [← g j (by omega), ← g k (by omega)]; exact y3⟩
theorem zSm.ag {e b : Nat → Nat} {p x : Nat} (g : zAg e b p) (h : zSm e p x) : zSm b p x := by
  obtain ⟨j, k, y1, y2, y3⟩ := h
  exact ⟨j, k, y1, y2, by rw [← g j (by omega), ← g k (by omega)]; exact y3⟩
def zput1 (e : Nat → Nat) (p x : Nat) : Nat → Nat := fun i => if i = p then x else e i
theorem zput1_ag (e : Nat → Nat) (p x : Nat) : zAg e (zput1 e p x) p := fun i hi => by
  unfold zput1
  rw [if_neg (by omega)]
theorem zput1_at (e : Nat → Nat) (p x : Nat) : zput1 e p x p = x := if_pos rfl
theorem zVal.put {e : Nat → Nat} {p x : Nat} (h : zVal e p) (hp : 1 ≤ p) (hx : e (p - 1) < x) (hs : zSm e p x) : zVal (zput1 e p x) (p + 1) := by
  have g := zput1_ag e p x
  have h' := h.ag hp g
  refine ⟨h'.1, fun i h1 h2 => ?_⟩
  by_cases q : i = p
  · subst q
    rw [zput1_at, ← g (i - 1) (by omega)]
    exact ⟨hx, hs.ag g⟩
  · exact h'.2 i h1 (by omega)
theorem zBy.put {e : Nat → Nat} {p x y : Nat} (h : zBy e p y) (hx : y ≤ e (p - 1) ∨ x ≤ y) : zBy (zput1 e p x) (p + 1) y := by
  have g := zput1_ag e p x
  intro i h1 h2
  by_cases q : i = p
  · subst q
    rw [zput1_at, ← g (i - 1) (by omega)]
    exact hx
  · rw [← g i (by omega), ← g (i - 1) (by omega)]
    exact h i h1 (by omega)
/-! is it a sum: the class from both ends, the reference pair by pair -/
theorem isSumC_l {a : Nat → Int32} {e : Nat → Nat} {p x : Nat} (hp : p ≤ 12) (ha : ∀ i, i < p → a i = nI (e i)) (he : ∀ i j, i < j → j < p → e i < e j) (hb : ∀ i, i < p → e i ≤ 10000) (hx : x ≤ 10000) : ∀ d l h f, h ≤ l + d → d < f → h ≤ p → l ≤ p → (∀ j k, j ≤ k → k < p → e j + e k = x → l ≤ j ∧ k < h) →
    (zSm e p x ∧ fX0_isSum_l12 a (nI x) f (nI l) (nI h + (-1)) = some 1) ∨ (¬ zSm e p x ∧ fX0_isSum_l12 a (nI x) f (nI l) (nI h + (-1)) = some 0) := by
  have stop : ∀ l h f, h ≤ l → h ≤ p → l ≤ p → (∀ j k, j ≤ k → k < p → e j + e k = x → l ≤ j ∧ k < h) → (zSm e p x ∧ fX0_isSum_l12 a (nI x) (f + 1) (nI l) (nI h + (-1)) = some 1) ∨ (¬ zSm e p x ∧ fX0_isSum_l12 a (nI x) (f + 1) (nI l) (nI h + (-1)) = some 0) := by
    intro l h f h1 h2 h3 hI
    refine Or.inr ⟨fun ⟨j, k, x1, x2, x3⟩ => ?_, ?_⟩
    · have := hI j k x1 x2 x3
      omega
    · rw [fX0_isSum_l12, if_pos]
      by_cases q : h = 0
      · subst q
        rw [Int32.lt_iff_toInt_lt, show (nI 0 + (-1) : Int32).toInt = -1 from by decide, nI_toInt (by omega)]
        omega
      · obtain ⟨h', rfl⟩ : ∃ h', h = h' + 1 := ⟨h - 1, by omega⟩
        rw [pk_m1]
        exact nI_lt (by omega) (by omega)
  intro d
  induction d with
  | zero =>
    intro l h f h1 hf h2 h3 hI
    obtain ⟨f, rfl⟩ : ∃ k', f = k' + 1 := ⟨f - 1, by omega⟩
    exact stop l h f (by omega) h2 h3 hI
  | succ d ih =>
    intro l h f h1 hf h2 h3 hI
    obtain ⟨f, rfl⟩ : ∃ k', f = k' + 1 := ⟨f - 1, by omega⟩
    by_cases q : h ≤ l
    · exact stop l h f q h2 h3 hI
    · obtain ⟨h', rfl⟩ : ∃ h', h = h' + 1 := ⟨h - 1, by omega⟩
      have b1 := hb l (by omega)
      have b2 := hb h' (by omega)
      rw [fX0_isSum_l12, pk_m1, if_neg (nI_nlt (by omega) (by omega)), ix_nI (by omega) (by omega), ix_nI (by omega) (by omega), nI_clamp (by omega), nI_clamp (by omega), ha l (by omega), ha h' (by omega), nI_add]
      by_cases g : e l + e h' = x
      · rw [if_pos (by rw [g])]
        exact Or.inl ⟨⟨l, h', by omega, by omega, g⟩, rfl⟩
      · rw [if_neg (fun z => g ((nI_eq (by omega) (by omega)).mp z))]
        by_cases z : x ≤ e l + e h'
        · rw [if_pos (nI_le z (by omega))]
          refine ih l h' f (by omega) (by omega) (by omega) h3 (fun j k y1 y2 y3 => ?_)
          obtain ⟨w1, w2⟩ := hI j k y1 y2 y3
          refine ⟨w1, ?_⟩
          by_cases v : k = h'
          · subst v
            have : e l ≤ e j := by
              by_cases u : l = j
              · rw [u]; exact Nat.le_refl _
              · exact Nat.le_of_lt (he l j (by omega) (by omega))
            omega
          · omega
        · rw [if_neg (nI_ge (by omega) (by omega)), nI_1]
          have := ih (l + 1) (h' + 1) f (by omega) (by omega) h2 (by omega) (fun j k y1 y2 y3 => by
            obtain ⟨w1, w2⟩ := hI j k y1 y2 y3
            refine ⟨?_, w2⟩
            by_cases v : j = l
            · subst v
              have : e k ≤ e h' := by
                by_cases u : k = h'
                · rw [u]; exact Nat.le_refl _
                · exact Nat.le_of_lt (he k h' (by omega) (by omega))
              omega
            · omega)
          rw [pk_m1] at this
          exact this
theorem isSumC {a : Nat → Int32} {e : Nat → Nat} {p x : Nat} (hp : p ≤ 12) (ha : ∀ i, i < p → a i = nI (e i)) (he : ∀ i j, i < j → j < p → e i < e j) (hb : ∀ i, i < p → e i ≤ 10000) (hx : x ≤ 10000) : (zSm e p x ∧ fX0_isSum a (nI p) (nI x) = some 1) ∨ (¬ zSm e p x ∧ fX0_isSum a (nI p) (nI x) = some 0) := by
  unfold fX0_isSum
  rw [if_neg (show ¬ (12 : Int32) < nI p from nI_nlt (a := 12) hp (by omega)), Int32.sub_eq_add_neg]
  exact isSumC_l hp ha he hb hx p 0 p FU (by omega) (FU_big _ (by omega)) (Nat.le_refl _) (by omega) (fun j k _ y2 _ => ⟨Nat.zero_le _, y2⟩)
theorem isSumM_in (T : zMd) {e : Nat → Nat} {p x i : Nat} (hp : p ≤ 12) (hi : i < p) (ha : ∀ i, i < p → md_tried T i = nI (e i)) (hb : ∀ i, i < p → e i ≤ 10000) (hx : x ≤ 10000) (K : Int32 → Option Int32) : ((∃ j, i ≤ j ∧ j < p ∧ e i + e j = x) ∧ fX8_isSum_l10 T (nI x) (nI p) (nI i) K FU (nI i) = some 1) ∨ ((∀ j, i ≤ j → j < p → ¬ e i + e j = x) ∧ fX8_isSum_l10 T (nI x) (nI p) (nI i) K FU (nI i) = K (nI (i + 1))) :=
  zscan (fun n v => fX8_isSum_l10 T (nI x) (nI p) (nI i) K n v) p (fun j => e i + e j = x) (K (nI (i + 1))) (some 1)
    (fun n => by
      show fX8_isSum_l10 T (nI x) (nI p) (nI i) K (n + 1) (nI p) = _
      rw [fX8_isSum_l10, if_pos (nI_le (by omega) (by omega)), nI_1])
    (fun n j hj => by
      show _ ∧ fX8_isSum_l10 T (nI x) (nI p) (nI i) K (n + 1) (nI j) = some 1 ∨ _ ∧ fX8_isSum_l10 T (nI x) (nI p) (nI i) K (n + 1) (nI j) = fX8_isSum_l10 T (nI x) (nI p) (nI i) K n (nI (j + 1))
      have b1 := hb i hi
      have b2 := hb j hj
      rw [fX8_isSum_l10, if_neg (nI_ge hj (by omega)), ix_nI (by omega) (by omega), ix_nI (by omega) (by omega), nI_clamp (by omega), nI_clamp (by omega), ha i hi, ha j hj, nI_add, nI_1]
      by_cases q : e i + e j = x
      · rw [if_pos (by rw [q])]
        exact Or.inl ⟨q, rfl⟩
      · rw [if_neg (fun z => q ((nI_eq (by omega) (by omega)).mp z))]
        exact Or.inr ⟨q, rfl⟩) (p - i) i FU (by omega) (FU_big _ (by omega))
theorem isSumM (T : zMd) {e : Nat → Nat} {p x : Nat} (hp : p ≤ 12) (ha : ∀ i, i < p → md_tried T i = nI (e i)) (hb : ∀ i, i < p → e i ≤ 10000) (hx : x ≤ 10000) : (zSm e p x ∧ fX8_isSum T (nI x) (nI p) = some 1) ∨ (¬ zSm e p x ∧ fX8_isSum T (nI x) (nI p) = some 0) := by
  rcases zscan (fun n v => fX8_isSum_l2 T (nI x) (nI p) n v) p (fun i => ∃ j, i ≤ j ∧ j < p ∧ e i + e j = x) (some 0) (some 1)
    (fun n => by
      show fX8_isSum_l2 T (nI x) (nI p) (n + 1) (nI p) = some 0
      rw [fX8_isSum_l2, if_pos (nI_le (by omega) (by omega))])
    (fun n i hi => by
      show _ ∧ fX8_isSum_l2 T (nI x) (nI p) (n + 1) (nI i) = some 1 ∨ _ ∧ fX8_isSum_l2 T (nI x) (nI p) (n + 1) (nI i) = fX8_isSum_l2 T (nI x) (nI p) n (nI (i + 1))
      rw [fX8_isSum_l2, if_neg (nI_ge hi (by omega))]
      rcases isSumM_in T hp hi ha hb hx (fX8_isSum_l2 T (nI x) (nI p) n) with ⟨x1, x2⟩ | ⟨x1, x2⟩
      · exact Or.inl ⟨x1, x2⟩
      · exact Or.inr ⟨fun ⟨j, y1, y2, y3⟩ => x1 j y1 y2 y3, x2⟩) p 0 FU (by omega) (FU_big _ (by omega)) with ⟨⟨i, -, -, j, x1, x2, x3⟩, x4⟩ | ⟨x1, x2⟩
  · exact Or.inl ⟨⟨i, j, x1, x2, x3⟩, x4⟩
  · exact Or.inr ⟨fun ⟨i, j, y1, y2, y3⟩ => x1 i (by omega) (by omega) ⟨j, y1, y2, y3⟩, x2⟩
/-! the search: what both do -/
noncomputable def zIf {β : Type} (P : Prop) (a b : β) : β := @ite β P (Classical.propDecidable P) a b
theorem zIf_pos {β : Type} {P : Prop} (h : P) (a b : β) : zIf P a b = a := by
  unfold zIf
  exact if_pos h
theorem zIf_neg {β : Type} {P : Prop} (h : ¬ P) (a b : β) : zIf P a b = b := by
  unfold zIf
  exact if_neg h
def zScn {β : Type} (f : Nat → Option β) : Nat → Nat → Option β
  | 0, _ => none
  | k + 1, x => match f x with
    | some b => some b
    | none => zScn f k (x + 1)
theorem zScn_hit {β : Type} {f : Nat → Option β} {b : β} : ∀ k x j, x ≤ j → j < x + k → f j = some b → (∀ i, x ≤ i → i < j → f i = none) → zScn f k x = some b := by
  intro k
  induction k with
  | zero => intro x j h1 h2; omega
  | succ k ih =>
    intro x j h1 h2 h3 h4
    rw [zScn]
    by_cases q : x = j
    · rw [q, h3]
    · rw [h4 x (Nat.le_refl _) (by omega)]
      exact ih (x + 1) j (by omega) (by omega) h3 (fun i y1 y2 => h4 i (by omega) y2)
theorem zScn_no {β : Type} {f : Nat → Option β} : ∀ k x, (∀ i, x ≤ i → i < x + k → f i = none) → zScn f k x = none := by
  intro k
  induction k with
  | zero => intro x _; rfl
  | succ k ih =>
    intro x h
    rw [zScn, h x (Nat.le_refl _) (by omega)]
    exact ih (x + 1) (fun i y1 y2 => h i (by omega) (by omega))
theorem zScn_ne {β : Type} {f : Nat → Option β} {j : Nat} (h : f j ≠ none) : ∀ k x, x ≤ j → j < x + k → zScn f k x ≠ none := by
  intro k
  induction k with
  | zero => intro x h1 h2; omega
  | succ k ih =>
    intro x h1 h2
    rw [zScn]
    cases e : f x with
    | some b => intro z; cases z
    | none =>
      by_cases q : x = j
      · rw [q] at e; exact absurd e h
      · exact ih (x + 1) (by omega) (by omega)
/-- whether x may be the next behind the first p -/
def zCand (goal y n : Nat) (e : Nat → Nat) (p x : Nat) : Prop := e (p - 1) < x ∧ x ≤ 2 * e (p - 1) ∧ x ≤ goal ∧ zSm e p x ∧ goal ≤ x * 2 ^ (n - 1 - p) ∧ (y ≤ e (p - 1) ∨ x ≤ y)
noncomputable def zSr (goal y n : Nat) : Nat → (Nat → Nat) → Nat → Option (Nat → Nat)
  | 0, e, p => zIf (e (p - 1) = goal) (some e) none
  | d + 1, e, p => zScn (fun x => zIf (zCand goal y n e p x) (zSr goal y n d (zput1 e p x) (p + 1)) none) (goal - e (p - 1)) (e (p - 1) + 1)
noncomputable def zFd (goal y n : Nat) : Option (Nat → Nat) := zSr goal y n (n - 1) (fun _ => 1) 1
theorem zSr_full {goal y n : Nat} {c : Nat → Nat} (hc : zCn goal y n c) : ∀ d p e, p + d = n → 1 ≤ p → zAg c e p → zSr goal y n d e p ≠ none := by
  obtain ⟨hv, hb, hg⟩ := hc
  intro d
  induction d with
  | zero =>
    intro p e hp h1 ha
    rw [zSr, zIf_pos (by rw [← ha (p - 1) (by omega), ← hg, show p = n from by omega])]
    intro z; cases z
  | succ d ih =>
    intro p e hp h1 ha
    have e1 := ha (p - 1) (by omega)
    have v1 := hv.2 p h1 (by omega)
    have v2 := hv.dbl (i := p) h1 (by omega)
    have v3 := hv.mono (i := p) (j := n - 1) (by omega) (by omega)
    have v4 := hv.grow (n - 1 - p) p (by omega)
    have v5 := hb p h1 (by omega)
    rw [show p + (n - 1 - p) = n - 1 from by omega, hg] at v4
    rw [hg] at v3
    have hcd : zCand goal y n e p (c p) := ⟨by rw [← e1]; exact v1.1, by rw [← e1]; exact v2, v3, v1.2.ag ha, v4, by rw [← e1]; exact v5⟩
    rw [zSr]
    refine zScn_ne (j := c p) ?_ _ _ hcd.1 (by have := hcd.1; omega)
    show zIf _ _ _ ≠ none
    rw [zIf_pos hcd]
    refine ih (p + 1) _ (by omega) (by omega) (fun i hi => ?_)
    by_cases q : i = p
    · rw [q, zput1_at]
    · rw [← zput1_ag e p (c p) i (by omega)]
      exact ha i (by omega)
theorem zFd_full {goal y n : Nat} {c : Nat → Nat} (h1 : 1 ≤ n) (hc : zCn goal y n c) : zFd goal y n ≠ none :=
  zSr_full hc (n - 1) 1 _ (by omega) (Nat.le_refl _) (fun i hi => by
    rw [show i = 0 from by omega]; exact hc.1.1)
/-! the class -/
theorem leastUseful_eq {l k g : Nat} (hl : l ≤ 1000) (hk : k ≤ 20) (hg : g ≤ 1000) : ∃ L, fX0_leastUseful (nI l) (nI k) (nI g) = nI L ∧ L ≤ 2000 ∧ ∀ x, L ≤ x ↔ (l < x ∧ g ≤ x * 2 ^ k) := by
  have p0 := Nat.two_pow_pos k
  have p1 : 2 ^ k ≤ 2 ^ 20 := Nat.pow_le_pow_right (by omega) hk
  have e1 : nI g + nI (2 ^ k) - 1 = nI (g + 2 ^ k - 1) := by rw [nI_add]; exact pk_sub (b := 1) (by omega)
  have e2 : nI (g + 2 ^ k - 1) >>> (nI k &&& 31) = nI ((g + 2 ^ k - 1) / 2 ^ k) := z_shr (by omega) (by omega)
  have hq : ∀ x, (g + 2 ^ k - 1) / 2 ^ k ≤ x ↔ g ≤ x * 2 ^ k := fun x => by
    rw [← Nat.lt_succ_iff, Nat.div_lt_iff_lt_mul p0, Nat.succ_mul]
    omega
  have hq1 : (g + 2 ^ k - 1) / 2 ^ k ≤ g := (hq g).mpr (Nat.le_mul_of_pos_right _ p0)
  unfold fX0_leastUseful
  rw [z_one (by omega), e1, e2, nI_1]
  by_cases q : l + 1 < (g + 2 ^ k - 1) / 2 ^ k
  · rw [if_pos (nI_lt q (by omega))]
    refine ⟨_, rfl, by omega, fun x => ?_⟩
    rw [← hq x]
    omega
  · rw [if_neg (nI_nlt (by omega) (by omega))]
    refine ⟨_, rfl, by omega, fun x => ?_⟩
    rw [← hq x]
    omega
theorem upd_pre {a : Nat → Int32} {e : Nat → Nat} {p x : Nat} (h : ∀ i, i < p → a i = nI (e i)) : ∀ i, i < p + 1 → upd a p (nI x) i = nI (zput1 e p x i) := fun i hi => by
  rw [upd_at]
  unfold zput1
  by_cases q : i = p
  · rw [if_pos q, if_pos q]
  · rw [if_neg q, if_neg q]
    exact h i (by omega)
theorem reach_l {goal y n bn : Nat} (hn : n ≤ 12) (hg : goal ≤ 100) (hy1 : 1 ≤ bn) (hyg : bn ≤ goal) (hB : ∀ l x, 1 ≤ l → x ≤ goal → ((y ≤ l ∨ x ≤ y) ↔ x ≤ if bn ≤ l then goal else bn)) (hNE : ∀ m c, 1 ≤ m → m < n → ¬ zCn goal y m c) :
    ∀ d p D e (a : Nat → Int32), p + d = n → 1 ≤ p → d < D → (∀ i, i < p → a i = nI (e i)) → zVal e p → zBy e p y → (∀ i, i < p → e i ≤ goal) →
      (∃ b a', zSr goal y n d e p = some b ∧ fX0_reaches D a (nI p) (nI n) (nI bn) (nI goal) = some (1, a') ∧ ∀ i, i < n → a' i = nI (b i)) ∨ (∃ a', zSr goal y n d e p = none ∧ fX0_reaches D a (nI p) (nI n) (nI bn) (nI goal) = some (0, a') ∧ ∀ i, i < p → a' i = nI (e i)) := by
  intro d
  induction d with
  | zero =>
    intro p D e a hp h1 hD ha hv hb hm
    obtain ⟨D, rfl⟩ : ∃ k', D = k' + 1 := ⟨D - 1, by omega⟩
    have e1 : nI p - 1 = nI (p - 1) := pk_sub (b := 1) h1
    have m1 := hm (p - 1) (by omega)
    rw [fX0_reaches, zSr]
    unfold fX0_reaches_e
    rw [if_neg (show ¬ nI p < (1 : Int32) from nI_nlt (b := 1) h1 (by omega)), if_pos (show nI p ≤ (12 : Int32) from nI_le (b := 12) (by omega) (by omega)), e1, ix_nI (by omega) (by omega), nI_clamp (by omega), ha _ (by omega)]
    by_cases q : e (p - 1) = goal
    · rw [if_pos (by rw [q]), zIf_pos q]
      exact Or.inl ⟨e, a, rfl, rfl, fun i hi => ha i (by omega)⟩
    · rw [if_neg (fun z => q ((nI_eq (by omega) (by omega)).mp z)), zIf_neg q, if_pos (nI_le (by omega) (by omega))]
      exact Or.inr ⟨a, rfl, rfl, ha⟩
  | succ d ih =>
    intro p D e a hp h1 hD ha hv hb hm
    obtain ⟨D, rfl⟩ : ∃ k', D = k' + 1 := ⟨D - 1, by omega⟩
    have e1 : nI p - 1 = nI (p - 1) := pk_sub (b := 1) h1
    have m1 := hm (p - 1) (by omega)
    have l1 := hv.one (i := p - 1) (by omega)
    have q : ¬ e (p - 1) = goal := fun q => hNE p e h1 (by omega) ⟨hv, hb, q⟩
    have ek : nI n - nI p - 1 = nI (n - 1 - p) := by
      rw [pk_sub (by omega), show n - 1 - p = n - p - 1 from by omega]
      exact pk_sub (b := 1) (by omega)
    obtain ⟨L, eL, hL2, hL⟩ := leastUseful_eq (l := e (p - 1)) (k := n - 1 - p) (g := goal) (by omega) (by omega) (by omega)
    obtain ⟨tb, etb⟩ : ∃ tb, tb = if bn ≤ e (p - 1) then goal else bn := ⟨_, rfl⟩
    have htb : tb ≤ goal := by rw [etb]; split <;> omega
    obtain ⟨B, eB⟩ : ∃ B, B = if tb < 2 * e (p - 1) then tb else 2 * e (p - 1) := ⟨_, rfl⟩
    have hBl : B ≤ tb ∧ B ≤ 2 * e (p - 1) ∧ (∀ x, x ≤ tb → x ≤ 2 * e (p - 1) → x ≤ B) := by
      rw [eB]
      by_cases z : tb < 2 * e (p - 1)
      · rw [if_pos z]; exact ⟨by omega, by omega, fun x _ _ => by omega⟩
      · rw [if_neg z]; exact ⟨by omega, by omega, fun x _ _ => by omega⟩
    have hj : fX0_reaches_e (fX0_reaches D) a (nI p) (nI n) (nI bn) (nI goal) = fX0_reaches_l77 (fX0_reaches D) (nI p) (nI n) (nI bn) (nI goal) (nI B) FU (nI L) a := by
      have h58 : fX0_reaches_j58 (fX0_reaches D) (nI p) (nI n) (nI bn) (nI goal) (nI (e (p - 1))) (2 * nI (e (p - 1))) (nI tb) a = fX0_reaches_l77 (fX0_reaches D) (nI p) (nI n) (nI bn) (nI goal) (nI B) FU (nI L) a := by
        unfold fX0_reaches_j58
        rw [ek, eL, show (2 : Int32) * nI (e (p - 1)) = nI (2 * e (p - 1)) from pk_mul 2 _]
        by_cases z : tb < 2 * e (p - 1)
        · rw [if_pos (nI_lt z (by omega)), eB, if_pos z]
        · rw [if_neg (nI_nlt (by omega) (by omega)), eB, if_neg z]
      unfold fX0_reaches_e
      rw [if_neg (show ¬ nI p < (1 : Int32) from nI_nlt (b := 1) h1 (by omega)), if_pos (show nI p ≤ (12 : Int32) from nI_le (b := 12) (by omega) (by omega)), e1, ix_nI (by omega) (by omega), nI_clamp (by omega), ha _ (by omega), if_neg (fun z => q ((nI_eq (by omega) (by omega)).mp z)), if_neg (nI_ge (by omega) (by omega)), if_pos (show nI p < (12 : Int32) from nI_lt (b := 12) (by omega) (by omega))]
      by_cases z : bn ≤ e (p - 1)
      · rw [if_pos (nI_le z (by omega))]
        rw [if_pos z] at etb
        rw [← etb]
        rw [etb] at h58 ⊢
        exact h58
      · rw [if_neg (nI_ge (by omega) (by omega))]
        rw [if_neg z] at etb
        rw [etb] at h58
        exact h58
    have hcd : ∀ x, (L ≤ x ∧ x ≤ B ∧ zSm e p x) ↔ zCand goal y n e p x := fun x => by
      constructor
      · intro ⟨x1, x2, x3⟩
        have := (hL x).mp x1
        exact ⟨this.1, by omega, by omega, x3, this.2, (hB _ x l1 (by omega)).mpr (by rw [← etb]; omega)⟩
      · intro ⟨x1, x2, x3, x4, x5, x6⟩
        have := (hB _ x l1 x3).mp x6
        rw [← etb] at this
        exact ⟨(hL x).mpr ⟨x1, x5⟩, hBl.2.2 x this x2, x4⟩
    have scan : ∀ k x f (S : Nat → Int32), B + 1 - x = k → k < f → L ≤ x → x ≤ 3000 → (∀ i, i < p → S i = nI (e i)) →
        (∃ j b a', x ≤ j ∧ j ≤ B ∧ zIf (zCand goal y n e p j) (zSr goal y n d (zput1 e p j) (p + 1)) none = some b ∧ (∀ i, x ≤ i → i < j → zIf (zCand goal y n e p i) (zSr goal y n d (zput1 e p i) (p + 1)) none = none) ∧ fX0_reaches_l77 (fX0_reaches D) (nI p) (nI n) (nI bn) (nI goal) (nI B) f (nI x) S = some (1, a') ∧ ∀ i, i < n → a' i = nI (b i)) ∨
        ((∀ j, x ≤ j → j ≤ B → zIf (zCand goal y n e p j) (zSr goal y n d (zput1 e p j) (p + 1)) none = none) ∧ ∃ a', fX0_reaches_l77 (fX0_reaches D) (nI p) (nI n) (nI bn) (nI goal) (nI B) f (nI x) S = some (0, a') ∧ ∀ i, i < p → a' i = nI (e i)) := by
      intro k
      induction k with
      | zero =>
        intro x f S hk hf hx hx2 hS
        obtain ⟨f, rfl⟩ : ∃ k', f = k' + 1 := ⟨f - 1, by omega⟩
        refine Or.inr ⟨fun j j1 j2 => by omega, S, ?_, hS⟩
        rw [fX0_reaches_l77, if_pos (nI_lt (by omega) (by omega))]
      | succ k ihk =>
        intro x f S hk hf hx hx2 hS
        obtain ⟨f, rfl⟩ : ∃ k', f = k' + 1 := ⟨f - 1, by omega⟩
        have go : zIf (zCand goal y n e p x) (zSr goal y n d (zput1 e p x) (p + 1)) none = none → ∀ S' : Nat → Int32, (∀ i, i < p → S' i = nI (e i)) → fX0_reaches_l77 (fX0_reaches D) (nI p) (nI n) (nI bn) (nI goal) (nI B) (f + 1) (nI x) S = fX0_reaches_l77 (fX0_reaches D) (nI p) (nI n) (nI bn) (nI goal) (nI B) f (nI (x + 1)) S' →
            (∃ j b a', x ≤ j ∧ j ≤ B ∧ zIf (zCand goal y n e p j) (zSr goal y n d (zput1 e p j) (p + 1)) none = some b ∧ (∀ i, x ≤ i → i < j → zIf (zCand goal y n e p i) (zSr goal y n d (zput1 e p i) (p + 1)) none = none) ∧ fX0_reaches_l77 (fX0_reaches D) (nI p) (nI n) (nI bn) (nI goal) (nI B) (f + 1) (nI x) S = some (1, a') ∧ ∀ i, i < n → a' i = nI (b i)) ∨
            ((∀ j, x ≤ j → j ≤ B → zIf (zCand goal y n e p j) (zSr goal y n d (zput1 e p j) (p + 1)) none = none) ∧ ∃ a', fX0_reaches_l77 (fX0_reaches D) (nI p) (nI n) (nI bn) (nI goal) (nI B) (f + 1) (nI x) S = some (0, a') ∧ ∀ i, i < p → a' i = nI (e i)) := by
          intro h0 S' hS' hE
          rw [hE]
          rcases ihk (x + 1) f S' (by omega) (by omega) (by omega) (by omega) hS' with ⟨j, b, a', j1, j2, j3, j4, j5, j6⟩ | ⟨j1, a', j2, j3⟩
          · refine Or.inl ⟨j, b, a', by omega, j2, j3, fun i i1 i2 => ?_, j5, j6⟩
            by_cases z : i = x
            · rw [z]; exact h0
            · exact j4 i (by omega) i2
          · refine Or.inr ⟨fun i i1 i2 => ?_, a', j2, j3⟩
            by_cases z : i = x
            · rw [z]; exact h0
            · exact j1 i (by omega) i2
        rcases isSumC (p := p) (x := x) (by omega) hS (fun i j h1 h2 => hv.mono' h1 h2) (fun i hi => by have := hm i hi; omega) (by omega) with ⟨s1, s2⟩ | ⟨s1, s2⟩
        · have hc := (hcd x).mp ⟨hx, by omega, s1⟩
          have hw := hv.put h1 hc.1 hc.2.2.2.1
          have hb' : zBy (zput1 e p x) (p + 1) y := hb.put hc.2.2.2.2.2
          have hm' : ∀ i, i < p + 1 → zput1 e p x i ≤ goal := fun i hi => by
            unfold zput1
            by_cases z : i = p
            · rw [if_pos z]; exact hc.2.2.1
            · rw [if_neg z]; exact hm i (by omega)
          have step : fX0_reaches_l77 (fX0_reaches D) (nI p) (nI n) (nI bn) (nI goal) (nI B) (f + 1) (nI x) S = (fX0_reaches D (upd S p (nI x)) (nI (p + 1)) (nI n) (nI bn) (nI goal)).bind fun u5 => if u5.1 = 0 then fX0_reaches_l77 (fX0_reaches D) (nI p) (nI n) (nI bn) (nI goal) (nI B) f (nI (x + 1)) u5.2 else some (1, u5.2) := by
            rw [fX0_reaches_l77, if_neg (nI_nlt (by omega) (by omega)), s2]
            rw [Option.bind_some]
            rw [if_neg (show ¬ (1 : Int32) = 0 from by decide), ix_nI (by omega) (by omega), nI_clamp (by omega), nI_1, nI_1]
          rcases ih (p + 1) D (zput1 e p x) (upd S p (nI x)) (by omega) (by omega) (by omega) (upd_pre hS) hw hb' hm' with ⟨b, a', r1, r2, r3⟩ | ⟨a', r1, r2, r3⟩
          · refine Or.inl ⟨x, b, a', Nat.le_refl _, by omega, by rw [zIf_pos hc, r1], fun i i1 i2 => by omega, ?_, r3⟩
            rw [step, r2]
            rw [Option.bind_some]
            rw [if_neg (show ¬ (1 : Int32) = 0 from by decide)]
          · refine go (by rw [zIf_pos hc, r1]) a' (fun i hi => ?_) ?_
            · rw [r3 i (by omega), zput1_ag e p x i hi]
            · rw [step, r2]
              rw [Option.bind_some]
              rw [if_pos (show (0 : Int32) = 0 from rfl)]
        · refine go (zIf_neg (fun z => s1 z.2.2.2.1) _ _) S hS ?_
          rw [fX0_reaches_l77, if_neg (nI_nlt (by omega) (by omega)), s2]
          rw [Option.bind_some]
          rw [if_pos (show (0 : Int32) = 0 from rfl), nI_1]
    have out : ∀ j, (j < L ∨ B < j) → zIf (zCand goal y n e p j) (zSr goal y n d (zput1 e p j) (p + 1)) none = none := fun j hj => zIf_neg (fun z => by
      have := (hcd j).mpr z
      omega) _ _
    have hr : fX0_reaches (D + 1) a (nI p) (nI n) (nI bn) (nI goal) = fX0_reaches_l77 (fX0_reaches D) (nI p) (nI n) (nI bn) (nI goal) (nI B) FU (nI L) a := by
      rw [fX0_reaches]
      exact hj
    rcases scan (B + 1 - L) L FU a rfl (FU_big _ (by omega)) (Nat.le_refl _) (by omega) ha with ⟨j, b, a', j1, j2, j3, j4, j5, j6⟩ | ⟨j1, a', j2, j3⟩
    · refine Or.inl ⟨b, a', ?_, hr.trans j5, j6⟩
      rw [zSr]
      have hc : zCand goal y n e p j := by
        by_cases z : zCand goal y n e p j
        · exact z
        · rw [zIf_neg z] at j3; cases j3
      refine zScn_hit _ _ j hc.1 (by have := hc.1; have := hc.2.2.1; omega) j3 (fun i i1 i2 => ?_)
      by_cases z : i < L
      · exact out i (Or.inl z)
      · exact j4 i (by omega) i2
    · refine Or.inr ⟨a', ?_, hr.trans j2, j3⟩
      rw [zSr]
      refine zScn_no _ _ (fun i i1 i2 => ?_)
      show zIf _ _ _ = none
      by_cases z : i < L
      · exact out i (Or.inl z)
      · by_cases z2 : B < i
        · exact out i (Or.inr z2)
        · exact j1 i (by omega) (by omega)
/-! the reference -/
theorem tr_tr (T : zMd) (F G : Nat → Int32) : md_set_tried (md_set_tried T F) G = md_set_tried T G := rfl
theorem tr_at (T : zMd) (F : Nat → Int32) : md_tried (md_set_tried T F) = F := rfl
theorem tr_goal (T : zMd) (F : Nat → Int32) : md_goal (md_set_tried T F) = md_goal T := rfl
theorem tr_wanted (T : zMd) (F : Nat → Int32) : md_wanted (md_set_tried T F) = md_wanted T := rfl
theorem canReach_l (T : zMd) {goal l : Nat} (hG : md_goal T = nI goal) (hg : goal ≤ 100) (hl : l ≤ 100) : ∀ d k x f, k + d = l → d < f → x ≤ 200 → (goal ≤ x * 2 ^ d ∧ fX8_canReach_l5 T (nI l) f (nI x) (nI k) = some 1) ∨ (¬ goal ≤ x * 2 ^ d ∧ fX8_canReach_l5 T (nI l) f (nI x) (nI k) = some 0) := by
  intro d
  induction d with
  | zero =>
    intro k x f hk hf hx
    obtain ⟨f, rfl⟩ : ∃ k', f = k' + 1 := ⟨f - 1, by omega⟩
    rw [fX8_canReach_l5, if_pos (nI_le (by omega) (by omega))]
    unfold fX8_canReach_j29
    rw [hG, Nat.pow_zero, Nat.mul_one]
    by_cases q : x < goal
    · rw [if_pos (nI_lt q (by omega))]
      exact Or.inr ⟨by omega, rfl⟩
    · rw [if_neg (nI_nlt (by omega) (by omega))]
      exact Or.inl ⟨by omega, rfl⟩
  | succ d ih =>
    intro k x f hk hf hx
    obtain ⟨f, rfl⟩ : ∃ k', f = k' + 1 := ⟨f - 1, by omega⟩
    have p0 := Nat.two_pow_pos (d + 1)
    rw [fX8_canReach_l5, if_neg (nI_ge (by omega) (by omega)), hG]
    by_cases q : goal ≤ x
    · rw [if_pos (nI_le q (by omega))]
      unfold fX8_canReach_j29
      rw [hG, if_neg (nI_nlt q (by omega))]
      exact Or.inl ⟨Nat.le_trans q (Nat.le_mul_of_pos_right _ p0), rfl⟩
    · have := ih (k + 1) (x * 2) f (by omega) (by omega) (by omega)
      rw [if_neg (nI_ge (by omega) (by omega)), nI_1, show nI x * (2 : Int32) = nI (x * 2) from pk_mul x 2, Nat.pow_succ, Nat.mul_comm (2 ^ d) 2, ← Nat.mul_assoc]
      exact this
theorem goesOn_eq (T : zMd) {goal y n p x : Nat} {e : Nat → Nat} (hG : md_goal T = nI goal) (hW : md_wanted T = nI y) (hg : goal ≤ 100) (hy : y ≤ 1000) (hn : n ≤ 12) (h1 : 1 ≤ p) (hp : p < n) (ha : ∀ i, i < p → md_tried T i = nI (e i)) (hm : ∀ i, i < p → e i ≤ goal) (hx1 : e (p - 1) < x) (hx2 : x ≤ 2 * e (p - 1)) (hx3 : x ≤ goal) :
    (zCand goal y n e p x ∧ fX8_goesOn T (nI x) (nI p) (nI n) = some 1) ∨ (¬ zCand goal y n e p x ∧ fX8_goesOn T (nI x) (nI p) (nI n) = some 0) := by
  have e1 : nI p - 1 = nI (p - 1) := pk_sub (b := 1) h1
  have e2 : nI n - 1 - nI p = nI (n - 1 - p) := by
    rw [show nI n - 1 = nI (n - 1) from pk_sub (b := 1) (by omega)]
    exact pk_sub (by omega)
  have m1 := hm (p - 1) (by omega)
  unfold fX8_goesOn
  rcases isSumM T (p := p) (x := x) (by omega) ha (fun i hi => by have := hm i hi; omega) (by omega) with ⟨s1, s2⟩ | ⟨s1, s2⟩
  · rw [s2]
    rw [Option.bind_some]
    rw [if_neg (show ¬ (1 : Int32) = 0 from by decide), e2]
    have hr : (goal ≤ x * 2 ^ (n - 1 - p) ∧ fX8_canReach T (nI x) (nI (n - 1 - p)) = some 1) ∨ (¬ goal ≤ x * 2 ^ (n - 1 - p) ∧ fX8_canReach T (nI x) (nI (n - 1 - p)) = some 0) :=
      canReach_l T hG hg (by omega) (n - 1 - p) 0 x FU (by omega) (FU_big _ (by omega)) (by omega)
    rcases hr with ⟨r1, r2⟩ | ⟨r1, r2⟩
    · rw [r2]
      rw [Option.bind_some]
      rw [if_neg (show ¬ (1 : Int32) = 0 from by decide), e1, ix_nI (by omega) (by omega), nI_clamp (by omega), ha _ (by omega), hW]
      by_cases q : y ≤ e (p - 1)
      · rw [if_pos (nI_le q (by omega))]
        exact Or.inl ⟨⟨hx1, hx2, hx3, s1, r1, Or.inl q⟩, rfl⟩
      · rw [if_neg (nI_ge (by omega) (by omega))]
        by_cases q2 : y < x
        · rw [if_pos (nI_lt q2 (by omega))]
          refine Or.inr ⟨fun z => ?_, rfl⟩
          have := z.2.2.2.2.2
          omega
        · rw [if_neg (nI_nlt (by omega) (by omega))]
          exact Or.inl ⟨⟨hx1, hx2, hx3, s1, r1, Or.inr (by omega)⟩, rfl⟩
    · rw [r2]
      rw [Option.bind_some]
      rw [if_pos (show (0 : Int32) = 0 from rfl)]
      exact Or.inr ⟨fun z => r1 z.2.2.2.2.1, rfl⟩
  · rw [s2]
    rw [Option.bind_some]
    rw [if_pos (show (0 : Int32) = 0 from rfl)]
    exact Or.inr ⟨fun z => s1 z.2.2.2.1, rfl⟩
section NT
variable {T : zMd} {goal y n p : Nat} {e : Nat → Nat}
theorem next_l (hG : md_goal T = nI goal) (hW : md_wanted T = nI y) (hg : goal ≤ 100) (hy : y ≤ 1000) (hn : n ≤ 12) (h1 : 1 ≤ p) (hp : p < n) (ha : ∀ i, i < p → md_tried T i = nI (e i)) (hm : ∀ i, i < p → e i ≤ goal) {B : Nat} (hB1 : B ≤ 2 * e (p - 1)) (hB2 : B ≤ goal) (hB3 : ∀ x, x ≤ 2 * e (p - 1) → x ≤ goal → x ≤ B) :
    ∀ d x f, B + 1 - x = d → d < f → e (p - 1) < x → x ≤ 300 → (∃ j, x ≤ j ∧ zCand goal y n e p j ∧ (∀ i, x ≤ i → i < j → ¬ zCand goal y n e p i) ∧ fX8_nextTry_l41 T (nI p) (nI n) (nI B) f (nI x) = some (nI j)) ∨ ((∀ j, x ≤ j → ¬ zCand goal y n e p j) ∧ fX8_nextTry_l41 T (nI p) (nI n) (nI B) f (nI x) = some (nI (goal + 1))) := by
  intro d
  induction d with
  | zero =>
    intro x f hd hf hx hx2
    obtain ⟨f, rfl⟩ : ∃ k', f = k' + 1 := ⟨f - 1, by omega⟩
    refine Or.inr ⟨fun j hj z => ?_, ?_⟩
    · have := hB3 j z.2.1 z.2.2.1
      omega
    · rw [fX8_nextTry_l41, if_pos (nI_lt (by omega) (by omega))]
      unfold fX8_nextTry_j65
      rw [if_pos (nI_lt (by omega) (by omega)), hG, nI_1]
  | succ d ih =>
    intro x f hd hf hx hx2
    obtain ⟨f, rfl⟩ : ∃ k', f = k' + 1 := ⟨f - 1, by omega⟩
    rw [fX8_nextTry_l41, if_neg (nI_nlt (by omega) (by omega))]
    rcases goesOn_eq T hG hW hg hy hn h1 hp ha hm hx (by omega) (by omega) with ⟨s1, s2⟩ | ⟨s1, s2⟩
    · rw [s2]
      rw [Option.bind_some]
      rw [if_neg (show ¬ (1 : Int32) = 0 from by decide)]
      unfold fX8_nextTry_j65
      rw [if_neg (nI_nlt (by omega) (by omega))]
      exact Or.inl ⟨x, Nat.le_refl _, s1, fun i i1 i2 => by omega, rfl⟩
    · rw [s2]
      rw [Option.bind_some]
      rw [if_pos (show (0 : Int32) = 0 from rfl), nI_1]
      rcases ih (x + 1) f (by omega) (by omega) (by omega) (by omega) with ⟨j, j1, j2, j3, j4⟩ | ⟨j1, j2⟩
      · refine Or.inl ⟨j, by omega, j2, fun i i1 i2 => ?_, j4⟩
        by_cases q : i = x
        · rw [q]; exact s1
        · exact j3 i (by omega) i2
      · refine Or.inr ⟨fun i i1 => ?_, j2⟩
        by_cases q : i = x
        · rw [q]; exact s1
        · exact j1 i (by omega)
theorem nextTry_eq (hG : md_goal T = nI goal) (hW : md_wanted T = nI y) (hg : goal ≤ 100) (hy : y ≤ 1000) (hn : n ≤ 12) (h1 : 1 ≤ p) (hp : p < n) (ha : ∀ i, i < p → md_tried T i = nI (e i)) (hm : ∀ i, i < p → e i ≤ goal) {v : Nat} (hv : e (p - 1) ≤ v) (hv2 : v ≤ goal) :
    (∃ j, v < j ∧ zCand goal y n e p j ∧ (∀ i, v < i → i < j → ¬ zCand goal y n e p i) ∧ fX8_nextTry T (nI v) (nI p) (nI n) = some (nI j)) ∨ ((∀ j, v < j → ¬ zCand goal y n e p j) ∧ fX8_nextTry T (nI v) (nI p) (nI n) = some (nI (goal + 1))) := by
  have e1 : nI p - 1 = nI (p - 1) := pk_sub (b := 1) h1
  have m1 := hm (p - 1) (by omega)
  unfold fX8_nextTry
  rw [e1, ix_nI (by omega) (by omega), nI_clamp (by omega), ha _ (by omega), hG, show (2 : Int32) * nI (e (p - 1)) = nI (2 * e (p - 1)) from pk_mul 2 _, nI_1]
  unfold fX8_nextTry_j39
  by_cases q : goal ≤ 2 * e (p - 1)
  · rw [if_pos (nI_le q (by omega))]
    exact next_l hG hW hg hy hn h1 hp ha hm (B := goal) q (Nat.le_refl _) (fun x _ h => h) _ (v + 1) FU rfl (FU_big _ (by omega)) (by omega) (by omega)
  · rw [if_neg (nI_ge (by omega) (by omega))]
    exact next_l hG hW hg hy hn h1 hp ha hm (B := 2 * e (p - 1)) (Nat.le_refl _) (by omega) (fun x h _ => h) _ (v + 1) FU rfl (FU_big _ (by omega)) (by omega) (by omega)
end NT
def zD : Nat → Nat
  | 0 => 0
  | d + 1 => 1 + 100 * (1 + zD d)
def zAF (T : zMd) (goal n p x : Nat) (F : Nat → Int32) (f : Nat) : Option (Int32 × zMd) :=
  if nI p = nI n - 1 then (if nI x = nI goal then some (1, md_set_tried T (upd F p (nI x))) else fX8_findsChain_l35 (nI n) f (nI p) (md_set_tried T (upd F p (nI x)))) else fX8_findsChain_l35 (nI n) f (nI (p + 1)) (md_set_tried T (upd (upd F p (nI x)) (p + 1) (nI x)))
theorem l35_step {T : zMd} {goal n p x v : Nat} {F : Nat → Int32} (hG : md_goal T = nI goal) (hg : goal ≤ 100) (hx : x ≤ goal) (h1 : 1 ≤ p) (hp : p < n) (hn : n ≤ 12) (hF : F p = nI v) (hN : fX8_nextTry (md_set_tried T F) (nI v) (nI p) (nI n) = some (nI x)) (f : Nat) : fX8_findsChain_l35 (nI n) (f + 1) (nI p) (md_set_tried T F) = zAF T goal n p x F f := by
  have hu : upd F p (nI x) p = nI x := by rw [upd_at, if_pos rfl]
  rw [fX8_findsChain_l35, if_neg (nI_nle h1 (by omega)), ix_nI (by omega) (by omega), nI_clamp (by omega), tr_at, hF, hN]
  rw [Option.bind_some]
  rw [hu, tr_goal, hG, if_pos (nI_le hx (by omega)), tr_tr, nI_1, nI_pred, ix_nI (by omega) (by omega), ix_nI (by omega) (by omega), nI_clamp (by omega), nI_clamp (by omega), hu, tr_tr]
  rfl
theorem l35_end {T : zMd} {goal n p v : Nat} {F : Nat → Int32} (hG : md_goal T = nI goal) (hg : goal ≤ 100) (h1 : 1 ≤ p) (hp : p < n) (hn : n ≤ 12) (hF : F p = nI v) (hN : fX8_nextTry (md_set_tried T F) (nI v) (nI p) (nI n) = some (nI (goal + 1))) (f : Nat) : fX8_findsChain_l35 (nI n) (f + 1) (nI p) (md_set_tried T F) = fX8_findsChain_l35 (nI n) f (nI (p - 1)) (md_set_tried T (upd F p (nI (goal + 1)))) := by
  have hu : upd F p (nI (goal + 1)) p = nI (goal + 1) := by rw [upd_at, if_pos rfl]
  have hd : nI p + (-1) = nI (p - 1) := by
    obtain ⟨p, rfl⟩ : ∃ k', p = k' + 1 := ⟨p - 1, by omega⟩
    exact pk_m1 p
  rw [fX8_findsChain_l35, if_neg (nI_nle h1 (by omega)), ix_nI (by omega) (by omega), nI_clamp (by omega), tr_at, hF, hN]
  rw [Option.bind_some]
  rw [hu, tr_goal, hG, if_neg (nI_ge (by omega) (by omega)), tr_tr, hd]
section LP
variable {T : zMd} {goal y n p d : Nat} {e : Nat → Nat}
theorem loop_in (hG : md_goal T = nI goal) (hW : md_wanted T = nI y) (hg : goal ≤ 100) (hy : y ≤ 1000) (hn : n ≤ 12) (h1 : 1 ≤ p) (hp : p < n) (hm : ∀ i, i < p → e i ≤ goal)
    (hD : ∀ x (F : Nat → Int32), zCand goal y n e p x → (∀ i, i < p → F i = nI (e i)) → (∃ b F' c, zSr goal y n d (zput1 e p x) (p + 1) = some b ∧ c ≤ zD d ∧ (∀ f, zAF T goal n p x F (f + c) = some (1, md_set_tried T F')) ∧ ∀ i, i < n → F' i = nI (b i)) ∨ (zSr goal y n d (zput1 e p x) (p + 1) = none ∧ ∃ F' c, c ≤ zD d ∧ (∀ i, i < p + 1 → F' i = nI (zput1 e p x i)) ∧ ∀ f, zAF T goal n p x F (f + c) = fX8_findsChain_l35 (nI n) f (nI p) (md_set_tried T F'))) :
    ∀ m v (F : Nat → Int32), goal - v ≤ m → v ≤ goal → e (p - 1) ≤ v → (∀ i, i < p → F i = nI (e i)) → F p = nI v →
      (∃ x b F' c, v < x ∧ x ≤ goal ∧ zIf (zCand goal y n e p x) (zSr goal y n d (zput1 e p x) (p + 1)) none = some b ∧ (∀ i, v < i → i < x → zIf (zCand goal y n e p i) (zSr goal y n d (zput1 e p i) (p + 1)) none = none) ∧ c ≤ 1 + m * (1 + zD d) ∧ (∀ f, fX8_findsChain_l35 (nI n) (f + c) (nI p) (md_set_tried T F) = some (1, md_set_tried T F')) ∧ ∀ i, i < n → F' i = nI (b i)) ∨
      ((∀ x, v < x → zIf (zCand goal y n e p x) (zSr goal y n d (zput1 e p x) (p + 1)) none = none) ∧ ∃ F' c, c ≤ 1 + m * (1 + zD d) ∧ (∀ i, i < p → F' i = nI (e i)) ∧ ∀ f, fX8_findsChain_l35 (nI n) (f + c) (nI p) (md_set_tried T F) = fX8_findsChain_l35 (nI n) f (nI (p - 1)) (md_set_tried T F')) := by
  have stop : ∀ m v (F : Nat → Int32), v ≤ goal → (∀ i, i < p → F i = nI (e i)) → F p = nI v → (∀ j, v < j → ¬ zCand goal y n e p j) → fX8_nextTry (md_set_tried T F) (nI v) (nI p) (nI n) = some (nI (goal + 1)) → ((∀ x, v < x → zIf (zCand goal y n e p x) (zSr goal y n d (zput1 e p x) (p + 1)) none = none) ∧ ∃ F' c, c ≤ 1 + m * (1 + zD d) ∧ (∀ i, i < p → F' i = nI (e i)) ∧ ∀ f, fX8_findsChain_l35 (nI n) (f + c) (nI p) (md_set_tried T F) = fX8_findsChain_l35 (nI n) f (nI (p - 1)) (md_set_tried T F')) := by
    intro m v F hv hF hFp hc hN
    refine ⟨fun x hx => zIf_neg (hc x hx) _ _, upd F p (nI (goal + 1)), 1, by omega, fun i hi => ?_, fun f => l35_end hG hg h1 hp hn hFp hN f⟩
    rw [upd_at, if_neg (by omega)]
    exact hF i hi
  intro m
  induction m with
  | zero =>
    intro v F hm1 hv hev hF hFp
    rcases nextTry_eq (T := md_set_tried T F) hG hW hg hy hn h1 hp hF hm hev hv with ⟨j, j1, j2, -, -⟩ | ⟨j1, j2⟩
    · have := j2.2.2.1
      omega
    · exact Or.inr (stop 0 v F hv hF hFp j1 j2)
  | succ m ih =>
    intro v F hm1 hv hev hF hFp
    rcases nextTry_eq (T := md_set_tried T F) hG hW hg hy hn h1 hp hF hm hev hv with ⟨j, j1, j2, j3, j4⟩ | ⟨j1, j2⟩
    · have jg := j2.2.2.1
      have hmul : (m + 1) * (1 + zD d) = m * (1 + zD d) + (1 + zD d) := Nat.succ_mul _ _
      have hst := l35_step hG hg jg h1 hp hn hFp j4
      rcases hD j F j2 hF with ⟨b, F', c, c1, c2, c3, c4⟩ | ⟨c1, F', c, c2, c3, c4⟩
      · refine Or.inl ⟨j, b, F', c + 1, j1, jg, by rw [zIf_pos j2, c1], fun i i1 i2 => zIf_neg (j3 i i1 i2) _ _, by omega, fun f => ?_, c4⟩
        rw [← Nat.add_assoc, hst, c3]
      · have hF' : ∀ i, i < p → F' i = nI (e i) := fun i hi => by rw [c3 i (by omega), ← zput1_ag e p j i hi]
        have hFp' : F' p = nI j := by rw [c3 p (by omega), zput1_at]
        have hj0 : zIf (zCand goal y n e p j) (zSr goal y n d (zput1 e p j) (p + 1)) none = none := by rw [zIf_pos j2, c1]
        have hbelow : ∀ i, v < i → i ≤ j → zIf (zCand goal y n e p i) (zSr goal y n d (zput1 e p i) (p + 1)) none = none := fun i i1 i2 => by
          by_cases q : i = j
          · rw [q]; exact hj0
          · exact zIf_neg (j3 i i1 (by omega)) _ _
        rcases ih j F' (by omega) jg (by omega) hF' hFp' with ⟨x, b, F2, c', x1, x2, x3, x4, x5, x6, x7⟩ | ⟨x1, F2, c', x2, x3, x4⟩
        · refine Or.inl ⟨x, b, F2, c' + c + 1, by omega, x2, x3, fun i i1 i2 => ?_, by omega, fun f => ?_, x7⟩
          · by_cases q : i ≤ j
            · exact hbelow i i1 q
            · exact x4 i (by omega) i2
          · rw [← Nat.add_assoc, ← Nat.add_assoc, hst, c4, x6]
        · refine Or.inr ⟨fun i i1 => ?_, F2, c' + c + 1, by omega, x3, fun f => ?_⟩
          · by_cases q : i ≤ j
            · exact hbelow i i1 q
            · exact x1 i (by omega)
          · rw [← Nat.add_assoc, ← Nat.add_assoc, hst, c4, x4]
    · exact Or.inr (stop (m + 1) v F hv hF hFp j1 j2)
end LP
theorem loop_l {T : zMd} {goal y n : Nat} (hG : md_goal T = nI goal) (hW : md_wanted T = nI y) (hg : goal ≤ 100) (hy : y ≤ 1000) (hn : n ≤ 12) :
    ∀ d p (e : Nat → Nat), p + d + 1 = n → 1 ≤ p → (∀ i, i < p → e i ≤ goal) → ∀ x (F : Nat → Int32), zCand goal y n e p x → (∀ i, i < p → F i = nI (e i)) → (∃ b F' c, zSr goal y n d (zput1 e p x) (p + 1) = some b ∧ c ≤ zD d ∧ (∀ f, zAF T goal n p x F (f + c) = some (1, md_set_tried T F')) ∧ ∀ i, i < n → F' i = nI (b i)) ∨ (zSr goal y n d (zput1 e p x) (p + 1) = none ∧ ∃ F' c, c ≤ zD d ∧ (∀ i, i < p + 1 → F' i = nI (zput1 e p x i)) ∧ ∀ f, zAF T goal n p x F (f + c) = fX8_findsChain_l35 (nI n) f (nI p) (md_set_tried T F')) := by
  intro d
  induction d with
  | zero =>
    intro p e hp h1 hm x F hc hF
    have e1 : nI p = nI n - 1 := by
      rw [← hp]
      exact (nI_pred p).symm
    have hx := hc.2.2.1
    rw [zSr, show p + 1 - 1 = p from by omega, zput1_at]
    unfold zAF
    by_cases q : x = goal
    · rw [zIf_pos q]
      refine Or.inl ⟨_, upd F p (nI x), 0, rfl, Nat.le_refl _, fun f => ?_, fun i hi => upd_pre hF i (by omega)⟩
      rw [if_pos e1, if_pos (by rw [q])]
    · rw [zIf_neg q]
      refine Or.inr ⟨rfl, upd F p (nI x), 0, Nat.le_refl _, upd_pre hF, fun f => ?_⟩
      rw [if_pos e1, if_neg (fun z => q ((nI_eq (by omega) (by omega)).mp z))]
      rfl
  | succ d ih =>
    intro p e hp h1 hm x F hc hF
    have hx := hc.2.2.1
    have ne1 : ¬ nI p = nI n - 1 := by
      rw [show nI n - 1 = nI (n - 1) from pk_sub (b := 1) (by omega)]
      exact fun z => by have := (nI_eq (by omega) (by omega)).mp z; omega
    have hm' : ∀ i, i < p + 1 → zput1 e p x i ≤ goal := fun i hi => by
      unfold zput1
      by_cases z : i = p
      · rw [if_pos z]; exact hx
      · rw [if_neg z]; exact hm i (by omega)
    have hF2 : ∀ i, i < p + 1 → upd (upd F p (nI x)) (p + 1) (nI x) i = nI (zput1 e p x i) := fun i hi => by
      rw [upd_at, if_neg (by omega)]
      exact upd_pre hF i hi
    have hat : zput1 e p x (p + 1 - 1) = x := by rw [show p + 1 - 1 = p from by omega, zput1_at]
    have hmul : (goal - x) * (1 + zD d) ≤ 100 * (1 + zD d) := Nat.mul_le_mul_right _ (by omega)
    rw [zSr, hat]
    unfold zAF
    rcases loop_in (d := d) hG hW hg hy hn (p := p + 1) (by omega) (by omega) hm' (ih (p + 1) (zput1 e p x) (by omega) (by omega) hm') (goal - x) x (upd (upd F p (nI x)) (p + 1) (nI x)) (Nat.le_refl _) hx (by rw [hat]; exact Nat.le_refl _) hF2 (by rw [upd_at, if_pos rfl]) with ⟨x', b, F', c, x1, x2, x3, x4, x5, x6, x7⟩ | ⟨x1, F', c, x2, x3, x4⟩
    · refine Or.inl ⟨b, F', c, zScn_hit _ _ x' (by omega) (by omega) x3 (fun i i1 i2 => x4 i (by omega) i2), by rw [zD]; omega, fun f => ?_, x7⟩
      rw [if_neg ne1, x6]
    · refine Or.inr ⟨zScn_no _ _ (fun i i1 i2 => x1 i (by omega)), F', c, by rw [zD]; omega, x3, fun f => ?_⟩
      rw [if_neg ne1, x4]
      rfl
theorem zD_le : ∀ d, d ≤ 11 → zD d ≤ zD 11 := by decide +kernel
theorem zD_FU : 100 * (1 + zD 11) + 10 < FU := Nat.le_of_ble_eq_true rfl
theorem finds_eq (T : zMd) {goal y n : Nat} (hG : md_goal T = nI goal) (hW : md_wanted T = nI y) (h1g : 1 ≤ goal) (hg : goal ≤ 100) (hy : y ≤ 1000) (h1 : 1 ≤ n) (hn : n ≤ 12) :
    (∃ b F', zFd goal y n = some b ∧ fX8_findsChain T (nI n) = some (1, md_set_tried T F') ∧ ∀ i, i < n → F' i = nI (b i)) ∨ (zFd goal y n = none ∧ ∃ F', fX8_findsChain T (nI n) = some (0, md_set_tried T F')) := by
  unfold fX8_findsChain
  rw [show ∀ k : Option (Int32 × zMd), ix 16 (0 : Int32) k = k from fun k => ix_nI (n := 16) (j := 0) (by omega) (by omega), show ∀ k : Option (Int32 × zMd), ix 16 (1 : Int32) k = k from fun k => ix_nI (n := 16) (j := 1) (by omega) (by omega), hG]
  by_cases q : n = 1
  · subst q
    have hF : ∀ i, i < 1 → upd (md_tried T) (0 : Int32).toNatClampNeg 1 i = nI ((fun _ => 1) i) := fun i hi => by
      rw [show i = 0 from by omega]; rfl
    rw [if_pos (show nI 1 = (1 : Int32) from rfl)]
    have hz : zFd goal y 1 = zIf (1 = goal) (some (fun _ => 1)) none := by
      unfold zFd
      rw [zSr]
    rw [hz]
    by_cases g : goal = 1
    · rw [zIf_pos g.symm, if_pos (show nI goal = (1 : Int32) from by rw [g]; rfl)]
      exact Or.inl ⟨_, _, rfl, rfl, hF⟩
    · rw [zIf_neg (fun z => g z.symm), if_neg (show ¬ nI goal = (1 : Int32) from fun z => g ((nI_eq (b := 1) (by omega) (by omega)).mp z))]
      exact Or.inr ⟨rfl, _, rfl⟩
  · rw [if_neg (show ¬ nI n = (1 : Int32) from fun z => q ((nI_eq (b := 1) (by omega) (by omega)).mp z)), tr_tr]
    obtain ⟨d, hd⟩ : ∃ d, n = d + 2 := ⟨n - 2, by omega⟩
    obtain ⟨F0, eF0⟩ : ∃ F0, F0 = upd (upd (md_tried T) (0 : Int32).toNatClampNeg 1) (1 : Int32).toNatClampNeg 1 := ⟨_, rfl⟩
    have f0 : ∀ i, i < 1 → F0 i = nI ((fun _ => 1) i) := fun i hi => by
      rw [show i = 0 from by omega, eF0]; rfl
    have f1 : F0 1 = nI 1 := by rw [eF0]; rfl
    rw [← eF0]
    have hz : zFd goal y n = zScn (fun x => zIf (zCand goal y n (fun _ => 1) 1 x) (zSr goal y n d (zput1 (fun _ => 1) 1 x) (1 + 1)) none) (goal - 1) 2 := by
      unfold zFd
      rw [show n - 1 = d + 1 from by omega, zSr]
    have hb := zD_le d (by omega)
    have hbF := zD_FU
    have hmul : (goal - 1) * (1 + zD d) ≤ 100 * (1 + zD 11) := Nat.mul_le_mul (by omega) (by omega)
    rw [hz]
    rcases loop_in (d := d) hG hW hg hy hn (p := 1) (e := fun _ => 1) (Nat.le_refl _) (by omega) (fun i hi => h1g) (loop_l hG hW hg hy hn d 1 _ (by omega) (Nat.le_refl _) (fun i hi => h1g)) (goal - 1) 1 F0 (Nat.le_refl _) h1g (Nat.le_refl _) f0 f1 with ⟨x', b, F', c, x1, x2, x3, x4, x5, x6, x7⟩ | ⟨x1, F', c, x2, x3, x4⟩
    · refine Or.inl ⟨b, F', zScn_hit _ _ x' (by omega) (by omega) x3 (fun i i1 i2 => x4 i (by omega) i2), ?_, x7⟩
      have := x6 (FU - c)
      rw [show FU - c + c = FU from by omega] at this
      exact this
    · refine Or.inr ⟨zScn_no _ _ (fun i i1 i2 => x1 i (by omega)), F', ?_⟩
      have := x4 (FU - c - 1 + 1)
      rw [show FU - c - 1 + 1 + c = FU from by omega] at this
      refine Eq.trans this ?_
      rw [fX8_findsChain_l35, if_pos (show nI (1 - 1) ≤ (0 : Int32) from by decide)]
