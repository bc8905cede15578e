/-! a search: what it answers when one hits, and when none does; the row that is judged -/
theorem zscan {α : Type} (g : Nat → Int32 → Option α) (p : Nat) (hit : Nat → Prop) (a b : Option α) (hend : ∀ n, g (n + 1) (nI p) = a)
    (hstep : ∀ n i, i < p → (hit i ∧ g (n + 1) (nI i) = b) ∨ (¬ hit i ∧ g (n + 1) (nI i) = g n (nI (i + 1)))) :
    ∀ d i k, i + d = p → d < k → ((∃ j, i ≤ j ∧ j < p ∧ hit j) ∧ g k (nI i) = b) ∨ ((∀ j, i ≤ j → j < p → ¬ hit j) ∧ g k (nI i) = a) := by
  intro d
  induction d with
  | zero =>
    intro i k hi hk
    obtain ⟨k', rfl⟩ : ∃ k', k = k' + 1 := ⟨k - 1, by omega⟩
    have e : i = p := by omega
    rw [e]
    exact Or.inr ⟨fun j h1 h2 => absurd h2 (by omega), hend k'⟩
  | succ d ih =>
    intro i k hi hk
    obtain ⟨k', rfl⟩ : ∃ k', k = k' + 1 := ⟨k - 1, by omega⟩
    rcases hstep k' i (by omega) with ⟨h1, h2⟩ | ⟨h1, h2⟩
    · exact Or.inl ⟨⟨i, Nat.le_refl _, by omega, h1⟩, h2⟩
    · rw [h2]
      rcases ih (i + 1) k' (by omega) (by omega) with ⟨⟨j, x1, x2, x3⟩, x4⟩ | ⟨x1, x2⟩
      · exact Or.inl ⟨⟨j, by omega, x2, x3⟩, x4⟩
      · refine Or.inr ⟨fun j y1 y2 => ?_, x2⟩
        by_cases q : j = i
        · rw [q]; exact h1
        · exact x1 j (by omega) y2
theorem FU_1 : ∃ n, FU = n + 1 := ⟨FU - 1, by unfold FU; omega⟩
section JG
variable {S : zRw} {T : zMd} {k : Nat}
theorem toldR (hk : k ≤ 12) (h : rw_length S = nI k) {i : Nat} (hi : i < k) : fX6_toldAt_R S (nI i) = some (rw_all S i) := by
  unfold fX6_toldAt_R
  rw [if_neg (nI_pos (by omega)), h, if_neg (nI_ge hi (by omega)), ix_nI (by omega) (by omega), nI_clamp (by omega)]
theorem isNew_eq (hk : k ≤ 12) (h : rw_length S = nI k) {p : Nat} (hp : p < k) : ((∃ i, i < p ∧ rw_all S i = rw_all S p) ∧ fX4_isNew S (nI p) = some 0) ∨ ((∀ i, i < p → ¬ rw_all S i = rw_all S p) ∧ fX4_isNew S (nI p) = some 1) := by
  rcases zscan (fun n v => fX4_isNew_l2 S (nI p) n v) p (fun i => rw_all S i = rw_all S p) (some 1) (some 0)
    (fun n => by
      show fX4_isNew_l2 S (nI p) (n + 1) (nI p) = some 1
      rw [fX4_isNew_l2, if_pos (nI_le (by omega) (by omega))])
    (fun n i hi => by
      show _ ∨ _ ∧ fX4_isNew_l2 S (nI p) (n + 1) (nI i) = fX4_isNew_l2 S (nI p) n (nI (i + 1))
      by_cases q : rw_all S i = rw_all S p
      · refine Or.inl ⟨q, ?_⟩
        show fX4_isNew_l2 S (nI p) (n + 1) (nI i) = some 0
        rw [fX4_isNew_l2, if_neg (nI_ge hi (by omega)), toldR hk h (by omega), toldR hk h hp]
        repeat rw [Option.bind_some]
        rw [if_pos q]
      · refine Or.inr ⟨q, ?_⟩
        rw [fX4_isNew_l2, if_neg (nI_ge hi (by omega)), toldR hk h (by omega), toldR hk h hp]
        repeat rw [Option.bind_some]
        rw [if_neg q, nI_1]) p 0 FU (by omega) (FU_big _ (by omega)) with ⟨⟨j, -, x2, x3⟩, x4⟩ | ⟨x1, x2⟩
  · exact Or.inl ⟨⟨j, x2, x3⟩, x4⟩
  · exact Or.inr ⟨fun i hi => x1 i (by omega) hi, x2⟩
theorem isSumR_in (hk : k ≤ 12) (h : rw_length S = nI k) {p i : Nat} (hp : p < k) (hi : i ≤ p) (K : Int32 → Option Int32) : ((∃ j, i ≤ j ∧ j < p ∧ rw_all S i + rw_all S j = rw_all S p) ∧ fX4_isSum_l9 S (nI p) (nI i) K FU (nI i) = some 1) ∨ ((∀ j, i ≤ j → j < p → ¬ rw_all S i + rw_all S j = rw_all S p) ∧ fX4_isSum_l9 S (nI p) (nI i) K FU (nI i) = K (nI (i + 1))) :=
  zscan (fun n v => fX4_isSum_l9 S (nI p) (nI i) K n v) p (fun j => rw_all S i + rw_all S j = rw_all S p) (K (nI (i + 1))) (some 1)
    (fun n => by
      show fX4_isSum_l9 S (nI p) (nI i) K (n + 1) (nI p) = _
      rw [fX4_isSum_l9, if_pos (nI_le (by omega) (by omega)), nI_1])
    (fun n j hj => by
      show _ ∨ _ ∧ fX4_isSum_l9 S (nI p) (nI i) K (n + 1) (nI j) = fX4_isSum_l9 S (nI p) (nI i) K n (nI (j + 1))
      by_cases q : rw_all S i + rw_all S j = rw_all S p
      · refine Or.inl ⟨q, ?_⟩
        show fX4_isSum_l9 S (nI p) (nI i) K (n + 1) (nI j) = some 1
        rw [fX4_isSum_l9, if_neg (nI_ge hj (by omega)), toldR hk h (by omega), toldR hk h (by omega), toldR hk h hp]
        repeat rw [Option.bind_some]
        rw [if_pos q]
      · refine Or.inr ⟨q, ?_⟩
        rw [fX4_isSum_l9, if_neg (nI_ge hj (by omega)), toldR hk h (by omega), toldR hk h (by omega), toldR hk h hp]
        repeat rw [Option.bind_some]
        rw [if_neg q, nI_1]) (p - i) i FU (by omega) (FU_big _ (by omega))
theorem isSumR_eq (hk : k ≤ 12) (h : rw_length S = nI k) {p : Nat} (hp : p < k) : ((∃ i j, i ≤ j ∧ j < p ∧ rw_all S i + rw_all S j = rw_all S p) ∧ fX4_isSum S (nI p) = some 1) ∨ ((∀ i j, i ≤ j → j < p → ¬ rw_all S i + rw_all S j = rw_all S p) ∧ fX4_isSum S (nI p) = some 0) := by
  rcases zscan (fun n v => fX4_isSum_l2 S (nI p) n v) p (fun i => ∃ j, i ≤ j ∧ j < p ∧ rw_all S i + rw_all S j = rw_all S p) (some 0) (some 1)
    (fun n => by
      show fX4_isSum_l2 S (nI p) (n + 1) (nI p) = some 0
      rw [fX4_isSum_l2, if_pos (nI_le (by omega) (by omega))])
    (fun n i hi => by
      show _ ∧ fX4_isSum_l2 S (nI p) (n + 1) (nI i) = some 1 ∨ _ ∧ fX4_isSum_l2 S (nI p) (n + 1) (nI i) = fX4_isSum_l2 S (nI p) n (nI (i + 1))
      rw [fX4_isSum_l2, if_neg (nI_ge hi (by omega))]
      rcases isSumR_in hk h hp (i := i) (by omega) (fX4_isSum_l2 S (nI p) n) with ⟨x1, x2⟩ | ⟨x1, x2⟩
      · exact Or.inl ⟨x1, x2⟩
      · exact Or.inr ⟨fun ⟨j, y1, y2, y3⟩ => x1 j y1 y2 y3, x2⟩) p 0 FU (by omega) (FU_big _ (by omega)) with ⟨⟨i, -, -, j, x1, x2, x3⟩, x4⟩ | ⟨x1, x2⟩
  · exact Or.inl ⟨⟨i, j, x1, x2, x3⟩, x4⟩
  · exact Or.inr ⟨fun i j y1 y2 y3 => x1 i (by omega) (by omega) ⟨j, y1, y2, y3⟩, x2⟩
theorem isWell_in {p i : Nat} (hp : p < 12) (hi : i < p) (K : Int32 → Int32 → Option Int32) : ∀ d j n (v : Int32), j + d = p → d < n → (v = 0 ∨ v = 1) →
    ((v = 1 ∨ ∃ l, j ≤ l ∧ l < p ∧ md_row T i + md_row T l = md_row T p) ∧ fX8_isWell_l47 T (nI p) (nI i) K n v (nI j) = K 1 (nI (i + 1))) ∨ ((v = 0 ∧ ∀ l, j ≤ l → l < p → ¬ md_row T i + md_row T l = md_row T p) ∧ fX8_isWell_l47 T (nI p) (nI i) K n v (nI j) = K 0 (nI (i + 1))) := by
  intro d
  induction d with
  | zero =>
    intro j n v hj hn hv
    obtain ⟨n, rfl⟩ : ∃ k', n = k' + 1 := ⟨n - 1, by omega⟩
    rw [fX8_isWell_l47, if_pos (nI_le (by omega) (by omega)), nI_1]
    rcases hv with rfl | rfl
    · exact Or.inr ⟨⟨rfl, fun l h1 h2 => absurd h2 (by omega)⟩, rfl⟩
    · exact Or.inl ⟨Or.inl rfl, rfl⟩
  | succ d ih =>
    intro j n v hj hn hv
    obtain ⟨n, rfl⟩ : ∃ k', n = k' + 1 := ⟨n - 1, by omega⟩
    rw [fX8_isWell_l47, if_neg (nI_ge (by omega) (by omega)), ix_nI (by omega) (by omega), ix_nI (by omega) (by omega), ix_nI (by omega) (by omega), nI_clamp (by omega), nI_clamp (by omega), nI_clamp (by omega), nI_1]
    by_cases q : md_row T i + md_row T j = md_row T p
    · rw [if_pos q]
      have e : v ||| (1 : Int32) = 1 := by rcases hv with rfl | rfl <;> rfl
      rw [e]
      rcases ih (j + 1) n 1 (by omega) (by omega) (Or.inr rfl) with ⟨-, x2⟩ | ⟨⟨x1, -⟩, -⟩
      · exact Or.inl ⟨Or.inr ⟨j, Nat.le_refl _, by omega, q⟩, x2⟩
      · exact absurd x1 (by decide)
    · rw [if_neg q]
      have e : v ||| (0 : Int32) = v := by rcases hv with rfl | rfl <;> rfl
      rw [e]
      rcases ih (j + 1) n v (by omega) (by omega) hv with ⟨x1, x2⟩ | ⟨⟨x0, x1⟩, x2⟩
      · refine Or.inl ⟨?_, x2⟩
        rcases x1 with z | ⟨l, y1, y2, y3⟩
        · exact Or.inl z
        · exact Or.inr ⟨l, by omega, y2, y3⟩
      · refine Or.inr ⟨⟨x0, fun l y1 y2 => ?_⟩, x2⟩
        by_cases z : l = j
        · rw [z]; exact q
        · exact x1 l (by omega) y2
theorem isWell_out {p : Nat} (hp : p < 12) : ∀ d i n (v : Int32), i + d = p → d < n → (v = 0 ∨ v = 1) →
    (((∀ l, i ≤ l → l < p → ¬ md_row T l = md_row T p) ∧ (v = 1 ∨ ∃ l m, i ≤ l ∧ l ≤ m ∧ m < p ∧ md_row T l + md_row T m = md_row T p)) ∧ fX8_isWell_l22 T (nI p) n v (nI i) = some 1) ∨
    (¬ ((∀ l, i ≤ l → l < p → ¬ md_row T l = md_row T p) ∧ (v = 1 ∨ ∃ l m, i ≤ l ∧ l ≤ m ∧ m < p ∧ md_row T l + md_row T m = md_row T p)) ∧ fX8_isWell_l22 T (nI p) n v (nI i) = some 0) := by
  intro d
  induction d with
  | zero =>
    intro i n v hi hn hv
    obtain ⟨n, rfl⟩ : ∃ k', n = k' + 1 := ⟨n - 1, by omega⟩
    rw [fX8_isWell_l22, if_pos (nI_le (by omega) (by omega))]
    rcases hv with rfl | rfl
    · refine Or.inr ⟨fun ⟨_, z⟩ => ?_, rfl⟩
      rcases z with z | ⟨l, m, y1, y2, y3, _⟩
      · exact absurd z (by decide)
      · omega
    · exact Or.inl ⟨⟨fun l h1 h2 => absurd h2 (by omega), Or.inl rfl⟩, rfl⟩
  | succ d ih =>
    intro i n v hi hn hv
    obtain ⟨n, rfl⟩ : ∃ k', n = k' + 1 := ⟨n - 1, by omega⟩
    rw [fX8_isWell_l22, if_neg (nI_ge (by omega) (by omega)), ix_nI (by omega) (by omega), ix_nI (by omega) (by omega), nI_clamp (by omega), nI_clamp (by omega)]
    by_cases q : md_row T i = md_row T p
    · rw [if_pos q]
      exact Or.inr ⟨fun ⟨z, _⟩ => z i (by omega) (by omega) q, rfl⟩
    · rw [if_neg q]
      have H : ∀ u : Int32, (u = 0 ∨ u = 1) → (u = 1 ↔ (v = 1 ∨ ∃ l, i ≤ l ∧ l < p ∧ md_row T i + md_row T l = md_row T p)) → fX8_isWell_l47 T (nI p) (nI i) (fX8_isWell_l22 T (nI p) n) FU v (nI i) = fX8_isWell_l22 T (nI p) n u (nI (i + 1)) →
        (((∀ l, i ≤ l → l < p → ¬ md_row T l = md_row T p) ∧ (v = 1 ∨ ∃ l m, i ≤ l ∧ l ≤ m ∧ m < p ∧ md_row T l + md_row T m = md_row T p)) ∧ fX8_isWell_l47 T (nI p) (nI i) (fX8_isWell_l22 T (nI p) n) FU v (nI i) = some 1) ∨
        (¬ ((∀ l, i ≤ l → l < p → ¬ md_row T l = md_row T p) ∧ (v = 1 ∨ ∃ l m, i ≤ l ∧ l ≤ m ∧ m < p ∧ md_row T l + md_row T m = md_row T p)) ∧ fX8_isWell_l47 T (nI p) (nI i) (fX8_isWell_l22 T (nI p) n) FU v (nI i) = some 0) := by
        intro u hu hiff he
        rw [he]
        rcases ih (i + 1) n u (by omega) (by omega) hu with ⟨⟨x1, x2⟩, x3⟩ | ⟨x1, x3⟩
        · refine Or.inl ⟨⟨fun l h1 h2 => ?_, ?_⟩, x3⟩
          · by_cases z : l = i
            · rw [z]; exact q
            · exact x1 l (by omega) h2
          · rcases x2 with z | ⟨l, m, y1, y2, y3, y4⟩
            · rcases hiff.mp z with z | ⟨l, y1, y2, y3⟩
              · exact Or.inl z
              · exact Or.inr ⟨i, l, by omega, y1, y2, y3⟩
            · exact Or.inr ⟨l, m, by omega, y2, y3, y4⟩
        · refine Or.inr ⟨fun ⟨z1, z2⟩ => x1 ⟨fun l h1 h2 => z1 l (by omega) h2, ?_⟩, x3⟩
          rcases z2 with z | ⟨l, m, y1, y2, y3, y4⟩
          · exact Or.inl (hiff.mpr (Or.inl z))
          · by_cases z : l = i
            · subst z
              exact Or.inl (hiff.mpr (Or.inr ⟨m, y2, y3, y4⟩))
            · exact Or.inr ⟨l, m, by omega, y2, y3, y4⟩
      rcases isWell_in (T := T) hp (i := i) (by omega) (fX8_isWell_l22 T (nI p) n) (p - i) i FU v (by omega) (FU_big _ (by omega)) hv with ⟨x1, x2⟩ | ⟨⟨x0, x1⟩, x2⟩
      · exact H 1 (Or.inr rfl) ⟨fun _ => x1, fun _ => rfl⟩ x2
      · refine H 0 (Or.inl rfl) ⟨fun z => absurd z (by decide), fun z => ?_⟩ x2
        rcases z with z | ⟨l, y1, y2, y3⟩
        · rw [x0] at z; exact absurd z (by decide)
        · exact absurd y3 (x1 l y1 y2)
def zWell (a : Nat → Int32) (p : Nat) : Prop := (p = 0 ∧ a 0 = 1) ∨ (0 < p ∧ (∀ i, i < p → ¬ a i = a p) ∧ ∃ i j, i ≤ j ∧ j < p ∧ a i + a j = a p)
theorem isWell_eq {p : Nat} (hp : p < 12) : (zWell (md_row T) p ∧ fX8_isWell T (nI p) = some 1) ∨ (¬ zWell (md_row T) p ∧ fX8_isWell T (nI p) = some 0) := by
  by_cases q : p = 0
  · subst q
    unfold fX8_isWell
    rw [if_pos (show nI 0 = (0 : Int32) from rfl), show ix 12 (0 : Int32) = @ix Int32 12 (nI 0) from rfl, ix_nI (by omega) (by omega), show ((0 : Int32)).toNatClampNeg = 0 from rfl]
    by_cases e : md_row T 0 = 1
    · rw [if_pos e]
      refine Or.inl ⟨Or.inl ⟨rfl, e⟩, ?_⟩
      unfold fX8_isWell_j19
      rcases isWell_out (T := T) hp 0 0 FU 1 (by omega) (FU_big _ (by omega)) (Or.inr rfl) with ⟨-, x⟩ | ⟨x, -⟩
      · exact x
      · exact absurd ⟨fun l h1 h2 => absurd h2 (by omega), Or.inl rfl⟩ x
    · rw [if_neg e]
      refine Or.inr ⟨fun z => ?_, ?_⟩
      · rcases z with ⟨_, z⟩ | ⟨z, _⟩
        · exact e z
        · omega
      · unfold fX8_isWell_j18 fX8_isWell_j19
        rcases isWell_out (T := T) hp 0 0 FU 0 (by omega) (FU_big _ (by omega)) (Or.inl rfl) with ⟨⟨_, x⟩, _⟩ | ⟨_, x⟩
        · rcases x with x | ⟨l, m, y1, y2, y3, _⟩
          · exact absurd x (by decide)
          · omega
        · exact x
  · unfold fX8_isWell
    rw [if_neg (nI_ne0 (by omega) (by omega))]
    unfold fX8_isWell_j18 fX8_isWell_j19
    rcases isWell_out (T := T) hp p 0 FU 0 (by omega) (FU_big _ (by omega)) (Or.inl rfl) with ⟨⟨x1, x2⟩, x3⟩ | ⟨x1, x3⟩
    · refine Or.inl ⟨Or.inr ⟨by omega, fun i hi => x1 i (by omega) hi, ?_⟩, x3⟩
      rcases x2 with x2 | ⟨l, m, y1, y2, y3, y4⟩
      · exact absurd x2 (by decide)
      · exact ⟨l, m, y2, y3, y4⟩
    · refine Or.inr ⟨fun z => x1 ?_, x3⟩
      rcases z with ⟨z, _⟩ | ⟨_, z1, l, m, y2, y3, y4⟩
      · omega
      · exact ⟨fun i _ hi => z1 i hi, Or.inr ⟨l, m, by omega, y2, y3, y4⟩⟩
theorem firstWrong_l (hk : k ≤ 12) (h : rw_length S = nI k) (hs : ∀ i, i < k → rw_all S i = md_row T i) : ∀ d i n, i + d = k → d < n → ∃ r, fX4_firstWrong_l2 S n (nI i) = some r ∧ fX8_judge_l12 (nI k) T n (nI i) = some (r, T) := by
  intro d
  induction d with
  | zero =>
    intro i n hi hn
    obtain ⟨n, rfl⟩ : ∃ k', n = k' + 1 := ⟨n - 1, by omega⟩
    refine ⟨-9, ?_, ?_⟩
    · rw [fX4_firstWrong_l2, show fX6_howMany_R S = nI k from h, if_pos (nI_le (by omega) (by omega))]
    · rw [fX8_judge_l12, if_pos (nI_le (by omega) (by omega))]
  | succ d ih =>
    intro i n hi hn
    obtain ⟨n, rfl⟩ : ∃ k', n = k' + 1 := ⟨n - 1, by omega⟩
    obtain ⟨r, e1, e2⟩ := ih (i + 1) n (by omega) (by omega)
    have gw : fX4_firstWrong_j52 S (nI i) 0 (fX4_firstWrong_l2 S n) = some (nI i) := by
      unfold fX4_firstWrong_j52
      rw [if_pos rfl]
    have go : fX4_firstWrong_j52 S (nI i) 1 (fX4_firstWrong_l2 S n) = some r := by
      unfold fX4_firstWrong_j52
      rw [if_neg (by decide), nI_1, e1]
    have hz : (zWell (md_row T) i ∧ fX4_firstWrong_l2 S (n + 1) (nI i) = some r) ∨ (¬ zWell (md_row T) i ∧ fX4_firstWrong_l2 S (n + 1) (nI i) = some (nI i)) := by
      rw [fX4_firstWrong_l2, show fX6_howMany_R S = nI k from h, if_neg (nI_ge (by omega) (by omega))]
      by_cases q : i = 0
      · subst q
        rw [if_pos (show nI 0 = (0 : Int32) from rfl), show fX6_toldAt_R S (0 : Int32) = fX6_toldAt_R S (nI 0) from rfl, toldR hk h (by omega), hs 0 (by omega)]
        repeat rw [Option.bind_some]
        by_cases e : md_row T 0 = 1
        · rw [if_pos e]
          exact Or.inl ⟨Or.inl ⟨rfl, e⟩, go⟩
        · rw [if_neg e]
          refine Or.inr ⟨fun z => ?_, gw⟩
          rcases z with ⟨_, z⟩ | ⟨z, _⟩
          · exact e z
          · omega
      · rw [if_neg (nI_ne0 (by omega) (by omega))]
        unfold fX4_firstWrong_j51
        rcases isNew_eq hk h (p := i) (by omega) with ⟨⟨j, x1, x2⟩, x3⟩ | ⟨x1, x3⟩
        · rw [x3]
          repeat rw [Option.bind_some]
          rw [if_pos (show (0 : Int32) = 0 from rfl)]
          refine Or.inr ⟨fun z => ?_, gw⟩
          rcases z with ⟨z, _⟩ | ⟨_, z, _⟩
          · exact q z
          · exact z j x1 (by rw [← hs j (by omega), ← hs i (by omega)]; exact x2)
        · rw [x3]
          repeat rw [Option.bind_some]
          rw [if_neg (show ¬ (1 : Int32) = 0 from by decide)]
          rcases isSumR_eq hk h (p := i) (by omega) with ⟨⟨j, l, y1, y2, y3⟩, y4⟩ | ⟨y1, y4⟩
          · rw [y4]
            repeat rw [Option.bind_some]
            rw [if_neg (show ¬ (1 : Int32) = 0 from by decide)]
            refine Or.inl ⟨Or.inr ⟨by omega, fun m hm => ?_, j, l, y1, y2, ?_⟩, go⟩
            · rw [← hs m (by omega), ← hs i (by omega)]; exact x1 m hm
            · rw [← hs j (by omega), ← hs l (by omega), ← hs i (by omega)]; exact y3
          · rw [y4]
            repeat rw [Option.bind_some]
            rw [if_pos (show (0 : Int32) = 0 from rfl)]
            refine Or.inr ⟨fun z => ?_, gw⟩
            rcases z with ⟨z, _⟩ | ⟨_, _, j, l, z1, z2, z3⟩
            · exact q z
            · exact y1 j l z1 z2 (by rw [hs j (by omega), hs l (by omega), hs i (by omega)]; exact z3)
    have hm : fX8_judge_l12 (nI k) T (n + 1) (nI i) = (fX8_isWell T (nI i)).bind fun u2 => if u2 = 0 then some (nI i, T) else fX8_judge_l12 (nI k) T n (nI i + 1) := by
      rw [fX8_judge_l12, if_neg (nI_ge (by omega) (by omega))]
    rcases isWell_eq (T := T) (p := i) (by omega) with ⟨x1, x2⟩ | ⟨x1, x2⟩
    · rcases hz with ⟨_, y⟩ | ⟨y, _⟩
      · refine ⟨r, y, ?_⟩
        rw [hm, x2]
        repeat rw [Option.bind_some]
        rw [if_neg (show ¬ (1 : Int32) = 0 from by decide), nI_1, e2]
      · exact absurd x1 y
    · rcases hz with ⟨y, _⟩ | ⟨_, y⟩
      · exact absurd y x1
      · refine ⟨nI i, y, ?_⟩
        rw [hm, x2]
        repeat rw [Option.bind_some]
        rw [if_pos (show (0 : Int32) = 0 from rfl)]
end JG
theorem sim_judge : zSim_judge RT := by
  intro M T h
  have hr := h
  obtain ⟨h1, h2, h3, ⟨k, hk, ek, ek2, hs⟩, h5, h6⟩ := h
  obtain ⟨r, e1, e2⟩ := firstWrong_l (S := mn_told M) (T := md_set_rowMany T 0) hk ek hs k 0 FU (by omega) (FU_big _ (by omega))
  refine ⟨r, mn_set_told M (fX6_forget_R (mn_told M)), md_set_rowMany T 0, ?_, ?_, RT.of hr rfl rfl rfl rfl ⟨rfl, rfl, rfl, rfl, rfl, rfl, rfl, rfl, rfl, rfl, rfl⟩ rfl rfl h3 ⟨0, by omega, rfl, rfl, fun i hi => absurd hi (by omega)⟩ h5⟩
  · unfold fX7_judge fX4_firstWrong
    rw [show (0 : Int32) = nI 0 from rfl, e1]; rfl
  · unfold fX8_judge
    rw [ek2]
    exact e2
