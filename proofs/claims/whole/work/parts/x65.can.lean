/-! how many can be had: what is within reach -/
def zRe (k x : Nat) : Prop := ∃ m c, 1 ≤ m ∧ m ≤ k ∧ zVal c m ∧ c (m - 1) = x
def zMk (k : Nat) : Nat := [0, 2, 6, 30, 382, 71678, 4313317374, 18447026748592750590].getD k 0
def zEn (mk : Nat) : Nat → List Nat → Bool
  | 0, l => mk.testBit (l.headD 0)
  | d + 1, l => mk.testBit (l.headD 0) && (List.range (l.headD 0)).all (fun i => (!(l.any fun a => l.any fun b => a + b == l.headD 0 + 1 + i)) || zEn mk d ((l.headD 0 + 1 + i) :: l))
theorem zEn_ok (mk : Nat) {m : Nat} {c : Nat → Nat} (hv : zVal c m) : ∀ d (l : List Nat) p, zEn mk d l = true → (∀ i, i < p → c i ∈ l) → l.headD 0 = c (p - 1) → 1 ≤ p → p ≤ m → m ≤ p + d → mk.testBit (c (m - 1)) = true := by
  intro d
  induction d with
  | zero =>
    intro l p h hl hh h1 hp hm
    rw [zEn, hh] at h
    rw [show m = p from by omega]
    exact h
  | succ d ih =>
    intro l p h hl hh h1 hp hm
    rw [zEn, Bool.and_eq_true, List.all_eq_true, hh] at h
    by_cases q : m = p
    · rw [q]; exact h.1
    · obtain ⟨a1, j, k, a2, a3, a4⟩ := hv.2 p h1 (by omega)
      have a5 := hv.dbl (i := p) h1 (by omega)
      have h2 := h.2 (c p - c (p - 1) - 1) (List.mem_range.mpr (by omega))
      rw [show c (p - 1) + 1 + (c p - c (p - 1) - 1) = c p from by omega, Bool.or_eq_true] at h2
      rcases h2 with z | z
      · exfalso
        have : (l.any fun a => l.any fun b => a + b == c p) = true := by
          rw [List.any_eq_true]
          refine ⟨c j, hl j (by omega), ?_⟩
          rw [List.any_eq_true]
          exact ⟨c k, hl k a3, by rw [a4]; exact beq_self_eq_true _⟩
        rw [this] at z
        cases z
      · refine ih (c p :: l) (p + 1) z (fun i hi => ?_) rfl (by omega) (by omega) (by omega)
        by_cases y : i = p
        · rw [y]; exact List.mem_cons_self
        · exact List.mem_cons_of_mem _ (hl i (by omega))
theorem zMk_all : ∀ k, k < 8 → 1 ≤ k → zEn (zMk k) (k - 1) [1] = true := by decide +kernel
theorem zMk_in : ∀ k, k < 8 → ∀ x, x < 66 → (zMk k).testBit x = true → 1 ≤ x ∧ (zTabF.getD (x - 1) []).length ≤ k := by decide +kernel
theorem zRe_iff {k x : Nat} (h1 : 1 ≤ k) (hk : k ≤ 7) (hx : x < 66) : zRe k x ↔ (zMk k).testBit x = true := by
  constructor
  · rintro ⟨m, c, m1, m2, m3, rfl⟩
    exact zEn_ok (zMk k) m3 (k - 1) [1] 1 (zMk_all k (by omega) h1) (fun i hi => by
      rw [show i = 0 from by omega, m3.1]; exact List.mem_cons_self) m3.1.symm (Nat.le_refl _) m1 (by omega)
  · intro h
    obtain ⟨x1, x2⟩ := zMk_in k (by omega) x hx h
    have hc := zChk_ok (zTabF_ok (x - 1) (by omega))
    exact ⟨_, _, hc.1, x2, hc.2.2.1, by rw [hc.2.2.2.2]; omega⟩
/-! the class's bits -/
def zLb (M : Int64) (q : Nat) : Bool := M.toBitVec.getLsbD q
theorem zLb_or (A B : Int64) (q : Nat) : zLb (A ||| B) q = (zLb A q || zLb B q) := by
  unfold zLb
  rw [Int64.toBitVec_or, BitVec.getLsbD_or]
theorem zLb_one' : ∀ x, x < 64 → ((1 : Int64) <<< ((nI (x + 1) - 1).toInt64 &&& 63)).toBitVec = BitVec.ofNat 64 (2 ^ x) := by decide +kernel
theorem zLb_one {x q : Nat} (h1 : 1 ≤ x) (hx : x ≤ 64) (hq : q < 64) : zLb ((1 : Int64) <<< ((nI x - 1).toInt64 &&& 63)) q = true ↔ q + 1 = x := by
  obtain ⟨x, rfl⟩ : ∃ k', x = k' + 1 := ⟨x - 1, by omega⟩
  unfold zLb
  rw [zLb_one' x (by omega), BitVec.getLsbD_ofNat, Nat.testBit_two_pow, Bool.and_eq_true, decide_eq_true_eq, decide_eq_true_eq]
  omega
theorem reached_l {n : Nat} (hn : n ≤ 7) : ∀ d p D (e : Nat → Nat) (a : Nat → Int32), p + d = n → 1 ≤ p → d < D → (∀ i, i < p → a i = nI (e i)) → zVal e p →
    ∃ M a', fX0_reached D a (nI p) (nI n) = some (M, a') ∧ (∀ i, i < p → a' i = nI (e i)) ∧ ∀ q, q < 64 → (zLb M q = true ↔ ∃ m c, p ≤ m ∧ m ≤ n ∧ zVal c m ∧ zAg c e p ∧ c (m - 1) = q + 1) := by
  intro d
  induction d with
  | zero =>
    intro p D e a hp h1 hD ha hv
    obtain ⟨D, rfl⟩ : ∃ k', D = k' + 1 := ⟨D - 1, by omega⟩
    have e1 : nI p - 1 = nI (p - 1) := pk_sub (b := 1) h1
    have l1 := hv.one (i := p - 1) (by omega)
    have l2 : e (p - 1) ≤ 64 := Nat.le_trans (hv.pow (by omega)) (show 2 ^ (p - 1) ≤ 2 ^ 6 from Nat.pow_le_pow_right (by omega) (by omega))
    rw [fX0_reached]
    unfold fX0_reached_e
    rw [if_neg (show ¬ nI p < (1 : Int32) from nI_nlt (b := 1) h1 (by omega)), if_pos (show nI p ≤ (12 : Int32) from nI_le (b := 12) (by omega) (by omega)), e1, ix_nI (by omega) (by omega), nI_clamp (by omega), ha _ (by omega), if_pos (nI_le (by omega) (by omega))]
    refine ⟨_, a, rfl, ha, fun q hq => ?_⟩
    rw [zLb_one l1 l2 hq]
    constructor
    · intro z
      exact ⟨p, e, Nat.le_refl _, by omega, hv, fun i _ => rfl, z.symm⟩
    · rintro ⟨m, c, m1, m2, m3, m4, m5⟩
      rw [show m = p from by omega, m4 _ (by omega)] at m5
      exact m5.symm
  | succ d ih =>
    intro p D e a hp h1 hD ha hv
    obtain ⟨D, rfl⟩ : ∃ k', D = k' + 1 := ⟨D - 1, by omega⟩
    have e1 : nI p - 1 = nI (p - 1) := pk_sub (b := 1) h1
    have l1 := hv.one (i := p - 1) (by omega)
    have l2 : e (p - 1) ≤ 64 := Nat.le_trans (hv.pow (by omega)) (show 2 ^ (p - 1) ≤ 2 ^ 6 from Nat.pow_le_pow_right (by omega) (by omega))
    have scan : ∀ k x f (V : Int64) (S : Nat → Int32), 2 * e (p - 1) + 1 - x = k → k < f → e (p - 1) < x → x ≤ 2 * e (p - 1) + 1 → (∀ i, i < p → S i = nI (e i)) →
        (∀ q, q < 64 → (zLb V q = true ↔ q + 1 = e (p - 1) ∨ ∃ m c, p + 1 ≤ m ∧ m ≤ n ∧ zVal c m ∧ zAg c e p ∧ c p < x ∧ c (m - 1) = q + 1)) →
        ∃ M a', fX0_reached_l45 (fX0_reached D) (nI p) (nI n) (nI (e (p - 1))) f V (nI x) S = some (M, a') ∧ (∀ i, i < p → a' i = nI (e i)) ∧ ∀ q, q < 64 → (zLb M q = true ↔ ∃ m c, p ≤ m ∧ m ≤ n ∧ zVal c m ∧ zAg c e p ∧ c (m - 1) = q + 1) := by
      intro k
      induction k with
      | zero =>
        intro x f V S hk hf hx hx2 hS hV
        obtain ⟨f, rfl⟩ : ∃ k', f = k' + 1 := ⟨f - 1, by omega⟩
        refine ⟨V, S, ?_, hS, fun q hq => ?_⟩
        · rw [fX0_reached_l45, show (2 : Int32) * nI (e (p - 1)) = nI (2 * e (p - 1)) from pk_mul 2 _, if_pos (nI_lt (by omega) (by omega))]
        · rw [hV q hq]
          constructor
          · rintro (z | ⟨m, c, m1, m2, m3, m4, m5, m6⟩)
            · exact ⟨p, e, Nat.le_refl _, by omega, hv, fun i _ => rfl, z.symm⟩
            · exact ⟨m, c, by omega, m2, m3, m4, m6⟩
          · rintro ⟨m, c, m1, m2, m3, m4, m5⟩
            by_cases z : m = p
            · rw [z, m4 _ (by omega)] at m5
              exact Or.inl m5.symm
            · have := m3.dbl (i := p) h1 (by omega)
              rw [m4 (p - 1) (by omega)] at this
              exact Or.inr ⟨m, c, by omega, m2, m3, m4, by omega, m5⟩
      | succ k ihk =>
        intro x f V S hk hf hx hx2 hS hV
        obtain ⟨f, rfl⟩ : ∃ k', f = k' + 1 := ⟨f - 1, by omega⟩
        rw [fX0_reached_l45, show (2 : Int32) * nI (e (p - 1)) = nI (2 * e (p - 1)) from pk_mul 2 _, if_neg (nI_nlt (by omega) (by omega))]
        rcases isSumC (p := p) (x := x) (by omega) hS (fun i j h1 h2 => hv.mono' h1 h2) (fun i hi => by have := hv.mono (i := i) (j := p - 1) (by omega) (by omega); omega) (by omega) with ⟨s1, s2⟩ | ⟨s1, s2⟩
        · have hw := hv.put h1 hx s1
          obtain ⟨M2, a2, r1, r2, r3⟩ := ih (p + 1) D (zput1 e p x) (upd S p (nI x)) (by omega) (by omega) (by omega) (upd_pre hS) hw
          rw [s2]
          rw [Option.bind_some]
          rw [if_neg (show ¬ (1 : Int32) = 0 from by decide), ix_nI (by omega) (by omega), nI_clamp (by omega), nI_1, nI_1, r1]
          rw [Option.bind_some]
          refine ihk (x + 1) f (V ||| M2) a2 (by omega) (by omega) (by omega) (by omega) (fun i hi => by rw [r2 i (by omega), ← zput1_ag e p x i hi]) (fun q hq => ?_)
          rw [zLb_or, Bool.or_eq_true, hV q hq, r3 q hq]
          constructor
          · rintro ((z | ⟨m, c, m1, m2, m3, m4, m5, m6⟩) | ⟨m, c, m1, m2, m3, m4, m5⟩)
            · exact Or.inl z
            · exact Or.inr ⟨m, c, m1, m2, m3, m4, by omega, m6⟩
            · have ep := m4 p (by omega)
              rw [zput1_at] at ep
              exact Or.inr ⟨m, c, m1, m2, m3, fun i hi => by rw [m4 i (by omega), ← zput1_ag e p x i hi], by omega, m5⟩
          · rintro (z | ⟨m, c, m1, m2, m3, m4, m5, m6⟩)
            · exact Or.inl (Or.inl z)
            · by_cases z : c p = x
              · refine Or.inr ⟨m, c, m1, m2, m3, fun i hi => ?_, m6⟩
                by_cases y : i = p
                · rw [y, zput1_at]; exact z
                · rw [m4 i (by omega), zput1_ag e p x i (by omega)]
              · exact Or.inl (Or.inr ⟨m, c, m1, m2, m3, m4, by omega, m6⟩)
        · rw [s2]
          rw [Option.bind_some]
          rw [if_pos (show (0 : Int32) = 0 from rfl), nI_1]
          refine ihk (x + 1) f V S (by omega) (by omega) (by omega) (by omega) hS (fun q hq => ?_)
          rw [hV q hq]
          constructor
          · rintro (z | ⟨m, c, m1, m2, m3, m4, m5, m6⟩)
            · exact Or.inl z
            · exact Or.inr ⟨m, c, m1, m2, m3, m4, by omega, m6⟩
          · rintro (z | ⟨m, c, m1, m2, m3, m4, m5, m6⟩)
            · exact Or.inl z
            · by_cases z : c p = x
              · exfalso
                have := (m3.2 p h1 (by omega)).2
                rw [z] at this
                exact s1 (this.ag m4)
              · exact Or.inr ⟨m, c, m1, m2, m3, m4, by omega, m6⟩
    obtain ⟨M, a', r1, r2, r3⟩ := scan (2 * e (p - 1) + 1 - (e (p - 1) + 1)) (e (p - 1) + 1) FU ((1 : Int64) <<< ((nI (e (p - 1)) - 1).toInt64 &&& 63)) a rfl (FU_big _ (by omega)) (by omega) (by omega) ha (fun q hq => by
      rw [zLb_one l1 l2 hq]
      constructor
      · intro z; exact Or.inl z
      · rintro (z | ⟨m, c, m1, m2, m3, m4, m5, m6⟩)
        · exact z
        · have := (m3.2 p h1 (by omega)).1
          rw [m4 (p - 1) (by omega)] at this
          omega)
    refine ⟨M, a', ?_, r2, r3⟩
    rw [fX0_reached]
    unfold fX0_reached_e
    rw [if_neg (show ¬ nI p < (1 : Int32) from nI_nlt (b := 1) h1 (by omega)), if_pos (show nI p ≤ (12 : Int32) from nI_le (b := 12) (by omega) (by omega)), e1, ix_nI (by omega) (by omega), nI_clamp (by omega), ha _ (by omega), if_neg (nI_ge (by omega) (by omega)), if_pos (show nI p < (12 : Int32) from nI_lt (b := 12) (by omega) (by omega)), nI_1]
    exact r1
theorem reachable_eq {S : zCh} (hS : S 0 = 1) {k : Nat} (h1 : 1 ≤ k) (hk : k ≤ 7) : ∃ S' : zCh, fX0_reachable S (nI k) = some (Int64.ofBitVec (BitVec.ofNat 64 (zMk k / 2)), S') ∧ S' 0 = 1 := by
  obtain ⟨M, a', r1, r2, r3⟩ := reached_l (n := k) hk (k - 1) 1 14 (fun _ => 1) S (by omega) (Nat.le_refl _) (by omega) (fun i hi => by
    rw [show i = 0 from by omega, hS]; rfl) zVal_one
  have eM : M = Int64.ofBitVec (BitVec.ofNat 64 (zMk k / 2)) := by
    apply Int64.toBitVec_inj.mp
    apply BitVec.eq_of_getLsbD_eq
    intro q hq
    have h3 := r3 q hq
    have h4 : (zMk k).testBit (q + 1) = true ↔ zLb M q = true := by
      rw [h3, ← zRe_iff h1 hk (by omega)]
      constructor
      · rintro ⟨m, c, m1, m2, m3, m4⟩
        exact ⟨m, c, m1, m2, m3, fun i hi => by rw [show i = 0 from by omega]; exact m3.1, m4⟩
      · rintro ⟨m, c, m1, m2, m3, -, m4⟩
        exact ⟨m, c, m1, m2, m3, m4⟩
    show zLb M q = (BitVec.ofNat 64 (zMk k / 2)).getLsbD q
    rw [BitVec.getLsbD_ofNat, Nat.testBit_div_two, decide_eq_true hq, Bool.true_and]
    exact Bool.eq_iff_iff.mpr h4.symm
  refine ⟨a', ?_, by rw [r2 0 (by omega)]; rfl⟩
  have r1' : fX0_reached 14 (ch_numbers S) 1 (nI k) = some (M, a') := r1
  unfold fX0_reachable
  rw [if_neg (show ¬ (7 : Int32) < nI k from nI_nlt (a := 7) hk (by omega)), r1', ← eM]
  rfl
/-! the reference, one by one -/
theorem within_l {k x : Nat} (hk : k ≤ 7) (h1x : 1 ≤ x) (hx : x ≤ 65) : ∀ d i f (T : zMd), i + d = k + 1 → d < f → 1 ≤ i → md_goal T = nI x → md_wanted T = nI x → (∀ m, 1 ≤ m → m < i → zFd x x m = none) →
    ∃ F, (zRe k x ∧ fX8_isWithin_l12 (nI k) f (nI i) T = some (1, md_set_tried T F)) ∨ (¬ zRe k x ∧ fX8_isWithin_l12 (nI k) f (nI i) T = some (0, md_set_tried T F)) := by
  intro d
  induction d with
  | zero =>
    intro i f T hi hf h1 hG hW hno
    obtain ⟨f, rfl⟩ : ∃ k', f = k' + 1 := ⟨f - 1, by omega⟩
    refine ⟨md_tried T, Or.inr ⟨?_, ?_⟩⟩
    · rintro ⟨m, c, m1, m2, m3, m4⟩
      have hc : zCn x x m c := ⟨m3, fun i i1 i2 => Or.inr (by
        have := m3.mono (i := i) (j := m - 1) (by omega) (by omega)
        omega), m4⟩
      exact zFd_full m1 hc (hno m m1 (by omega))
    · rw [fX8_isWithin_l12, if_pos (nI_lt (by omega) (by omega))]
      rfl
  | succ d ih =>
    intro i f T hi hf h1 hG hW hno
    obtain ⟨f, rfl⟩ : ∃ k', f = k' + 1 := ⟨f - 1, by omega⟩
    rw [fX8_isWithin_l12, if_neg (nI_nlt (by omega) (by omega))]
    rcases finds_eq T (y := x) (n := i) hG hW h1x (by omega) (by omega) h1 (by omega) with ⟨b, F, r1, r2, r3⟩ | ⟨r1, F, r2⟩
    · rw [r2]
      rw [Option.bind_some]
      rw [if_neg (show ¬ (1 : Int32) = 0 from by decide)]
      have hc := zFd_ok h1 r1
      exact ⟨F, Or.inl ⟨⟨i, b, h1, by omega, hc.1, hc.2.2⟩, rfl⟩⟩
    · rw [r2]
      rw [Option.bind_some]
      rw [if_pos (show (0 : Int32) = 0 from rfl), nI_1]
      obtain ⟨F', h⟩ := ih (i + 1) f (md_set_tried T F) (by omega) (by omega) (by omega) hG hW (fun m m1 m2 => by
        by_cases q : m = i
        · rw [q]; exact r1
        · exact hno m m1 (by omega))
      exact ⟨F', h⟩
def zCt (mk : Nat) : Nat → Nat
  | 0 => 0
  | i + 1 => zCt mk i + (if 1 ≤ i ∧ mk.testBit i = true then 1 else 0)
def zLs (mk : Nat) : Nat → Nat
  | 0 => 0
  | i + 1 => if zLs mk i = 0 ∧ 1 ≤ i ∧ mk.testBit i = false then i else zLs mk i
theorem zCt_le (mk : Nat) : ∀ i, zCt mk i ≤ i := by
  intro i
  induction i with
  | zero => exact Nat.le_refl _
  | succ i ih => rw [zCt]; split <;> omega
theorem zLs_le (mk : Nat) : ∀ i, zLs mk i ≤ i := by
  intro i
  induction i with
  | zero => exact Nat.le_refl _
  | succ i ih => rw [zLs]; split <;> omega
theorem can_l {M : zMn} {k : Nat} (h1 : 1 ≤ k) (hk : k ≤ 7) (v2 : Int32) : ∀ d i f (T : zMd), i + d = 66 → d < f → 1 ≤ i → RT M T → ∃ T', RT M T' ∧ fX8_can_l41 (nI k) v2 f (nI (zCt (zMk k) i)) (nI (zLs (zMk k) i)) (nI i) T = if v2 = 0 then some (nI (zCt (zMk k) 66), T') else some (nI (zLs (zMk k) 66), T') := by
  intro d
  induction d with
  | zero =>
    intro i f T hi hf h1i h
    obtain ⟨f, rfl⟩ : ∃ k', f = k' + 1 := ⟨f - 1, by omega⟩
    rw [show i = 66 from by omega, fX8_can_l41, if_pos (show (65 : Int32) < nI 66 from by decide)]
    exact ⟨T, h, rfl⟩
  | succ d ih =>
    intro i f T hi hf h1i h
    obtain ⟨f, rfl⟩ : ∃ k', f = k' + 1 := ⟨f - 1, by omega⟩
    have c1 := zCt_le (zMk k) i
    have c2 := zLs_le (zMk k) i
    rw [fX8_can_l41, if_neg (show ¬ (65 : Int32) < nI i from nI_nlt (a := 65) (by omega) (by omega))]
    obtain ⟨F, hF⟩ := within_l (k := k) (x := i) hk h1i (by omega) k 1 FU (md_set_goal (md_set_wanted T (nI i)) (nI i)) (by omega) (FU_big _ (by omega)) (Nat.le_refl _) rfl rfl (fun m m1 m2 => by omega)
    have rt : RT M (md_set_tried (md_set_goal (md_set_wanted T (nI i)) (nI i)) F) := ((h.wanted _).goal _).tried F
    rw [zRe_iff h1 hk (by omega)] at hF
    have key : ∀ r : Int32, r = (if (zMk k).testBit i = true then 1 else 0) → ∃ T', RT M T' ∧ fX8_can_j69 (nI k) v2 (nI (zLs (zMk k) i)) (nI i) r (nI (zCt (zMk k) i)) r (md_set_tried (md_set_goal (md_set_wanted T (nI i)) (nI i)) F) (fX8_can_l41 (nI k) v2 f) = if v2 = 0 then some (nI (zCt (zMk k) 66), T') else some (nI (zLs (zMk k) 66), T') := by
      intro r er
      obtain ⟨T', t1, t2⟩ := ih (i + 1) f _ (by omega) (by omega) (by omega) rt
      refine ⟨T', t1, ?_⟩
      rw [← t2]
      unfold fX8_can_j69
      rw [nI_1]
      by_cases b : (zMk k).testBit i = true
      · rw [if_pos b] at er
        have b' : ¬ (zMk k).testBit i = false := by rw [b]; decide
        rw [er, if_neg (show ¬ (1 : Int32) = 0 from by decide), nI_1, zCt, zLs, if_pos ⟨h1i, b⟩, if_neg (fun z => b' z.2.2)]
      · rw [if_neg b] at er
        have b' : (zMk k).testBit i = false := by simpa using b
        have e0 : nI (zCt (zMk k) i) + (0 : Int32) = nI (zCt (zMk k) i) := nI_add _ 0
        rw [er, if_pos (show (0 : Int32) = 0 from rfl), e0, zCt, zLs, if_neg (show ¬ (1 ≤ i ∧ (zMk k).testBit i = true) from fun z => b z.2), show zCt (zMk k) i + 0 = zCt (zMk k) i from rfl]
        by_cases l : zLs (zMk k) i = 0
        · rw [if_pos (show nI (zLs (zMk k) i) = (0 : Int32) from by rw [l]; rfl), if_pos (show zLs (zMk k) i = 0 ∧ 1 ≤ i ∧ (zMk k).testBit i = false from ⟨l, h1i, b'⟩)]
        · rw [if_neg (nI_ne0 (by omega) (by omega)), if_neg (show ¬ (zLs (zMk k) i = 0 ∧ 1 ≤ i ∧ (zMk k).testBit i = false) from fun z => l z.1)]
    have eW : ∀ (r : Int32), fX8_isWithin_l12 (nI k) FU (nI 1) (md_set_goal (md_set_wanted T (nI i)) (nI i)) = some (r, md_set_tried (md_set_goal (md_set_wanted T (nI i)) (nI i)) F) → fX8_isWithin T (nI i) (nI k) = some (r, md_set_tried (md_set_goal (md_set_wanted T (nI i)) (nI i)) F) := fun r z => z
    rcases hF with ⟨b, w⟩ | ⟨b, w⟩
    · rw [eW 1 w]
      rw [Option.bind_some]
      rw [if_neg (show ¬ (1 : Int32) = 0 from by decide)]
      exact key 1 (by rw [if_pos b])
    · rw [eW 0 w]
      rw [Option.bind_some]
      rw [if_pos (show (0 : Int32) = 0 from rfl)]
      exact key 0 (by rw [if_neg b])
theorem can_bits : ∀ k, k < 8 → 1 ≤ k → fJ13_bitCount_95d88 (Int64.ofBitVec (BitVec.ofNat 64 (zMk k / 2))) = nI (zCt (zMk k) 66) ∧ fJ13_numberOfTrailingZeros_95d88 (Int64.ofBitVec (BitVec.ofNat 64 (zMk k / 2)) ^^^ (-1 : Int64)) + 1 = nI (zLs (zMk k) 66) := by decide +kernel
theorem sim_can : zSim_can RT := by
  intro M T p q h
  unfold fX7_can fX8_can
  have R : ∀ t : Int32, (t = -2 ∨ t = -4 ∨ t = -6) → ∃ r M' T', fX7_can_j19 p q t M = some (r, M') ∧ fX8_can_j21 p q t T = some (r, T') ∧ RT M' T' := by
    intro t ht
    unfold fX7_can_j19 fX8_can_j21
    rcases ht with rfl | rfl | rfl
    · rw [if_neg (by decide), if_neg (by decide)]
      obtain ⟨M', T', x, y, e⟩ := refuse_2 h
      exact ⟨-2, M', T', by rw [x]; rfl, by rw [y]; rfl, e⟩
    · rw [if_neg (by decide), if_neg (by decide)]
      obtain ⟨M', T', x, y, e⟩ := refuse_4 h
      exact ⟨-4, M', T', by rw [x]; rfl, by rw [y]; rfl, e⟩
    · rw [if_neg (by decide), if_neg (by decide)]
      obtain ⟨M', T', x, y, e⟩ := refuse_6 h
      exact ⟨-6, M', T', by rw [x]; rfl, by rw [y]; rfl, e⟩
  have e0 : fX8_bound p 1 7 = fX7_outside p 1 7 := rfl
  rcases two_3 q with ⟨t1, t2⟩ | ⟨t1, t2, t3⟩
  · rw [t1, t2, if_pos rfl, if_pos rfl]
    exact R (-2) (Or.inl rfl)
  rw [t1, t2, if_neg (by decide), if_neg (by decide), e0]
  rcases outside_3 p 1 7 (by omega) (by omega) with e | e | ⟨e, k, k1, k2, rfl⟩
  · have e' : fX7_outside p 1 7 = -4 := e
    rw [e']; exact R (-4) (Or.inr (Or.inl rfl))
  · have e' : fX7_outside p 1 7 = -6 := e
    rw [e']; exact R (-6) (Or.inr (Or.inr rfl))
  have e' : fX7_outside (nI k) 1 7 = 0 := e
  rw [e']
  have hS : mn_chains M 0 = 1 := h.2.2.2.2.2
  obtain ⟨S', s1, s2⟩ := reachable_eq hS k1 k2
  obtain ⟨T', u1, u2⟩ := can_l (M := M) k1 k2 q 65 1 FU T (by omega) (FU_big _ (by omega)) (Nat.le_refl _) h
  have u2' : fX8_can_l41 (nI k) q FU 0 0 1 T = if q = 0 then some (nI (zCt (zMk k) 66), T') else some (nI (zLs (zMk k) 66), T') := u2
  obtain ⟨b1, b2⟩ := can_bits k (by omega) k1
  unfold fX7_can_j19 fX8_can_j21
  rw [if_pos (show (0 : Int32) = 0 from rfl), if_pos (show (0 : Int32) = 0 from rfl), s1, u2']
  rw [Option.bind_some]
  by_cases g : q = 0
  · rw [if_pos g, if_pos g]
    exact ⟨_, mn_set_chains M S', T', by rw [b1], rfl, u1.chains s2⟩
  · rw [if_neg g, if_neg g]
    exact ⟨_, mn_set_chains M S', T', by rw [b2], rfl, u1.chains s2⟩
