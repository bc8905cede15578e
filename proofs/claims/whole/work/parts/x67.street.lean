/-! a statement comes: the class's house by house, the reference's -/
theorem SR.kept2 {T T' : zMd} (h : md_kept T' = md_kept T) (cu : Nat) : SE (zload T cu) (zload T' cu) := zload_se (fun j _ _ => by rw [h])
def EX (Z : zSt) (T : zMd) (a : Option (Int32 × zSt)) (b : Option (Int32 × zMd)) : Prop := ∃ (r : Int32) (Z' : zSt) (T' : zMd), (r = 0 ∨ r = 1) ∧ a = some (r, Z') ∧ b = some (r, T') ∧ FR T T' ∧ md_kept T' = md_kept T ∧ (r = 1 → ∃ c' w', SR c' w' Z' T')
theorem mayBe_no {c w : Nat} {Z : zSt} {T : zMd} (h : SR c w Z T) {a : Nat} (ha : a ≤ 999) (hs : ¬ (a < c ∧ w.testBit a = true)) : fX5_stands Z (nI a) = 0 ∧ fX8_doesStand T (nI a) = some 0 := by
  have hc := h.c
  by_cases q : a < c
  · have hb : w.testBit a = false := by
      cases e : w.testBit a with
      | false => rfl
      | true => exact absurd ⟨q, e⟩ hs
    rw [stands_in h q, doesStand_in h q, zbit0.mpr hb]
    exact ⟨rfl, rfl⟩
  · have ho : nI a < 0 ∨ nI c ≤ nI a := Or.inr (nI_le (by omega) (by omega))
    exact ⟨stands_out h ho, doesStand_out h ho⟩
theorem build_no {Z : zSt} {a b k f : Int32} (h : fX5_hasRoom Z = 0 ∨ fX5_isKind k = 0 ∨ fX5_mayBe Z a b = some 0) (hm : ∃ r, fX5_mayBe Z a b = some r) : fX5_build Z a b k f = some (0, Z) := by
  obtain ⟨r, hr⟩ := hm
  unfold fX5_build
  by_cases q : fX5_hasRoom Z = 0
  · rw [if_pos q]
  · rw [if_neg q]
    by_cases q2 : fX5_isKind k = 0
    · rw [if_pos q2]
    · rw [if_neg q2]
      have h3 : fX5_mayBe Z a b = some 0 := by
        rcases h with z | z | z
        · exact absurd z q
        · exact absurd z q2
        · exact z
      rw [h3]
      rw [Option.bind_some]
      rw [if_pos (show (0 : Int32) = 0 from rfl)]
theorem comesNew_eq {c w : Nat} {Z : zSt} {T : zMd} (h : SR c w Z T) {a b kd fg p : Nat} (ha : a ≤ 99) (hb : b ≤ 99) (hk : kd ≤ 99) (hp : p + 3 < 132) (t0 : md_told T p = nI a) (t1 : md_told T (p + 1) = nI b) (t2 : md_told T (p + 2) = nI kd) (t3 : md_told T (p + 3) = nI fg) :
    EX Z T (fX5_build Z (nI a) (nI b) (nI kd) (nI fg)) (fX8_comesNew T (nI p)) := by
  have hc := h.c
  have i1 : nI p + 2 = nI (p + 2) := nI_add p 2
  have i2 : nI p + 3 = nI (p + 3) := nI_add p 3
  have no : ∀ (h1 : fX5_build Z (nI a) (nI b) (nI kd) (nI fg) = some (0, Z)) (h2 : fX8_comesNew T (nI p) = some (0, T)), EX Z T (fX5_build Z (nI a) (nI b) (nI kd) (nI fg)) (fX8_comesNew T (nI p)) := fun h1 h2 => ⟨0, Z, T, Or.inl rfl, h1, h2, FR.rf, rfl, fun q => absurd q (by decide)⟩
  have head : fX8_comesNew T (nI p) = (fX8_doesStand T (nI a)).bind fun u3 => if u3 = 0 then some (0, T) else (fX8_doesStand T (nI b)).bind fun u5 => if u5 = 0 then some (0, T) else if (6 : Int32) ≤ nI kd then some (0, T) else (fX8_mayBe T (nI a) (nI b)).bind fun u9 => if u9 = 0 then some (0, T) else if md_houses T = 12 then some (0, T) else (fX8_builds T (nI a) (nI b) (nI kd) (nI fg)).bind fun u13 => some (1, u13) := by
    unfold fX8_comesNew
    rw [ix_nI (by omega) (by omega), nI_1, ix_nI (by omega) (by omega), i1, i2, ix_nI (by omega) (by omega), ix_nI (by omega) (by omega), nI_clamp (by omega), nI_clamp (by omega), nI_clamp (by omega), nI_clamp (by omega), t0, t1, t2, t3]
  by_cases sa : a < c ∧ w.testBit a = true
  · by_cases sb : b < c ∧ w.testBit b = true
    · obtain ⟨r, hr, e1, e2, e3⟩ := mayBe_std h sa.1 sb.1 sa.2 sb.2
      rw [doesStand_in h sa.1, doesStand_in h sb.1, zbit1.mpr sa.2, zbit1.mpr sb.2] at head
      repeat rw [Option.bind_some] at head
      rw [if_neg (show ¬ (1 : Int32) = 0 from by decide), e2] at head
      repeat rw [Option.bind_some] at head
      rw [if_neg (show ¬ (1 : Int32) = 0 from by decide)] at head
      by_cases q : kd ≤ 5
      · have ik : fX5_isKind (nI kd) = 1 := by
          unfold fX5_isKind
          rw [if_neg (nI_pos (by omega)), if_neg (show ¬ (5 : Int32) < nI kd from nI_nlt (a := 5) q (by omega))]
        rw [if_neg (show ¬ (6 : Int32) ≤ nI kd from nI_ge (b := 6) (by omega) (by omega))] at head
        rcases hr with rfl | rfl
        · rw [if_pos (show (0 : Int32) = 0 from rfl)] at head
          exact no (build_no (Or.inr (Or.inr e1)) ⟨0, e1⟩) head
        · rw [if_neg (show ¬ (1 : Int32) = 0 from by decide), h.houses] at head
          by_cases q12 : c = 12
          · rw [if_pos (show nI c = (12 : Int32) from by rw [q12]; rfl)] at head
            refine no (build_no (Or.inl ?_) ⟨1, e1⟩) head
            unfold fX5_hasRoom
            rw [h.came, q12]
            decide
          · rw [if_neg (show ¬ nI c = (12 : Int32) from fun z => q12 ((nI_eq (b := 12) (by omega) (by omega)).mp z))] at head
            obtain ⟨w', Z', T', b1, b2, b3, b4, b5, -⟩ := build_eq h (by omega) sa.1 sb.1 (f := nI fg) ik e1 (e3 rfl)
            refine ⟨1, Z', T', Or.inr rfl, b1, ?_, b4, b5, fun _ => ⟨_, _, b3⟩⟩
            rw [head, b2]
            rw [Option.bind_some]
      · have ik : fX5_isKind (nI kd) = 0 := by
          unfold fX5_isKind
          rw [if_neg (nI_pos (by omega)), if_pos (show (5 : Int32) < nI kd from nI_lt (a := 5) (by omega) (by omega))]
        rw [if_pos (show (6 : Int32) ≤ nI kd from nI_le (a := 6) (by omega) (by omega))] at head
        exact no (build_no (Or.inr (Or.inl ik)) ⟨r, e1⟩) head
    · obtain ⟨n1, n2⟩ := mayBe_no h (show b ≤ 999 from by omega) sb
      have em : fX5_mayBe Z (nI a) (nI b) = some 0 := by
        unfold fX5_mayBe
        rw [stands_in h sa.1, zbit1.mpr sa.2, n1]
        rfl
      rw [doesStand_in h sa.1, zbit1.mpr sa.2, n2] at head
      repeat rw [Option.bind_some] at head
      rw [if_neg (show ¬ (1 : Int32) = 0 from by decide), if_pos (show (0 : Int32) = 0 from rfl)] at head
      exact no (build_no (Or.inr (Or.inr em)) ⟨0, em⟩) head
  · obtain ⟨n1, n2⟩ := mayBe_no h (show a ≤ 999 from by omega) sa
    have em : fX5_mayBe Z (nI a) (nI b) = some 0 := by
      unfold fX5_mayBe
      rw [n1]
      rfl
    rw [n2] at head
    rw [Option.bind_some] at head
    rw [if_pos (show (0 : Int32) = 0 from rfl)] at head
    exact no (build_no (Or.inr (Or.inr em)) ⟨0, em⟩) head
theorem zpop_one {w j : Nat} (h : w.testBit j = true) : ∀ n, j < n → 1 ≤ zpop w n := by
  intro n
  induction n with
  | zero => intro q; omega
  | succ n ih =>
    intro q
    rw [zpop]
    by_cases e : j = n
    · rw [← e, if_pos h]; omega
    · have := ih (by omega)
      omega
theorem comesFire_eq {c w : Nat} {Z : zSt} {T : zMd} (h : SR c w Z T) {a : Nat} (ha : a ≤ 99) :
    EX Z T ((fX5_fire Z (nI a)).bind fun u9 => if u9.1 ≤ 0 then some (0, u9.2) else some (1, u9.2)) (fX8_comesFire T (nI a)) := by
  have hc := h.c
  have hw := h.w12
  unfold fX8_comesFire
  by_cases sa : a < c ∧ w.testBit a = true
  · obtain ⟨Y, hY, eY⟩ := burns_eq h sa.1
    obtain ⟨x1, x2⟩ := zG_w (T := T) (w := w) (j := a) (c := c)
    have s' := h.fall x1 hY
    have ps := zpop_sub x2 31 (by omega)
    have nb : (zG T (zclr w a) c).testBit a = false := by
      cases e : (zG T (zclr w a) c).testBit a with
      | false => rfl
      | true =>
        have := zG_sub T (zclr w a) c a (by omega) e
        rw [zclr_tb _ _ _ (by omega)] at this
        simp at this
    have one := zpop_one (w := w &&& (zG T (zclr w a) c ^^^ 4294967295)) (j := a) (by
      rw [Nat.testBit_and, z_tb_not _ _ (by omega), sa.2, nb]; rfl) 31 (by omega)
    have zl := zpop_le w 31
    refine ⟨1, st_set_standing Z (nI (zG T (zclr w a) c)), md_set_stands T Y, Or.inr rfl, ?_, ?_, ⟨rfl, rfl, rfl, rfl, rfl, rfl, rfl, rfl, rfl, rfl, rfl, rfl⟩, rfl, fun _ => ⟨_, _, s'⟩⟩
    · rw [fire_in h sa.1 sa.2, pk_sub (by omega)]
      rw [Option.bind_some]
      rw [if_neg (nI_nle (by omega) (by omega))]
    · rw [doesStand_in h sa.1, zbit1.mpr sa.2]
      rw [Option.bind_some]
      rw [if_neg (show ¬ (1 : Int32) = 0 from by decide), eY]
      rw [Option.bind_some]
  · obtain ⟨n1, n2⟩ := mayBe_no h (show a ≤ 999 from by omega) sa
    have ef : fX5_fallsWith Z (nI a) = some 0 := by
      unfold fX5_fallsWith
      rw [n1, if_pos rfl]
    refine ⟨0, st_set_standing Z (st_standing Z &&& ((0 : Int32) ^^^ (-1 : Int32))), T, Or.inl rfl, ?_, ?_, FR.rf, rfl, fun q => absurd q (by decide)⟩
    · unfold fX5_fire
      rw [ef]
      repeat rw [Option.bind_some]
      rw [show fJ6_bitCount_0f7a4 0 = 0 from by decide, if_pos (show (0 : Int32) ≤ 0 from by decide)]
    · rw [n2]
      rw [Option.bind_some]
      rw [if_pos (show (0 : Int32) = 0 from rfl)]
theorem comesLaw_eq {c w : Nat} {Z : zSt} {T : zMd} (h : SR c w Z T) {a b : Nat} (ha : a ≤ 99) (hb : b ≤ 99) :
    EX Z T (some (fX5_changeLaws Z (nI a) (nI b))) (some (fX8_comesLaw T (nI a) (nI b))) := by
  have e2 : ∀ x : Nat, x ≤ 99 → ((2 : Int32) < nI x ↔ 2 < x) := fun x hx => nI_ltI (a := 2) (by omega) (by omega)
  have e1 : ∀ x : Nat, x ≤ 99 → (nI x ≤ (1 : Int32) ↔ x ≤ 1) := fun x hx => nI_leI (b := 1) (by omega) (by omega)
  have e1' : ∀ x : Nat, x ≤ 99 → ((1 : Int32) < nI x ↔ 1 < x) := fun x hx => nI_ltI (a := 1) (by omega) (by omega)
  unfold fX8_comesLaw
  by_cases g : 2 < a
  · rw [if_pos ((e2 a ha).mpr g), cl_no (Or.inl (Or.inr ((e2 a ha).mpr g)))]
    exact ⟨0, Z, T, Or.inl rfl, rfl, rfl, FR.rf, rfl, fun q => absurd q (by decide)⟩
  · rw [if_neg (fun z => g ((e2 a ha).mp z))]
    by_cases g2 : b ≤ 1
    · have y1 : ¬ nI a < 0 ∧ ¬ (2 : Int32) < nI a := ⟨nI_pos (by omega), fun z => g ((e2 a ha).mp z)⟩
      have y2 : ¬ nI b < 0 ∧ ¬ (1 : Int32) < nI b := ⟨nI_pos (by omega), fun z => by have := (e1' b hb).mp z; omega⟩
      rw [if_pos ((e1 b hb).mpr g2), cl_yes ⟨y1, y2⟩]
      have hl := h.laws (law3 y1) (law2 y2)
      exact ⟨1, _, _, Or.inr rfl, rfl, rfl, ⟨rfl, rfl, rfl, rfl, rfl, rfl, rfl, rfl, rfl, rfl, rfl, rfl⟩, rfl, fun _ => ⟨_, _, hl⟩⟩
    · rw [if_neg (fun z => g2 ((e1 b hb).mp z)), cl_no (Or.inr (Or.inr ((e1' b hb).mpr (by omega))))]
      exact ⟨0, Z, T, Or.inl rfl, rfl, rfl, FR.rf, rfl, fun q => absurd q (by decide)⟩
theorem anew_eq (Z : zSt) (T : zMd) (hs : st_sums Z = md_sums T ∧ (md_sums T = 0 ∨ md_sums T = 1 ∨ md_sums T = 2)) (hf : st_falls Z = md_falls T ∧ (md_falls T = 0 ∨ md_falls T = 1)) :
    ∃ (Z' : zSt) (T' : zMd), fX5_beginAnew Z = some Z' ∧ fX8_beginsAnew T = some T' ∧ SR 1 1 Z' T' ∧ FR T T' ∧ md_kept T' = md_kept T := by
  obtain ⟨Z', p0, p1, p2, p3, p4, p5, p6, p7, p8, p9, p10, p11⟩ := place_ex (S := st_set_standing (st_set_came Z 0) 0) (c := 0) (w := 0) (by omega) (by omega) rfl rfl 1 (-4) (-4) 0 0
  obtain ⟨T', q0, q1, q2, q3, q4, q5, q6, q7, q8, q9, q10, q11, q12, q13, -⟩ := more_ex (T := md_set_houses T 0) (c := 0) (by omega) rfl 1 0 0 (-4) (-4)
  refine ⟨Z', T', ?_, ?_, ?_, ?_, q13⟩
  · unfold fX5_beginAnew
    rw [p0]
    rw [Option.bind_some]
  · unfold fX8_beginsAnew
    rw [q0]
    rw [Option.bind_some]
  · refine ⟨⟨Nat.le_refl _, by omega⟩, by omega, p1, q1, p2, fun j hj => ?_, ?_, ?_, fun j hj => ?_⟩
    · rw [show j = 0 from by omega, p3, p4, p5, p6, p7, p8, p9, q2, q3, q4, q5, q6, q7, q8, q9]
      exact ⟨rfl, rfl, rfl, rfl, rfl, rfl, rfl, rfl⟩
    · rw [p10, q10]; exact hs
    · rw [p11, q11]; exact hf
    · rw [show j = 0 from by omega, q5, q6, q7]
      exact ⟨⟨1, Nat.le_refl _, by omega, rfl⟩, Or.inl ⟨rfl, rfl, rfl⟩⟩
  · exact q12
/-- the told statement of number j, as the reference has it -/
def zTold (sg : Nat → Int32) (T : zMd) (i j : Nat) : Prop := md_sort T j = sg i ∧ md_sortAt T j = nI i ∧ ∀ q, q < zNf (zByt.getD (fX2_formOf (sg i)) []) → md_told T (4 * j + q) = nI ((zSs sg i).2.2.getD q 0)
theorem comes_eq {sg : Nat → Int32} {i j c w : Nat} {S : zLt} {Z : zSt} {T : zMd} (h : SR c w Z T) (hj : j ≤ 31) (hok : (zSs sg i).1 = true) (hv : lt_verb S = sg i) (hg : ∀ q, q < zNf (zByt.getD (fX2_formOf (sg i)) []) → lt_figures S q = nI ((zSs sg i).2.2.getD q 0)) (ht : zTold sg T i j) :
    EX Z T (fX2_comesTo S Z) (fX8_comesTold T (nI j)) := by
  obtain ⟨t1, t2, t3⟩ := ht
  have v := zSs_v sg i
  have e4 : (4 : Int32) * nI j = nI (4 * j) := pk_mul 4 j
  have i0 : ∀ k : Option (Int32 × zSt), ix 4 (0 : Int32) k = k := fun k => ix_nI (n := 4) (j := 0) (by omega) (by omega)
  have i1 : ∀ k : Option (Int32 × zSt), ix 4 (1 : Int32) k = k := fun k => ix_nI (n := 4) (j := 1) (by omega) (by omega)
  have i2 : ∀ k : Option (Int32 × zSt), ix 4 (2 : Int32) k = k := fun k => ix_nI (n := 4) (j := 2) (by omega) (by omega)
  have i3 : ∀ k : Option (Int32 × zSt), ix 4 (3 : Int32) k = k := fun k => ix_nI (n := 4) (j := 3) (by omega) (by omega)
  have c0 : (0 : Int32).toNatClampNeg = 0 := by decide
  have c1 : (1 : Int32).toNatClampNeg = 1 := by decide
  have c2 : (2 : Int32).toNatClampNeg = 2 := by decide
  have c3 : (3 : Int32).toNatClampNeg = 3 := by decide
  have chk : ∀ {α : Type} (r : Int32) (x : α), (r = 0 ∨ r = 1) → (if r &&& 1 = r then some (r, x) else none) = some (r, x) := fun r x hr => if_pos (by rcases hr with rfl | rfl <;> rfl)
  unfold fX2_comesTo fX8_comesTold
  rw [hv, ix_nI (by omega) (by omega), nI_clamp (by omega), t1, e4]
  rcases formOf_cs (sg i) with ⟨hc, hf⟩ | ⟨hc, hf⟩ | ⟨hc, hf⟩ | ⟨hc, hf⟩ | ⟨hc, hf⟩
  · rw [hf] at hg t3
    have nf : zNf (zByt.getD 0 []) = 4 := by decide
    rw [nf] at hg t3
    have u0 := t3 0 (by omega)
    rw [Nat.add_zero] at u0
    rw [if_pos hc, if_pos hc, i0, i1, i2, i3, c0, c1, c2, c3, hg 0 (by omega), hg 1 (by omega), hg 2 (by omega), hg 3 (by omega)]
    obtain ⟨r, Z', T', r1, r2, r3, r4, r5, r6⟩ := comesNew_eq h (p := 4 * j) (v 0) (v 1) (v 2) (by omega) u0 (t3 1 (by omega)) (t3 2 (by omega)) (t3 3 (by omega))
    refine ⟨r, Z', T', r1, ?_, ?_, r4, r5, r6⟩
    · rw [r2]
      rw [Option.bind_some]
      exact chk r Z' r1
    · rw [r3]
      rw [Option.bind_some]
      exact chk r T' r1
  · rw [hf] at hg t3
    have nf : zNf (zByt.getD 1 []) = 1 := by decide
    rw [nf] at hg t3
    have u0 := t3 0 (by omega)
    rw [Nat.add_zero] at u0
    have n1 : ¬ sg i = 97 := by rw [hc]; decide
    rw [if_neg n1, if_neg n1, if_pos hc, if_pos hc, i0, c0, hg 0 (by omega), ix_nI (by omega) (by omega), nI_clamp (by omega), u0]
    obtain ⟨r, Z', T', r1, r2, r3, r4, r5, r6⟩ := comesFire_eq h (v 0)
    refine ⟨r, Z', T', r1, r2, ?_, r4, r5, r6⟩
    rw [r3]
    rw [Option.bind_some]
    exact chk r T' r1
  · rw [hf] at hg t3
    have nf : zNf (zByt.getD 2 []) = 2 := by decide
    rw [nf] at hg t3
    have u0 := t3 0 (by omega)
    rw [Nat.add_zero] at u0
    have n1 : ¬ sg i = 97 := by rw [hc]; decide
    have n2 : ¬ sg i = 98 := by rw [hc]; decide
    rw [if_neg n1, if_neg n1, if_neg n2, if_neg n2, if_pos hc, if_pos hc, i0, i1, c0, c1, hg 0 (by omega), hg 1 (by omega), ix_nI (by omega) (by omega), nI_1, ix_nI (by omega) (by omega), nI_clamp (by omega), nI_clamp (by omega), u0, t3 1 (by omega)]
    obtain ⟨r, Z', T', r1, r2, r3, r4, r5, r6⟩ := comesLaw_eq h (v 0) (v 1)
    have r2' := Option.some.inj r2
    have r3' := Option.some.inj r3
    refine ⟨r, Z', T', r1, ?_, ?_, r4, r5, r6⟩
    · rw [r2']
      exact chk r Z' r1
    · rw [r3']
      exact chk r T' r1
  · have n1 : ¬ sg i = 97 := by rw [hc]; decide
    have n2 : ¬ sg i = 98 := by rw [hc]; decide
    have n3 : ¬ sg i = 108 := by rw [hc]; decide
    rw [if_neg n1, if_neg n1, if_neg n2, if_neg n2, if_neg n3, if_neg n3]
    obtain ⟨Z', T', r1, r2, r3, r4, r5⟩ := anew_eq Z T h.2.2.2.2.2.2.1 h.2.2.2.2.2.2.2.1
    refine ⟨1, Z', T', Or.inr rfl, ?_, ?_, r4, r5, fun _ => ⟨_, _, r3⟩⟩
    · rw [r1]
      rw [Option.bind_some]
    · rw [r2]
      rw [Option.bind_some]
  · exfalso
    unfold zSs at hok
    rw [if_pos hf] at hok
    cases hok
/-! all of them: the form, then one after the other -/
def zRec (sg : Nat → Int32) (st : Nat → Nat) (n : Nat) (T : zMd) : Prop := ∀ j, j < n → (zSs sg (st j)).1 = true ∧ (zSs sg (st j)).2.1 = st (j + 1) ∧ st j ≤ 64 ∧ zTold sg T (st j) j
theorem zTold.fr {sg : Nat → Int32} {T T' : zMd} {i j : Nat} (h : zTold sg T i j) (a : md_sort T' = md_sort T) (b : md_sortAt T' = md_sortAt T) (c : md_told T' = md_told T) : zTold sg T' i j := by
  obtain ⟨h1, h2, h3⟩ := h
  exact ⟨by rw [a]; exact h1, by rw [b]; exact h2, fun q hq => by rw [c]; exact h3 q hq⟩
theorem zRec.fr {sg : Nat → Int32} {st : Nat → Nat} {n : Nat} {T T' : zMd} (h : zRec sg st n T) (a : md_sort T' = md_sort T) (b : md_sortAt T' = md_sortAt T) (c : md_told T' = md_told T) : zRec sg st n T' := fun j hj => by
  obtain ⟨h1, h2, h3, h4⟩ := h j hj
  exact ⟨h1, h2, h3, h4.fr a b c⟩
theorem zRec.more {sg : Nat → Int32} {st : Nat → Nat} {s i : Nat} {T T' : zMd} (h : zRec sg st s T) (hst : st s = i) (hok : (zSs sg i).1 = true) (hi : i ≤ 64) (a : md_sort T' = upd (md_sort T) s (sg i)) (b : md_sortAt T' = upd (md_sortAt T) s (nI i)) (c : ∀ q, q < 4 * s → md_told T' q = md_told T q) (d : ∀ q, q < zNf (zByt.getD (fX2_formOf (sg i)) []) → md_told T' (4 * s + q) = nI ((zSs sg i).2.2.getD q 0)) :
    zRec sg (fun j => if j = s + 1 then (zSs sg i).2.1 else st j) (s + 1) T' := by
  intro j hj
  show (zSs sg (if j = s + 1 then _ else st j)).1 = true ∧ (zSs sg (if j = s + 1 then _ else st j)).2.1 = (if j + 1 = s + 1 then _ else st (j + 1)) ∧ (if j = s + 1 then _ else st j) ≤ 64 ∧ zTold sg T' (if j = s + 1 then _ else st j) j
  rw [if_neg (show ¬ j = s + 1 from by omega)]
  by_cases q : j = s
  · subst q
    rw [if_pos rfl, hst]
    exact ⟨hok, rfl, hi, by rw [a, upd_at, if_pos rfl], by rw [b, upd_at, if_pos rfl], d⟩
  · rw [if_neg (show ¬ j + 1 = s + 1 from by omega)]
    obtain ⟨h1, h2, h3, h4, h5, h6⟩ := h j (by omega)
    refine ⟨h1, h2, h3, by rw [a, upd_at, if_neg q]; exact h4, by rw [b, upd_at, if_neg q]; exact h5, fun r hr => ?_⟩
    have := (zByt_nf _ (formOf_lt (sg (st j)))).1
    rw [c _ (by omega)]
    exact h6 r hr
theorem st_sort (T : zMd) (x : Int32) : md_sort (md_set_statements T x) = md_sort T := rfl
theorem st_sortAt (T : zMd) (x : Int32) : md_sortAt (md_set_statements T x) = md_sortAt T := rfl
theorem st_told (T : zMd) (x : Int32) : md_told (md_set_statements T x) = md_told T := rfl
theorem st_reading (T : zMd) (x : Int32) : md_reading (md_set_statements T x) = md_reading T := rfl
theorem st_statements (T : zMd) (x : Int32) : md_statements (md_set_statements T x) = x := rfl
theorem form_l {sg : Nat → Int32} {k : Nat} (hx : zTxt sg k) : ∀ d i s f f' (S : zLt) (T : zMd) (st : Nat → Nat), k - i ≤ d → d + 1 < f → d + 2 < f' → CL sg k S → ML sg k T → lt_at S = nI i → md_reading T = nI i → lt_statements S = nI s → md_statements T = nI s → 2 * s ≤ i → i ≤ k → st 0 = 0 → st s = i → zRec sg st s T →
    (∃ i' S' T', i' ≤ 64 ∧ fX2_faultOfForm_l12 f (nI s) S = some (-1000 - nI i', S') ∧ fX8_street_l12 f' 1 T = fX8_street_j60 0 T' ∧ md_reading T' = nI i' ∧ TZ T T' ∧ CL sg k S') ∨
    (∃ n st' S' T', n ≤ 32 ∧ fX2_faultOfForm_l12 f (nI s) S = some (0, S') ∧ fX8_street_l12 f' 1 T = fX8_street_j60 1 T' ∧ lt_statements S' = nI n ∧ md_statements T' = nI n ∧ TZ T T' ∧ CL sg k S' ∧ st' 0 = 0 ∧ zRec sg st' n T') := by
  have hk := hx.1
  intro d
  have stop : ∀ i s f f' (S : zLt) (T : zMd) (st : Nat → Nat), 0 < f → 0 < f' → CL sg k S → ML sg k T → lt_at S = nI i → md_reading T = nI i → lt_statements S = nI s → md_statements T = nI s → 2 * s ≤ i → i ≤ k → st 0 = 0 → zRec sg st s T → k ≤ i → s ≠ 0 →
      (∃ n st' S' T', n ≤ 32 ∧ fX2_faultOfForm_l12 f (nI s) S = some (0, S') ∧ fX8_street_l12 f' 1 T = fX8_street_j60 1 T' ∧ lt_statements S' = nI n ∧ md_statements T' = nI n ∧ TZ T T' ∧ CL sg k S' ∧ st' 0 = 0 ∧ zRec sg st' n T') := by
    intro i s f f' S T st hf hf' hC hM ha hr hs hs' h2 hi h0 hR hki hs0
    obtain ⟨f, rfl⟩ : ∃ k', f = k' + 1 := ⟨f - 1, by omega⟩
    obtain ⟨f', rfl⟩ : ∃ k', f' = k' + 1 := ⟨f' - 1, by omega⟩
    refine ⟨s, st, S, T, by omega, ?_, ?_, hs, hs', TZ.rf T, hC, h0, hR⟩
    · rw [fX2_faultOfForm_l12, if_neg (show ¬ (64 : Int32) ≤ nI s from nI_ge (b := 64) (by omega) (by omega)), if_neg (nI_ne0 (by omega) (by omega))]
      unfold fX6_howMany_L
      rw [hC.1, ha, if_pos (nI_le hki (by omega))]
    · rw [fX8_street_l12, if_neg (show ¬ (1 : Int32) = 0 from by decide), hr, hM.1, if_neg (nI_nlt hki (by omega)), hs', if_neg (nI_ne0 (by omega) (by omega))]
  have step : ∀ i s f f' (S : zLt) (T : zMd), CL sg k S → ML sg k T → lt_at S = nI i → md_reading T = nI i → lt_statements S = nI s → md_statements T = nI s → 2 * s ≤ i → i ≤ k → (i < k ∨ s = 0) →
      fX2_faultOfForm_l12 (f + 1) (nI s) S = fX2_faultOfForm_j33 (nI s) S (fX2_faultOfForm_l12 f) ∧ fX8_street_l12 (f' + 1) 1 T = fX8_street_j34 T (fX8_street_l12 f') := by
    intro i s f f' S T hC hM ha hr hs hs' h2 hi hor
    constructor
    · rw [fX2_faultOfForm_l12, if_neg (show ¬ (64 : Int32) ≤ nI s from nI_ge (b := 64) (by omega) (by omega))]
      by_cases q : s = 0
      · rw [if_pos (show nI s = (0 : Int32) from by rw [q]; rfl)]
      · rw [if_neg (nI_ne0 (by omega) (by omega))]
        unfold fX6_howMany_L
        rw [hC.1, ha, if_neg (nI_ge (by omega) (by omega))]
    · rw [fX8_street_l12, if_neg (show ¬ (1 : Int32) = 0 from by decide), hr, hM.1]
      by_cases q : i < k
      · rw [if_pos (nI_lt q (by omega))]
      · rw [if_neg (nI_nlt (by omega) (by omega)), hs', if_pos (show nI s = (0 : Int32) from by rw [show s = 0 from by omega]; rfl)]
  have read : ∀ i s f f' (S : zLt) (T : zMd) (st : Nat → Nat), 0 < f' → CL sg k S → ML sg k T → lt_at S = nI i → md_reading T = nI i → lt_statements S = nI s → md_statements T = nI s → 2 * s ≤ i → i ≤ k → (i < k ∨ s = 0) → st 0 = 0 → st s = i → zRec sg st s T →
      (∃ i' S' T', i' ≤ 64 ∧ fX2_faultOfForm_l12 (f + 1) (nI s) S = some (-1000 - nI i', S') ∧ fX8_street_l12 (f' + 1) 1 T = fX8_street_j60 0 T' ∧ md_reading T' = nI i' ∧ TZ T T' ∧ CL sg k S') ∨
      (∃ i' st' S' T', i + 2 ≤ i' ∧ i' ≤ k ∧ fX2_faultOfForm_l12 (f + 1) (nI s) S = fX2_faultOfForm_l12 f (nI (s + 1)) S' ∧ fX8_street_l12 (f' + 1) 1 T = fX8_street_l12 f' 1 T' ∧ CL sg k S' ∧ ML sg k T' ∧ lt_at S' = nI i' ∧ md_reading T' = nI i' ∧ lt_statements S' = nI (s + 1) ∧ md_statements T' = nI (s + 1) ∧ TZ T T' ∧ st' 0 = 0 ∧ st' (s + 1) = i' ∧ zRec sg st' (s + 1) T') := by
    intro i s f f' S T st hf' hC hM ha hr hs hs' h2 hi hor h0 hst hR
    obtain ⟨e1, e2⟩ := step i s f f' S T hC hM ha hr hs hs' h2 hi hor
    obtain ⟨S1, s1, ⟨s2, s3, s4⟩, s5, s6⟩ := rs_c hx hC ha (by omega)
    obtain ⟨T1, t1, t2, t3, t4, t5⟩ := rs_m hx hM hr (by omega) hs' (by omega)
    obtain ⟨z1, z2⟩ := zSs_le hx hi
    have hC1 : CL sg k S1 := hC.cy s2 s3
    rw [e1, e2]
    unfold fX2_faultOfForm_j33 fX8_street_j34
    rw [s1, t1]
    rw [Option.bind_some]
    rw [Option.bind_some]
    unfold fX8_street_j53
    by_cases ok : (zSs sg i).1 = true
    · right
      obtain ⟨u1, u2, u3, u4⟩ := t5 ok
      have za : TZ T1 (md_set_statements T1 (nI (s + 1))) := TZ.statements _ _
      refine ⟨(zSs sg i).2.1, fun j => if j = s + 1 then (zSs sg i).2.1 else st j, lt_set_statements S1 (nI (s + 1)), md_set_statements T1 (nI (s + 1)), z2 ok, z1, ?_, ?_, hC1, (hM.tz t2).tz za, s5, (st_reading _ _).trans t4, rfl, st_statements _ _, t2.tr za, ?_, if_pos rfl, ?_⟩
      · rw [if_pos ok, if_neg (show ¬ (1 : Int32) = 0 from by decide), s4, hs, nI_1]
      · rw [if_pos ok, if_neg (show ¬ (1 : Int32) = 0 from by decide), t3, nI_1]
      · show (if 0 = s + 1 then _ else st 0) = 0
        rw [if_neg (show ¬ 0 = s + 1 from by omega)]; exact h0
      · exact (hR.more hst ok (by omega) u1 u2 u3 u4).fr (st_sort _ _) (st_sortAt _ _) (st_told _ _)
    · left
      obtain ⟨f', rfl⟩ : ∃ k', f' = k' + 1 := ⟨f' - 1, by omega⟩
      have za : TZ T1 (md_set_statements T1 (nI s + 0)) := TZ.statements _ _
      refine ⟨(zSs sg i).2.1, S1, md_set_statements T1 (nI s + 0), by omega, ?_, ?_, (st_reading _ _).trans t4, t2.tr za, hC1⟩
      · rw [if_neg ok, if_pos (show (0 : Int32) = 0 from rfl), s5]
      · rw [if_neg ok, if_pos (show (0 : Int32) = 0 from rfl), t3]
        rw [fX8_street_l12, if_pos (show (0 : Int32) = 0 from rfl)]
  induction d with
  | zero =>
    intro i s f f' S T st hd hf hf' hC hM ha hr hs hs' h2 hi h0 hst hR
    obtain ⟨f, rfl⟩ : ∃ k', f = k' + 1 := ⟨f - 1, by omega⟩
    obtain ⟨f', rfl⟩ : ∃ k', f' = k' + 1 := ⟨f' - 1, by omega⟩
    by_cases q : s = 0
    · rcases read i s f f' S T st (by omega) hC hM ha hr hs hs' h2 hi (Or.inr q) h0 hst hR with g | ⟨i', -, -, -, g1, g2, -⟩
      · exact Or.inl g
      · omega
    · exact Or.inr (stop i s (f + 1) (f' + 1) S T st (by omega) (by omega) hC hM ha hr hs hs' h2 hi h0 hR (by omega) q)
  | succ d ih =>
    intro i s f f' S T st hd hf hf' hC hM ha hr hs hs' h2 hi h0 hst hR
    obtain ⟨f, rfl⟩ : ∃ k', f = k' + 1 := ⟨f - 1, by omega⟩
    obtain ⟨f', rfl⟩ : ∃ k', f' = k' + 1 := ⟨f' - 1, by omega⟩
    by_cases q : i < k ∨ s = 0
    · rcases read i s f f' S T st (by omega) hC hM ha hr hs hs' h2 hi q h0 hst hR with g | ⟨i', st', S', T', g1, g2, g3, g4, g5, g6, g7, g8, g9, g10, g11, g12, g13, g14⟩
      · exact Or.inl g
      · rw [g3, g4]
        rcases ih i' (s + 1) f f' S' T' st' (by omega) (by omega) (by omega) g5 g6 g7 g8 g9 g10 (by omega) g2 g12 g13 g14 with ⟨i2, S2, T2, a1, a2, a3, a4, a5, a6⟩ | ⟨n, st2, S2, T2, a1, a2, a3, a4, a5, a6, a7, a8, a9⟩
        · exact Or.inl ⟨i2, S2, T2, a1, a2, a3, a4, g11.tr a5, a6⟩
        · exact Or.inr ⟨n, st2, S2, T2, a1, a2, a3, a4, a5, g11.tr a6, a7, a8, a9⟩
    · exact Or.inr (stop i s (f + 1) (f' + 1) S T st (by omega) (by omega) hC hM ha hr hs hs' h2 hi h0 hR (by omega) (fun z => q (Or.inr z)))
theorem sense_l {sg : Nat → Int32} {k n : Nat} {st : Nat → Nat} (hx : zTxt sg k) (hn : n ≤ 32) : ∀ d j f f' (S : zLt) (Z : zSt) (T : zMd) c w, j + d = n → d < f → d < f' → CL sg k S → lt_at S = nI (st j) → lt_statements S = nI n → md_statements T = nI n → zRec sg st n T → SR c w Z T →
    (∃ S' Z' T' c' w', fX2_faultOfSense_l7 f (nI j) S Z = some (0, S', Z') ∧ fX8_street_l86 f' (nI j) T = some (nI n, T') ∧ CL sg k S' ∧ lt_statements S' = nI n ∧ SR c' w' Z' T' ∧ FR T T' ∧ md_kept T' = md_kept T) ∨
    (∃ i S' Z' T', i ≤ 64 ∧ fX2_faultOfSense_l7 f (nI j) S Z = some (-2000 - nI i, S', Z') ∧ fX8_street_l86 f' (nI j) T = some (-2000 - nI i, T') ∧ CL sg k S' ∧ SE (zload T 100) T' ∧ FR T T' ∧ SE (zload T 0) (zload T' 0)) := by
  intro d
  induction d with
  | zero =>
    intro j f f' S Z T c w hj hf hf' hC ha hs hs' hR h
    obtain ⟨f, rfl⟩ : ∃ k', f = k' + 1 := ⟨f - 1, by omega⟩
    obtain ⟨f', rfl⟩ : ∃ k', f' = k' + 1 := ⟨f' - 1, by omega⟩
    refine Or.inl ⟨S, Z, T, c, w, ?_, ?_, hC, hs, h, FR.rf, rfl⟩
    · rw [fX2_faultOfSense_l7, hs, if_pos (nI_le (by omega) (by omega))]
    · rw [fX8_street_l86, hs', if_pos (nI_le (by omega) (by omega))]
  | succ d ih =>
    intro j f f' S Z T c w hj hf hf' hC ha hs hs' hR h
    obtain ⟨f, rfl⟩ : ∃ k', f = k' + 1 := ⟨f - 1, by omega⟩
    obtain ⟨f', rfl⟩ : ∃ k', f' = k' + 1 := ⟨f' - 1, by omega⟩
    obtain ⟨r1, r2, r3, r4⟩ := hR j (by omega)
    obtain ⟨S1, s1, ⟨s2, s3, s4⟩, s5, s6⟩ := rs_c hx hC ha (by omega)
    obtain ⟨s7, s8⟩ := s6 r1
    rw [if_pos r1] at s1
    obtain ⟨r, Z', T', q1, q2, q3, q4, q5, q6⟩ := comes_eq h (show j ≤ 31 from by omega) r1 s7 s8 r4
    have hC1 : CL sg k S1 := hC.cy s2 s3
    obtain ⟨f1, f2, f3, f4, f5, f6, f7, f8, f9, f10, f11, f12⟩ := q4
    have ec : fX2_faultOfSense_l7 (f + 1) (nI j) S Z = if r = 0 then some (-2000 - nI (st j), S1, Z') else fX2_faultOfSense_l7 f (nI (j + 1)) S1 Z' := by
      rw [fX2_faultOfSense_l7, hs, if_neg (nI_ge (by omega) (by omega)), s1]
      rw [Option.bind_some]
      rw [if_neg (show ¬ (1 : Int32) = 0 from by decide), q2]
      rw [Option.bind_some]
      rw [ha, nI_1]
    have em : fX8_street_l86 (f' + 1) (nI j) T = if r = 0 then (fX8_passesAll T' 1 0).bind fun u4 => ix 33 (nI j) (some (-2000 - md_sortAt u4 (nI j).toNatClampNeg, u4)) else fX8_street_l86 f' (nI (j + 1)) T' := by
      rw [fX8_street_l86, hs', if_neg (nI_ge (by omega) (by omega)), q3]
      rw [Option.bind_some]
      rw [nI_1]
    rw [ec, em]
    rcases q1 with rfl | rfl
    · right
      rw [if_pos (show (0 : Int32) = 0 from rfl), if_pos (show (0 : Int32) = 0 from rfl)]
      obtain ⟨T5, l1, l2, l3, l4⟩ := load_ok T' 1 (by omega)
      have l1' : fX8_passesAll T' 1 0 = some T5 := l1
      have l3' := l3
      obtain ⟨g1, g2, g3, g4, g5, g6, g7, g8, g9, g10, g11, g12⟩ := l3
      refine ⟨st j, S1, Z', T5, r3, rfl, ?_, hC1, (SR.kept2 q5 100).tr l2, FR.tr ⟨f1, f2, f3, f4, f5, f6, f7, f8, f9, f10, f11, f12⟩ l3', (SR.kept2 q5 0).tr (l4 0)⟩
      rw [l1']
      rw [Option.bind_some]
      rw [ix_nI (by omega) (by omega), nI_clamp (by omega), g4, f4, r4.2.1]
    · rw [if_neg (show ¬ (1 : Int32) = 0 from by decide), if_neg (show ¬ (1 : Int32) = 0 from by decide)]
      obtain ⟨c', w', h'⟩ := q6 rfl
      rcases ih (j + 1) f f' S1 Z' T' c' w' (by omega) (by omega) (by omega) hC1 (by rw [s5, r2]) (s4.trans hs) (f8.trans hs') (hR.fr f3 f4 f5) h' with ⟨S2, Z2, T2, c2, w2, a1, a2, a3, a4, a5, a6, a7⟩ | ⟨i, S2, Z2, T2, a1, a2, a3, a4, a5, a6, a7⟩
      · exact Or.inl ⟨S2, Z2, T2, c2, w2, a1, a2, a3, a4, a5, FR.tr ⟨f1, f2, f3, f4, f5, f6, f7, f8, f9, f10, f11, f12⟩ a6, a7.trans q5⟩
      · exact Or.inr ⟨i, S2, Z2, T2, a1, a2, a3, a4, (SR.kept2 q5 100).tr a5, FR.tr ⟨f1, f2, f3, f4, f5, f6, f7, f8, f9, f10, f11, f12⟩ a6, (SR.kept2 q5 0).tr a7⟩
theorem f1000_ne : ∀ i, i < 65 → (-1000 : Int32) - nI i ≠ 0 := by decide +kernel
theorem f2000_ne : ∀ i, i < 65 → (-2000 : Int32) - nI i ≠ 0 := by decide +kernel
/-- both, behind a street that was told -/
theorem RT.told {M M' : zMn} {T T' : zMd} (h : RT M T) {c w : Nat} (hs : SR c w (mn_live M') T') (m2 : mn_isKept M' = mn_isKept M) (m3 : mn_kept M' = mn_kept M) (m4 : mn_chains M' = mn_chains M) (m5 : mn_refusals M' = mn_refusals M) (m6 : mn_told M' = mn_told M) (m7 : lt_length (mn_letters M') = 0) (ei : md_hasImage T' = md_hasImage T) (ek : SE (zload T 0) (zload T' 0)) (et : md_taped T' = 0) (e2 : md_rowMany T' = md_rowMany T ∧ md_row T' = md_row T ∧ md_refused T' = md_refused T) : RT M' T' := by
  obtain ⟨-, ⟨h2, h2'⟩, -, ⟨k2, y1, y2, y3, y4⟩, h5, h6⟩ := h
  obtain ⟨a1, a2, a3⟩ := e2
  refine ⟨⟨c, w, hs⟩, ⟨m2.trans (h2.trans ei.symm), ?_⟩, ⟨0, by omega, m7, et, fun i hi => by omega⟩, ⟨k2, y1, by rw [m6]; exact y2, a1.trans y3, fun i hi => by rw [m6, a2]; exact y4 i hi⟩, fun i hi => by rw [m5, a3]; exact h5 i hi, by rw [m4]; exact h6⟩
  rcases h2' with z | ⟨z, c', w', z2⟩
  · exact Or.inl (ei.trans z)
  · refine Or.inr ⟨ei.trans z, c', w', ?_⟩
    rw [m3]
    exact z2.se ek
theorem tp_se (T : zMd) (x : Int32) : md_number (md_set_taped T x) = md_number T ∧ md_kind (md_set_taped T x) = md_kind T ∧ md_figure (md_set_taped T x) = md_figure T ∧ md_one (md_set_taped T x) = md_one T ∧ md_other (md_set_taped T x) = md_other T ∧ md_stands (md_set_taped T x) = md_stands T ∧ md_uses (md_set_taped T x) = md_uses T ∧ md_earned (md_set_taped T x) = md_earned T ∧ md_houses (md_set_taped T x) = md_houses T ∧ md_sums (md_set_taped T x) = md_sums T ∧ md_falls (md_set_taped T x) = md_falls T := ⟨rfl, rfl, rfl, rfl, rfl, rfl, rfl, rfl, rfl, rfl, rfl⟩
theorem tp_kept (T : zMd) (x : Int32) : md_kept (md_set_taped T x) = md_kept T := rfl
theorem tp_hasImage (T : zMd) (x : Int32) : md_hasImage (md_set_taped T x) = md_hasImage T := rfl
theorem tp_rowMany (T : zMd) (x : Int32) : md_rowMany (md_set_taped T x) = md_rowMany T := rfl
theorem tp_row (T : zMd) (x : Int32) : md_row (md_set_taped T x) = md_row T := rfl
theorem tp_refused (T : zMd) (x : Int32) : md_refused (md_set_taped T x) = md_refused T := rfl
theorem tp_taped (T : zMd) (x : Int32) : md_taped (md_set_taped T x) = x := rfl
theorem tp_statements (T : zMd) (x : Int32) : md_statements (md_set_taped T x) = md_statements T := rfl
theorem tp_sort (T : zMd) (x : Int32) : md_sort (md_set_taped T x) = md_sort T := rfl
theorem tp_sortAt (T : zMd) (x : Int32) : md_sortAt (md_set_taped T x) = md_sortAt T := rfl
theorem tp_told (T : zMd) (x : Int32) : md_told (md_set_taped T x) = md_told T := rfl
theorem sim_street : zSim_street RT := by
  intro M T h
  have hr := h
  obtain ⟨⟨c, w, hs⟩, -, ⟨k, hk, x1, x2, x3⟩, -⟩ := h
  obtain ⟨sg, esg⟩ : ∃ sg : Nat → Int32, sg = fun i => if i < k then md_tape T i else -1 := ⟨_, rfl⟩
  have hx : zTxt sg k := ⟨hk, fun i hi => by rw [esg]; exact if_neg (by omega)⟩
  obtain ⟨S0, eS0⟩ : ∃ S0, S0 = lt_set_statements (lt_set_at (mn_letters M) 0) 0 := ⟨_, rfl⟩
  have hC : CL sg k S0 := by
    rw [eS0]
    refine ⟨x1, fun i hi => ?_⟩
    rw [esg]
    show lt_all (mn_letters M) i = if i < k then _ else _
    rw [if_pos hi]
    exact x3 i hi
  obtain ⟨Ta, ea⟩ : ∃ Ta, Ta = md_set_reading T 0 := ⟨_, rfl⟩
  obtain ⟨Tb, eb⟩ : ∃ Tb, Tb = md_set_statements Ta 0 := ⟨_, rfl⟩
  have za : TZ T Ta := by rw [ea]; exact TZ.reading _ _
  have zb : TZ Ta Tb := by rw [eb]; exact TZ.statements _ _
  have zab := za.tr zb
  have hMT : ML sg k T := ⟨x2, fun i hi => by rw [esg]; exact (if_pos hi).symm⟩
  have hM : ML sg k Tb := hMT.tz zab
  have ra : md_reading Ta = nI 0 := by rw [ea]; rfl
  have rb : md_reading Tb = nI 0 := by rw [eb, st_reading]; exact ra
  have nb : md_statements Tb = nI 0 := by rw [eb, st_statements]; rfl
  have aS : lt_at S0 = nI 0 := by rw [eS0]; rfl
  have nS : lt_statements S0 = nI 0 := by rw [eS0]; rfl
  have emS : fX8_street T = fX8_street_l12 FU 1 Tb := by
    unfold fX8_street
    rw [← ea, ← eb]
  have ecS : fX2_faultOfForm (mn_letters M) = fX2_faultOfForm_l12 FU (nI 0) S0 := by
    unfold fX2_faultOfForm
    rw [← eS0]
    rfl
  unfold fX7_street
  rw [ecS, emS]
  rcases form_l hx 64 0 0 FU FU S0 Tb (fun _ => 0) (by omega) (FU_big _ (by omega)) (FU_big _ (by omega)) hC hM aS rb nS nb (by omega) (by omega) rfl rfl (fun j hj => by omega) with ⟨i', S1, T1, a1, a2, a3, a4, a5, a6⟩ | ⟨n, st, S1, T1, a1, a2, a3, a4, a5, a6, a7, a8, a9⟩
  · have zt := zab.tr a5
    rw [a2, a3]
    rw [Option.bind_some]
    rw [if_neg (f1000_ne i' (by omega))]
    unfold fX7_street_j35 fX8_street_j60
    rw [if_neg (f1000_ne i' (by omega)), if_pos (show (0 : Int32) = 0 from rfl), a4]
    refine ⟨_, _, _, rfl, rfl, ?_⟩
    obtain ⟨Tc, ec⟩ : ∃ Tc, Tc = md_set_taped T1 0 := ⟨_, rfl⟩
    rw [← ec]
    obtain ⟨z1, z2, z3, z4, z5, z6, z7, z8⟩ := zt
    obtain ⟨b1, b2, b3, b4, b5, b6, b7, b8, b9, b10, b11⟩ := z1
    have sT1 := hs.of ⟨b1, b2, b3, b4, b5, b6, b7, b8, b9, b10, b11⟩
    refine RT.told hr (c := c) (w := w) (M' := mn_set_letters (mn_set_letters (mn_set_mind M (fX5_become (mn_mind M) (mn_live M))) S1) (fX6_forget_L S1)) ?_ rfl rfl rfl rfl rfl rfl ?_ ?_ ?_ ?_
    · rw [ec]
      exact sT1.of (tp_se T1 0)
    · rw [ec, tp_hasImage]; exact z3
    · rw [ec]; exact SR.kept2 ((tp_kept T1 0).trans z2) 0
    · rw [ec, tp_taped]
    · rw [ec, tp_rowMany, tp_row, tp_refused]; exact ⟨z6, z7, z8⟩
  · have zt := zab.tr a6
    obtain ⟨z1, z2, z3, z4, z5, z6, z7, z8⟩ := zt
    obtain ⟨b1, b2, b3, b4, b5, b6, b7, b8, b9, b10, b11⟩ := z1
    have sT1 := hs.of ⟨b1, b2, b3, b4, b5, b6, b7, b8, b9, b10, b11⟩
    obtain ⟨Tc, ec⟩ : ∃ Tc, Tc = md_set_taped T1 0 := ⟨_, rfl⟩
    have sTc : SR c w (mn_live M) Tc := by rw [ec]; exact sT1.of (tp_se T1 0)
    have tc0 : md_taped Tc = 0 := by rw [ec, tp_taped]
    have tk : md_kept Tc = md_kept T := by rw [ec, tp_kept]; exact z2
    have ti : md_hasImage Tc = md_hasImage T := by rw [ec, tp_hasImage]; exact z3
    have tr : md_rowMany Tc = md_rowMany T ∧ md_row Tc = md_row T ∧ md_refused Tc = md_refused T := by rw [ec, tp_rowMany, tp_row, tp_refused]; exact ⟨z6, z7, z8⟩
    have tn : md_statements Tc = nI n := by rw [ec, tp_statements]; exact a5
    have tR : zRec sg st n Tc := by rw [ec]; exact a9.fr (tp_sort _ _) (tp_sortAt _ _) (tp_told _ _)
    obtain ⟨Td, k1, k2, k3, k4, k5⟩ := keep_ok Tc 1 (by omega)
    have k1' : fX8_passesAll Tc 1 1 = some Td := k1
    obtain ⟨f1, f2, f3, f4, f5, f6, f7, f8, f9, f10, f11, f12⟩ := k3
    have sTd : SR c w (fX5_become (mn_mind M) (mn_live M)) Td := (sTc.se k2).become (mn_mind M)
    have ej : fX8_street_j60 1 T1 = fX8_street_l86 FU (nI 0) Td := by
      unfold fX8_street_j60
      rw [if_neg (show ¬ (1 : Int32) = 0 from by decide), ← ec, k1']
      rw [Option.bind_some]
      rfl
    have es : fX2_faultOfSense S1 (fX5_become (mn_mind M) (mn_live M)) = fX2_faultOfSense_l7 FU (nI 0) (lt_set_at S1 0) (fX5_become (mn_mind M) (mn_live M)) := rfl
    rw [a2, a3, ej]
    rw [Option.bind_some]
    rw [if_pos (show (0 : Int32) = 0 from rfl), es]
    have e0 : SE (zload T 0) (zload Td 0) := (SR.kept2 tk 0).tr (k5 0 (by omega) (by omega))
    rcases sense_l hx a1 n 0 FU FU (lt_set_at S1 0) _ Td c w (by omega) (FU_big _ (by omega)) (FU_big _ (by omega)) a7 (by rw [a8]; rfl) a4 (f8.trans tn) (tR.fr f3 f4 f5) sTd with ⟨S2, Z2, T2, c2, w2, p1, p2, p3, p4, p5, p6, p7⟩ | ⟨i, S2, Z2, T2, p1, p2, p3, p4, p5, p6, p7⟩
    · obtain ⟨g1, g2, g3, g4, g5, g6, g7, g8, g9, g10, g11, g12⟩ := p6
      rw [p1, p2]
      rw [Option.bind_some]
      unfold fX7_street_j35 fX2_statementCount
      rw [if_pos (show (0 : Int32) = 0 from rfl)]
      refine ⟨nI n, mn_set_letters (mn_set_live (mn_set_letters (mn_set_mind M Z2) S2) (fX5_become (mn_live M) Z2)) (fX6_forget_L S2), T2, ?_, rfl, ?_⟩
      · show some (lt_statements S2, _) = _
        rw [p4]
        rfl
      · exact RT.told hr (c := c2) (w := w2) (M' := mn_set_letters (mn_set_live (mn_set_letters (mn_set_mind M Z2) S2) (fX5_become (mn_live M) Z2)) (fX6_forget_L S2)) (p5.become (mn_live M)) rfl rfl rfl rfl rfl rfl (g10.trans (f10.trans ti)) (e0.tr (SR.kept2 p7 0)) (g6.trans (f6.trans tc0)) ⟨g12.trans (f12.trans tr.1), g11.trans (f11.trans tr.2.1), g1.trans (f1.trans tr.2.2)⟩
    · obtain ⟨g1, g2, g3, g4, g5, g6, g7, g8, g9, g10, g11, g12⟩ := p6
      rw [p2, p3]
      rw [Option.bind_some]
      unfold fX7_street_j35
      rw [if_neg (f2000_ne i (by omega))]
      refine ⟨-2000 - nI i, mn_set_letters (mn_set_letters (mn_set_mind M Z2) S2) (fX6_forget_L S2), T2, rfl, rfl, ?_⟩
      have sT2 : SR c w (mn_live M) T2 := (sTc.se k4).se p5
      exact RT.told hr (c := c) (w := w) (M' := mn_set_letters (mn_set_letters (mn_set_mind M Z2) S2) (fX6_forget_L S2)) sT2 rfl rfl rfl rfl rfl rfl (g10.trans (f10.trans ti)) (e0.tr p7) (g6.trans (f6.trans tc0)) ⟨g12.trans (f12.trans tr.1), g11.trans (f11.trans tr.2.1), g1.trans (f1.trans tr.2.2)⟩
