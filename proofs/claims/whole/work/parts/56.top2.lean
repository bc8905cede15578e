/-! laws, new houses, fires -/
theorem j70_no {M : zMn} {v a b : Int32} (h : fX5_changeLaws (mn_live M) a b = (0, mn_live M)) : fX7_law_j70 v a b M = (fX7_refuse M (-2)).bind fun u3 => some (u3.1, u3.2) := by
  unfold fX7_law_j70
  rw [h]
  exact if_pos rfl
theorem j70_yes {M : zMn} {S' : zSt} {v a b : Int32} (h : fX5_changeLaws (mn_live M) a b = (1, S')) : fX7_law_j70 v a b M = some (v, mn_set_live M S') := by
  unfold fX7_law_j70
  rw [h]
  exact if_neg (show ¬ (1 : Int32) = 0 from by decide)
theorem l20_no {T : zMd} {v1 v2 t0 t1 t2 : Int32} (h : fX8_isIn t0 t1 t2 = 0) : fX8_law_j20 v1 v2 t0 t1 t2 T = fX8_law_j26 T := by
  unfold fX8_law_j20
  rw [if_pos h]
theorem l20_0 {T : zMd} {q : Int32} (h : fX8_isIn q 0 2 = 1) : fX8_law_j20 0 q q 0 2 T = some (md_sums T, md_set_sums T q) := by
  unfold fX8_law_j20 fX8_law_j48
  rw [h, if_neg (show ¬ (1 : Int32) = 0 from by decide), if_pos rfl, if_pos rfl]
theorem l20_1 {T : zMd} {q : Int32} (h : fX8_isIn q 0 1 = 1) : fX8_law_j20 1 q q 0 1 T = some (md_falls T, md_set_falls T q) := by
  unfold fX8_law_j20 fX8_law_j48
  rw [h, if_neg (show ¬ (1 : Int32) = 0 from by decide), if_neg (show ¬ (1 : Int32) = 0 from by decide), if_neg (show ¬ (1 : Int32) = 0 from by decide)]
theorem isIn_cs (q b : Int32) : ((q < 0 ∨ b < q) ∧ fX8_isIn q 0 b = 0) ∨ ((¬ q < 0 ∧ ¬ b < q) ∧ fX8_isIn q 0 b = 1) := by
  unfold fX8_isIn
  by_cases g : q < 0
  · rw [if_pos g]; exact Or.inl ⟨Or.inl g, rfl⟩
  · rw [if_neg g]
    by_cases g2 : b < q
    · rw [if_pos g2]; exact Or.inl ⟨Or.inr g2, rfl⟩
    · rw [if_neg g2]; exact Or.inr ⟨⟨g, g2⟩, rfl⟩
theorem cl_no {S : zSt} {a b : Int32} (h : (a < 0 ∨ (2 : Int32) < a) ∨ (b < 0 ∨ (1 : Int32) < b)) : fX5_changeLaws S a b = (0, S) := by
  unfold fX5_changeLaws
  by_cases g1 : a < 0
  · rw [if_pos g1]
  · rw [if_neg g1]
    by_cases g2 : (2 : Int32) < a
    · rw [if_pos g2]
    · rw [if_neg g2]
      by_cases g3 : b < 0
      · rw [if_pos g3]
      · rw [if_neg g3]
        rcases h with (z | z) | (z | z)
        · exact absurd z g1
        · exact absurd z g2
        · exact absurd z g3
        · rw [if_neg (Int32.not_le.mpr z)]
theorem cl_yes {S : zSt} {a b : Int32} (h : (¬ a < 0 ∧ ¬ (2 : Int32) < a) ∧ (¬ b < 0 ∧ ¬ (1 : Int32) < b)) : fX5_changeLaws S a b = (1, st_set_falls (st_set_sums S a) b) := by
  unfold fX5_changeLaws
  rw [if_neg h.1.1, if_neg h.1.2, if_neg h.2.1, if_pos (Int32.not_lt.mp h.2.2)]
theorem law3 {q : Int32} (h : ¬ q < 0 ∧ ¬ (2 : Int32) < q) : q = 0 ∨ q = 1 ∨ q = 2 := by
  have b1 : ¬ q.toInt < 0 := fun t => h.1 (Int32.lt_iff_toInt_lt.mpr t)
  have b2 : ¬ (2 : Int) < q.toInt := fun t => h.2 (Int32.lt_iff_toInt_lt.mpr t)
  rcases (show q.toInt = 0 ∨ q.toInt = 1 ∨ q.toInt = 2 by omega) with z | z | z
  · exact Or.inl (Int32.toInt_inj.mp z)
  · exact Or.inr (Or.inl (Int32.toInt_inj.mp z))
  · exact Or.inr (Or.inr (Int32.toInt_inj.mp z))
theorem law2 {q : Int32} (h : ¬ q < 0 ∧ ¬ (1 : Int32) < q) : q = 0 ∨ q = 1 := by
  have b1 : ¬ q.toInt < 0 := fun t => h.1 (Int32.lt_iff_toInt_lt.mpr t)
  have b2 : ¬ (1 : Int) < q.toInt := fun t => h.2 (Int32.lt_iff_toInt_lt.mpr t)
  rcases (show q.toInt = 0 ∨ q.toInt = 1 by omega) with z | z
  · exact Or.inl (Int32.toInt_inj.mp z)
  · exact Or.inr (Int32.toInt_inj.mp z)
theorem SR.laws {c w : Nat} {S : zSt} {T : zMd} (h : SR c w S T) {a b : Int32} (ha : a = 0 ∨ a = 1 ∨ a = 2) (hb : b = 0 ∨ b = 1) : SR c w (st_set_falls (st_set_sums S a) b) (md_set_falls (md_set_sums T a) b) := by
  obtain ⟨s1, s2, s3, s4, s5, s6, -, -, s9⟩ := h
  exact ⟨s1, s2, s3, s4, s5, s6, ⟨rfl, ha⟩, ⟨rfl, hb⟩, s9⟩
theorem sim_law : zSim_law RT := by
  intro M T p q h
  have hr := h
  obtain ⟨⟨c, w, hs⟩, -⟩ := h
  obtain ⟨s1, s2, s3, s4, s5, s6, ⟨s7, s7'⟩, ⟨s8, s8'⟩, s9⟩ := hs
  have hs : SR c w (mn_live M) T := ⟨s1, s2, s3, s4, s5, s6, ⟨s7, s7'⟩, ⟨s8, s8'⟩, s9⟩
  have R2 : ∃ r M' T', fX7_law_j9 M = some (r, M') ∧ fX8_law_j26 T = some (r, T') ∧ RT M' T' := by
    obtain ⟨M', T', a, b, e⟩ := refuse_2 hr
    refine ⟨-2, M', T', ?_, ?_, e⟩
    · unfold fX7_law_j9; rw [a]; rfl
    · unfold fX8_law_j26; rw [b]; rfl
  have R2' : ∃ r M' T', ((fX7_refuse M (-2)).bind fun u3 => some (u3.1, u3.2)) = some (r, M') ∧ fX8_law_j26 T = some (r, T') ∧ RT M' T' := by
    obtain ⟨M', T', a, b, e⟩ := refuse_2 hr
    refine ⟨-2, M', T', ?_, ?_, e⟩
    · rw [a]; rfl
    · unfold fX8_law_j26; rw [b]; rfl
  unfold fX7_law fX8_law
  rcases two_3 p with ⟨e1, e2⟩ | ⟨e1, e2, e3⟩
  · rw [e2, if_pos rfl]
    unfold fX8_isIn at e2
    by_cases g : p < 0
    · rw [if_pos g]; exact R2
    · rw [if_neg g] at e2 ⊢
      by_cases g2 : (1 : Int32) < p
      · rw [if_neg (Int32.not_le.mpr g2)]; exact R2
      · rw [if_neg g2] at e2; exact absurd e2 (by decide)
  · rw [e2, if_neg (show ¬ (1 : Int32) = 0 from by decide)]
    rcases e3 with rfl | rfl
    · have c1 : fX7_law_j37 0 q (fX5_sumsLaw (mn_live M)) M = fX7_law_j70 (fX5_sumsLaw (mn_live M)) q (fX5_fallsLaw (mn_live M)) M := by
        unfold fX7_law_j37 fX7_law_j53
        rw [if_pos rfl, if_pos rfl]
      rw [if_neg (show ¬ (0 : Int32) < 0 from by decide), if_pos (show (0 : Int32) ≤ 1 from by decide), if_pos rfl, c1]
      have ef : fX5_fallsLaw (mn_live M) = md_falls T := s8
      have es : fX5_sumsLaw (mn_live M) = md_sums T := s7
      have f0 : ¬ md_falls T < 0 ∧ ¬ (1 : Int32) < md_falls T := by rcases s8' with z | z <;> rw [z] <;> decide
      rw [ef, es, if_pos rfl]
      rcases isIn_cs q 2 with ⟨g, e⟩ | ⟨g, e⟩
      · rw [l20_no e, j70_no (cl_no (Or.inl g))]; exact R2'
      · rw [l20_0 e, j70_yes (cl_yes ⟨g, f0⟩)]
        have hl := hs.laws (law3 g) s8'
        exact ⟨_, _, _, rfl, rfl, hr.live hl ⟨rfl, rfl, rfl, rfl, rfl, rfl, rfl, rfl, rfl, rfl, rfl, rfl⟩ (fun _ _ => rfl)⟩
    · have c1 : fX7_law_j37 1 q (fX5_fallsLaw (mn_live M)) M = fX7_law_j70 (fX5_fallsLaw (mn_live M)) (fX5_sumsLaw (mn_live M)) q M := by
        unfold fX7_law_j37 fX7_law_j53
        rw [if_neg (show ¬ (1 : Int32) = 0 from by decide), if_neg (show ¬ (1 : Int32) = 0 from by decide)]
      rw [if_neg (show ¬ (1 : Int32) < 0 from by decide), if_pos (show (1 : Int32) ≤ 1 from by decide), if_neg (show ¬ (1 : Int32) = 0 from by decide), c1]
      have ef : fX5_fallsLaw (mn_live M) = md_falls T := s8
      have es : fX5_sumsLaw (mn_live M) = md_sums T := s7
      have f0 : ¬ md_sums T < 0 ∧ ¬ (2 : Int32) < md_sums T := by rcases s7' with z | z | z <;> rw [z] <;> decide
      rw [ef, es, if_neg (show ¬ (1 : Int32) = 0 from by decide)]
      rcases isIn_cs q 1 with ⟨g, e⟩ | ⟨g, e⟩
      · rw [l20_no e, j70_no (cl_no (Or.inr g))]; exact R2'
      · rw [l20_1 e, j70_yes (cl_yes ⟨f0, g⟩)]
        have hl := hs.laws s7' (law2 g)
        exact ⟨_, _, _, rfl, rfl, hr.live hl ⟨rfl, rfl, rfl, rfl, rfl, rfl, rfl, rfl, rfl, rfl, rfl, rfl⟩ (fun _ _ => rfl)⟩
theorem sim_add : zSim_add RT := by
  intro M T p q k f h
  have hr := h
  obtain ⟨⟨c, w, hs⟩, -⟩ := h
  have hc := hs.c
  have R1 : ∃ r M' T', fX7_add_j22 M = some (r, M') ∧ fX8_add_j16 p q k f T = some (r, T') ∧ RT M' T' := by
    obtain ⟨M', T', a, b, e⟩ := refuse_1 hr
    refine ⟨-1, M', T', ?_, ?_, e⟩
    · unfold fX7_add_j22; rw [a]; rfl
    · unfold fX8_add_j16 fX8_add_j42 fX8_add_j80
      rw [if_neg (by decide), if_neg (by decide), b]; rfl
  unfold fX7_add fX8_add
  by_cases ho : p < 0 ∨ nI c ≤ p
  · rw [has_out hs ho, if_pos rfl, isHouse_out hs ho]
    exact R1
  obtain ⟨a, ha, rfl⟩ := in_of hc ho
  rw [has_in hs ha, if_neg (by decide), isHouse_in hs ha]
  repeat rw [Option.bind_some]
  rw [if_neg (show ¬ (1 : Int32) = 0 from by decide)]
  by_cases ho2 : q < 0 ∨ nI c ≤ q
  · rw [has_out hs ho2, if_pos rfl, isHouse_out hs ho2]
    exact R1
  obtain ⟨b, hb, rfl⟩ := in_of hc ho2
  rw [has_in hs hb, if_neg (by decide), isHouse_in hs hb]
  repeat rw [Option.bind_some]
  rw [if_neg (show ¬ (1 : Int32) = 0 from by decide)]
  have ek : fX8_isIn k 0 5 = fX5_isKind k := rfl
  rw [ek]
  have k01 : fX5_isKind k = 0 ∨ fX5_isKind k = 1 := by
    unfold fX5_isKind
    by_cases g : k < 0
    · rw [if_pos g]; exact Or.inl rfl
    · rw [if_neg g]
      by_cases g2 : (5 : Int32) < k
      · rw [if_pos g2]; exact Or.inl rfl
      · rw [if_neg g2]; exact Or.inr rfl
  rcases k01 with hk | hk
  · rw [hk, if_pos rfl, if_pos rfl]
    obtain ⟨M', T', x, y, z⟩ := refuse_2 hr
    refine ⟨-2, M', T', ?_, ?_, z⟩
    · rw [x]; rfl
    · unfold fX8_add_j42 fX8_add_j80
      rw [if_neg (by decide), if_neg (by decide), y]; rfl
  rw [hk, if_neg (show ¬ (1 : Int32) = 0 from by decide), if_neg (show ¬ (1 : Int32) = 0 from by decide)]
  unfold fX8_bound
  by_cases g : (0 : Int32) ≤ f
  · simp only [if_pos g]
    by_cases g2 : f ≤ 9
    · simp only [if_pos g2]
      obtain ⟨r, hr2, e1, e2, e3⟩ := canBe_eq hs ha hb
      unfold fX8_add_j42
      rw [e1, e2, if_pos rfl]
      rcases hr2 with rfl | rfl
      · obtain ⟨M', T', x, y, z⟩ := refuse_3 hr
        refine ⟨-3, M', T', ?_, ?_, z⟩
        · repeat rw [Option.bind_some]
          rw [if_pos (show (0 : Int32) = 0 from rfl), x]; rfl
        · repeat rw [Option.bind_some]
          rw [if_pos (show (0 : Int32) = 0 from rfl)]
          unfold fX8_add_j78 fX8_add_j80
          rw [if_neg (by decide), y]; rfl
      · repeat rw [Option.bind_some]
        rw [if_neg (show ¬ (1 : Int32) = 0 from by decide), if_neg (by decide), hs.houses]
        by_cases h12 : c = 12
        · subst h12
          rw [if_pos (show nI 12 = 12 by decide)]
          have e6 : fX5_hasRoom (mn_live M) = 0 := by
            unfold fX5_hasRoom
            rw [hs.came]; decide
          have e7 : fX5_build (mn_live M) (nI a) (nI b) k f = some (0, mn_live M) := by
            unfold fX5_build
            rw [e6, if_pos rfl]
          rw [e7]
          obtain ⟨M', T', x, y, z⟩ := refuse_6 hr
          refine ⟨-6, M', T', ?_, ?_, z⟩
          · repeat rw [Option.bind_some]
            rw [if_pos (show (0 : Int32) = 0 from rfl)]
            show (fX7_refuse M (-6)).bind _ = _
            rw [x]; rfl
          · unfold fX8_add_j78 fX8_add_j80
            rw [if_neg (by decide), y]; rfl
        · rw [if_neg (show ¬ nI c = (12 : Int32) from fun z => h12 ((nI_eq (b := 12) (by omega) (by omega)).mp z))]
          obtain ⟨sa, sb, h9⟩ := e3 rfl
          obtain ⟨w', S', T', b1, b2, b3, b4, b5, -⟩ := build_eq hs (by omega) ha hb (f := f) hk e1 h9
          rw [b1]
          refine ⟨nI c, mn_set_live M S', T', ?_, ?_, hr.live b3 b4 (fun j _ => by rw [b5])⟩
          · repeat rw [Option.bind_some]
            rw [if_neg (show ¬ (1 : Int32) = 0 from by decide)]
            unfold fX5_cameCount
            rw [b3.came, nI_pred]
          · unfold fX8_add_j78 fX8_add_j80
            rw [if_pos rfl, b2]
            show some (md_houses T' - 1, T') = _
            rw [b3.houses, nI_pred]
    · simp only [if_neg g2]
      obtain ⟨M', T', x, y, z⟩ := refuse_6 hr
      refine ⟨-6, M', T', ?_, ?_, z⟩
      · rw [x]; rfl
      · unfold fX8_add_j42 fX8_add_j80
        rw [if_neg (by decide), if_neg (by decide), y]; rfl
  · simp only [if_neg g]
    obtain ⟨M', T', x, y, z⟩ := refuse_4 hr
    refine ⟨-4, M', T', ?_, ?_, z⟩
    · rw [x]; rfl
    · unfold fX8_add_j42 fX8_add_j80
      rw [if_neg (by decide), if_neg (by decide), y]; rfl
/-- bits that fall, counted -/
theorem zpop_sub {w x : Nat} (hx : ∀ i, i < 32 → x.testBit i = true → w.testBit i = true) : ∀ n, n ≤ 31 → zpop (w &&& (x ^^^ 4294967295)) n + zpop x n = zpop w n := by
  intro n
  induction n with
  | zero => intro _; rfl
  | succ n ih =>
    intro hn
    have := ih (by omega)
    rw [zpop, zpop, zpop, Nat.testBit_and, z_tb_not _ _ (by omega)]
    by_cases b : x.testBit n = true
    · have := hx n (by omega) b
      simp [b, this]; omega
    · by_cases b2 : w.testBit n = true
      · simp [b, b2]; omega
      · simp [b, b2]; omega
theorem z_rest {w x : Nat} (hw : w < 4096) (hx1 : x ≤ w) (hx : ∀ i, i < 32 → x.testBit i = true → w.testBit i = true) : w &&& ((w &&& (x ^^^ 4294967295)) ^^^ 4294967295) = x := by
  apply Nat.eq_of_testBit_eq
  intro j
  by_cases hj : j < 32
  · rw [Nat.testBit_and, z_tb_not _ _ hj, Nat.testBit_and, z_tb_not _ _ hj]
    by_cases b : x.testBit j = true
    · simp [b, hx j hj b]
    · by_cases b2 : w.testBit j = true
      · simp [b, b2]
      · simp [b, b2]
  · have e1 : w.testBit j = false := Nat.testBit_lt_two_pow (Nat.lt_of_lt_of_le hw (Nat.pow_le_pow_right (n := 2) (i := 12) (by omega) (by omega)))
    have e2 : x.testBit j = false := Nat.testBit_lt_two_pow (Nat.lt_of_le_of_lt hx1 (Nat.lt_of_lt_of_le hw (Nat.pow_le_pow_right (n := 2) (i := 12) (by omega) (by omega))))
    rw [Nat.testBit_and, e1, e2]
    rfl
theorem zG_w {T : zMd} {w j c : Nat} : zG T (zclr w j) c ≤ w ∧ ∀ i, i < 32 → (zG T (zclr w j) c).testBit i = true → w.testBit i = true := by
  refine ⟨Nat.le_trans (zG_le _ _ _) (zclr_le _ _), fun i hi q => ?_⟩
  have := zG_sub T (zclr w j) c i hi q
  rw [zclr_tb _ _ _ hi] at this
  simp at this
  exact this.1
theorem SR.fall {c w : Nat} {S : zSt} {T : zMd} (h : SR c w S T) {x : Nat} (hx : x ≤ w) {Y : Nat → Int32} (hY : ∀ h, h < c → Y h = zbit x h) : SR c x (st_set_standing S (nI x)) (md_set_stands T Y) := by
  obtain ⟨s1, s2, s3, s4, s5, s6, s7, s8, s9⟩ := h
  refine ⟨s1, by omega, s3, s4, rfl, fun j hj => ?_, s7, s8, s9⟩
  obtain ⟨a1, a2, a3, a4, a5, a6, a7, a8⟩ := s6 j hj
  exact ⟨a1, a2, a3, a4, a5, a6, a7, hY j hj⟩
theorem SR.hs {c w : Nat} {S : zSt} {T : zMd} (h : SR c w S T) : fX8_standing T = some (nI w) := standing_eq h.c h.houses h.w (fun j hj => (h.arr j hj).2.2.2.2.2.2.2)
theorem fire_in {c w : Nat} {S : zSt} {T : zMd} (h : SR c w S T) {j : Nat} (hj : j < c) (hs : w.testBit j = true) : fX5_fire S (nI j) = some (nI (zpop w 31) - nI (zpop (zG T (zclr w j) c) 31), st_set_standing S (nI (zG T (zclr w j) c))) := by
  have hw := h.w12
  obtain ⟨x1, x2⟩ := zG_w (T := T) (w := w) (j := j) (c := c)
  have fl : w &&& (zG T (zclr w j) c ^^^ 4294967295) ≤ w := Nat.and_le_left
  have ps := zpop_sub x2 31 (by omega)
  have b1 := zpop_le (zG T (zclr w j) c) 31
  unfold fX5_fire
  rw [fallsWith_in h hj hs, z_andnot (by omega) (by omega)]
  show some (fJ6_bitCount_0f7a4 _, st_set_standing S (st_standing S &&& _)) = _
  rw [z_bitCount _ (by omega), h.st, z_andnot (by omega) (by omega), z_rest hw x1 x2, pk_sub (by omega)]
  congr 2
  congr 1
  omega
theorem sim_burn : zSim_burn RT := by
  intro M T p h
  have hr := h
  obtain ⟨⟨c, w, hs⟩, -⟩ := h
  have hc := hs.c
  have hw := hs.w12
  unfold fX7_burn fX8_burn
  by_cases ho : p < 0 ∨ nI c ≤ p
  · rw [has_out hs ho, if_pos rfl, isHouse_out hs ho]
    obtain ⟨M', T', x, y, z⟩ := refuse_1 hr
    refine ⟨-1, M', T', ?_, ?_, z⟩
    · rw [x]; rfl
    · show fX8_burn_j26 p (-1) T = _
      unfold fX8_burn_j26
      rw [if_neg (by decide), y]; rfl
  obtain ⟨j, hj, rfl⟩ := in_of hc ho
  rw [has_in hs hj, if_neg (by decide), isHouse_in hs hj, stands_in hs hj]
  show ∃ r M' S', _ ∧ (fX8_doesStand T (nI j)).bind _ = _ ∧ _
  rw [doesStand_in hs hj]
  by_cases sj : w.testBit j = true
  · rw [zbit1.mpr sj, if_neg (by decide), fire_in hs hj sj]
    obtain ⟨Y, hY, eY⟩ := burns_eq hs hj
    obtain ⟨x1, x2⟩ := zG_w (T := T) (w := w) (j := j) (c := c)
    have s' := hs.fall x1 hY
    refine ⟨_, _, md_set_stands T Y, rfl, ?_, hr.live s' ⟨rfl, rfl, rfl, rfl, rfl, rfl, rfl, rfl, rfl, rfl, rfl, rfl⟩ (fun _ _ => rfl)⟩
    show fX8_burn_j26 (nI j) 0 T = _
    unfold fX8_burn_j26
    rw [if_pos rfl, hs.hs]
    rw [Option.bind_some]
    rw [bits_eq hw]
    rw [Option.bind_some]
    rw [eY]
    rw [Option.bind_some]
    rw [s'.hs]
    rw [Option.bind_some]
    rw [bits_eq (by omega)]
    rfl
  · rw [zbit0.mpr (by simpa using sj), if_pos rfl]
    obtain ⟨M', T', x, y, z⟩ := refuse_3 hr
    refine ⟨-3, M', T', ?_, ?_, z⟩
    · rw [x]; rfl
    · show fX8_burn_j26 (nI j) (-3) T = _
      unfold fX8_burn_j26
      rw [if_neg (by decide), y]; rfl
theorem hangsOn_eq {c w : Nat} {S : zSt} {T : zMd} (h : SR c w S T) {j : Nat} (hj : j < c) (hs : w.testBit j = true) : ∃ f T', f < 4096 ∧ fX5_fallsWith S (nI j) = some (nI f) ∧ fX8_hangsOn T (nI j) = some (nI f, T') ∧ SE T T' ∧ FR T T' ∧ SE (zload T 0) (zload T' 0) := by
  have hw := h.w12
  obtain ⟨T1, k1, k2, k3, k4, k5⟩ := keep_ok T 2 (by omega)
  have h1 := h.se k2
  obtain ⟨Y, hY, eY⟩ := burns_eq h1 hj
  obtain ⟨x1, x2⟩ := zG_w (T := T1) (w := w) (j := j) (c := c)
  have s' := h1.fall x1 hY
  obtain ⟨T5, l1, l2, l3, l4⟩ := load_ok (md_set_stands T1 Y) 2 (by omega)
  have fl : w &&& (zG T1 (zclr w j) c ^^^ 4294967295) ≤ w := Nat.and_le_left
  have se1 : SE (zload T1 200) (zload (md_set_stands T1 Y) 200) := zload_se (fun _ _ _ => rfl)
  have se0 : SE (zload T1 0) (zload (md_set_stands T1 Y) 0) := zload_se (fun _ _ _ => rfl)
  refine ⟨w &&& (zG T1 (zclr w j) c ^^^ 4294967295), T5, by omega, ?_, ?_, (k4.tr se1).tr l2, k3.tr (FR.tr ⟨rfl, rfl, rfl, rfl, rfl, rfl, rfl, rfl, rfl, rfl, rfl, rfl⟩ l3), ((k5 0 (by omega) (by omega)).tr se0).tr (l4 0)⟩
  · rw [fallsWith_in h1 hj hs, z_andnot (by omega) (by omega)]
  · unfold fX8_hangsOn
    rw [h.hs]
    rw [Option.bind_some]
    have k1' : fX8_passesAll T 2 1 = some T1 := k1
    rw [k1']
    rw [Option.bind_some]
    rw [eY]
    rw [Option.bind_some]
    rw [s'.hs]
    rw [Option.bind_some]
    have l1' : fX8_passesAll (md_set_stands T1 Y) 2 0 = some T5 := l1
    rw [l1']
    show some (nI w &&& (nI (zG T1 (zclr w j) c) ^^^ -1), T5) = _
    rw [z_andnot (by omega) (by omega)]
/-- the reference's scratch changes alone -/
theorem RT.same {M : zMn} {T T' : zMd} (h : RT M T) (hs : SE T T') (hf : FR T T') (hk : SE (zload T 0) (zload T' 0)) : RT M T' := by
  obtain ⟨⟨c, w, h1⟩, ⟨h2, h2'⟩, ⟨k, x1, x2, x3, x4⟩, ⟨k2, y1, y2, y3, y4⟩, h5, h6⟩ := h
  obtain ⟨f1, f2, f3, f4, f5, f6, f7, f8, f9, f10, f11, f12⟩ := hf
  refine ⟨⟨c, w, h1.se hs⟩, ⟨h2.trans f10.symm, ?_⟩, ⟨k, x1, x2, f6.trans x3, fun i hi => (x4 i hi).trans (by rw [f2])⟩, ⟨k2, y1, y2, f12.trans y3, fun i hi => (y4 i hi).trans (by rw [f11])⟩, fun i hi => (h5 i hi).trans (by rw [f1]), h6⟩
  rcases h2' with z | ⟨z, c', w', z2⟩
  · exact Or.inl (f10.trans z)
  · exact Or.inr ⟨f10.trans z, c', w', z2.se hk⟩
theorem sim_hangs : zSim_hangs RT := by
  intro M T p h
  have hr := h
  obtain ⟨⟨c, w, hs⟩, -⟩ := h
  have hc := hs.c
  unfold fX7_hangs fX8_hangs
  by_cases ho : p < 0 ∨ nI c ≤ p
  · rw [has_out hs ho, if_pos rfl, isHouse_out hs ho]
    obtain ⟨M', T', x, y, z⟩ := refuse_1 hr
    refine ⟨-1, M', T', ?_, ?_, z⟩
    · rw [x]; rfl
    · show fX8_hangs_j26 p (-1) T = _
      unfold fX8_hangs_j26
      rw [if_neg (by decide), y]; rfl
  obtain ⟨j, hj, rfl⟩ := in_of hc ho
  rw [has_in hs hj, if_neg (by decide), isHouse_in hs hj, stands_in hs hj]
  show ∃ r M' S', _ ∧ (fX8_doesStand T (nI j)).bind _ = _ ∧ _
  rw [doesStand_in hs hj]
  by_cases sj : w.testBit j = true
  · rw [zbit1.mpr sj, if_neg (by decide)]
    obtain ⟨f, T', hf, e1, e2, e3, e4, e5⟩ := hangsOn_eq hs hj sj
    rw [e1]
    refine ⟨nI f, M, T', rfl, ?_, hr.same e3 e4 e5⟩
    show fX8_hangs_j26 (nI j) 0 T = _
    unfold fX8_hangs_j26
    rw [if_pos rfl, e2]; rfl
  · rw [zbit0.mpr (by simpa using sj), if_pos rfl]
    obtain ⟨M', T', x, y, z⟩ := refuse_3 hr
    refine ⟨-3, M', T', ?_, ?_, z⟩
    · rw [x]; rfl
    · show fX8_hangs_j26 (nI j) (-3) T = _
      unfold fX8_hangs_j26
      rw [if_neg (by decide), y]; rfl
theorem save_l {M : zMn} {c w : Nat} : ∀ d i k v1 v2 (T : zMd), i + d = c → d < k → RT M T → SR c w (mn_live M) T → ∃ r T', fX7_save_l7 M k v1 v2 (nI i) = some r ∧ fX8_save_l7 k v1 v2 (nI i) T = some (r, T') ∧ RT M T' := by
  intro d
  induction d with
  | zero =>
    intro i k v1 v2 T hi hk hr hs
    have hc := hs.c
    obtain ⟨k, rfl⟩ : ∃ k', k = k' + 1 := ⟨k - 1, by omega⟩
    refine ⟨v1, T, ?_, ?_, hr⟩
    · rw [fX7_save_l7]
      unfold fX5_cameCount
      rw [hs.came, if_pos (nI_le (by omega) (by omega))]
    · rw [fX8_save_l7, hs.houses, if_pos (nI_le (by omega) (by omega))]
  | succ d ih =>
    intro i k v1 v2 T hi hk hr hs
    have hc := hs.c
    have hw := hs.w12
    obtain ⟨k, rfl⟩ : ∃ k', k = k' + 1 := ⟨k - 1, by omega⟩
    have a := (hs.arr i (by omega)).2.2.2.2.2.2.2
    have step : ∀ (n : Int32) (T2 : zMd), RT M T2 → SR c w (mn_live M) T2 → ∃ r T', fX7_save_j44 M v1 v2 (nI i) n (fX7_save_l7 M k) = some r ∧ fX8_save_j37 v1 v2 (nI i) n T2 (fX8_save_l7 k) = some (r, T') ∧ RT M T' := by
      intro n T2 hr2 hs2
      unfold fX7_save_j44 fX8_save_j37
      rw [nI_1]
      by_cases g : n ≤ v2
      · rw [if_pos g, if_neg (Int32.not_lt.mpr g)]
        exact ih (i + 1) k v1 v2 T2 (by omega) (by omega) hr2 hs2
      · rw [if_neg g, if_pos (Int32.not_le.mp g)]
        exact ih (i + 1) k (nI i) n T2 (by omega) (by omega) hr2 hs2
    rw [fX7_save_l7, fX8_save_l7]
    unfold fX5_cameCount
    rw [hs.came, hs.houses, if_neg (nI_ge (by omega) (by omega)), if_neg (nI_ge (by omega) (by omega)), stands_in hs (j := i) (by omega), ix_nI (by omega) (by omega), nI_clamp (by omega), a]
    by_cases b : w.testBit i = true
    · rw [zbit1.mpr b, if_neg (by decide), if_pos rfl]
      obtain ⟨f, T', hf, e1, e2, e3, e4, e5⟩ := hangsOn_eq hs (j := i) (by omega) b
      rw [e1, e2]
      simp only [Option.bind_some]
      rw [bits_eq hf, z_bitCount f hf]
      exact step (nI (zpop f 31)) T' (hr.same e3 e4 e5) (hs.se e3)
    · rw [zbit0.mpr (by simpa using b), if_pos rfl, if_neg (by decide)]
      exact step 0 T hr hs
theorem sim_save : zSim_save RT := by
  intro M T h
  have hr := h
  obtain ⟨⟨c, w, hs⟩, -⟩ := h
  have hc := hs.c
  obtain ⟨r, T', e1, e2, e3⟩ := save_l (M := M) c 0 FU (-9) 0 T (by omega) (FU_big _ (by omega)) hr hs
  exact ⟨r, M, T', e1, e2, e3⟩
