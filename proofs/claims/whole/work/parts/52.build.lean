/-! bits set and cleared; a new house -/
def zclr (w a : Nat) : Nat := w &&& (2 ^ a ^^^ 4294967295)
theorem zclr_le (w a : Nat) : zclr w a ≤ w := Nat.and_le_left
theorem z_one_shl {a : Nat} (ha : a < 31) : ((1 : Int32) <<< (nI a &&& 31)).toBitVec.toNat = 2 ^ a := by
  rw [z_and31 a (by omega), pk_shl (1 : Int32) (nI a) a (z_sm a (by omega))]
  have : 2 ^ a < 2 ^ 32 := Nat.pow_lt_pow_right (by omega) (by omega)
  show 1 * 2 ^ a % 2 ^ 32 = _
  rw [Nat.one_mul, Nat.mod_eq_of_lt this]
theorem z_clr {w a : Nat} (hw : w < 2 ^ 31) (ha : a < 31) : nI w &&& (((1 : Int32) <<< (nI a &&& 31)) ^^^ (-1 : Int32)) = nI (zclr w a) := by
  apply Int32.toBitVec_inj.mp
  apply BitVec.eq_of_toNat_eq
  have hz := zclr_le w a
  rw [pk_tn (by omega), Int32.toBitVec_and, Int32.toBitVec_xor, BitVec.toNat_and, BitVec.toNat_xor, z_one_shl ha, pk_tn (by omega)]
  rfl
theorem z_one {a : Nat} (ha : a < 31) : (1 : Int32) <<< (nI a &&& 31) = nI (2 ^ a) := by
  apply Int32.toBitVec_inj.mp
  apply BitVec.eq_of_toNat_eq
  have : 2 ^ a < 2 ^ 32 := Nat.pow_lt_pow_right (by omega) (by omega)
  rw [z_one_shl ha, pk_tn this]
theorem z_or {a b : Nat} (ha : a < 2 ^ 31) (hb : b < 2 ^ 31) : nI a ||| nI b = nI (a ||| b) := by
  apply Int32.toBitVec_inj.mp
  apply BitVec.eq_of_toNat_eq
  have := Nat.or_lt_two_pow ha hb
  rw [pk_tn (by omega), Int32.toBitVec_or, BitVec.toNat_or, pk_tn (by omega), pk_tn (by omega)]
theorem z_andN {a b : Nat} (ha : a < 2 ^ 31) (hb : b < 2 ^ 31) : nI a &&& nI b = nI (a &&& b) := by
  apply Int32.toBitVec_inj.mp
  apply BitVec.eq_of_toNat_eq
  have : a &&& b ≤ a := Nat.and_le_left
  rw [pk_tn (by omega), Int32.toBitVec_and, BitVec.toNat_and, pk_tn (by omega), pk_tn (by omega)]
theorem z_andnot {a b : Nat} (ha : a < 2 ^ 31) (hb : b < 2 ^ 31) : nI a &&& (nI b ^^^ (-1 : Int32)) = nI (a &&& (b ^^^ 4294967295)) := by
  apply Int32.toBitVec_inj.mp
  apply BitVec.eq_of_toNat_eq
  have : a &&& (b ^^^ 4294967295) ≤ a := Nat.and_le_left
  rw [pk_tn (by omega), Int32.toBitVec_and, Int32.toBitVec_xor, BitVec.toNat_and, BitVec.toNat_xor, pk_tn (by omega), pk_tn (by omega)]
  rfl
theorem z_tb_not (b i : Nat) (hi : i < 32) : (b ^^^ 4294967295).testBit i = !b.testBit i := by
  have e : (4294967295 : Nat) = 2 ^ 32 - 1 := by decide
  rw [Nat.testBit_xor, e, Nat.testBit_two_pow_sub_one]
  simp [hi]
theorem zclr_tb (w a i : Nat) (hi : i < 32) : (zclr w a).testBit i = (w.testBit i && !decide (a = i)) := by
  unfold zclr
  rw [Nat.testBit_and, z_tb_not _ _ hi, Nat.testBit_two_pow]
theorem zbit_clr (w a i : Nat) (hi : i < 32) : zbit (zclr w a) i = if i = a then 0 else zbit w i := by
  unfold zbit
  rw [zclr_tb w a i hi]
  by_cases e : i = a
  · subst e; simp
  · have e2 : ¬ a = i := fun q => e q.symm
    simp [e, e2]
theorem zbit_set (w a i : Nat) : zbit (w ||| 2 ^ a) i = if i = a then 1 else zbit w i := by
  unfold zbit
  rw [Nat.testBit_or, Nat.testBit_two_pow]
  by_cases e : i = a
  · subst e; simp
  · have e2 : ¬ a = i := fun q => e q.symm
    simp [e, e2]
theorem z_two {c : Nat} (U V : Nat → Int32) (hUV : ∀ h, h < c → U h = V h) {a b : Nat} (ha : a < c) (hb : b < c) (x y z : Int32) : ∀ h, h < c + 1 →
    upd (upd (upd U c z) a (upd U c z a + x)) b (upd (upd U c z) a (upd U c z a + x) b + y) h = upd (upd (upd V a (V a + x)) b (upd V a (V a + x) b + y)) c z h := by
  intro h hh
  have n1 : ¬ a = c := by omega
  have n2 : ¬ b = c := by omega
  have ea := hUV a ha
  have eb := hUV b hb
  by_cases e1 : h = c
  · subst e1
    have m1 : ¬ h = a := by omega
    have m2 : ¬ h = b := by omega
    simp [upd, m1, m2]
  · have eh := hUV h (by omega)
    by_cases e2 : h = b
    · subst e2
      by_cases e3 : h = a
      · subst e3; simp [upd, n1, ea]
      · simp [upd, n1, n2, e3, ea, eb]
    · by_cases e3 : h = a
      · subst e3; simp [upd, n1, e2, ea]
      · simp [upd, e1, e2, e3, eh]
theorem z_one1 {c : Nat} (U V : Nat → Int32) (hUV : ∀ h, h < c → U h = V h) (x : Int32) : ∀ h, h < c + 1 → upd U c x h = upd V c x h := by
  intro h hh
  by_cases e : h = c
  · subst e; simp [upd]
  · simp [upd, e, hUV h (by omega)]
def zfee (k f : Int32) : Int32 := if k = 2 then f else if k = 3 then 2 * f + 1 else 0
theorem has_nI {S : zSt} {c j : Nat} (hc : c ≤ 12) (h : st_came S = nI c) (hj : j < c) : fX5_has S (nI j) = 1 := by
  unfold fX5_has
  rw [h, if_neg (nI_pos (by omega)), if_neg (nI_ge hj (by omega))]
theorem use_nI {S : zSt} {c j : Nat} (hc : c ≤ 12) (h : st_came S = nI c) (hj : j < c) : fX5_use S (nI j) = some (st_set_earned (st_set_uses S (upd (st_uses S) j (st_uses S j + 1))) (upd (st_earned S) j (st_earned S j + zfee (st_kinds S j) (st_figures S j)))) := by
  unfold fX5_use
  rw [has_nI hc h hj, if_neg (by decide), ix_nI (by omega) (by omega), nI_clamp (by omega)]
  unfold fX5_fee
  rw [has_nI (S := st_set_uses S (upd (st_uses S) j (st_uses S j + 1))) hc h hj, if_neg (by decide), ix_nI (by omega) (by omega), nI_clamp (by omega)]
  show ((if st_kinds S j = 2 then some (st_figures S j) else if st_kinds S j = 3 then some (2 * st_figures S j + 1) else some 0).bind _) = _
  unfold zfee
  by_cases h2 : st_kinds S j = 2
  · simp only [if_pos h2]; rfl
  · simp only [if_neg h2]
    by_cases h3 : st_kinds S j = 3
    · simp only [if_pos h3]; rfl
    · simp only [if_neg h3]; rfl
theorem loseHut_nI {S : zSt} {c j w : Nat} (hc : c ≤ 12) (hw : w < 2 ^ 31) (h : st_came S = nI c) (hs : st_standing S = nI w) (hj : j < c) : fX5_loseHut S (nI j) = some (st_set_standing S (nI (if st_kinds S j = 1 then zclr w j else w))) := by
  unfold fX5_loseHut
  rw [has_nI hc h hj, if_neg (by decide), ix_nI (by omega) (by omega), nI_clamp (by omega)]
  by_cases h1 : st_kinds S j = 1
  · rw [if_pos h1, if_pos h1, hs, z_clr hw (by omega)]
  · rw [if_neg h1, if_neg h1, ← hs]
    rfl
theorem isUsed_nI {T : zMd} {j : Nat} (hj : j < 12) : fX8_isUsed T (nI j) = some (md_set_stands (md_set_earned (md_set_uses T (upd (md_uses T) j (md_uses T j + 1))) (upd (md_earned T) j (md_earned T j + zfee (md_kind T j) (md_figure T j)))) (if md_kind T j = 1 then upd (md_stands T) j 0 else md_stands T)) := by
  unfold fX8_isUsed
  rw [ix_nI (by omega) (by omega), nI_clamp (by omega)]
  have e : fX8_fee (md_set_uses T (upd (md_uses T) j (md_uses T j + 1))) (nI j) = some (zfee (md_kind T j) (md_figure T j)) := by
    unfold fX8_fee
    rw [ix_nI (by omega) (by omega), nI_clamp (by omega)]
    show (if md_kind T j = 2 then some (md_figure T j) else if md_kind T j = 3 then some (2 * md_figure T j + 1) else some 0) = _
    unfold zfee
    by_cases h2 : md_kind T j = 2
    · simp only [if_pos h2]
    · simp only [if_neg h2]
      by_cases h3 : md_kind T j = 3
      · simp only [if_pos h3]
      · simp only [if_neg h3]
  rw [e]
  show (if md_kind T j = 1 then some _ else some _) = _
  by_cases h1 : md_kind T j = 1
  · simp only [if_pos h1]
  · simp only [if_neg h1]
    rfl
/-- what isn't the street, nor the keeping, is the same -/
def FR (T T' : zMd) : Prop :=
  md_refused T' = md_refused T ∧ md_tape T' = md_tape T ∧ md_sort T' = md_sort T ∧ md_sortAt T' = md_sortAt T ∧ md_told T' = md_told T ∧ md_taped T' = md_taped T ∧ md_reading T' = md_reading T ∧ md_statements T' = md_statements T ∧ md_telling T' = md_telling T ∧ md_hasImage T' = md_hasImage T ∧
  md_row T' = md_row T ∧ md_rowMany T' = md_rowMany T
theorem FR.rf {T : zMd} : FR T T := ⟨rfl, rfl, rfl, rfl, rfl, rfl, rfl, rfl, rfl, rfl, rfl, rfl⟩
theorem FR.tr {A B C : zMd} (h : FR A B) (g : FR B C) : FR A C :=
  ⟨g.1.trans h.1, g.2.1.trans h.2.1, g.2.2.1.trans h.2.2.1, g.2.2.2.1.trans h.2.2.2.1, g.2.2.2.2.1.trans h.2.2.2.2.1, g.2.2.2.2.2.1.trans h.2.2.2.2.2.1, g.2.2.2.2.2.2.1.trans h.2.2.2.2.2.2.1, g.2.2.2.2.2.2.2.1.trans h.2.2.2.2.2.2.2.1, g.2.2.2.2.2.2.2.2.1.trans h.2.2.2.2.2.2.2.2.1, g.2.2.2.2.2.2.2.2.2.1.trans h.2.2.2.2.2.2.2.2.2.1, g.2.2.2.2.2.2.2.2.2.2.1.trans h.2.2.2.2.2.2.2.2.2.2.1, g.2.2.2.2.2.2.2.2.2.2.2.trans h.2.2.2.2.2.2.2.2.2.2.2⟩
theorem place_nI {S : zSt} {c w : Nat} (hc : c < 12) (hw : w < 2 ^ 31) (h : st_came S = nI c) (hs : st_standing S = nI w) (n p q k f : Int32) : fX5_place S n p q k f = some (st_set_standing (st_set_came (st_set_earned (st_set_uses (st_set_seconds (st_set_firsts (st_set_numbers (st_set_figures (st_set_kinds S (upd (st_kinds S) c k)) (upd (st_figures S) c f)) (upd (st_numbers S) c n)) (upd (st_firsts S) c p)) (upd (st_seconds S) c q)) (upd (st_uses S) c 0)) (upd (st_earned S) c 0)) (nI (c + 1))) (nI (w ||| 2 ^ c))) := by
  unfold fX5_place
  have e : fX5_hasRoom S = 1 := by
    unfold fX5_hasRoom
    rw [h, if_neg (show ¬ (12 : Int32) ≤ nI c from nI_ge (b := 12) hc (by omega))]
  have p2 : 2 ^ c < 2 ^ 31 := Nat.pow_lt_pow_right (by omega) (by omega)
  rw [e, if_neg (by decide), h, hs, ix_nI (by omega) (by omega), nI_clamp (by omega), nI_1, z_one (by omega), z_or hw p2]
theorem isMore_nI {T : zMd} {c : Nat} (hc : c < 12) (h : md_houses T = nI c) (n k f p q : Int32) : fX8_isMore T n k f p q = some (md_set_houses (md_set_earned (md_set_uses (md_set_stands (md_set_other (md_set_one (md_set_figure (md_set_kind (md_set_number T (upd (md_number T) c n)) (upd (md_kind T) c k)) (upd (md_figure T) c f)) (upd (md_one T) c p)) (upd (md_other T) c q)) (upd (md_stands T) c 1)) (upd (md_uses T) c 0)) (upd (md_earned T) c 0)) (nI (c + 1))) := by
  unfold fX8_isMore
  rw [h, ix_nI (by omega) (by omega), nI_clamp (by omega), nI_1]
theorem upd_at (f : Nat → Int32) (k : Nat) (x : Int32) (h : Nat) : upd f k x h = if h = k then x else f h := rfl
theorem z_ifupd (k : Int32) (U : Nat → Int32) (a j : Nat) : (if k = 1 then upd U a 0 else U) j = if k = 1 ∧ j = a then 0 else U j := by
  by_cases q : k = 1
  · rw [if_pos q, upd_at]
    by_cases e : j = a
    · rw [if_pos e, if_pos ⟨q, e⟩]
    · rw [if_neg e, if_neg (fun z => e z.2)]
  · rw [if_neg q, if_neg (fun z => q z.1)]
theorem z_clrif (k : Int32) (w a j : Nat) (hj : j < 32) : zbit (if k = 1 then zclr w a else w) j = if k = 1 ∧ j = a then 0 else zbit w j := by
  by_cases q : k = 1
  · rw [if_pos q, zbit_clr _ _ _ hj]
    by_cases e : j = a
    · rw [if_pos e, if_pos ⟨q, e⟩]
    · rw [if_neg e, if_neg (fun z => e z.2)]
  · rw [if_neg q, if_neg (fun z => q z.1)]
theorem z_standsAll {c a b w : Nat} (hc : c < 12) (ha : a < c) (hb : b < c) (U : Nat → Int32) (k1 k2 : Int32) (hU : ∀ h, h < c → U h = zbit w h) {w1 wa wb : Nat} (ew1 : w1 = (w ||| 2 ^ c)) (ewa : wa = if k1 = 1 then zclr w1 a else w1) (ewb : wb = if k2 = 1 then zclr wa b else wa) :
    ∀ j, j < c + 1 → upd (if k2 = 1 then upd (if k1 = 1 then upd U a 0 else U) b 0 else (if k1 = 1 then upd U a 0 else U)) c 1 j = zbit wb j := by
  intro j hj
  rw [upd_at, ewb, z_clrif _ _ _ _ (by omega), ewa, z_clrif _ _ _ _ (by omega), ew1, zbit_set]
  by_cases ec : j = c
  · rw [if_pos ec, if_neg (fun z => by omega), if_neg (fun z => by omega), if_pos ec]
  · rw [if_neg ec, if_neg ec, z_ifupd, z_ifupd, hU j (by omega)]
def zFix (S S' : zSt) : Prop := st_came S' = st_came S ∧ st_kinds S' = st_kinds S ∧ st_figures S' = st_figures S ∧ st_numbers S' = st_numbers S ∧ st_firsts S' = st_firsts S ∧ st_seconds S' = st_seconds S ∧ st_sums S' = st_sums S ∧ st_falls S' = st_falls S
theorem place_ex {S : zSt} {c w : Nat} (hc : c < 12) (hw : w < 2 ^ 31) (h : st_came S = nI c) (hs : st_standing S = nI w) (n p q k f : Int32) : ∃ S1, fX5_place S n p q k f = some S1 ∧ st_came S1 = nI (c + 1) ∧ st_standing S1 = nI (w ||| 2 ^ c) ∧ st_kinds S1 = upd (st_kinds S) c k ∧ st_figures S1 = upd (st_figures S) c f ∧ st_numbers S1 = upd (st_numbers S) c n ∧ st_firsts S1 = upd (st_firsts S) c p ∧ st_seconds S1 = upd (st_seconds S) c q ∧ st_uses S1 = upd (st_uses S) c 0 ∧ st_earned S1 = upd (st_earned S) c 0 ∧ st_sums S1 = st_sums S ∧ st_falls S1 = st_falls S :=
  ⟨_, place_nI hc hw h hs n p q k f, rfl, rfl, rfl, rfl, rfl, rfl, rfl, rfl, rfl, rfl, rfl⟩
theorem use_ex {S : zSt} {c j : Nat} (hc : c ≤ 12) (h : st_came S = nI c) (hj : j < c) : ∃ S1, fX5_use S (nI j) = some S1 ∧ zFix S S1 ∧ st_standing S1 = st_standing S ∧ st_uses S1 = upd (st_uses S) j (st_uses S j + 1) ∧ st_earned S1 = upd (st_earned S) j (st_earned S j + zfee (st_kinds S j) (st_figures S j)) :=
  ⟨_, use_nI hc h hj, ⟨rfl, rfl, rfl, rfl, rfl, rfl, rfl, rfl⟩, rfl, rfl, rfl⟩
theorem lose_ex {S : zSt} {c j w : Nat} (hc : c ≤ 12) (hw : w < 2 ^ 31) (h : st_came S = nI c) (hs : st_standing S = nI w) (hj : j < c) : ∃ S1, fX5_loseHut S (nI j) = some S1 ∧ zFix S S1 ∧ st_standing S1 = nI (if st_kinds S j = 1 then zclr w j else w) ∧ st_uses S1 = st_uses S ∧ st_earned S1 = st_earned S :=
  ⟨_, loseHut_nI hc hw h hs hj, ⟨rfl, rfl, rfl, rfl, rfl, rfl, rfl, rfl⟩, rfl, rfl, rfl⟩
def zFixM (T T' : zMd) : Prop := md_houses T' = md_houses T ∧ md_kind T' = md_kind T ∧ md_figure T' = md_figure T ∧ md_number T' = md_number T ∧ md_one T' = md_one T ∧ md_other T' = md_other T ∧ md_sums T' = md_sums T ∧ md_falls T' = md_falls T ∧ FR T T' ∧ md_kept T' = md_kept T ∧ md_lots T' = md_lots T
theorem used_ex {T : zMd} {j : Nat} (hj : j < 12) : ∃ T1, fX8_isUsed T (nI j) = some T1 ∧ zFixM T T1 ∧ md_stands T1 = (if md_kind T j = 1 then upd (md_stands T) j 0 else md_stands T) ∧ md_uses T1 = upd (md_uses T) j (md_uses T j + 1) ∧ md_earned T1 = upd (md_earned T) j (md_earned T j + zfee (md_kind T j) (md_figure T j)) :=
  ⟨_, isUsed_nI hj, ⟨rfl, rfl, rfl, rfl, rfl, rfl, rfl, rfl, ⟨rfl, rfl, rfl, rfl, rfl, rfl, rfl, rfl, rfl, rfl, rfl, rfl⟩, rfl, rfl⟩, rfl, rfl, rfl⟩
theorem more_ex {T : zMd} {c : Nat} (hc : c < 12) (h : md_houses T = nI c) (n k f p q : Int32) : ∃ T1, fX8_isMore T n k f p q = some T1 ∧ md_houses T1 = nI (c + 1) ∧ md_stands T1 = upd (md_stands T) c 1 ∧ md_kind T1 = upd (md_kind T) c k ∧ md_figure T1 = upd (md_figure T) c f ∧ md_number T1 = upd (md_number T) c n ∧ md_one T1 = upd (md_one T) c p ∧ md_other T1 = upd (md_other T) c q ∧ md_uses T1 = upd (md_uses T) c 0 ∧ md_earned T1 = upd (md_earned T) c 0 ∧ md_sums T1 = md_sums T ∧ md_falls T1 = md_falls T ∧ FR T T1 ∧ md_kept T1 = md_kept T ∧ md_lots T1 = md_lots T :=
  ⟨_, isMore_nI hc h n k f p q, rfl, rfl, rfl, rfl, rfl, rfl, rfl, rfl, rfl, rfl, rfl, ⟨rfl, rfl, rfl, rfl, rfl, rfl, rfl, rfl, rfl, rfl, rfl, rfl⟩, rfl, rfl⟩
theorem build_eq {c w : Nat} {S : zSt} {T : zMd} (h : SR c w S T) (hc12 : c < 12) {a b : Nat} (ha : a < c) (hb : b < c) {k f : Int32} (hk : fX5_isKind k = 1) (hm : fX5_mayBe S (nI a) (nI b) = some 1) (h9 : ∃ n, 1 ≤ n ∧ n ≤ 9999 ∧ md_number T a + md_number T b = nI n) :
    ∃ (w' : Nat) (S' : zSt) (T' : zMd), fX5_build S (nI a) (nI b) k f = some (1, S') ∧ fX8_builds T (nI a) (nI b) k f = some T' ∧ SR (c + 1) w' S' T' ∧ FR T T' ∧ md_kept T' = md_kept T ∧ md_lots T' = md_lots T := by
  have hc := h.c
  have hw := h.w12
  have hwc := h.w
  have fa := h.arr a ha
  have fb := h.arr b hb
  have p2 : 2 ^ c < 2 ^ 12 := Nat.pow_lt_pow_right (by omega) (by omega)
  have hw1 : (w ||| 2 ^ c) < 2 ^ 12 := Nat.or_lt_two_pow (by omega) p2
  have e1 : fX5_hasRoom S = 1 := by
    unfold fX5_hasRoom
    rw [h.came, if_neg (show ¬ (12 : Int32) ≤ nI c from nI_ge (b := 12) hc12 (by omega))]
  have na : ¬ a = c := by omega
  have nb : ¬ b = c := by omega
  have key : fX5_build S (nI a) (nI b) k f = (fX5_place S (st_numbers S a + st_numbers S b) (nI a) (nI b) k f).bind fun u9 => (fX5_use u9 (nI a)).bind fun u10 => (fX5_use u10 (nI b)).bind fun u11 => (fX5_loseHut u11 (nI a)).bind fun u12 => (fX5_loseHut u12 (nI b)).bind fun u13 => some (1, u13) := by
    unfold fX5_build
    rw [e1, if_neg (by decide), hk, if_neg (by decide), hm, ix_nI (by omega) (by omega), ix_nI (by omega) (by omega), nI_clamp (by omega), nI_clamp (by omega)]
    rfl
  have key2 : fX8_builds T (nI a) (nI b) k f = (fX8_isUsed T (nI a)).bind fun u3 => (fX8_isUsed u3 (nI b)).bind fun u4 => (fX8_isMore u4 (md_number T a + md_number T b) k f (nI a) (nI b)).bind fun u5 => some u5 := by
    unfold fX8_builds
    rw [ix_nI (by omega) (by omega), ix_nI (by omega) (by omega), nI_clamp (by omega), nI_clamp (by omega)]
  obtain ⟨w1, ew1⟩ : ∃ w1, w1 = (w ||| 2 ^ c) := ⟨_, rfl⟩
  obtain ⟨wa, ewa⟩ : ∃ wa, wa = if md_kind T a = 1 then zclr w1 a else w1 := ⟨_, rfl⟩
  obtain ⟨wb, ewb⟩ : ∃ wb, wb = if md_kind T b = 1 then zclr wa b else wa := ⟨_, rfl⟩
  have l1 : w1 < 2 ^ (c + 1) := by
    rw [ew1]
    exact Nat.or_lt_two_pow (by rw [Nat.pow_succ]; omega) (by rw [Nat.pow_succ]; omega)
  have l12 : w1 < 2 ^ 12 := by rw [ew1]; exact hw1
  have la : wa ≤ w1 := by
    rw [ewa]
    by_cases q : md_kind T a = 1
    · rw [if_pos q]; exact zclr_le _ _
    · rw [if_neg q]; exact Nat.le_refl _
  have lb : wb ≤ wa := by
    rw [ewb]
    by_cases q : md_kind T b = 1
    · rw [if_pos q]; exact zclr_le _ _
    · rw [if_neg q]; exact Nat.le_refl _
  obtain ⟨n9, p9, q9, e9⟩ := h9
  obtain ⟨S1, p0, p1, p2', p3, p4, p5, p6, p7, p8, p9', p10, p11⟩ := place_ex hc12 (show w < 2 ^ 31 from by omega) h.came h.st (st_numbers S a + st_numbers S b) (nI a) (nI b) k f
  rw [← ew1] at p2'
  obtain ⟨S2, u0, ⟨u1, u2, u3, u4, u5, u6, u7, u8⟩, u9, u10, u11⟩ := use_ex (c := c + 1) (j := a) (by omega) p1 (by omega)
  obtain ⟨S3, v0, ⟨v1, v2, v3, v4, v5, v6, v7, v8⟩, v9, v10, v11⟩ := use_ex (c := c + 1) (j := b) (by omega) (u1.trans p1) (by omega)
  have ka : st_kinds S1 a = md_kind T a := by rw [p3, upd_at, if_neg na, fa.1]
  have kb : st_kinds S1 b = md_kind T b := by rw [p3, upd_at, if_neg nb, fb.1]
  have ga : st_figures S1 a = md_figure T a := by rw [p4, upd_at, if_neg na, fa.2.1]
  have gb : st_figures S1 b = md_figure T b := by rw [p4, upd_at, if_neg nb, fb.2.1]
  obtain ⟨S4, x0, ⟨x1, x2, x3, x4, x5, x6, x7, x8⟩, x9, x10, x11⟩ := lose_ex (c := c + 1) (j := a) (w := w1) (by omega) (by omega) (v1.trans (u1.trans p1)) (v9.trans (u9.trans p2')) (by omega)
  rw [v2, u2, ka, ← ewa] at x9
  obtain ⟨S5, y0, ⟨y1, y2, y3, y4, y5, y6, y7, y8⟩, y9, y10, y11⟩ := lose_ex (c := c + 1) (j := b) (w := wa) (by omega) (by omega) (x1.trans (v1.trans (u1.trans p1))) x9 (by omega)
  rw [x2, v2, u2, kb, ← ewb] at y9
  obtain ⟨T1, a0, ⟨a1, a2, a3, a4, a5, a6, a7, a8, a9, a10, a11⟩, a12, a13, a14⟩ := used_ex (T := T) (j := a) (by omega)
  obtain ⟨T2, b0, ⟨b1, b2, b3, b4, b5, b6, b7, b8, b9, b10, b11⟩, b12, b13, b14⟩ := used_ex (T := T1) (j := b) (by omega)
  obtain ⟨T3, c0, c1, c2, c3, c4, c5, c6, c7, c8, c9, c10, c11, c12, c13, c14⟩ := more_ex (T := T2) hc12 (b1.trans (a1.trans h.houses)) (md_number T a + md_number T b) k f (nI a) (nI b)
  refine ⟨wb, S5, T3, ?_, ?_, ?_, a9.tr (b9.tr c12), c13.trans (b10.trans a10), c14.trans (b11.trans a11)⟩
  · rw [key, p0]
    show (fX5_use S1 (nI a)).bind _ = _
    rw [u0]
    show (fX5_use S2 (nI b)).bind _ = _
    rw [v0]
    show (fX5_loseHut S3 (nI a)).bind _ = _
    rw [x0]
    show (fX5_loseHut S4 (nI b)).bind _ = _
    rw [y0]
    rfl
  · rw [key2, a0]
    show (fX8_isUsed T1 (nI b)).bind _ = _
    rw [b0]
    show (fX8_isMore T2 _ _ _ _ _).bind _ = _
    rw [c0]
    rfl
  refine ⟨⟨by omega, by omega⟩, by omega, y1.trans (x1.trans (v1.trans (u1.trans p1))), c1, y9, ?_, ?_, ?_, ?_⟩
  · intro j hj
    refine ⟨?_, ?_, ?_, ?_, ?_, ?_, ?_, ?_⟩
    · rw [y2, x2, v2, u2, p3, c3, b2, a2]
      exact z_one1 _ _ (fun x hx => (h.arr x hx).1) k j hj
    · rw [y3, x3, v3, u3, p4, c4, b3, a3]
      exact z_one1 _ _ (fun x hx => (h.arr x hx).2.1) f j hj
    · rw [y4, x4, v4, u4, p5, c5, b4, a4, fa.2.2.1, fb.2.2.1]
      exact z_one1 _ _ (fun x hx => (h.arr x hx).2.2.1) _ j hj
    · rw [y5, x5, v5, u5, p6, c6, b5, a5]
      exact z_one1 _ _ (fun x hx => (h.arr x hx).2.2.2.1) _ j hj
    · rw [y6, x6, v6, u6, p7, c7, b6, a6]
      exact z_one1 _ _ (fun x hx => (h.arr x hx).2.2.2.2.1) _ j hj
    · rw [y10, x10, v10, u10, p8, c8, b13, a13]
      exact z_two _ _ (fun x hx => (h.arr x hx).2.2.2.2.2.1) ha hb 1 1 0 j hj
    · rw [y11, x11, v11, u11, p9', u2, u3, ka, kb, ga, gb, c9, b14, a14, a2, a3]
      exact z_two _ _ (fun x hx => (h.arr x hx).2.2.2.2.2.2.1) ha hb (zfee (md_kind T a) (md_figure T a)) (zfee (md_kind T b) (md_figure T b)) 0 j hj
    · rw [c2, b12, a12, a2]
      exact z_standsAll hc12 ha hb (md_stands T) (md_kind T a) (md_kind T b) (fun x hx => (h.arr x hx).2.2.2.2.2.2.2) ew1 ewa ewb j hj
  · rw [y7, x7, v7, u7, p10, c10, b7, a7]
    exact h.2.2.2.2.2.2.1
  · rw [y8, x8, v8, u8, p11, c11, b8, a8]
    exact h.2.2.2.2.2.2.2.1
  · intro j hj
    by_cases ec : j = c
    · subst ec
      refine ⟨⟨n9, p9, q9, ?_⟩, Or.inr ⟨a, b, by omega, by omega, ?_, ?_⟩⟩
      · rw [c5, b4, a4, upd_at, if_pos rfl, e9]
      · rw [c6, b5, a5, upd_at, if_pos rfl]
      · rw [c7, b6, a6, upd_at, if_pos rfl]
    · obtain ⟨⟨n, x1, x2, x3⟩, y⟩ := h.2.2.2.2.2.2.2.2 j (by omega)
      refine ⟨⟨n, x1, x2, ?_⟩, ?_⟩
      · rw [c5, b4, a4, upd_at, if_neg ec, x3]
      · rcases y with ⟨y0, y1, y2⟩ | ⟨u, v, y1, y2, y3, y4⟩
        · refine Or.inl ⟨y0, ?_, ?_⟩
          · rw [c6, b5, a5, upd_at, if_neg ec, y1]
          · rw [c7, b6, a6, upd_at, if_neg ec, y2]
        · refine Or.inr ⟨u, v, y1, y2, ?_, ?_⟩
          · rw [c6, b5, a5, upd_at, if_neg ec, y3]
          · rw [c7, b6, a6, upd_at, if_neg ec, y4]
