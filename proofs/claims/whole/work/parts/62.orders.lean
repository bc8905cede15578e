/-! in how many orders: the sums over subsets, forward and backward -/
def zS (f : Nat → Nat) : Nat → Nat
  | 0 => 0
  | n + 1 => zS f n + f n
theorem zS_congr {f g : Nat → Nat} : ∀ n, (∀ i, i < n → f i = g i) → zS f n = zS g n := by
  intro n
  induction n with
  | zero => intro _; rfl
  | succ n ih =>
    intro h
    show zS f n + f n = zS g n + g n
    rw [ih (fun i hi => h i (by omega)), h n (by omega)]
theorem zS_one {f g : Nat → Nat} {a : Nat} : ∀ n, (∀ i, i < n → i ≠ a → f i = g i) → a < n → zS g n + f a = zS f n + g a := by
  intro n
  induction n with
  | zero => intro _ h; omega
  | succ n ih =>
    intro h ha
    show zS g n + g n + f a = zS f n + f n + g a
    by_cases q : n = a
    · subst q
      rw [zS_congr (f := g) (g := f) n (fun i hi => (h i (by omega) (by omega)).symm)]
      omega
    · have := ih (fun i hi => h i (by omega)) (by omega)
      have := h n (by omega) q
      omega
theorem zS_ext {f : Nat → Nat} {a : Nat} : ∀ n, (∀ i, a ≤ i → i < n → f i = 0) → a ≤ n → zS f n = zS f a := by
  intro n
  induction n with
  | zero => intro _ h; rw [show a = 0 from by omega]
  | succ n ih =>
    intro h ha
    by_cases q : a = n + 1
    · rw [q]
    · show zS f n + f n = _
      rw [ih (fun i h1 h2 => h i h1 (by omega)) (by omega), h n (by omega) (by omega)]; rfl
theorem zS_le (s M : Nat) {f : Nat → Nat} : ∀ n, (∀ i, i < n → f i ≤ if s.testBit i = true then M else 0) → zS f n ≤ M * zS (fun i => if s.testBit i = true then 1 else 0) n := by
  intro n
  induction n with
  | zero => intro _; exact Nat.zero_le _
  | succ n ih =>
    intro h
    have h1 := ih (fun i hi => h i (by omega))
    have h2 := h n (by omega)
    show zS f n + f n ≤ M * (zS (fun i => if s.testBit i = true then 1 else 0) n + if s.testBit n = true then 1 else 0)
    rw [Nat.mul_add]
    by_cases q : s.testBit n = true
    · rw [if_pos q] at h2 ⊢; omega
    · rw [if_neg q] at h2 ⊢; omega
def zpc (s : Nat) : Nat := zS (fun i => if s.testBit i = true then 1 else 0) 12
theorem zpc_le (s : Nat) : zpc s ≤ 12 := by
  have h : ∀ n, zS (fun i => if s.testBit i = true then 1 else 0) n ≤ n := by
    intro n
    induction n with
    | zero => exact Nat.le_refl _
    | succ n ih =>
      show zS (fun i => if s.testBit i = true then 1 else 0) n + (if s.testBit n = true then 1 else 0) ≤ n + 1
      by_cases q : s.testBit n = true
      · rw [if_pos q]; omega
      · rw [if_neg q]; omega
  exact h 12
theorem zpc_clr {s h : Nat} (hh : h < 12) (hb : s.testBit h = true) : zpc s = zpc (zclr s h) + 1 := by
  have := zS_one (f := fun i => if (zclr s h).testBit i = true then 1 else 0) (g := fun i => if s.testBit i = true then 1 else 0) (a := h) 12 (fun i hi hn => by
    show (if (zclr s h).testBit i = true then 1 else 0) = if s.testBit i = true then 1 else 0
    rw [zclr_tb s h i (by omega), decide_eq_false (fun z => hn z.symm), Bool.not_false, Bool.and_true]) hh
  have e1 : (if (zclr s h).testBit h = true then 1 else 0) = 0 := by
    rw [if_neg]
    rw [zclr_tb s h h (by omega), decide_eq_true rfl, Bool.not_true, Bool.and_false]
    decide
  have e2 : (if s.testBit h = true then 1 else 0) = 1 := if_pos hb
  have t : zpc s + (if (zclr s h).testBit h = true then 1 else 0) = zpc (zclr s h) + (if s.testBit h = true then 1 else 0) := this
  rw [e1, e2] at t
  exact t
theorem z_bits12' : ∀ i, i < 12 → ∀ qa, qa < 64 → ∀ qb, qb < 64 → ((64 * qa + qb).testBit i = false → zclr ((64 * qa + qb) ||| 2 ^ i) i = (64 * qa + qb)) ∧ ((64 * qa + qb).testBit i = true → zclr (64 * qa + qb) i ||| 2 ^ i = (64 * qa + qb) ∧ zclr (64 * qa + qb) i < (64 * qa + qb)) := by decide +kernel
theorem z_bits12 : ∀ i, i < 12 → ∀ m, m < 4096 → (m.testBit i = false → zclr (m ||| 2 ^ i) i = m) ∧ (m.testBit i = true → zclr m i ||| 2 ^ i = m ∧ zclr m i < m) := by
  intro i hi m hw
  have t := z_bits12' i hi (m / 64) (by omega) (m % 64) (by omega)
  rw [show 64 * (m / 64) + m % 64 = m from by omega] at t
  exact t
theorem z_12 {s i : Nat} (hs : s < 4096) (hi : 12 ≤ i) : s.testBit i = false := Nat.testBit_lt_two_pow (Nat.lt_of_lt_of_le hs (Nat.le_trans (show 4096 ≤ 2 ^ 12 from by decide) (Nat.pow_le_pow_right (by omega) hi)))
theorem zpc_0 {s : Nat} (hs : s < 4096) (h : zpc s = 0) : s = 0 := by
  have H : ∀ n, zS (fun i => if s.testBit i = true then 1 else 0) n = 0 → ∀ i, i < n → s.testBit i = false := by
    intro n
    induction n with
    | zero => intro _ i hi; omega
    | succ n ih =>
      intro h i hi
      have h' : zS (fun i => if s.testBit i = true then 1 else 0) n + (if s.testBit n = true then 1 else 0) = 0 := h
      by_cases q : i = n
      · subst q
        rcases z_tbN s i with z | z
        · exact z
        · rw [if_pos z] at h'; omega
      · exact ih (by omega) i (by omega)
  apply Nat.eq_of_testBit_eq
  intro i
  rw [Nat.zero_testBit]
  by_cases q : i < 12
  · exact H 12 h i q
  · exact z_12 hs (by omega)
def zfac : Nat → Nat
  | 0 => 1
  | n + 1 => zfac n * (n + 1)
theorem zfac_le : ∀ n, n < 13 → zfac n ≤ 479001600 := by decide
def zFo (nd : Nat → Nat) : Nat → Nat → Nat
  | 0, _ => 1
  | k + 1, s => zS (fun h => if s.testBit h = true ∧ nd h &&& (zclr s h ^^^ 4294967295) = 0 then zFo nd k (zclr s h) else 0) 12
def zFF (nd : Nat → Nat) (s : Nat) : Nat := zFo nd (zpc s) s
theorem zFF_0 (nd : Nat → Nat) : zFF nd 0 = 1 := by
  unfold zFF
  rw [show zpc 0 = 0 from by decide]; rfl
theorem zFF_rec (nd : Nat → Nat) {s : Nat} (hs : s < 4096) (h0 : s ≠ 0) : zFF nd s = zS (fun h => if s.testBit h = true ∧ nd h &&& (zclr s h ^^^ 4294967295) = 0 then zFF nd (zclr s h) else 0) 12 := by
  obtain ⟨k, hk⟩ : ∃ k, zpc s = k + 1 := ⟨zpc s - 1, by
    have : zpc s ≠ 0 := fun z => h0 (zpc_0 hs z)
    omega⟩
  unfold zFF
  rw [hk]
  show zS (fun h => if s.testBit h = true ∧ nd h &&& (zclr s h ^^^ 4294967295) = 0 then zFo nd k (zclr s h) else 0) 12 = _
  apply zS_congr
  intro i hi
  show (if _ then zFo nd k (zclr s i) else 0) = if _ then zFo nd (zpc (zclr s i)) (zclr s i) else 0
  by_cases q : s.testBit i = true ∧ nd i &&& (zclr s i ^^^ 4294967295) = 0
  · simp only [if_pos q]
    have := zpc_clr hi q.1
    rw [show zpc (zclr s i) = k from by omega]
  · simp only [if_neg q]
theorem zFo_le (nd : Nat → Nat) : ∀ k s, zpc s = k → zFo nd k s ≤ zfac k := by
  intro k
  induction k with
  | zero => intro s _; exact Nat.le_refl _
  | succ k ih =>
    intro s hs
    show zS (fun h => if s.testBit h = true ∧ nd h &&& (zclr s h ^^^ 4294967295) = 0 then zFo nd k (zclr s h) else 0) 12 ≤ zfac k * (k + 1)
    have := zS_le s (zfac k) (f := fun h => if s.testBit h = true ∧ nd h &&& (zclr s h ^^^ 4294967295) = 0 then zFo nd k (zclr s h) else 0) 12 (fun i hi => by
      show (if _ then zFo nd k (zclr s i) else 0) ≤ _
      by_cases q : s.testBit i = true ∧ nd i &&& (zclr s i ^^^ 4294967295) = 0
      · rw [if_pos q, if_pos q.1]
        have := zpc_clr hi q.1
        exact ih _ (by omega)
      · rw [if_neg q]; exact Nat.zero_le _)
    have e : zS (fun i => if s.testBit i = true then 1 else 0) 12 = k + 1 := hs
    rw [e] at this
    exact this
theorem zFF_le (nd : Nat → Nat) (s : Nat) : zFF nd s ≤ 479001600 := Nat.le_trans (zFo_le nd _ s rfl) (zfac_le _ (by have := zpc_le s; omega))
/-- s lies in w -/
def zsub (s w : Nat) : Prop := ∀ i, i < 12 → s.testBit i = true → w.testBit i = true
theorem zsub_le {s w : Nat} (hs : s < 4096) (h : zsub s w) : s ≤ w := by
  have e : s &&& w = s := by
    apply Nat.eq_of_testBit_eq
    intro i
    rw [Nat.testBit_and]
    by_cases q : i < 12
    · rcases z_tbN s i with z | z
      · rw [z]; rfl
      · rw [z, h i q z]; rfl
    · rw [z_12 hs (by omega)]; rfl
  rw [← e]
  exact Nat.and_le_right
theorem zsub_iff {s w : Nat} (hs : s < 4096) : (s &&& (w ^^^ 4294967295)) = 0 ↔ zsub s w := by
  constructor
  · intro h i hi hb
    have e : (s &&& (w ^^^ 4294967295)).testBit i = false := by rw [h, Nat.zero_testBit]
    rw [Nat.testBit_and, z_tb_not w i (by omega), hb, Bool.true_and] at e
    rcases z_tbN w i with z | z
    · rw [z] at e; exact absurd e (by decide)
    · exact z
  · intro h
    apply Nat.eq_of_testBit_eq
    intro i
    rw [Nat.testBit_and, Nat.zero_testBit]
    by_cases q : i < 12
    · rw [z_tb_not w i (by omega)]
      rcases z_tbN s i with z | z
      · rw [z]; rfl
      · rw [z, h i q z]; rfl
    · rw [z_12 hs (by omega)]; rfl
theorem zsub_clr {s w i : Nat} (h : zsub s w) : zsub (zclr s i) w := by
  intro j hj hb
  rw [zclr_tb s i j (by omega), Bool.and_eq_true] at hb
  exact h j hj hb.1
def zND (T : zMd) (w h : Nat) : Nat := if md_one T h < 0 then 0 else (2 ^ (md_one T h).toNatClampNeg ||| 2 ^ (md_other T h).toNatClampNeg) &&& w
section ORs
variable {c w : Nat} {S : zSt} {T : zMd}
theorem bitOf_in (h : SR c w S T) {a : Nat} (ha : a < c) : fX5_bitOf S (nI a) = nI (2 ^ a &&& w) := by
  have hc := h.c
  unfold fX5_bitOf
  rw [stands_in h ha]
  have e : 2 ^ a &&& w = if w.testBit a = true then 2 ^ a else 0 := by
    apply Nat.eq_of_testBit_eq
    intro i
    rw [Nat.testBit_and, Nat.testBit_two_pow]
    by_cases q : a = i
    · subst q
      rcases z_tbN w a with z | z
      · rw [if_neg (by rw [z]; decide), z, Nat.zero_testBit, Bool.and_false]
      · rw [if_pos z, z, Nat.testBit_two_pow, decide_eq_true rfl]; rfl
    · rw [decide_eq_false q, Bool.false_and]
      by_cases z : w.testBit a = true
      · rw [if_pos z, Nat.testBit_two_pow, decide_eq_false q]
      · rw [if_neg z, Nat.zero_testBit]
  rw [e]
  rcases z_tbN w a with z | z
  · rw [if_pos (zbit0.mpr z), if_neg (by rw [z]; decide)]; rfl
  · rw [if_neg (fun y => by rw [zbit1.mpr z] at y; exact absurd y (by decide)), if_pos z, z_one (by omega)]
theorem needs_eq (h : SR c w S T) {j : Nat} (hj : j < c) : fX5_aheadOf S (nI j) = some (nI (zND T w j)) ∧ fX8_needs T (nI j) = some (nI (zND T w j)) ∧ zND T w j < 4096 := by
  have hc := h.c
  have hw := h.w12
  have a := h.arr j hj
  have hst := standing_eq hc h.houses h.w (fun i hi => (h.arr i hi).2.2.2.2.2.2.2)
  have e1 : fX5_aheadOf S (nI j) = some (fX5_bitOf S (md_one T j) ||| fX5_bitOf S (md_other T j)) := by
    unfold fX5_aheadOf
    rw [has_in h hj, if_neg (by decide), ix_nI (by omega) (by omega), nI_clamp (by omega), a.2.2.2.1, a.2.2.2.2.1]
  rw [e1]
  unfold fX8_needs fX8_needs_j31
  rw [ix_nI (by omega) (by omega), nI_clamp (by omega), hst]
  unfold zND
  rcases h.two j hj with ⟨-, t1, t2⟩ | ⟨x, y, hx, hy, t1, t2⟩
  · have hb : fX5_bitOf S (-4) = 0 := by
      unfold fX5_bitOf
      rw [stands_out h (Or.inl (by decide)), if_pos rfl]
    rw [t1, t2, hb, if_pos (show (-4 : Int32) < 0 from by decide), if_pos (show (-4 : Int32) < 0 from by decide)]
    refine ⟨rfl, ?_, by omega⟩
    show some ((0 : Int32) &&& nI w) = some (nI 0)
    rw [show (0 : Int32) = nI 0 from rfl, z_andN (by omega) (by omega), Nat.zero_and]
  · have b1 : 2 ^ x < 2 ^ 12 := Nat.pow_lt_pow_right (by omega) (by omega)
    have b2 : 2 ^ y < 2 ^ 12 := Nat.pow_lt_pow_right (by omega) (by omega)
    have b3 : 2 ^ x ||| 2 ^ y < 2 ^ 12 := Nat.or_lt_two_pow b1 b2
    have l1 := Nat.and_le_right (n := 2 ^ x) (m := w)
    have l2 := Nat.and_le_right (n := 2 ^ y) (m := w)
    have l3 := Nat.and_le_right (n := 2 ^ x ||| 2 ^ y) (m := w)
    rw [t1, t2, nI_clamp (by omega), nI_clamp (by omega), bitOf_in h (by omega), bitOf_in h (by omega), if_neg (nI_pos (by omega)), if_neg (nI_pos (by omega)), z_or (by omega) (by omega), z_one (by omega), z_one (by omega)]
    refine ⟨?_, ?_, by omega⟩
    · congr 2
      apply Nat.eq_of_testBit_eq
      intro i
      rw [Nat.testBit_or, Nat.testBit_and, Nat.testBit_and, Nat.testBit_and, Nat.testBit_or]
      cases (2 ^ x).testBit i <;> cases (2 ^ y).testBit i <;> cases w.testBit i <;> rfl
    · show some (((0 : Int32) ||| (nI (2 ^ x) ||| nI (2 ^ y))) &&& nI w) = _
      rw [z_or (by omega) (by omega), show (0 : Int32) = nI 0 from rfl, z_or (by omega) (by omega), Nat.zero_or, z_andN (by omega) (by omega)]
/-- the reference's sum at m -/
def zgm (nd : Nat → Nat) (m h : Nat) : Nat := if m.testBit h = true ∧ nd h &&& (zclr m h ^^^ 4294967295) = 0 then zFF nd (zclr m h) else 0
theorem orders_in (h : SR c w S T) {nd : Nat → Nat} (hnd : zND T w = nd) {m : Nat} (hm : m < 2 ^ c) (hsub : zsub m w) (hF : ∀ s, s < m → zsub s w → md_ways T s = nI (zFF nd s)) (K : Int32 → zMd → Option (Int32 × zMd)) :
    ∀ d i k (U : Nat → Int32), i + d = c → d < k → (∀ s, s ≠ m → U s = md_ways T s) → U m = nI (zS (zgm nd m) i) → ∃ U', fX8_orders_l44 (nI w) (nI m) K k (nI i) (md_set_ways T U) = K (nI (m + 1)) (md_set_ways T U') ∧ (∀ s, s ≠ m → U' s = md_ways T s) ∧ U' m = nI (zS (zgm nd m) c) := by
  have hc := h.c
  have hP : 2 ^ c ≤ 4096 := Nat.le_trans (Nat.pow_le_pow_right (by omega) hc) (show 2 ^ 12 ≤ 4096 from by decide)
  intro d
  induction d with
  | zero =>
    intro i k U hi hk h1 h2
    obtain ⟨k, rfl⟩ : ∃ k', k = k' + 1 := ⟨k - 1, by omega⟩
    have e : i = c := by omega
    subst e
    refine ⟨U, ?_, h1, h2⟩
    rw [fX8_orders_l44, show md_houses (md_set_ways T U) = nI i from h.houses, if_pos (nI_le (by omega) (by omega)), nI_1]
  | succ d ih =>
    intro i k U hi hk h1 h2
    obtain ⟨k, rfl⟩ : ∃ k', k = k' + 1 := ⟨k - 1, by omega⟩
    have hs' : SR c w S (md_set_ways T U) := h
    obtain ⟨-, n2, n3⟩ := needs_eq hs' (j := i) (by omega)
    have hnd' : zND (md_set_ways T U) w i = nd i := by rw [← hnd]; rfl
    rw [hnd'] at n2 n3
    have hz : zS (zgm nd m) (i + 1) = zS (zgm nd m) i + zgm nd m i := rfl
    rw [fX8_orders_l44, show md_houses (md_set_ways T U) = nI c from h.houses, if_neg (nI_ge (by omega) (by omega)), has8 (by omega) (by omega), nI_1, n2]
    have skip : ¬ (m.testBit i = true ∧ nd i &&& (zclr m i ^^^ 4294967295) = 0) → ∃ U', fX8_orders_l44 (nI w) (nI m) K k (nI (i + 1)) (md_set_ways T U) = K (nI (m + 1)) (md_set_ways T U') ∧ (∀ s, s ≠ m → U' s = md_ways T s) ∧ U' m = nI (zS (zgm nd m) c) := by
      intro q
      refine ih (i + 1) k U (by omega) (by omega) h1 ?_
      rw [hz, h2]
      unfold zgm
      rw [if_neg q]; rfl
    rcases z_tbN m i with e | e
    · rw [if_pos (zbit0.mpr e)]
      exact skip (fun z => by rw [e] at z; exact absurd z.1 (by decide))
    · have hcl := zclr_le m i
      rw [if_neg (fun z => by rw [zbit1.mpr e] at z; exact absurd z (by decide))]
      repeat rw [Option.bind_some]
      rw [z_clr (by omega) (by omega), z_andnot (by omega) (by omega)]
      have hle := Nat.and_le_left (n := nd i) (m := zclr m i ^^^ 4294967295)
      by_cases q : nd i &&& (zclr m i ^^^ 4294967295) = 0
      · have hlt := ((z_bits12 i (by omega) m (by omega)).2 e).2
        rw [q, if_pos (show nI 0 = 0 from rfl), ix_nI (by omega) (by omega), ix_nI (by omega) (by omega), nI_clamp (by omega), nI_clamp (by omega)]
        refine ih (i + 1) k (upd U m (U m + U (zclr m i))) (by omega) (by omega) (fun s hsm => by rw [upd_at, if_neg hsm]; exact h1 s hsm) ?_
        rw [upd_at, if_pos rfl, h2, h1 _ (by omega), hF _ hlt (zsub_clr hsub), nI_add, hz]
        congr 2
        unfold zgm
        rw [if_pos ⟨e, q⟩]
      · rw [if_neg (show ¬ nI (nd i &&& (zclr m i ^^^ 4294967295)) = (0 : Int32) from fun z => q ((nI_eq (a := nd i &&& (zclr m i ^^^ 4294967295)) (b := 0) (by omega) (by omega)).mp z))]
        exact skip (fun z => q z.2)
theorem orders_out (hc0 : c ≤ 12) {nd : Nat → Nat} : ∀ d m f (T : zMd), m + d = 2 ^ c → 1 ≤ m → d < f → SR c w S T → zND T w = nd → (∀ s, s < m → zsub s w → md_ways T s = nI (zFF nd s)) → ∃ U, fX8_orders_l14 (nI w) f (nI m) T = some (nI (zFF nd w), md_set_ways T U) := by
  have hP : 2 ^ c ≤ 4096 := Nat.le_trans (Nat.pow_le_pow_right (by omega) hc0) (show 2 ^ 12 ≤ 4096 from by decide)
  intro d
  induction d with
  | zero =>
    intro m f T hm h1 hf h hnd hF
    obtain ⟨f, rfl⟩ : ∃ k', f = k' + 1 := ⟨f - 1, by omega⟩
    have hw := h.w
    refine ⟨md_ways T, ?_⟩
    rw [fX8_orders_l14, h.houses, z_one (by omega), if_pos (nI_le (by omega) (by omega)), ix_nI (by omega) (by omega), nI_clamp (by omega), hF w (by omega) (fun i _ z => z)]
    rfl
  | succ d ih =>
    intro m f T hm h1 hf h hnd hF
    obtain ⟨f, rfl⟩ : ∃ k', f = k' + 1 := ⟨f - 1, by omega⟩
    have hw := h.w
    have hw12 := h.w12
    rw [fX8_orders_l14, h.houses, z_one (by omega), if_neg (nI_ge (by omega) (by omega)), ix_nI (by omega) (by omega), nI_clamp (by omega), z_andnot (by omega) (by omega)]
    have hle := Nat.and_le_left (n := m) (m := w ^^^ 4294967295)
    by_cases q : zsub m w
    · rw [(zsub_iff (by omega)).mpr q, if_pos (show nI 0 = 0 from rfl)]
      obtain ⟨U', u1, u2, u3⟩ := orders_in h hnd (m := m) (by omega) q hF (fX8_orders_l14 (nI w) f) c 0 FU (upd (md_ways T) m 0) (by omega) (FU_big _ (by omega)) (fun s hs => by rw [upd_at, if_neg hs]) (by rw [upd_at, if_pos rfl]; rfl)
      have u1' : fX8_orders_l44 (nI w) (nI m) (fX8_orders_l14 (nI w) f) FU 0 (md_set_ways T (upd (md_ways T) m 0)) = fX8_orders_l14 (nI w) f (nI (m + 1)) (md_set_ways T U') := u1
      rw [u1']
      obtain ⟨U2, e⟩ := ih (m + 1) f (md_set_ways T U') (by omega) (by omega) (by omega) h (by rw [← hnd]; rfl) (fun s hs hsub => by
        show U' s = _
        by_cases z : s = m
        · subst z
          rw [u3, zFF_rec nd (by omega) (by omega)]
          congr 1
          refine (zS_ext (f := zgm nd s) (a := c) 12 (fun i g1 g2 => ?_) (by omega)).symm
          unfold zgm
          rw [if_neg]
          intro z
          have := Nat.testBit_lt_two_pow (x := s) (i := i) (Nat.lt_of_lt_of_le (show s < 2 ^ c from by omega) (Nat.pow_le_pow_right (by omega) g1))
          rw [this] at z
          exact absurd z.1 (by decide)
        · rw [u2 s z]
          exact hF s (by omega) hsub)
      exact ⟨U2, e⟩
    · rw [if_neg (show ¬ nI (m &&& (w ^^^ 4294967295)) = (0 : Int32) from fun z => q ((zsub_iff (by omega)).mp ((nI_eq (a := m &&& (w ^^^ 4294967295)) (b := 0) (by omega) (by omega)).mp z))), nI_1]
      obtain ⟨U2, e⟩ := ih (m + 1) f (md_set_ways T (upd (md_ways T) m 0)) (by omega) (by omega) (by omega) h (by rw [← hnd]; rfl) (fun s hs hsub => by
        show upd (md_ways T) m 0 s = _
        have z : s ≠ m := fun z => q (z ▸ hsub)
        rw [upd_at, if_neg z]
        exact hF s (by omega) hsub)
      exact ⟨U2, e⟩
end ORs
/-- the class's partial sums -/
def zTm (nd : Nat → Nat) (s m v h : Nat) : Nat := if (s.testBit h = true ∧ nd h &&& (zclr s h ^^^ 4294967295) = 0) ∧ (zclr s h < m ∨ (zclr s h = m ∧ h < v)) then zFF nd (zclr s h) else 0
def zGo (nd : Nat → Nat) (m v s : Nat) : Nat := (if s = 0 then 1 else 0) + zS (zTm nd s m v) 12
theorem zGo_self (nd : Nat → Nat) {m : Nat} (hm : m < 4096) (v : Nat) : zGo nd m v m = zFF nd m := by
  unfold zGo
  by_cases q : m = 0
  · subst q
    rw [if_pos rfl, zFF_0, zS_ext (a := 0) 12 (fun i _ hi => by
      unfold zTm
      rw [if_neg]
      intro z
      rw [Nat.zero_testBit] at z
      exact absurd z.1.1 (by decide)) (by omega)]
    rfl
  · rw [if_neg q, zFF_rec nd hm q, Nat.zero_add]
    apply zS_congr
    intro i hi
    unfold zTm
    by_cases g : m.testBit i = true ∧ nd i &&& (zclr m i ^^^ 4294967295) = 0
    · have hlt := ((z_bits12 i hi m hm).2 g.1).2
      rw [if_pos ⟨g, Or.inl hlt⟩, if_pos g]
    · rw [if_neg (fun z => g z.1), if_neg g]
theorem zGo_same {nd : Nat → Nat} {m v s : Nat} (h : ¬ (s.testBit v = true ∧ zclr s v = m ∧ nd v &&& (m ^^^ 4294967295) = 0)) : zGo nd m (v + 1) s = zGo nd m v s := by
  unfold zGo
  congr 1
  apply zS_congr
  intro i hi
  unfold zTm
  by_cases q : (s.testBit i = true ∧ nd i &&& (zclr s i ^^^ 4294967295) = 0) ∧ (zclr s i < m ∨ (zclr s i = m ∧ i < v))
  · rw [if_pos q, if_pos ⟨q.1, q.2.imp id (fun z => ⟨z.1, by omega⟩)⟩]
  · rw [if_neg q, if_neg]
    rintro ⟨a, b | ⟨b1, b2⟩⟩
    · exact q ⟨a, Or.inl b⟩
    · by_cases e : i = v
      · subst e
        exact h ⟨a.1, b1, b1 ▸ a.2⟩
      · exact q ⟨a, Or.inr ⟨b1, by omega⟩⟩
theorem zGo_hit {nd : Nat → Nat} {m v : Nat} (hm : m < 4096) (hv : v < 12) (hb : m.testBit v = false) (hn : nd v &&& (m ^^^ 4294967295) = 0) : zGo nd m (v + 1) (m ||| 2 ^ v) = zGo nd m v (m ||| 2 ^ v) + zFF nd m := by
  have hc := (z_bits12 v hv m hm).1 hb
  have ht : (m ||| 2 ^ v).testBit v = true := by
    rw [Nat.testBit_or, Nat.testBit_two_pow, decide_eq_true rfl, Bool.or_true]
  have := zS_one (f := zTm nd (m ||| 2 ^ v) m v) (g := zTm nd (m ||| 2 ^ v) m (v + 1)) (a := v) 12 (fun i hi hne => by
    unfold zTm
    by_cases q : ((m ||| 2 ^ v).testBit i = true ∧ nd i &&& (zclr (m ||| 2 ^ v) i ^^^ 4294967295) = 0) ∧ (zclr (m ||| 2 ^ v) i < m ∨ (zclr (m ||| 2 ^ v) i = m ∧ i < v))
    · rw [if_pos q, if_pos ⟨q.1, q.2.imp id (fun z => ⟨z.1, by omega⟩)⟩]
    · rw [if_neg q, if_neg]
      rintro ⟨a, b | ⟨b1, b2⟩⟩
      · exact q ⟨a, Or.inl b⟩
      · exact q ⟨a, Or.inr ⟨b1, by omega⟩⟩) hv
  have e1 : zTm nd (m ||| 2 ^ v) m v v = 0 := by
    unfold zTm
    rw [if_neg]
    rw [hc]
    rintro ⟨_, b | ⟨_, b⟩⟩ <;> omega
  have e2 : zTm nd (m ||| 2 ^ v) m (v + 1) v = zFF nd m := by
    unfold zTm
    rw [hc, if_pos ⟨⟨ht, hn⟩, Or.inr ⟨rfl, by omega⟩⟩]
  rw [e1, e2] at this
  unfold zGo
  omega
theorem zGo_next (nd : Nat → Nat) (m s : Nat) : zGo nd m 12 s = zGo nd (m + 1) 0 s := by
  unfold zGo
  congr 1
  apply zS_congr
  intro i hi
  unfold zTm
  by_cases q : (s.testBit i = true ∧ nd i &&& (zclr s i ^^^ 4294967295) = 0) ∧ (zclr s i < m ∨ (zclr s i = m ∧ i < 12))
  · rw [if_pos q, if_pos ⟨q.1, Or.inl (by rcases q.2 with z | ⟨z, _⟩ <;> omega)⟩]
  · rw [if_neg q, if_neg]
    rintro ⟨a, b | ⟨_, b⟩⟩
    · refine q ⟨a, ?_⟩
      by_cases e : zclr s i < m
      · exact Or.inl e
      · exact Or.inr ⟨by omega, hi⟩
    · omega
theorem zGo_skip {nd : Nat → Nat} {m s : Nat} (h : ∀ i, i < 12 → s.testBit i = true → zclr s i = m → zFF nd m = 0) : zGo nd m 0 s = zGo nd (m + 1) 0 s := by
  unfold zGo
  congr 1
  apply zS_congr
  intro i hi
  unfold zTm
  by_cases q : (s.testBit i = true ∧ nd i &&& (zclr s i ^^^ 4294967295) = 0) ∧ (zclr s i < m ∨ (zclr s i = m ∧ i < 0))
  · rw [if_pos q, if_pos ⟨q.1, Or.inl (by rcases q.2 with z | ⟨_, z⟩ <;> omega)⟩]
  · rw [if_neg q]
    by_cases g : (s.testBit i = true ∧ nd i &&& (zclr s i ^^^ 4294967295) = 0) ∧ (zclr s i < m + 1 ∨ (zclr s i = m + 1 ∧ i < 0))
    · rw [if_pos g]
      have e : zclr s i = m := by
        rcases g.2 with z | ⟨_, z⟩
        · by_cases y : zclr s i < m
          · exact absurd ⟨g.1, Or.inl y⟩ q
          · omega
        · omega
      rw [e, h i hi g.1.1 e]
    · rw [if_neg g]
section ORc
variable {c w : Nat} {S : zSt} {T : zMd}
def zInv (nd : Nat → Nat) (w m v : Nat) (O : zOr) : Prop := (∀ s, s ≤ w → zsub s w → or_ways O s = nI (zGo nd m v s)) ∧ ∀ s, s ≤ w → ¬ zsub s w → or_ways O s = 0
theorem next_in (h : SR c w S T) {nd : Nat → Nat} (hnd : zND T w = nd) {m : Nat} (hm : m < w) (hsub : zsub m w) : ∀ d i k (O : zOr), i + d = 12 → d < k → zInv nd w m i O → ∃ O', fX3_letNextCome_l10 S (nI m) (nI (w &&& (m ^^^ 4294967295))) k (nI i) O = some O' ∧ zInv nd w m 12 O' := by
  have hc := h.c
  have hw := h.w12
  have hl := Nat.and_le_left (n := w) (m := m ^^^ 4294967295)
  intro d
  induction d with
  | zero =>
    intro i k O hi hk hI
    obtain ⟨k, rfl⟩ : ∃ k', k = k' + 1 := ⟨k - 1, by omega⟩
    have e : i = 12 := by omega
    subst e
    refine ⟨O, ?_, hI⟩
    rw [fX3_letNextCome_l10, if_pos (show (12 : Int32) ≤ nI 12 from by decide)]
  | succ d ih =>
    intro i k O hi hk hI
    obtain ⟨k, rfl⟩ : ∃ k', k = k' + 1 := ⟨k - 1, by omega⟩
    have j0 : fX3_letNextCome_j46 S (nI m) (nI (w &&& (m ^^^ 4294967295))) (nI i) 0 O (fX3_letNextCome_l10 S (nI m) (nI (w &&& (m ^^^ 4294967295))) k) = fX3_letNextCome_l10 S (nI m) (nI (w &&& (m ^^^ 4294967295))) k (nI (i + 1)) O := by
      unfold fX3_letNextCome_j46
      rw [if_pos rfl, nI_1]
    have skip : ¬ (w.testBit i = true ∧ m.testBit i = false ∧ nd i &&& (m ^^^ 4294967295) = 0) → ∃ O', fX3_letNextCome_l10 S (nI m) (nI (w &&& (m ^^^ 4294967295))) k (nI (i + 1)) O = some O' ∧ zInv nd w m 12 O' := by
      intro q
      refine ih (i + 1) k O (by omega) (by omega) ⟨fun s h1 h2 => ?_, hI.2⟩
      rw [hI.1 s h1 h2, zGo_same]
      rintro ⟨a, b, e⟩
      refine q ⟨h2 i (by omega) a, ?_, e⟩
      rw [← b, zclr_tb s i i (by omega), decide_eq_true rfl, Bool.not_true, Bool.and_false]
    have tbr : (w &&& (m ^^^ 4294967295)).testBit i = (w.testBit i && !m.testBit i) := by
      rw [Nat.testBit_and, z_tb_not m i (by omega)]
    rw [fX3_letNextCome_l10, if_neg (show ¬ (12 : Int32) ≤ nI i from nI_ge (b := 12) (by omega) (by omega)), z_bit (by omega) (by omega)]
    unfold fX3_letNextCome_j45
    rw [j0]
    rcases z_tbN (w &&& (m ^^^ 4294967295)) i with e | e
    · rw [if_neg (fun z => by rw [zbit0.mpr e] at z; exact absurd z (by decide))]
      refine skip (fun z => ?_)
      rw [tbr, z.1, z.2.1] at e
      exact absurd e (by decide)
    · rw [if_pos (zbit1.mpr e)]
      rw [tbr, Bool.and_eq_true] at e
      have hwi := e.1
      have hmi : m.testBit i = false := by
        rcases z_tbN m i with z | z
        · exact z
        · rw [z] at e; exact absurd e.2 (by decide)
      have hic : i < c := by
        by_cases z : i < c
        · exact z
        · have := Nat.testBit_lt_two_pow (x := w) (i := i) (Nat.lt_of_lt_of_le h.w (Nat.pow_le_pow_right (by omega) (by omega)))
          rw [this] at hwi
          exact absurd hwi (by decide)
      obtain ⟨n1, -, n3⟩ := needs_eq h hic
      rw [hnd] at n1 n3
      rw [n1]
      repeat rw [Option.bind_some]
      rw [z_andnot (by omega) (by omega)]
      have hle := Nat.and_le_left (n := nd i) (m := m ^^^ 4294967295)
      by_cases q : nd i &&& (m ^^^ 4294967295) = 0
      · have ht : zsub (m ||| 2 ^ i) w := by
          intro j hj hb
          rw [Nat.testBit_or, Nat.testBit_two_pow, Bool.or_eq_true, decide_eq_true_eq] at hb
          rcases hb with z | z
          · exact hsub j hj z
          · rw [← z]; exact hwi
        have ht2 : m ||| 2 ^ i < 2 ^ 12 := Nat.or_lt_two_pow (by omega) (Nat.pow_lt_pow_right (by omega) (by omega))
        have ht3 := zsub_le (by omega) ht
        have ht4 := Nat.right_le_or (n := m) (m := 2 ^ i)
        rw [q, if_pos (show nI 0 = 0 from rfl)]
        unfold fX3_letNextCome_j46
        rw [if_neg (by decide), z_one (by omega), z_or (by omega) (by omega), if_neg (show ¬ (4096 : Int32) ≤ nI (m ||| 2 ^ i) from nI_ge (b := 4096) (by omega) (by omega)), ix_nI (by omega) (by omega), ix_nI (by omega) (by omega), nI_clamp (by omega), nI_clamp (by omega), nI_1]
        refine ih (i + 1) k _ (by omega) (by omega) ⟨fun s h1 h2 => ?_, fun s h1 h2 => ?_⟩
        · show upd (or_ways O) (m ||| 2 ^ i) (or_ways O (m ||| 2 ^ i) + or_ways O m) s = _
          rw [upd_at]
          by_cases z : s = m ||| 2 ^ i
          · rw [if_pos z, z, hI.1 _ ht3 ht, hI.1 m (by omega) hsub, zGo_self nd (by omega), nI_add, zGo_hit (by omega) (by omega) hmi q]
          · rw [if_neg z, hI.1 s h1 h2, zGo_same]
            rintro ⟨a, b, _⟩
            have := ((z_bits12 i (by omega) s (by omega)).2 a).1
            rw [b] at this
            exact z this.symm
        · show upd (or_ways O) (m ||| 2 ^ i) (or_ways O (m ||| 2 ^ i) + or_ways O m) s = _
          rw [upd_at, if_neg (show ¬ s = m ||| 2 ^ i from fun z => h2 (by rw [z]; exact ht))]
          exact hI.2 s h1 h2
      · rw [if_neg (show ¬ nI (nd i &&& (m ^^^ 4294967295)) = (0 : Int32) from fun z => q ((nI_eq (a := nd i &&& (m ^^^ 4294967295)) (b := 0) (by omega) (by omega)).mp z))]
        exact skip (fun z => q z.2.2)
theorem next_out (h : SR c w S T) {nd : Nat → Nat} (hnd : zND T w = nd) : ∀ d m k (O : zOr), m + d = w → d < k → zInv nd w m 0 O → ∃ O', fX3_of_l42 S (nI w) k (nI m) O = some (nI (zFF nd w), O') := by
  have hw := h.w12
  intro d
  induction d with
  | zero =>
    intro m k O hm hk hI
    obtain ⟨k, rfl⟩ : ∃ k', k = k' + 1 := ⟨k - 1, by omega⟩
    have e : m = w := by omega
    subst e
    refine ⟨O, ?_⟩
    rw [fX3_of_l42, if_pos (nI_le (by omega) (by omega)), ix_nI (by omega) (by omega), nI_clamp (by omega), hI.1 m (by omega) (fun i _ z => z), zGo_self nd (by omega)]
  | succ d ih =>
    intro m k O hm hk hI
    obtain ⟨k, rfl⟩ : ∃ k', k = k' + 1 := ⟨k - 1, by omega⟩
    rw [fX3_of_l42, if_neg (nI_ge (by omega) (by omega)), ix_nI (by omega) (by omega), nI_clamp (by omega), nI_1]
    by_cases q : zsub m w
    · rw [hI.1 m (by omega) q, zGo_self nd (by omega)]
      have hle := zFF_le nd m
      by_cases g : zFF nd m = 0
      · rw [g, if_pos (show nI 0 ≤ 0 from by decide)]
        exact ih (m + 1) k O (by omega) (by omega) ⟨fun s h1 h2 => by rw [hI.1 s h1 h2, zGo_skip (fun _ _ _ _ => g)], hI.2⟩
      · rw [if_neg (nI_nle (by omega) (by omega))]
        obtain ⟨O', e1, e2⟩ := next_in h hnd (by omega) q 12 0 FU O (by omega) (FU_big _ (by omega)) hI
        have e1' : fX3_letNextCome O S (nI m) (nI w) = some O' := by
          unfold fX3_letNextCome
          rw [z_andnot (by omega) (by omega)]
          exact e1
        rw [e1']
        exact ih (m + 1) k O' (by omega) (by omega) ⟨fun s h1 h2 => by rw [e2.1 s h1 h2, zGo_next], e2.2⟩
    · rw [hI.2 m (by omega) q, if_pos (show (0 : Int32) ≤ 0 from by decide)]
      exact ih (m + 1) k O (by omega) (by omega) ⟨fun s h1 h2 => by
        rw [hI.1 s h1 h2, zGo_skip]
        intro i _ _ hz
        exact absurd (hz ▸ zsub_clr h2) q, hI.2⟩
theorem zero_l (S : zSt) {w : Nat} (hw : w < 4096) : ∀ d i k (O : zOr), i + d = w + 1 → d < k → (∀ s, s < i → or_ways O s = 0) → ∃ O', fX3_of_l15 S (nI w) k (nI i) O = fX3_of_l42 S (nI w) FU 0 O' ∧ or_ways O' 0 = 1 ∧ ∀ s, 1 ≤ s → s ≤ w → or_ways O' s = 0 := by
  intro d
  induction d with
  | zero =>
    intro i k O hi hk h0
    obtain ⟨k, rfl⟩ : ∃ k', k = k' + 1 := ⟨k - 1, by omega⟩
    refine ⟨or_set_ways O (upd (or_ways O) 0 1), ?_, rfl, fun s h1 h2 => ?_⟩
    · rw [fX3_of_l15, if_pos (nI_lt (by omega) (by omega))]
      exact ix_nI (n := 4096) (j := 0) (by omega) (by omega)
    · show upd (or_ways O) 0 1 s = 0
      rw [upd_at, if_neg (by omega)]
      exact h0 s (by omega)
  | succ d ih =>
    intro i k O hi hk h0
    obtain ⟨k, rfl⟩ : ∃ k', k = k' + 1 := ⟨k - 1, by omega⟩
    rw [fX3_of_l15, if_neg (nI_nlt (by omega) (by omega)), ix_nI (by omega) (by omega), nI_clamp (by omega), nI_1]
    exact ih (i + 1) k _ (by omega) (by omega) (fun s hs => by
      show upd (or_ways O) i 0 s = 0
      rw [upd_at]
      by_cases z : s = i
      · rw [if_pos z]
      · rw [if_neg z]; exact h0 s (by omega))
end ORc
theorem inv0 {nd : Nat → Nat} {w : Nat} (hw : w < 4096) {O1 : zOr} (z2 : or_ways O1 0 = 1) (z3 : ∀ s, 1 ≤ s → s ≤ w → or_ways O1 s = 0) : zInv nd w 0 0 O1 := ⟨fun s h1 h2 => by
    by_cases q : s = 0
    · subst q
      rw [z2, zGo_self _ (by omega), zFF_0]; rfl
    · rw [z3 s (by omega) h1]
      unfold zGo
      rw [if_neg q, zS_ext (a := 0) 12 (fun i _ hi => by
        unfold zTm
        rw [if_neg]
        rintro ⟨_, b | ⟨_, b⟩⟩ <;> omega) (by omega)]
      rfl, fun s h1 h2 => by
    by_cases q : s = 0
    · subst q
      exact absurd (fun i _ z => by rw [Nat.zero_testBit] at z; exact absurd z (by decide)) h2
    · exact z3 s (by omega) h1⟩
theorem ord_c {c w : Nat} {S : zSt} {T : zMd} (hs : SR c w S T) (O : zOr) : ∃ O2, fX3_of O S = some (nI (zFF (zND T w) w), O2) := by
  have hc := hs.c
  have hw := hs.w12
  obtain ⟨O1, z1, z2, z3⟩ := zero_l S hw (w + 1) 0 FU O (by omega) (FU_big _ (by omega)) (fun s hs => absurd hs (by omega))
  obtain ⟨O2, o1⟩ := next_out hs (nd := zND T w) rfl w 0 FU O1 (by omega) (FU_big _ (by omega)) (inv0 hw z2 z3)
  refine ⟨O2, ?_⟩
  unfold fX3_of fX5_standingBits
  rw [hs.st, show (4096 : Int32) - 1 = 4095 from by decide, pk_andN (by omega) 12 (by decide), Nat.mod_eq_of_lt (by omega)]
  exact z1.trans o1
theorem ord_m {c w : Nat} {S : zSt} {T : zMd} (hs : SR c w S T) : ∃ U, fX8_orders T = some (nI (zFF (zND T w) w), md_set_ways T U) := by
  have hc := hs.c
  have hw := hs.w12
  have hp : 2 ^ c ≤ 2 ^ 12 := Nat.pow_le_pow_right (by omega) hc
  obtain ⟨U, u1⟩ := orders_out (S := S) hc (nd := zND T w) (2 ^ c - 1) 1 FU (md_set_ways T (upd (md_ways T) 0 1)) (by have := Nat.two_pow_pos c; omega) (by omega) (FU_big _ (by omega)) hs rfl (fun s h1 _ => by
    have e : s = 0 := by omega
    subst e
    show upd (md_ways T) 0 1 0 = _
    rw [upd_at, if_pos rfl, zFF_0]; rfl)
  refine ⟨U, ?_⟩
  unfold fX8_orders
  rw [hs.hs]
  rw [Option.bind_some]
  exact (ix_nI (n := 4096) (j := 0) (by omega) (by omega)).trans u1
theorem sim_orders : zSim_orders RT := by
  intro M T h
  have hr := h
  obtain ⟨⟨c, w, hs⟩, -⟩ := h
  obtain ⟨O2, e1⟩ := ord_c hs (mn_comings M)
  obtain ⟨U, e2⟩ := ord_m hs
  refine ⟨nI (zFF (zND T w) w), mn_set_comings M O2, md_set_ways T U, ?_, e2, (hr.ways U).comings O2⟩
  unfold fX7_orders
  rw [e1]
  rw [Option.bind_some]
