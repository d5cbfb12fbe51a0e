/-! the loops that look: sums, differences, finds, blank and twin pages -/
/-- page p holds zeros alone from place i on -/
def cs_Z (a : Nat → Int32) (p i : Nat) : Prop := ∀ j : Nat, i ≤ j → j < 16 → a (16 * p + j) = 0
theorem cs_Z16 (a : Nat → Int32) (p : Nat) : cs_Z a p 16 := fun j h1 h2 => absurd h2 (by omega)
theorem cs_Zs {a : Nat → Int32} {p i : Nat} (h : a (16 * p + i) = 0) (hs : cs_Z a p (i + 1)) : cs_Z a p i := by
  intro j h1 h2
  by_cases e : j = i
  · rw [e]; exact h
  · exact hs j (by omega) h2
theorem cs_Zn {a : Nat → Int32} {p i : Nat} (h : cs_Z a p i) : cs_Z a p (i + 1) := fun j h1 h2 => h j (by omega) h2
theorem cs_sum (p : Nat) (hp : p < 12) (a : Nat → Int32) (ha : cs_B a) : ∀ d i : Nat, i + d = 16 → ∀ s : Nat, s ≤ i * 4080 → ∃ s' : Nat, s' < 2 ^ 31 ∧ (s' = 0 ↔ s = 0 ∧ cs_Z a p i) ∧ (∀ post : Int32 → Prop, post (nI s') → wX_sum_13 post (nI p) a (d + 1) (nI s) (nI i)) ∧ (∀ post : Int32 → Prop, post (nI s') → wY_sum_14 post (nI p) a (d + 1) (nI s) (nI i)) := by
  intro d
  induction d with
  | zero =>
    intro i hd s hs
    have e : i = 16 := by omega
    subst e
    exact ⟨s, by omega, ⟨fun h => ⟨h, cs_Z16 a p⟩, fun h => h.1⟩, fun _ w => br_t cs_l16 w, fun _ w => br_t cs_l16 w⟩
  | succ d ih =>
    intro i hd s hs
    have hi : i < 16 := by omega
    have h := cs_g16 hi
    obtain ⟨m, hm, em⟩ := ha (16 * p + i)
    have hg : (i + 1) * m ≤ 16 * 255 := Nat.mul_le_mul (by omega) (by omega)
    have e : nI s + (nI i + 1) * nI m = nI (s + (i + 1) * m) := by rw [nI_1, pk_mul, nI_add]
    have ez : (i + 1) * m = 0 ↔ a (16 * p + i) = 0 := by
      rw [em]
      constructor
      · intro g
        rcases Nat.mul_eq_zero.mp g with g | g
        · omega
        · rw [g]; exact nI_0
      · intro g
        rw [← nI_0] at g
        have g' := (nI_eq (by omega) (by omega)).mp g
        rw [g', Nat.mul_zero]
    generalize (i + 1) * m = g at hg e ez
    obtain ⟨s', h1, h2, hX, hY⟩ := ih (i + 1) (by omega) (s + g) (by omega)
    refine ⟨s', h1, ⟨fun w => ?_, fun w => h2.mpr ⟨?_, cs_Zn w.2⟩⟩, fun post w => br_f h ⟨cs_xv hp hi, nm_r ?_ (nm_r (nI_1 i) (hX post w))⟩, fun post w => br_f h ⟨cs_yv hp hi, nm_r ?_ (nm_r (nI_1 i) (hY post w))⟩⟩
    · obtain ⟨w1, w2⟩ := h2.mp w
      exact ⟨by omega, cs_Zs (ez.mp (by omega)) w2⟩
    · have w1 := w.1
      have w2 := ez.mpr (w.2 i (Nat.le_refl _) hi)
      omega
    · rw [cs_xc hp hi, em, e]
    · rw [cs_yc hp hi, em, e]
theorem cs_blk (p : Nat) (hp : p < 12) (a : Nat → Int32) : ∀ d i : Nat, i + d = 16 → (cs_Z a p i ∧ ∀ post : Int32 → Prop, post 1 → wX_isBlank_2 post (nI p) a (d + 1) (nI i)) ∨ (¬ cs_Z a p i ∧ ∀ post : Int32 → Prop, post 0 → wX_isBlank_2 post (nI p) a (d + 1) (nI i)) := by
  intro d
  induction d with
  | zero =>
    intro i hd
    have e : i = 16 := by omega
    subst e
    exact Or.inl ⟨cs_Z16 a p, fun _ w => br_t cs_l16 w⟩
  | succ d ih =>
    intro i hd
    have hi : i < 16 := by omega
    have h := cs_g16 hi
    have x1 := cs_xc hp hi
    by_cases z : a (16 * p + i) = 0
    · rcases ih (i + 1) (by omega) with ⟨hz, hX⟩ | ⟨hz, hX⟩
      · exact Or.inl ⟨cs_Zs z hz, fun post w => br_f h ⟨cs_xv hp hi, br_t (by rw [x1]; exact z) (nm_r (nI_1 i) (hX post w))⟩⟩
      · exact Or.inr ⟨fun g => hz (cs_Zn g), fun post w => br_f h ⟨cs_xv hp hi, br_t (by rw [x1]; exact z) (nm_r (nI_1 i) (hX post w))⟩⟩
    · exact Or.inr ⟨fun g => z (g i (Nat.le_refl _) hi), fun post w => br_f h ⟨cs_xv hp hi, br_f (by rw [x1]; exact z) w⟩⟩
theorem cs_pageIn {p : Nat} (hp : p < 12) : (∀ post : Int32 → Prop, post 1 → wpX_isPage post (nI p)) ∧ (∀ (post : Int32 → Prop) (a : SY), post 1 → wpY_isPage post a (nI p)) := by
  have h0 : ¬ nI p < 0 := nI_pos (by omega)
  have hy : ¬ (11 : Int32) < nI p := by rw [← cs_11]; exact nI_nlt (by omega) (by decide)
  exact ⟨fun _ q => br_f h0 (br_f (cs_g12 hp) q), fun _ _ q => br_f h0 (br_f hy q)⟩
theorem cs_sums (p : Nat) (hp : p < 12) (a : Nat → Int32) (ha : cs_B a) : ∃ s : Nat, s < 2 ^ 31 ∧ (s = 0 ↔ cs_Z a p 0) ∧ (∀ post : Int32 → Prop, post (nI s) → wpX_sum post a (nI p)) ∧ (∀ post : Int32 → Prop, post (nI s) → wpY_sum post a (nI p)) := by
  obtain ⟨s, h1, h2, hX, hY⟩ := cs_sum p hp a ha 16 0 (by omega) 0 (by omega)
  rw [nI_0] at hX hY
  refine ⟨s, h1, ⟨fun w => (h2.mp w).2, fun w => h2.mpr ⟨rfl, w⟩⟩, fun post w => ?_, fun post w => ?_⟩
  · unfold wpX_sum
    exact (cs_pageIn hp).1 _ (br_f cs_ne ⟨_, hX post w⟩)
  · unfold wpY_sum
    exact (cs_pageIn hp).2 _ _ (br_f cs_ne ⟨_, hY post w⟩)
theorem cs_isB (p : Nat) (hp : p < 12) (a : Nat → Int32) : (cs_Z a p 0 ∧ ∀ post : Int32 → Prop, post 1 → wpX_isBlank post a (nI p)) ∨ (¬ cs_Z a p 0 ∧ ∀ post : Int32 → Prop, post 0 → wpX_isBlank post a (nI p)) := by
  have h := cs_blk p hp a 16 0 (by omega)
  rw [nI_0] at h
  rcases h with ⟨hz, hX⟩ | ⟨hz, hX⟩
  · exact Or.inl ⟨hz, fun post w => ⟨_, hX post w⟩⟩
  · exact Or.inr ⟨hz, fun post w => ⟨_, hX post w⟩⟩
theorem cs_blank (a : Nat → Int32) (ha : cs_B a) : ∀ d j : Nat, j + d = 12 → ∀ c : Int32, ∃ r : Int32, (∀ post : Int32 → Prop, post r → wX_blank_4 post a (d + 1) c (nI j)) ∧ (∀ post : Int32 → Prop, post r → wY_blank_4 post a (d + 1) c (nI j)) := by
  intro d
  induction d with
  | zero =>
    intro j hd c
    have e : j = 12 := by omega
    subst e
    exact ⟨c, fun _ w => br_t cs_l12 w, fun _ w => br_t cs_l12 w⟩
  | succ d ih =>
    intro j hd c
    have hj : j < 12 := by omega
    have h := cs_g12 hj
    obtain ⟨s, h1, h2, _, hS⟩ := cs_sums j hj a ha
    rcases cs_isB j hj a with ⟨hz, hI⟩ | ⟨hz, hI⟩
    · have e : s = 0 := h2.mpr hz
      subst e
      obtain ⟨r, hX, hY⟩ := ih (j + 1) (by omega) (c + 1)
      exact ⟨r, fun post w => br_f h (hI _ (br_f cs_ne (nm_e (nm_r (nI_1 j) (hX post w))))), fun post w => br_f h (hS _ (br_t nI_0 (nm_e (nm_r (nI_1 j) (hY post w)))))⟩
    · have e : ¬ nI s = 0 := nI_ne0 (Nat.pos_of_ne_zero fun g => hz (h2.mp g)) h1
      obtain ⟨r, hX, hY⟩ := ih (j + 1) (by omega) c
      exact ⟨r, fun post w => br_f h (hI _ (br_t rfl (nm_r (nI_1 j) (hX post w)))), fun post w => br_f h (hS _ (br_f e (nm_r (nI_1 j) (hY post w))))⟩
theorem cs_diff (p q : Nat) (hp : p < 12) (hq : q < 12) (a : Nat → Int32) : ∀ d i : Nat, i + d = 16 → ∃ r : Int32, (∀ post : Int32 → Prop, post r → wX_firstDifference_2 post (nI p) (nI q) a (d + 1) (nI i)) ∧ (∀ post : Int32 → Prop, post r → wY_differ_20 post (nI p) (nI q) a (d + 1) (nI i)) := by
  intro d
  induction d with
  | zero =>
    intro i hd
    have e : i = 16 := by omega
    subst e
    exact ⟨-4, fun _ w => br_t cs_l16 w, fun _ w => br_t cs_l16 w⟩
  | succ d ih =>
    intro i hd
    have hi : i < 16 := by omega
    have h := cs_g16 hi
    have x1 := cs_xc hp hi
    have x2 := cs_xc hq hi
    have y1 := cs_yc hp hi
    have y2 := cs_yc hq hi
    by_cases z : a (16 * p + i) = a (16 * q + i)
    · obtain ⟨r, hX, hY⟩ := ih (i + 1) (by omega)
      exact ⟨r, fun post w => br_f h ⟨cs_xv hp hi, cs_xv hq hi, br_t (by rw [x1, x2]; exact z) (nm_r (nI_1 i) (hX post w))⟩, fun post w => br_f h ⟨cs_yv hp hi, cs_yv hq hi, br_t (by rw [y1, y2]; exact z) (nm_r (nI_1 i) (hY post w))⟩⟩
    · exact ⟨nI i, fun post w => br_f h ⟨cs_xv hp hi, cs_xv hq hi, br_f (by rw [x1, x2]; exact z) w⟩, fun post w => br_f h ⟨cs_yv hp hi, cs_yv hq hi, br_f (by rw [y1, y2]; exact z) w⟩⟩
theorem cs_diffs (p q : Nat) (hp : p < 12) (hq : q < 12) (a : Nat → Int32) : ∃ r : Int32, (∀ post : Int32 → Prop, post r → wpX_firstDifference post a (nI p) (nI q)) ∧ (∀ post : Int32 → Prop, post r → wpY_differ post a (nI p) (nI q)) := by
  obtain ⟨r, hX, hY⟩ := cs_diff p q hp hq a 16 0 (by omega)
  rw [nI_0] at hX hY
  refine ⟨r, fun post w => ⟨_, hX post w⟩, fun post w => ?_⟩
  unfold wpY_differ
  exact (cs_pageIn hp).2 _ _ (br_f cs_ne ((cs_pageIn hq).2 _ _ (br_f cs_ne ⟨_, hY post w⟩)))
theorem cs_find (p : Nat) (hp : p < 12) (b : Int32) (a : Nat → Int32) : ∀ d i : Nat, i + d = 16 → ∃ r : Int32, (∀ post : Int32 → Prop, post r → wX_find_26 post (nI p) b a (d + 1) (nI i)) ∧ (∀ post : Int32 → Prop, post r → wY_find_29 post (nI p) b a (d + 1) (nI i)) := by
  intro d
  induction d with
  | zero =>
    intro i hd
    have e : i = 16 := by omega
    subst e
    exact ⟨-4, fun _ w => br_t cs_l16 w, fun _ w => br_t cs_l16 w⟩
  | succ d ih =>
    intro i hd
    have hi : i < 16 := by omega
    have h := cs_g16 hi
    have x1 := cs_xc hp hi
    have y1 := cs_yc hp hi
    by_cases z : a (16 * p + i) = b
    · exact ⟨nI i, fun post w => br_f h ⟨cs_xv hp hi, br_t (by rw [x1]; exact z) w⟩, fun post w => br_f h ⟨cs_yv hp hi, br_t (by rw [y1]; exact z) w⟩⟩
    · obtain ⟨r, hX, hY⟩ := ih (i + 1) (by omega)
      exact ⟨r, fun post w => br_f h ⟨cs_xv hp hi, br_f (by rw [x1]; exact z) (nm_r (nI_1 i) (hX post w))⟩, fun post w => br_f h ⟨cs_yv hp hi, br_f (by rw [y1]; exact z) (nm_r (nI_1 i) (hY post w))⟩⟩
theorem cs_twin (p : Nat) (hp : p < 12) (a : Nat → Int32) : ∀ d j : Nat, j + d = 12 → ∃ r : Int32, (∀ post : Int32 → Prop, post r → wX_twin_11 post (nI p) a (d + 1) (nI j)) ∧ (∀ post : Int32 → Prop, post r → wY_twin_12 post (nI p) a (d + 1) (nI j)) := by
  intro d
  induction d with
  | zero =>
    intro j hd
    have e : j = 12 := by omega
    subst e
    exact ⟨-4, fun _ w => br_t cs_l12 w, fun _ w => br_t cs_l12 w⟩
  | succ d ih =>
    intro j hd
    have hj : j < 12 := by omega
    have h := cs_g12 hj
    obtain ⟨r, hX, hY⟩ := ih (j + 1) (by omega)
    by_cases e : nI j = nI p
    · exact ⟨r, fun post w => br_f h (br_t e (nm_r (nI_1 j) (hX post w))), fun post w => br_f h (br_t e (nm_r (nI_1 j) (hY post w)))⟩
    · obtain ⟨g, gX, gY⟩ := cs_diffs p j hp hj a
      by_cases z : g = -4
      · exact ⟨nI j, fun post w => br_f h (br_f e (gX _ (br_t z w))), fun post w => br_f h (br_f e (gY _ (br_t z w)))⟩
      · exact ⟨r, fun post w => br_f h (br_f e (gX _ (br_f z (nm_r (nI_1 j) (hX post w))))), fun post w => br_f h (br_f e (gY _ (br_f z (nm_r (nI_1 j) (hY post w)))))⟩
