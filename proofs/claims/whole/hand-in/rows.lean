section
/-! numbers, bytes, the place of a byte, the three tests of arguments -/
theorem pk_mul (a b : Nat) : nI a * nI b = nI (a * b) := (Int32.ofNat_mul a b).symm
theorem nx_xor (a b : Nat) : nI a ^^^ nI b = nI (a ^^^ b) := by
  apply Int32.toBitVec_inj.1
  show BitVec.ofNat 32 a ^^^ BitVec.ofNat 32 b = BitVec.ofNat 32 (a ^^^ b)
  apply BitVec.eq_of_getLsbD_eq
  intro i hi
  simp [hi]
/-- a byte: a number 0 to 255 -/
def cs_b (x : Int32) : Prop := ∃ m : Nat, m < 256 ∧ x = nI m
/-- all cells are bytes -/
def cs_B (a : Nat → Int32) : Prop := ∀ j : Nat, cs_b (a j)
theorem cs_b0 : cs_b 0 := ⟨0, by decide, nI_0.symm⟩
theorem cs_xor {x y : Int32} (hx : cs_b x) (hy : cs_b y) : cs_b (x ^^^ y) := by
  obtain ⟨m, hm, rfl⟩ := hx
  obtain ⟨k, hk, rfl⟩ := hy
  exact ⟨m ^^^ k, Nat.xor_lt_two_pow (n := 8) hm hk, nx_xor m k⟩
theorem cs_upd {a : Nat → Int32} (ha : cs_B a) {x : Int32} (hx : cs_b x) (n : Nat) : cs_B (upd a n x) := by
  intro j
  show cs_b (if j = n then x else a j)
  by_cases h : j = n
  · rw [if_pos h]; exact hx
  · rw [if_neg h]; exact ha j
theorem cs_12 : nI 12 = 12 := by decide +kernel
theorem cs_11 : nI 11 = 11 := by decide +kernel
theorem cs_16 : nI 16 = 16 := by decide +kernel
theorem cs_15 : nI 15 = 15 := by decide +kernel
theorem cs_255 : nI 255 = 255 := by decide +kernel
theorem cs_l16 : (16 : Int32) ≤ nI 16 := by rw [cs_16]; exact Int32.le_refl _
theorem cs_g16 {i : Nat} (h : i < 16) : ¬ (16 : Int32) ≤ nI i := by rw [← cs_16]; exact nI_ge h (by decide)
theorem cs_l12 : (12 : Int32) ≤ nI 12 := by rw [cs_12]; exact Int32.le_refl _
theorem cs_g12 {i : Nat} (h : i < 12) : ¬ (12 : Int32) ≤ nI i := by rw [← cs_12]; exact nI_ge h (by decide)
theorem cs_xi (p i : Nat) : nI p * 16 + nI i = nI (16 * p + i) := by
  rw [← cs_16, pk_mul, nI_add, Nat.mul_comm]
theorem cs_yi (p i : Nat) : 16 * nI p + nI i = nI (16 * p + i) := by
  rw [← cs_16, pk_mul, nI_add]
theorem cs_xv {p i : Nat} (hp : p < 12) (hi : i < 16) : vp_in (nI p * 16 + nI i) 192 := by
  rw [cs_xi]; exact vp_in_nI (by omega) (by decide)
theorem cs_yv {p i : Nat} (hp : p < 12) (hi : i < 16) : vp_in (16 * nI p + nI i) 192 := by
  rw [cs_yi]; exact vp_in_nI (by omega) (by decide)
theorem cs_xc {p i : Nat} (hp : p < 12) (hi : i < 16) : (nI p * 16 + nI i).toNatClampNeg = 16 * p + i := by
  rw [cs_xi]; exact nI_clamp (by omega)
theorem cs_yc {p i : Nat} (hp : p < 12) (hi : i < 16) : (16 * nI p + nI i).toNatClampNeg = 16 * p + i := by
  rw [cs_yi]; exact nI_clamp (by omega)
theorem cs_page (p : Int32) : ((∀ post : Int32 → Prop, post 0 → wpX_isPage post p) ∧ (∀ (post : Int32 → Prop) (a : SY), post 0 → wpY_isPage post a p)) ∨ (∃ j : Nat, j < 12 ∧ p = nI j ∧ (∀ post : Int32 → Prop, post 1 → wpX_isPage post p) ∧ (∀ (post : Int32 → Prop) (a : SY), post 1 → wpY_isPage post a p)) := by
  by_cases h0 : p < 0
  · exact Or.inl ⟨fun _ h => br_t h0 h, fun _ _ h => br_t h0 h⟩
  · obtain ⟨j, hj, rfl⟩ := nI_of h0
    by_cases h : j < 12
    · have hx : ¬ (12 : Int32) ≤ nI j := cs_g12 h
      have hy : ¬ (11 : Int32) < nI j := by rw [← cs_11]; exact nI_nlt (by omega) (by decide)
      exact Or.inr ⟨j, h, rfl, fun _ q => br_f h0 (br_f hx q), fun _ _ q => br_f h0 (br_f hy q)⟩
    · have hx : (12 : Int32) ≤ nI j := by rw [← cs_12]; exact nI_le (by omega) hj
      have hy : (11 : Int32) < nI j := by rw [← cs_11]; exact nI_lt (by omega) hj
      exact Or.inl ⟨fun _ q => br_f h0 (br_t hx q), fun _ _ q => br_f h0 (br_t hy q)⟩
theorem cs_place (p : Int32) : ((∀ post : Int32 → Prop, post 0 → wpX_isPlace post p) ∧ (∀ (post : Int32 → Prop) (a : SY), post 0 → wpY_isPlace post a p)) ∨ (∃ j : Nat, j < 16 ∧ p = nI j ∧ (∀ post : Int32 → Prop, post 1 → wpX_isPlace post p) ∧ (∀ (post : Int32 → Prop) (a : SY), post 1 → wpY_isPlace post a p)) := by
  by_cases h0 : p < 0
  · exact Or.inl ⟨fun _ h => br_t h0 h, fun _ _ h => br_t h0 h⟩
  · obtain ⟨j, hj, rfl⟩ := nI_of h0
    by_cases h : j < 16
    · have hx : ¬ (16 : Int32) ≤ nI j := cs_g16 h
      have hy : ¬ (15 : Int32) < nI j := by rw [← cs_15]; exact nI_nlt (by omega) (by decide)
      exact Or.inr ⟨j, h, rfl, fun _ q => br_f h0 (br_f hx q), fun _ _ q => br_f h0 (br_f hy q)⟩
    · have hx : (16 : Int32) ≤ nI j := by rw [← cs_16]; exact nI_le (by omega) hj
      have hy : (15 : Int32) < nI j := by rw [← cs_15]; exact nI_lt (by omega) hj
      exact Or.inl ⟨fun _ q => br_f h0 (br_t hx q), fun _ _ q => br_f h0 (br_t hy q)⟩
theorem cs_byte (p : Int32) : ((∀ post : Int32 → Prop, post 0 → wpX_isByte post p) ∧ (∀ (post : Int32 → Prop) (a : SY), post 0 → wpY_isByte post a p)) ∨ (cs_b p ∧ (∀ post : Int32 → Prop, post 1 → wpX_isByte post p) ∧ (∀ (post : Int32 → Prop) (a : SY), post 1 → wpY_isByte post a p)) := by
  by_cases h0 : p < 0
  · exact Or.inl ⟨fun _ h => br_t h0 h, fun _ _ h => br_t h0 h⟩
  · obtain ⟨j, hj, rfl⟩ := nI_of h0
    by_cases h : j < 256
    · have hx : ¬ (255 : Int32) < nI j := by rw [← cs_255]; exact nI_nlt (by omega) (by decide)
      exact Or.inr ⟨⟨j, h, rfl⟩, fun _ q => br_f h0 (br_f hx q), fun _ _ q => br_f h0 (br_f hx q)⟩
    · have hx : (255 : Int32) < nI j := by rw [← cs_255]; exact nI_lt (by omega) hj
      exact Or.inl ⟨fun _ q => br_f h0 (br_t hx q), fun _ _ q => br_f h0 (br_t hx q)⟩
theorem cs_ne : ¬ (1 : Int32) = 0 := by decide
end
section
/-! the loops that store: both sides in lockstep, one answer and one array for every post -/
theorem cs_fill (p t : Nat) (b : Int32) (hp : p < 12) (ht : t < 16) (hb : cs_b b) : ∀ d i : Nat, i ≤ 16 → t + 1 - i = d → ∀ (c : Int32) (a : Nat → Int32), cs_B a → ∃ (r : Int32) (a' : Nat → Int32), cs_B a' ∧ (∀ post : Int32 → SX → Prop, post r a' → wX_fill_37 post (nI p) (nI t) b (d + 1) c (nI i) a) ∧ (∀ post : Int32 → SY → Prop, post r a' → wY_fill_41 post (nI p) (nI t) b (d + 1) c (nI i) a) := by
  intro d
  induction d with
  | zero =>
    intro i hi hd c a ha
    have h : nI t < nI i := nI_lt (by omega) (by omega)
    exact ⟨c, a, ha, fun _ q => br_t h q, fun _ q => br_t h q⟩
  | succ d ih =>
    intro i hi hd c a ha
    have h : ¬ nI t < nI i := nI_nlt (by omega) (by omega)
    have hi' : i < 16 := by omega
    obtain ⟨r, a', hB, hX, hY⟩ := ih (i + 1) (by omega) (by omega) (c + 1) (upd a (16 * p + i) b) (cs_upd ha hb _)
    refine ⟨r, a', hB, fun post q => br_f h ⟨cs_xv hp hi', ?_⟩, fun post q => br_f h ⟨cs_yv hp hi', ?_⟩⟩
    · exact nm_r (congrArg (fun z => upd a z b) (cs_xc hp hi')) (nm_e (nm_r (nI_1 i) (hX post q)))
    · exact nm_r (congrArg (fun z => upd a z b) (cs_yc hp hi')) (nm_e (nm_r (nI_1 i) (hY post q)))
theorem cs_copy (p q : Nat) (hp : p < 12) (hq : q < 12) : ∀ d i : Nat, i + d = 16 → ∀ (c : Int32) (a : Nat → Int32), cs_B a → ∃ (r : Int32) (a' : Nat → Int32), cs_B a' ∧ (∀ post : Int32 → SX → Prop, post r a' → wX_copy_21 post (nI p) (nI q) (d + 1) c (nI i) a) ∧ (∀ post : Int32 → SY → Prop, post r a' → wY_copy_23 post (nI p) (nI q) (d + 1) c (nI i) a) := by
  intro d
  induction d with
  | zero =>
    intro i hd c a ha
    have e : i = 16 := by omega
    subst e
    exact ⟨c, a, ha, fun _ w => br_t cs_l16 w, fun _ w => br_t cs_l16 w⟩
  | succ d ih =>
    intro i hd c a ha
    have hi : i < 16 := by omega
    have h := cs_g16 hi
    have x1 := cs_xc hp hi
    have x2 := cs_xc hq hi
    have y1 := cs_yc hp hi
    have y2 := cs_yc hq hi
    by_cases z : a (16 * p + i) = a (16 * q + i)
    · obtain ⟨r, a', hB, hX, hY⟩ := ih (i + 1) (by omega) c a ha
      refine ⟨r, a', hB, fun post w => br_f h ⟨cs_xv hq hi, nm_e ⟨cs_xv hp hi, br_t ?_ (nm_r (nI_1 i) (hX post w))⟩⟩, fun post w => br_f h ⟨cs_yv hp hi, cs_yv hq hi, br_t ?_ (nm_r (nI_1 i) (hY post w))⟩⟩
      · rw [x1, x2]; exact z
      · rw [y1, y2]; exact z
    · obtain ⟨r, a', hB, hX, hY⟩ := ih (i + 1) (by omega) (c + 1) (upd a (16 * p + i) (a (16 * q + i))) (cs_upd ha (ha _) _)
      refine ⟨r, a', hB, fun post w => br_f h ⟨cs_xv hq hi, nm_e ⟨cs_xv hp hi, br_f ?_ ⟨cs_xv hp hi, nm_r ?_ (nm_e (nm_r (nI_1 i) (hX post w)))⟩⟩⟩, fun post w => br_f h ⟨cs_yv hp hi, cs_yv hq hi, br_f ?_ ⟨cs_yv hq hi, cs_yv hp hi, nm_r ?_ (nm_e (nm_r (nI_1 i) (hY post w)))⟩⟩⟩
      · rw [x1, x2]; exact z
      · rw [x1, x2]
      · rw [y1, y2]; exact z
      · rw [y1, y2]
theorem cs_exch (p q : Nat) (hp : p < 12) (hq : q < 12) : ∀ d i : Nat, i + d = 16 → ∀ (a : Nat → Int32), cs_B a → ∃ (r : Int32) (a' : Nat → Int32), cs_B a' ∧ (∀ post : Int32 → SX → Prop, post r a' → wX_exchange_18 post (nI p) (nI q) (d + 1) (nI i) a) ∧ (∀ post : Int32 → SY → Prop, post r a' → wY_exchange_20 post (nI p) (nI q) (d + 1) (nI i) a) := by
  intro d
  induction d with
  | zero =>
    intro i hd a ha
    have e : i = 16 := by omega
    subst e
    exact ⟨0, a, ha, fun _ w => br_t cs_l16 w, fun _ w => br_t cs_l16 w⟩
  | succ d ih =>
    intro i hd a ha
    have hi : i < 16 := by omega
    have h := cs_g16 hi
    have x1 := cs_xc hp hi
    have x2 := cs_xc hq hi
    have y1 := cs_yc hp hi
    have y2 := cs_yc hq hi
    obtain ⟨r, a', hB, hX, hY⟩ := ih (i + 1) (by omega) (upd (upd a (16 * p + i) (a (16 * q + i))) (16 * q + i) (a (16 * p + i))) (cs_upd (cs_upd ha (ha _) _) (ha _) _)
    refine ⟨r, a', hB, fun post w => br_f h ⟨cs_xv hp hi, nm_e ⟨cs_xv hq hi, cs_xv hp hi, nm_e ⟨cs_xv hq hi, nm_r ?_ (nm_r (nI_1 i) (hX post w))⟩⟩⟩, fun post w => br_f h ⟨cs_yv hp hi, nm_e ⟨cs_yv hq hi, cs_yv hp hi, nm_e ⟨cs_yv hq hi, nm_r ?_ (nm_r (nI_1 i) (hY post w))⟩⟩⟩⟩
    · rw [x1, x2]
    · rw [y1, y2]
theorem cs_mix (p q : Nat) (hp : p < 12) (hq : q < 12) : ∀ d i : Nat, i + d = 16 → ∀ (a : Nat → Int32), cs_B a → ∃ (r : Int32) (a' : Nat → Int32), cs_B a' ∧ (∀ post : Int32 → SX → Prop, post r a' → wX_mix_18 post (nI p) (nI q) (d + 1) (nI i) a) ∧ (∀ post : Int32 → SY → Prop, post r a' → wY_mix_20 post (nI p) (nI q) (d + 1) (nI i) a) := by
  intro d
  induction d with
  | zero =>
    intro i hd a ha
    have e : i = 16 := by omega
    subst e
    exact ⟨0, a, ha, fun _ w => br_t cs_l16 w, fun _ w => br_t cs_l16 w⟩
  | succ d ih =>
    intro i hd a ha
    have hi : i < 16 := by omega
    have h := cs_g16 hi
    have x1 := cs_xc hp hi
    have x2 := cs_xc hq hi
    have y1 := cs_yc hp hi
    have y2 := cs_yc hq hi
    obtain ⟨r, a', hB, hX, hY⟩ := ih (i + 1) (by omega) (upd a (16 * p + i) (a (16 * p + i) ^^^ a (16 * q + i))) (cs_upd ha (cs_xor (ha _) (ha _)) _)
    refine ⟨r, a', hB, fun post w => br_f h ⟨cs_xv hp hi, cs_xv hq hi, cs_xv hp hi, nm_r ?_ (nm_r (nI_1 i) (hX post w))⟩, fun post w => br_f h ⟨cs_yv hp hi, cs_yv hq hi, cs_yv hp hi, nm_r ?_ (nm_r (nI_1 i) (hY post w))⟩⟩
    · rw [x1, x2]
    · rw [y1, y2]
theorem cs_drop (p : Nat) (hp : p < 12) : ∀ d i : Nat, i + d = 16 → ∀ (a : Nat → Int32), cs_B a → ∃ (r : Int32) (a' : Nat → Int32), cs_B a' ∧ (∀ post : Int32 → SX → Prop, post r a' → wX_drop_11 post (nI p) (d + 1) (nI i) a) ∧ (∀ post : Int32 → SY → Prop, post r a' → wY_drop_12 post (nI p) (d + 1) (nI i) a) := by
  intro d
  induction d with
  | zero =>
    intro i hd a ha
    have e : i = 16 := by omega
    subst e
    exact ⟨0, a, ha, fun _ w => br_t cs_l16 w, fun _ w => br_t cs_l16 w⟩
  | succ d ih =>
    intro i hd a ha
    have hi : i < 16 := by omega
    have h := cs_g16 hi
    obtain ⟨r, a', hB, hX, hY⟩ := ih (i + 1) (by omega) (upd a (16 * p + i) 0) (cs_upd ha cs_b0 _)
    refine ⟨r, a', hB, fun post w => br_f h ⟨cs_xv hp hi, nm_r ?_ (nm_r (nI_1 i) (hX post w))⟩, fun post w => br_f h ⟨cs_yv hp hi, nm_r ?_ (nm_r (nI_1 i) (hY post w))⟩⟩
    · rw [cs_xc hp hi]
    · rw [cs_yc hp hi]
theorem cs_x3 {p f i : Nat} : nI p * 16 + nI f + nI i = nI p * 16 + nI (f + i) := by rw [cs_xi, cs_xi, nI_add, Nat.add_assoc]
theorem cs_y3 {p f i : Nat} : 16 * nI p + nI f + nI i = 16 * nI p + nI (f + i) := by rw [cs_yi, cs_yi, nI_add, Nat.add_assoc]
theorem cs_move (p f t n : Nat) (hp : p < 12) (hf : f + n ≤ 16) (ht : t + n ≤ 16) : ∀ d i : Nat, i + d = n → ∀ (a : Nat → Int32), cs_B a → ∃ (r : Int32) (a' : Nat → Int32), cs_B a' ∧ (∀ post : Int32 → SX → Prop, post r a' → wX_move_58 post (nI p) (nI f) (nI t) (nI n) (d + 1) (nI i) a) ∧ (∀ post : Int32 → SY → Prop, post r a' → wY_move_59 post (nI p) (nI f) (nI t) (nI n) (d + 1) (nI i) a) := by
  intro d
  induction d with
  | zero =>
    intro i hd a ha
    have h : nI n ≤ nI i := nI_le (by omega) (by omega)
    exact ⟨0, a, ha, fun _ w => br_t h w, fun _ w => br_t h w⟩
  | succ d ih =>
    intro i hd a ha
    have h : ¬ nI n ≤ nI i := nI_ge (by omega) (by omega)
    have hi1 : f + i < 16 := by omega
    have hi2 : t + i < 16 := by omega
    obtain ⟨r, a', hB, hX, hY⟩ := ih (i + 1) (by omega) (upd a (16 * p + (t + i)) (a (16 * p + (f + i)))) (cs_upd ha (ha _) _)
    refine ⟨r, a', hB, fun post w => br_f h ⟨?_, ?_, nm_r ?_ (nm_r (nI_1 i) (hX post w))⟩, fun post w => br_f h ⟨?_, ?_, nm_r ?_ (nm_r (nI_1 i) (hY post w))⟩⟩
    · rw [cs_x3]; exact cs_xv hp hi1
    · rw [cs_x3]; exact cs_xv hp hi2
    · rw [cs_x3, cs_x3, cs_xc hp hi1, cs_xc hp hi2]
    · rw [cs_y3]; exact cs_yv hp hi1
    · rw [cs_y3]; exact cs_yv hp hi2
    · rw [cs_y3, cs_y3, cs_yc hp hi1, cs_yc hp hi2]
end
section
/-! the loops that look: sums, differences, finds, blank and twin pages -/
/-- page p holds zeros alone from place i on -/
def cs_Z (a : Nat → Int32) (p i : Nat) : Prop := ∀ j : Nat, i ≤ j → j < 16 → a (16 * p + j) = 0
theorem cs_Z16 (a : Nat → Int32) (p : Nat) : cs_Z a p 16 := fun j h1 h2 => absurd h2 (by omega)
theorem cs_Zs {a : Nat → Int32} {p i : Nat} (h : a (16 * p + i) = 0) (hs : cs_Z a p (i + 1)) : cs_Z a p i := by
  intro j h1 h2
  by_cases e : j = i
  · rw [e]; exact h
  · exact hs j (by omega) h2
theorem cs_Zn {a : Nat → Int32} {p i : Nat} (h : cs_Z a p i) : cs_Z a p (i + 1) := fun j h1 h2 => h j (by omega) h2
theorem cs_sum (p : Nat) (hp : p < 12) (a : Nat → Int32) (ha : cs_B a) : ∀ d i : Nat, i + d = 16 → ∀ s : Nat, s ≤ i * 4080 → ∃ s' : Nat, s' < 2 ^ 31 ∧ (s' = 0 ↔ s = 0 ∧ cs_Z a p i) ∧ (∀ post : Int32 → Prop, post (nI s') → wX_sum_13 post (nI p) a (d + 1) (nI s) (nI i)) ∧ (∀ post : Int32 → Prop, post (nI s') → wY_sum_14 post (nI p) a (d + 1) (nI s) (nI i)) := by
  intro d
  induction d with
  | zero =>
    intro i hd s hs
    have e : i = 16 := by omega
    subst e
    exact ⟨s, by omega, ⟨fun h => ⟨h, cs_Z16 a p⟩, fun h => h.1⟩, fun _ w => br_t cs_l16 w, fun _ w => br_t cs_l16 w⟩
  | succ d ih =>
    intro i hd s hs
    have hi : i < 16 := by omega
    have h := cs_g16 hi
    obtain ⟨m, hm, em⟩ := ha (16 * p + i)
    have hg : (i + 1) * m ≤ 16 * 255 := Nat.mul_le_mul (by omega) (by omega)
    have e : nI s + (nI i + 1) * nI m = nI (s + (i + 1) * m) := by rw [nI_1, pk_mul, nI_add]
    have ez : (i + 1) * m = 0 ↔ a (16 * p + i) = 0 := by
      rw [em]
      constructor
      · intro g
        rcases Nat.mul_eq_zero.mp g with g | g
        · omega
        · rw [g]; exact nI_0
      · intro g
        rw [← nI_0] at g
        have g' := (nI_eq (by omega) (by omega)).mp g
        rw [g', Nat.mul_zero]
    generalize (i + 1) * m = g at hg e ez
    obtain ⟨s', h1, h2, hX, hY⟩ := ih (i + 1) (by omega) (s + g) (by omega)
    refine ⟨s', h1, ⟨fun w => ?_, fun w => h2.mpr ⟨?_, cs_Zn w.2⟩⟩, fun post w => br_f h ⟨cs_xv hp hi, nm_r ?_ (nm_r (nI_1 i) (hX post w))⟩, fun post w => br_f h ⟨cs_yv hp hi, nm_r ?_ (nm_r (nI_1 i) (hY post w))⟩⟩
    · obtain ⟨w1, w2⟩ := h2.mp w
      exact ⟨by omega, cs_Zs (ez.mp (by omega)) w2⟩
    · have w1 := w.1
      have w2 := ez.mpr (w.2 i (Nat.le_refl _) hi)
      omega
    · rw [cs_xc hp hi, em, e]
    · rw [cs_yc hp hi, em, e]
theorem cs_blk (p : Nat) (hp : p < 12) (a : Nat → Int32) : ∀ d i : Nat, i + d = 16 → (cs_Z a p i ∧ ∀ post : Int32 → Prop, post 1 → wX_isBlank_2 post (nI p) a (d + 1) (nI i)) ∨ (¬ cs_Z a p i ∧ ∀ post : Int32 → Prop, post 0 → wX_isBlank_2 post (nI p) a (d + 1) (nI i)) := by
  intro d
  induction d with
  | zero =>
    intro i hd
    have e : i = 16 := by omega
    subst e
    exact Or.inl ⟨cs_Z16 a p, fun _ w => br_t cs_l16 w⟩
  | succ d ih =>
    intro i hd
    have hi : i < 16 := by omega
    have h := cs_g16 hi
    have x1 := cs_xc hp hi
    by_cases z : a (16 * p + i) = 0
    · rcases ih (i + 1) (by omega) with ⟨hz, hX⟩ | ⟨hz, hX⟩
      · exact Or.inl ⟨cs_Zs z hz, fun post w => br_f h ⟨cs_xv hp hi, br_t (by rw [x1]; exact z) (nm_r (nI_1 i) (hX post w))⟩⟩
      · exact Or.inr ⟨fun g => hz (cs_Zn g), fun post w => br_f h ⟨cs_xv hp hi, br_t (by rw [x1]; exact z) (nm_r (nI_1 i) (hX post w))⟩⟩
    · exact Or.inr ⟨fun g => z (g i (Nat.le_refl _) hi), fun post w => br_f h ⟨cs_xv hp hi, br_f (by rw [x1]; exact z) w⟩⟩
theorem cs_pageIn {p : Nat} (hp : p < 12) : (∀ post : Int32 → Prop, post 1 → wpX_isPage post (nI p)) ∧ (∀ (post : Int32 → Prop) (a : SY), post 1 → wpY_isPage post a (nI p)) := by
  have h0 : ¬ nI p < 0 := nI_pos (by omega)
  have hy : ¬ (11 : Int32) < nI p := by rw [← cs_11]; exact nI_nlt (by omega) (by decide)
  exact ⟨fun _ q => br_f h0 (br_f (cs_g12 hp) q), fun _ _ q => br_f h0 (br_f hy q)⟩
theorem cs_sums (p : Nat) (hp : p < 12) (a : Nat → Int32) (ha : cs_B a) : ∃ s : Nat, s < 2 ^ 31 ∧ (s = 0 ↔ cs_Z a p 0) ∧ (∀ post : Int32 → Prop, post (nI s) → wpX_sum post a (nI p)) ∧ (∀ post : Int32 → Prop, post (nI s) → wpY_sum post a (nI p)) := by
  obtain ⟨s, h1, h2, hX, hY⟩ := cs_sum p hp a ha 16 0 (by omega) 0 (by omega)
  rw [nI_0] at hX hY
  refine ⟨s, h1, ⟨fun w => (h2.mp w).2, fun w => h2.mpr ⟨rfl, w⟩⟩, fun post w => ?_, fun post w => ?_⟩
  · unfold wpX_sum
    exact (cs_pageIn hp).1 _ (br_f cs_ne ⟨_, hX post w⟩)
  · unfold wpY_sum
    exact (cs_pageIn hp).2 _ _ (br_f cs_ne ⟨_, hY post w⟩)
theorem cs_isB (p : Nat) (hp : p < 12) (a : Nat → Int32) : (cs_Z a p 0 ∧ ∀ post : Int32 → Prop, post 1 → wpX_isBlank post a (nI p)) ∨ (¬ cs_Z a p 0 ∧ ∀ post : Int32 → Prop, post 0 → wpX_isBlank post a (nI p)) := by
  have h := cs_blk p hp a 16 0 (by omega)
  rw [nI_0] at h
  rcases h with ⟨hz, hX⟩ | ⟨hz, hX⟩
  · exact Or.inl ⟨hz, fun post w => ⟨_, hX post w⟩⟩
  · exact Or.inr ⟨hz, fun post w => ⟨_, hX post w⟩⟩
theorem cs_blank (a : Nat → Int32) (ha : cs_B a) : ∀ d j : Nat, j + d = 12 → ∀ c : Int32, ∃ r : Int32, (∀ post : Int32 → Prop, post r → wX_blank_4 post a (d + 1) c (nI j)) ∧ (∀ post : Int32 → Prop, post r → wY_blank_4 post a (d + 1) c (nI j)) := by
  intro d
  induction d with
  | zero =>
    intro j hd c
    have e : j = 12 := by omega
    subst e
    exact ⟨c, fun _ w => br_t cs_l12 w, fun _ w => br_t cs_l12 w⟩
  | succ d ih =>
    intro j hd c
    have hj : j < 12 := by omega
    have h := cs_g12 hj
    obtain ⟨s, h1, h2, _, hS⟩ := cs_sums j hj a ha
    rcases cs_isB j hj a with ⟨hz, hI⟩ | ⟨hz, hI⟩
    · have e : s = 0 := h2.mpr hz
      subst e
      obtain ⟨r, hX, hY⟩ := ih (j + 1) (by omega) (c + 1)
      exact ⟨r, fun post w => br_f h (hI _ (br_f cs_ne (nm_e (nm_r (nI_1 j) (hX post w))))), fun post w => br_f h (hS _ (br_t nI_0 (nm_e (nm_r (nI_1 j) (hY post w)))))⟩
    · have e : ¬ nI s = 0 := nI_ne0 (Nat.pos_of_ne_zero fun g => hz (h2.mp g)) h1
      obtain ⟨r, hX, hY⟩ := ih (j + 1) (by omega) c
      exact ⟨r, fun post w => br_f h (hI _ (br_t rfl (nm_r (nI_1 j) (hX post w)))), fun post w => br_f h (hS _ (br_f e (nm_r (nI_1 j) (hY post w))))⟩
theorem cs_diff (p q : Nat) (hp : p < 12) (hq : q < 12) (a : Nat → Int32) : ∀ d i : Nat, i + d = 16 → ∃ r : Int32, (∀ post : Int32 → Prop, post r → wX_firstDifference_2 post (nI p) (nI q) a (d + 1) (nI i)) ∧ (∀ post : Int32 → Prop, post r → wY_differ_20 post (nI p) (nI q) a (d + 1) (nI i)) := by
  intro d
  induction d with
  | zero =>
    intro i hd
    have e : i = 16 := by omega
    subst e
    exact ⟨-4, fun _ w => br_t cs_l16 w, fun _ w => br_t cs_l16 w⟩
  | succ d ih =>
    intro i hd
    have hi : i < 16 := by omega
    have h := cs_g16 hi
    have x1 := cs_xc hp hi
    have x2 := cs_xc hq hi
    have y1 := cs_yc hp hi
    have y2 := cs_yc hq hi
    by_cases z : a (16 * p + i) = a (16 * q + i)
    · obtain ⟨r, hX, hY⟩ := ih (i + 1) (by omega)
      exact ⟨r, fun post w => br_f h ⟨cs_xv hp hi, cs_xv hq hi, br_t (by rw [x1, x2]; exact z) (nm_r (nI_1 i) (hX post w))⟩, fun post w => br_f h ⟨cs_yv hp hi, cs_yv hq hi, br_t (by rw [y1, y2]; exact z) (nm_r (nI_1 i) (hY post w))⟩⟩
    · exact ⟨nI i, fun post w => br_f h ⟨cs_xv hp hi, cs_xv hq hi, br_f (by rw [x1, x2]; exact z) w⟩, fun post w => br_f h ⟨cs_yv hp hi, cs_yv hq hi, br_f (by rw [y1, y2]; exact z) w⟩⟩
theorem cs_diffs (p q : Nat) (hp : p < 12) (hq : q < 12) (a : Nat → Int32) : ∃ r : Int32, (∀ post : Int32 → Prop, post r → wpX_firstDifference post a (nI p) (nI q)) ∧ (∀ post : Int32 → Prop, post r → wpY_differ post a (nI p) (nI q)) := by
  obtain ⟨r, hX, hY⟩ := cs_diff p q hp hq a 16 0 (by omega)
  rw [nI_0] at hX hY
  refine ⟨r, fun post w => ⟨_, hX post w⟩, fun post w => ?_⟩
  unfold wpY_differ
  exact (cs_pageIn hp).2 _ _ (br_f cs_ne ((cs_pageIn hq).2 _ _ (br_f cs_ne ⟨_, hY post w⟩)))
theorem cs_find (p : Nat) (hp : p < 12) (b : Int32) (a : Nat → Int32) : ∀ d i : Nat, i + d = 16 → ∃ r : Int32, (∀ post : Int32 → Prop, post r → wX_find_26 post (nI p) b a (d + 1) (nI i)) ∧ (∀ post : Int32 → Prop, post r → wY_find_29 post (nI p) b a (d + 1) (nI i)) := by
  intro d
  induction d with
  | zero =>
    intro i hd
    have e : i = 16 := by omega
    subst e
    exact ⟨-4, fun _ w => br_t cs_l16 w, fun _ w => br_t cs_l16 w⟩
  | succ d ih =>
    intro i hd
    have hi : i < 16 := by omega
    have h := cs_g16 hi
    have x1 := cs_xc hp hi
    have y1 := cs_yc hp hi
    by_cases z : a (16 * p + i) = b
    · exact ⟨nI i, fun post w => br_f h ⟨cs_xv hp hi, br_t (by rw [x1]; exact z) w⟩, fun post w => br_f h ⟨cs_yv hp hi, br_t (by rw [y1]; exact z) w⟩⟩
    · obtain ⟨r, hX, hY⟩ := ih (i + 1) (by omega)
      exact ⟨r, fun post w => br_f h ⟨cs_xv hp hi, br_f (by rw [x1]; exact z) (nm_r (nI_1 i) (hX post w))⟩, fun post w => br_f h ⟨cs_yv hp hi, br_f (by rw [y1]; exact z) (nm_r (nI_1 i) (hY post w))⟩⟩
theorem cs_twin (p : Nat) (hp : p < 12) (a : Nat → Int32) : ∀ d j : Nat, j + d = 12 → ∃ r : Int32, (∀ post : Int32 → Prop, post r → wX_twin_11 post (nI p) a (d + 1) (nI j)) ∧ (∀ post : Int32 → Prop, post r → wY_twin_12 post (nI p) a (d + 1) (nI j)) := by
  intro d
  induction d with
  | zero =>
    intro j hd
    have e : j = 12 := by omega
    subst e
    exact ⟨-4, fun _ w => br_t cs_l12 w, fun _ w => br_t cs_l12 w⟩
  | succ d ih =>
    intro j hd
    have hj : j < 12 := by omega
    have h := cs_g12 hj
    obtain ⟨r, hX, hY⟩ := ih (j + 1) (by omega)
    by_cases e : nI j = nI p
    · exact ⟨r, fun post w => br_f h (br_t e (nm_r (nI_1 j) (hX post w))), fun post w => br_f h (br_t e (nm_r (nI_1 j) (hY post w)))⟩
    · obtain ⟨g, gX, gY⟩ := cs_diffs p j hp hj a
      by_cases z : g = -4
      · exact ⟨nI j, fun post w => br_f h (br_f e (gX _ (br_t z w))), fun post w => br_f h (br_f e (gY _ (br_t z w)))⟩
      · exact ⟨r, fun post w => br_f h (br_f e (gX _ (br_f z (nm_r (nI_1 j) (hX post w))))), fun post w => br_f h (br_f e (gY _ (br_f z (nm_r (nI_1 j) (hY post w)))))⟩
end
section
/-! the relation, and what is owed -/
/-- both sides hold the same cells, and each cell is a byte -/
def i_Rel (_ : Nat) (u : SX) (v : SY) : Prop := u = v ∧ cs_B u
theorem i_up {k : Nat} {u : SX} {v : SY} (h : i_Rel k u v) : i_Rel (k + 5) u v := h
theorem i_vc0 : wpX_init (fun u => wpY_init (fun v => i_Rel 0 u v)) := ⟨rfl, fun _ => cs_b0⟩
theorem i_vc_write {k : Nat} {u : SX} {v : SY} (I : i_Rel k u v) (hk : k + 5 ≤ 2560) (v1 : Int32) (v2 : Int32) (v3 : Int32) : wpX_write (fun r u' => wpY_write (fun r' v' => r' = r ∧ i_Rel (k + 5) u' v') v v1 v2 v3) u v1 v2 v3 := by
  obtain ⟨rfl, hB⟩ := I
  unfold wpX_write wpY_write
  dsimp only
  rcases cs_page v1 with ⟨pX, pY⟩ | ⟨p, hp, rfl, pX, pY⟩
  · exact pX _ (br_t rfl (pY _ _ (br_t rfl ⟨rfl, rfl, hB⟩)))
  rcases cs_place v2 with ⟨iX, iY⟩ | ⟨i, hi, rfl, iX, iY⟩
  · exact pX _ (br_f cs_ne (iX _ (br_t rfl (pY _ _ (br_f cs_ne (iY _ _ (br_t rfl ⟨rfl, rfl, hB⟩)))))))
  rcases cs_byte v3 with ⟨bX, bY⟩ | ⟨hb, bX, bY⟩
  · exact pX _ (br_f cs_ne (iX _ (br_f cs_ne (bX _ (br_t rfl (pY _ _ (br_f cs_ne (iY _ _ (br_f cs_ne (bY _ _ (br_t rfl ⟨rfl, rfl, hB⟩)))))))))))
  exact pX _ (br_f cs_ne (iX _ (br_f cs_ne (bX _ (br_f cs_ne (nm_e ⟨cs_xv hp hi, nm_e ⟨cs_xv hp hi, nm_e (pY _ _ (br_f cs_ne (iY _ _ (br_f cs_ne (bY _ _ (br_f cs_ne (⟨cs_yv hp hi, nm_e ⟨cs_yv hp hi, nm_e ⟨by rw [cs_xc hp hi, cs_yc hp hi], by rw [cs_xc hp hi, cs_yc hp hi], cs_upd hB hb _⟩⟩⟩)))))))⟩⟩))))))
theorem i_vc_read {k : Nat} {u : SX} {v : SY} (I : i_Rel k u v) (hk : k + 5 ≤ 2560) (v1 : Int32) (v2 : Int32) : wpX_read (fun r => wpY_read (fun r' => r' = r ∧ i_Rel (k + 5) u v) v v1 v2) u v1 v2 := by
  obtain ⟨rfl, hB⟩ := I
  unfold wpX_read wpY_read
  dsimp only
  rcases cs_page v1 with ⟨pX, pY⟩ | ⟨p, hp, rfl, pX, pY⟩
  · exact pX _ (br_t rfl (pY _ _ (br_t rfl ⟨rfl, rfl, hB⟩)))
  rcases cs_place v2 with ⟨iX, iY⟩ | ⟨i, hi, rfl, iX, iY⟩
  · exact pX _ (br_f cs_ne (iX _ (br_t rfl (pY _ _ (br_f cs_ne (iY _ _ (br_t rfl ⟨rfl, rfl, hB⟩)))))))
  exact pX _ (br_f cs_ne (iX _ (br_f cs_ne (⟨cs_xv hp hi, pY _ _ (br_f cs_ne (iY _ _ (br_f cs_ne (⟨cs_yv hp hi, by rw [cs_xc hp hi, cs_yc hp hi], rfl, hB⟩))))⟩))))
theorem i_vc_fill {k : Nat} {u : SX} {v : SY} (I : i_Rel k u v) (hk : k + 5 ≤ 2560) (v1 : Int32) (v2 : Int32) (v3 : Int32) (v4 : Int32) : wpX_fill (fun r u' => wpY_fill (fun r' v' => r' = r ∧ i_Rel (k + 5) u' v') v v1 v2 v3 v4) u v1 v2 v3 v4 := by
  obtain ⟨rfl, hB⟩ := I
  unfold wpX_fill wpY_fill
  dsimp only
  rcases cs_page v1 with ⟨pX, pY⟩ | ⟨p, hp, rfl, pX, pY⟩
  · exact pX _ (br_t rfl (pY _ _ (br_t rfl ⟨rfl, rfl, hB⟩)))
  rcases cs_place v2 with ⟨iX, iY⟩ | ⟨i, hi, rfl, iX, iY⟩
  · exact pX _ (br_f cs_ne (iX _ (br_t rfl (pY _ _ (br_f cs_ne (iY _ _ (br_t rfl ⟨rfl, rfl, hB⟩)))))))
  rcases cs_place v3 with ⟨tX, tY⟩ | ⟨t, ht, rfl, tX, tY⟩
  · exact pX _ (br_f cs_ne (iX _ (br_f cs_ne (tX _ (br_t rfl (pY _ _ (br_f cs_ne (iY _ _ (br_f cs_ne (tY _ _ (br_t rfl ⟨rfl, rfl, hB⟩)))))))))))
  rcases cs_byte v4 with ⟨bX, bY⟩ | ⟨hb, bX, bY⟩
  · exact pX _ (br_f cs_ne (iX _ (br_f cs_ne (tX _ (br_f cs_ne (bX _ (br_t rfl (pY _ _ (br_f cs_ne (iY _ _ (br_f cs_ne (tY _ _ (br_f cs_ne (bY _ _ (br_t rfl ⟨rfl, rfl, hB⟩)))))))))))))))
  obtain ⟨r, a', hB', hX, hY⟩ := cs_fill p t _ hp ht hb (t + 1 - i) i (by omega) rfl 0 _ hB
  exact pX _ (br_f cs_ne (iX _ (br_f cs_ne (tX _ (br_f cs_ne (bX _ (br_f cs_ne (⟨_, hX _ (pY _ _ (br_f cs_ne (iY _ _ (br_f cs_ne (tY _ _ (br_f cs_ne (bY _ _ (br_f cs_ne (⟨_, hY _ ⟨rfl, rfl, hB'⟩⟩)))))))))⟩))))))))
theorem i_vc_copy {k : Nat} {u : SX} {v : SY} (I : i_Rel k u v) (hk : k + 5 ≤ 2560) (v1 : Int32) (v2 : Int32) : wpX_copy (fun r u' => wpY_copy (fun r' v' => r' = r ∧ i_Rel (k + 5) u' v') v v1 v2) u v1 v2 := by
  obtain ⟨rfl, hB⟩ := I
  unfold wpX_copy wpY_copy
  dsimp only
  rcases cs_page v1 with ⟨pX, pY⟩ | ⟨p, hp, rfl, pX, pY⟩
  · exact pX _ (br_t rfl (pY _ _ (br_t rfl ⟨rfl, rfl, hB⟩)))
  rcases cs_page v2 with ⟨qX, qY⟩ | ⟨q, hq, rfl, qX, qY⟩
  · exact pX _ (br_f cs_ne (qX _ (br_t rfl (pY _ _ (br_f cs_ne (qY _ _ (br_t rfl ⟨rfl, rfl, hB⟩)))))))
  obtain ⟨r, a', hB', hX, hY⟩ := cs_copy p q hp hq 16 0 (by omega) 0 _ hB
  rw [nI_0] at hX hY
  exact pX _ (br_f cs_ne (qX _ (br_f cs_ne (⟨_, hX _ (pY _ _ (br_f cs_ne (qY _ _ (br_f cs_ne (⟨_, hY _ ⟨rfl, rfl, hB'⟩⟩)))))⟩))))
theorem i_vc_exchange {k : Nat} {u : SX} {v : SY} (I : i_Rel k u v) (hk : k + 5 ≤ 2560) (v1 : Int32) (v2 : Int32) : wpX_exchange (fun r u' => wpY_exchange (fun r' v' => r' = r ∧ i_Rel (k + 5) u' v') v v1 v2) u v1 v2 := by
  obtain ⟨rfl, hB⟩ := I
  unfold wpX_exchange wpY_exchange
  dsimp only
  rcases cs_page v1 with ⟨pX, pY⟩ | ⟨p, hp, rfl, pX, pY⟩
  · exact pX _ (br_t rfl (pY _ _ (br_t rfl ⟨rfl, rfl, hB⟩)))
  rcases cs_page v2 with ⟨qX, qY⟩ | ⟨q, hq, rfl, qX, qY⟩
  · exact pX _ (br_f cs_ne (qX _ (br_t rfl (pY _ _ (br_f cs_ne (qY _ _ (br_t rfl ⟨rfl, rfl, hB⟩)))))))
  obtain ⟨r, a', hB', hX, hY⟩ := cs_exch p q hp hq 16 0 (by omega) _ hB
  rw [nI_0] at hX hY
  exact pX _ (br_f cs_ne (qX _ (br_f cs_ne (⟨_, hX _ (pY _ _ (br_f cs_ne (qY _ _ (br_f cs_ne (⟨_, hY _ ⟨rfl, rfl, hB'⟩⟩)))))⟩))))
theorem i_vc_move {k : Nat} {u : SX} {v : SY} (I : i_Rel k u v) (hk : k + 5 ≤ 2560) (v1 : Int32) (v2 : Int32) (v3 : Int32) (v4 : Int32) : wpX_move (fun r u' => wpY_move (fun r' v' => r' = r ∧ i_Rel (k + 5) u' v') v v1 v2 v3 v4) u v1 v2 v3 v4 := by
  obtain ⟨rfl, hB⟩ := I
  unfold wpX_move wpY_move
  dsimp only
  rcases cs_page v1 with ⟨pX, pY⟩ | ⟨p, hp, rfl, pX, pY⟩
  · exact pX _ (br_t rfl (pY _ _ (br_t rfl ⟨rfl, rfl, hB⟩)))
  rcases cs_place v2 with ⟨fX, fY⟩ | ⟨f, hf, rfl, fX, fY⟩
  · exact pX _ (br_f cs_ne (fX _ (br_t rfl (pY _ _ (br_f cs_ne (fY _ _ (br_t rfl ⟨rfl, rfl, hB⟩)))))))
  rcases cs_place v3 with ⟨tX, tY⟩ | ⟨t, ht, rfl, tX, tY⟩
  · exact pX _ (br_f cs_ne (fX _ (br_f cs_ne (tX _ (br_t rfl (pY _ _ (br_f cs_ne (fY _ _ (br_f cs_ne (tY _ _ (br_t rfl ⟨rfl, rfl, hB⟩)))))))))))
  by_cases n0 : v4 < 0
  · exact pX _ (br_f cs_ne (fX _ (br_f cs_ne (tX _ (br_f cs_ne (br_t n0 (pY _ _ (br_f cs_ne (fY _ _ (br_f cs_ne (tY _ _ (br_f cs_ne (br_t n0 ⟨rfl, rfl, hB⟩)))))))))))))
  by_cases n1 : 16 < v4
  · exact pX _ (br_f cs_ne (fX _ (br_f cs_ne (tX _ (br_f cs_ne (br_f n0 (br_t n1 (pY _ _ (br_f cs_ne (fY _ _ (br_f cs_ne (tY _ _ (br_f cs_ne (br_f n0 (br_t n1 ⟨rfl, rfl, hB⟩)))))))))))))))
  by_cases n2 : 16 < nI f + v4
  · exact pX _ (br_f cs_ne (fX _ (br_f cs_ne (tX _ (br_f cs_ne (br_f n0 (br_f n1 (br_t n2 (pY _ _ (br_f cs_ne (fY _ _ (br_f cs_ne (tY _ _ (br_f cs_ne (br_f n0 (br_f n1 (br_t n2 ⟨rfl, rfl, hB⟩)))))))))))))))))
  by_cases n3 : nI t + v4 ≤ 16
  · obtain ⟨n, hn, rfl⟩ := nI_of n0
    have m1 : n ≤ 16 := by
      rw [← cs_16, nI_ltI (by decide) hn] at n1; omega
    have m2 : f + n ≤ 16 := by
      have g := n2; rw [← cs_16, nI_add, nI_ltI (by decide) (by omega)] at g; omega
    have m3 : t + n ≤ 16 := by
      have g := n3; rw [← cs_16, nI_add, nI_leI (by omega) (by decide)] at g; omega
    obtain ⟨r, a', hB', hX, hY⟩ := cs_move p f t n hp m2 m3 n 0 (by omega) _ hB
    rw [nI_0] at hX hY
    exact pX _ (br_f cs_ne (fX _ (br_f cs_ne (tX _ (br_f cs_ne (br_f n0 (br_f n1 (br_f n2 (br_t n3 ⟨_, hX _ (pY _ _ (br_f cs_ne (fY _ _ (br_f cs_ne (tY _ _ (br_f cs_ne (br_f n0 (br_f n1 (br_f n2 (br_t n3 ⟨_, hY _ ⟨rfl, rfl, hB'⟩⟩))))))))))⟩)))))))))
  · exact pX _ (br_f cs_ne (fX _ (br_f cs_ne (tX _ (br_f cs_ne (br_f n0 (br_f n1 (br_f n2 (br_f n3 (pY _ _ (br_f cs_ne (fY _ _ (br_f cs_ne (tY _ _ (br_f cs_ne (br_f n0 (br_f n1 (br_f n2 (br_f n3 ⟨rfl, rfl, hB⟩)))))))))))))))))))
theorem i_vc_mix {k : Nat} {u : SX} {v : SY} (I : i_Rel k u v) (hk : k + 5 ≤ 2560) (v1 : Int32) (v2 : Int32) : wpX_mix (fun r u' => wpY_mix (fun r' v' => r' = r ∧ i_Rel (k + 5) u' v') v v1 v2) u v1 v2 := by
  obtain ⟨rfl, hB⟩ := I
  unfold wpX_mix wpY_mix
  dsimp only
  rcases cs_page v1 with ⟨pX, pY⟩ | ⟨p, hp, rfl, pX, pY⟩
  · exact pX _ (br_t rfl (pY _ _ (br_t rfl ⟨rfl, rfl, hB⟩)))
  rcases cs_page v2 with ⟨qX, qY⟩ | ⟨q, hq, rfl, qX, qY⟩
  · exact pX _ (br_f cs_ne (qX _ (br_t rfl (pY _ _ (br_f cs_ne (qY _ _ (br_t rfl ⟨rfl, rfl, hB⟩)))))))
  obtain ⟨r, a', hB', hX, hY⟩ := cs_mix p q hp hq 16 0 (by omega) _ hB
  rw [nI_0] at hX hY
  exact pX _ (br_f cs_ne (qX _ (br_f cs_ne (⟨_, hX _ (pY _ _ (br_f cs_ne (qY _ _ (br_f cs_ne (⟨_, hY _ ⟨rfl, rfl, hB'⟩⟩)))))⟩))))
theorem i_vc_drop {k : Nat} {u : SX} {v : SY} (I : i_Rel k u v) (hk : k + 5 ≤ 2560) (v1 : Int32) : wpX_drop (fun r u' => wpY_drop (fun r' v' => r' = r ∧ i_Rel (k + 5) u' v') v v1) u v1 := by
  obtain ⟨rfl, hB⟩ := I
  unfold wpX_drop wpY_drop
  dsimp only
  rcases cs_page v1 with ⟨pX, pY⟩ | ⟨p, hp, rfl, pX, pY⟩
  · exact pX _ (br_t rfl (pY _ _ (br_t rfl ⟨rfl, rfl, hB⟩)))
  obtain ⟨r, a', hB', hX, hY⟩ := cs_drop p hp 16 0 (by omega) _ hB
  rw [nI_0] at hX hY
  exact pX _ (br_f cs_ne (⟨_, hX _ (pY _ _ (br_f cs_ne (⟨_, hY _ ⟨rfl, rfl, hB'⟩⟩)))⟩))
theorem i_vc_sum {k : Nat} {u : SX} {v : SY} (I : i_Rel k u v) (hk : k + 5 ≤ 2560) (v1 : Int32) : wpX_sum (fun r => wpY_sum (fun r' => r' = r ∧ i_Rel (k + 5) u v) v v1) u v1 := by
  obtain ⟨rfl, hB⟩ := I
  unfold wpX_sum wpY_sum
  dsimp only
  rcases cs_page v1 with ⟨pX, pY⟩ | ⟨p, hp, rfl, pX, pY⟩
  · exact pX _ (br_t rfl (pY _ _ (br_t rfl ⟨rfl, rfl, hB⟩)))
  obtain ⟨s, _, _, hX, hY⟩ := cs_sum p hp _ hB 16 0 (by omega) 0 (by omega)
  rw [nI_0] at hX hY
  exact pX _ (br_f cs_ne (⟨_, hX _ (pY _ _ (br_f cs_ne (⟨_, hY _ ⟨rfl, rfl, hB⟩⟩)))⟩))
theorem i_vc_differ {k : Nat} {u : SX} {v : SY} (I : i_Rel k u v) (hk : k + 5 ≤ 2560) (v1 : Int32) (v2 : Int32) : wpX_differ (fun r => wpY_differ (fun r' => r' = r ∧ i_Rel (k + 5) u v) v v1 v2) u v1 v2 := by
  obtain ⟨rfl, hB⟩ := I
  unfold wpX_differ wpY_differ
  dsimp only
  rcases cs_page v1 with ⟨pX, pY⟩ | ⟨p, hp, rfl, pX, pY⟩
  · exact pX _ (br_t rfl (pY _ _ (br_t rfl ⟨rfl, rfl, hB⟩)))
  rcases cs_page v2 with ⟨qX, qY⟩ | ⟨q, hq, rfl, qX, qY⟩
  · exact pX _ (br_f cs_ne (qX _ (br_t rfl (pY _ _ (br_f cs_ne (qY _ _ (br_t rfl ⟨rfl, rfl, hB⟩)))))))
  obtain ⟨r, hX, hY⟩ := cs_diff p q hp hq _ 16 0 (by omega)
  rw [nI_0] at hX hY
  exact pX _ (br_f cs_ne (qX _ (br_f cs_ne (⟨_, hX _ (pY _ _ (br_f cs_ne (qY _ _ (br_f cs_ne (⟨_, hY _ ⟨rfl, rfl, hB⟩⟩)))))⟩))))
theorem i_vc_find {k : Nat} {u : SX} {v : SY} (I : i_Rel k u v) (hk : k + 5 ≤ 2560) (v1 : Int32) (v2 : Int32) (v3 : Int32) : wpX_find (fun r => wpY_find (fun r' => r' = r ∧ i_Rel (k + 5) u v) v v1 v2 v3) u v1 v2 v3 := by
  obtain ⟨rfl, hB⟩ := I
  unfold wpX_find wpY_find
  dsimp only
  rcases cs_page v1 with ⟨pX, pY⟩ | ⟨p, hp, rfl, pX, pY⟩
  · exact pX _ (br_t rfl (pY _ _ (br_t rfl ⟨rfl, rfl, hB⟩)))
  rcases cs_place v2 with ⟨iX, iY⟩ | ⟨i, hi, rfl, iX, iY⟩
  · exact pX _ (br_f cs_ne (iX _ (br_t rfl (pY _ _ (br_f cs_ne (iY _ _ (br_t rfl ⟨rfl, rfl, hB⟩)))))))
  rcases cs_byte v3 with ⟨bX, bY⟩ | ⟨hb, bX, bY⟩
  · exact pX _ (br_f cs_ne (iX _ (br_f cs_ne (bX _ (br_t rfl (pY _ _ (br_f cs_ne (iY _ _ (br_f cs_ne (bY _ _ (br_t rfl ⟨rfl, rfl, hB⟩)))))))))))
  obtain ⟨r, hX, hY⟩ := cs_find p hp v3 _ (16 - i) i (by omega)
  exact pX _ (br_f cs_ne (iX _ (br_f cs_ne (bX _ (br_f cs_ne (⟨_, hX _ (pY _ _ (br_f cs_ne (iY _ _ (br_f cs_ne (bY _ _ (br_f cs_ne (⟨_, hY _ ⟨rfl, rfl, hB⟩⟩)))))))⟩))))))
theorem i_vc_blank {k : Nat} {u : SX} {v : SY} (I : i_Rel k u v) (hk : k + 5 ≤ 2560) : wpX_blank (fun r => wpY_blank (fun r' => r' = r ∧ i_Rel (k + 5) u v) v) u := by
  obtain ⟨rfl, hB⟩ := I
  obtain ⟨r, hX, hY⟩ := cs_blank _ hB 12 0 (by omega) 0
  rw [nI_0] at hX hY
  exact ⟨_, hX _ ⟨_, hY _ ⟨rfl, rfl, hB⟩⟩⟩
theorem i_vc_twin {k : Nat} {u : SX} {v : SY} (I : i_Rel k u v) (hk : k + 5 ≤ 2560) (v1 : Int32) : wpX_twin (fun r => wpY_twin (fun r' => r' = r ∧ i_Rel (k + 5) u v) v v1) u v1 := by
  obtain ⟨rfl, hB⟩ := I
  unfold wpX_twin wpY_twin
  dsimp only
  rcases cs_page v1 with ⟨pX, pY⟩ | ⟨p, hp, rfl, pX, pY⟩
  · exact pX _ (br_t rfl (pY _ _ (br_t rfl ⟨rfl, rfl, hB⟩)))
  obtain ⟨r, hX, hY⟩ := cs_twin p hp _ 12 0 (by omega)
  rw [nI_0] at hX hY
  exact pX _ (br_f cs_ne (⟨_, hX _ (pY _ _ (br_f cs_ne (⟨_, hY _ ⟨rfl, rfl, hB⟩⟩)))⟩))
theorem i_vc_away {k : Nat} {u : SX} {v : SY} (I : i_Rel k u v) (hk : k + 5 ≤ 2560) (v1 : Int32) : wpX_away (fun r => wpY_away (fun r' => r' = r ∧ i_Rel (k + 5) u v) v v1) u v1 := by
  obtain ⟨rfl, hB⟩ := I
  unfold wpX_away wpY_away
  dsimp only
  rcases cs_page v1 with ⟨pX, pY⟩ | ⟨p, hp, rfl, pX, pY⟩
  · exact pX _ (br_t rfl (pY _ _ (br_t rfl ⟨rfl, rfl, hB⟩)))
  exact pX _ (br_f cs_ne (pY _ _ (br_f cs_ne (⟨rfl, rfl, hB⟩))))
theorem i_vc_flush {k : Nat} {u : SX} {v : SY} (I : i_Rel k u v) (hk : k + 5 ≤ 2560) (v1 : Int32) : wpX_flush (fun u' => wpY_flush (fun v' => i_Rel (k + 5) u' v') v v1) u v1 := I
theorem i_vc_rest {k : Nat} {u : SX} {v : SY} (I : i_Rel k u v) (hk : k + 5 ≤ 2560) (v1 : Int32) : wpX_rest (fun u' => wpY_rest (fun v' => i_Rel (k + 5) u' v') v v1) u v1 := I
end
