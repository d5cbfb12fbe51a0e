/-! numbers, bytes, the place of a byte, the three tests of arguments -/
theorem pk_mul (a b : Nat) : nI a * nI b = nI (a * b) := (Int32.ofNat_mul a b).symm
theorem nx_xor (a b : Nat) : nI a ^^^ nI b = nI (a ^^^ b) := by
  apply Int32.toBitVec_inj.1
  show BitVec.ofNat 32 a ^^^ BitVec.ofNat 32 b = BitVec.ofNat 32 (a ^^^ b)
  apply BitVec.eq_of_getLsbD_eq
  intro i hi
  simp [hi]
/-- a byte: a number 0 to 255 -/
def cs_b (x : Int32) : Prop := ∃ m : Nat, m < 256 ∧ x = nI m
/-- all cells are bytes -/
def cs_B (a : Nat → Int32) : Prop := ∀ j : Nat, cs_b (a j)
theorem cs_b0 : cs_b 0 := ⟨0, by decide, nI_0.symm⟩
theorem cs_xor {x y : Int32} (hx : cs_b x) (hy : cs_b y) : cs_b (x ^^^ y) := by
  obtain ⟨m, hm, rfl⟩ := hx
  obtain ⟨k, hk, rfl⟩ := hy
  exact ⟨m ^^^ k, Nat.xor_lt_two_pow (n := 8) hm hk, nx_xor m k⟩
theorem cs_upd {a : Nat → Int32} (ha : cs_B a) {x : Int32} (hx : cs_b x) (n : Nat) : cs_B (upd a n x) := by
  intro j
  show cs_b (if j = n then x else a j)
  by_cases h : j = n
  · rw [if_pos h]; exact hx
  · rw [if_neg h]; exact ha j
theorem cs_12 : nI 12 = 12 := by decide +kernel
theorem cs_11 : nI 11 = 11 := by decide +kernel
theorem cs_16 : nI 16 = 16 := by decide +kernel
theorem cs_15 : nI 15 = 15 := by decide +kernel
theorem cs_255 : nI 255 = 255 := by decide +kernel
theorem cs_l16 : (16 : Int32) ≤ nI 16 := by rw [cs_16]; exact Int32.le_refl _
theorem cs_g16 {i : Nat} (h : i < 16) : ¬ (16 : Int32) ≤ nI i := by rw [← cs_16]; exact nI_ge h (by decide)
theorem cs_l12 : (12 : Int32) ≤ nI 12 := by rw [cs_12]; exact Int32.le_refl _
theorem cs_g12 {i : Nat} (h : i < 12) : ¬ (12 : Int32) ≤ nI i := by rw [← cs_12]; exact nI_ge h (by decide)
theorem cs_xi (p i : Nat) : nI p * 16 + nI i = nI (16 * p + i) := by
  rw [← cs_16, pk_mul, nI_add, Nat.mul_comm]
theorem cs_yi (p i : Nat) : 16 * nI p + nI i = nI (16 * p + i) := by
  rw [← cs_16, pk_mul, nI_add]
theorem cs_xv {p i : Nat} (hp : p < 12) (hi : i < 16) : vp_in (nI p * 16 + nI i) 192 := by
  rw [cs_xi]; exact vp_in_nI (by omega) (by decide)
theorem cs_yv {p i : Nat} (hp : p < 12) (hi : i < 16) : vp_in (16 * nI p + nI i) 192 := by
  rw [cs_yi]; exact vp_in_nI (by omega) (by decide)
theorem cs_xc {p i : Nat} (hp : p < 12) (hi : i < 16) : (nI p * 16 + nI i).toNatClampNeg = 16 * p + i := by
  rw [cs_xi]; exact nI_clamp (by omega)
theorem cs_yc {p i : Nat} (hp : p < 12) (hi : i < 16) : (16 * nI p + nI i).toNatClampNeg = 16 * p + i := by
  rw [cs_yi]; exact nI_clamp (by omega)
theorem cs_page (p : Int32) : ((∀ post : Int32 → Prop, post 0 → wpX_isPage post p) ∧ (∀ (post : Int32 → Prop) (a : SY), post 0 → wpY_isPage post a p)) ∨ (∃ j : Nat, j < 12 ∧ p = nI j ∧ (∀ post : Int32 → Prop, post 1 → wpX_isPage post p) ∧ (∀ (post : Int32 → Prop) (a : SY), post 1 → wpY_isPage post a p)) := by
  by_cases h0 : p < 0
  · exact Or.inl ⟨fun _ h => br_t h0 h, fun _ _ h => br_t h0 h⟩
  · obtain ⟨j, hj, rfl⟩ := nI_of h0
    by_cases h : j < 12
    · have hx : ¬ (12 : Int32) ≤ nI j := cs_g12 h
      have hy : ¬ (11 : Int32) < nI j := by rw [← cs_11]; exact nI_nlt (by omega) (by decide)
      exact Or.inr ⟨j, h, rfl, fun _ q => br_f h0 (br_f hx q), fun _ _ q => br_f h0 (br_f hy q)⟩
    · have hx : (12 : Int32) ≤ nI j := by rw [← cs_12]; exact nI_le (by omega) hj
      have hy : (11 : Int32) < nI j := by rw [← cs_11]; exact nI_lt (by omega) hj
      exact Or.inl ⟨fun _ q => br_f h0 (br_t hx q), fun _ _ q => br_f h0 (br_t hy q)⟩
theorem cs_place (p : Int32) : ((∀ post : Int32 → Prop, post 0 → wpX_isPlace post p) ∧ (∀ (post : Int32 → Prop) (a : SY), post 0 → wpY_isPlace post a p)) ∨ (∃ j : Nat, j < 16 ∧ p = nI j ∧ (∀ post : Int32 → Prop, post 1 → wpX_isPlace post p) ∧ (∀ (post : Int32 → Prop) (a : SY), post 1 → wpY_isPlace post a p)) := by
  by_cases h0 : p < 0
  · exact Or.inl ⟨fun _ h => br_t h0 h, fun _ _ h => br_t h0 h⟩
  · obtain ⟨j, hj, rfl⟩ := nI_of h0
    by_cases h : j < 16
    · have hx : ¬ (16 : Int32) ≤ nI j := cs_g16 h
      have hy : ¬ (15 : Int32) < nI j := by rw [← cs_15]; exact nI_nlt (by omega) (by decide)
      exact Or.inr ⟨j, h, rfl, fun _ q => br_f h0 (br_f hx q), fun _ _ q => br_f h0 (br_f hy q)⟩
    · have hx : (16 : Int32) ≤ nI j := by rw [← cs_16]; exact nI_le (by omega) hj
      have hy : (15 : Int32) < nI j := by rw [← cs_15]; exact nI_lt (by omega) hj
      exact Or.inl ⟨fun _ q => br_f h0 (br_t hx q), fun _ _ q => br_f h0 (br_t hy q)⟩
theorem cs_byte (p : Int32) : ((∀ post : Int32 → Prop, post 0 → wpX_isByte post p) ∧ (∀ (post : Int32 → Prop) (a : SY), post 0 → wpY_isByte post a p)) ∨ (cs_b p ∧ (∀ post : Int32 → Prop, post 1 → wpX_isByte post p) ∧ (∀ (post : Int32 → Prop) (a : SY), post 1 → wpY_isByte post a p)) := by
  by_cases h0 : p < 0
  · exact Or.inl ⟨fun _ h => br_t h0 h, fun _ _ h => br_t h0 h⟩
  · obtain ⟨j, hj, rfl⟩ := nI_of h0
    by_cases h : j < 256
    · have hx : ¬ (255 : Int32) < nI j := by rw [← cs_255]; exact nI_nlt (by omega) (by decide)
      exact Or.inr ⟨⟨j, h, rfl⟩, fun _ q => br_f h0 (br_f hx q), fun _ _ q => br_f h0 (br_f hx q)⟩
    · have hx : (255 : Int32) < nI j := by rw [← cs_255]; exact nI_lt (by omega) hj
      exact Or.inl ⟨fun _ q => br_f h0 (br_t hx q), fun _ _ q => br_f h0 (br_t hx q)⟩
theorem cs_ne : ¬ (1 : Int32) = 0 := by decide
