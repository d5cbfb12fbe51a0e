/-! the loops that store: both sides in lockstep, one answer and one array for every post -/
theorem cs_fill (p t : Nat) (b : Int32) (hp : p < 12) (ht : t < 16) (hb : cs_b b) : ∀ d i : Nat, i ≤ 16 → t + 1 - i = d → ∀ (c : Int32) (a : Nat → Int32), cs_B a → ∃ (r : Int32) (a' : Nat → Int32), cs_B a' ∧ (∀ post : Int32 → SX → Prop, post r a' → wX_fill_37 post (nI p) (nI t) b (d + 1) c (nI i) a) ∧ (∀ post : Int32 → SY → Prop, post r a' → wY_fill_41 post (nI p) (nI t) b (d + 1) c (nI i) a) := by
  intro d
  induction d with
  | zero =>
    intro i hi hd c a ha
    have h : nI t < nI i := nI_lt (by omega) (by omega)
    exact ⟨c, a, ha, fun _ q => br_t h q, fun _ q => br_t h q⟩
  | succ d ih =>
    intro i hi hd c a ha
    have h : ¬ nI t < nI i := nI_nlt (by omega) (by omega)
    have hi' : i < 16 := by omega
    obtain ⟨r, a', hB, hX, hY⟩ := ih (i + 1) (by omega) (by omega) (c + 1) (upd a (16 * p + i) b) (cs_upd ha hb _)
    refine ⟨r, a', hB, fun post q => br_f h ⟨cs_xv hp hi', ?_⟩, fun post q => br_f h ⟨cs_yv hp hi', ?_⟩⟩
    · exact nm_r (congrArg (fun z => upd a z b) (cs_xc hp hi')) (nm_e (nm_r (nI_1 i) (hX post q)))
    · exact nm_r (congrArg (fun z => upd a z b) (cs_yc hp hi')) (nm_e (nm_r (nI_1 i) (hY post q)))
theorem cs_copy (p q : Nat) (hp : p < 12) (hq : q < 12) : ∀ d i : Nat, i + d = 16 → ∀ (c : Int32) (a : Nat → Int32), cs_B a → ∃ (r : Int32) (a' : Nat → Int32), cs_B a' ∧ (∀ post : Int32 → SX → Prop, post r a' → wX_copy_21 post (nI p) (nI q) (d + 1) c (nI i) a) ∧ (∀ post : Int32 → SY → Prop, post r a' → wY_copy_23 post (nI p) (nI q) (d + 1) c (nI i) a) := by
  intro d
  induction d with
  | zero =>
    intro i hd c a ha
    have e : i = 16 := by omega
    subst e
    exact ⟨c, a, ha, fun _ w => br_t cs_l16 w, fun _ w => br_t cs_l16 w⟩
  | succ d ih =>
    intro i hd c a ha
    have hi : i < 16 := by omega
    have h := cs_g16 hi
    have x1 := cs_xc hp hi
    have x2 := cs_xc hq hi
    have y1 := cs_yc hp hi
    have y2 := cs_yc hq hi
    by_cases z : a (16 * p + i) = a (16 * q + i)
    · obtain ⟨r, a', hB, hX, hY⟩ := ih (i + 1) (by omega) c a ha
      refine ⟨r, a', hB, fun post w => br_f h ⟨cs_xv hq hi, nm_e ⟨cs_xv hp hi, br_t ?_ (nm_r (nI_1 i) (hX post w))⟩⟩, fun post w => br_f h ⟨cs_yv hp hi, cs_yv hq hi, br_t ?_ (nm_r (nI_1 i) (hY post w))⟩⟩
      · rw [x1, x2]; exact z
      · rw [y1, y2]; exact z
    · obtain ⟨r, a', hB, hX, hY⟩ := ih (i + 1) (by omega) (c + 1) (upd a (16 * p + i) (a (16 * q + i))) (cs_upd ha (ha _) _)
      refine ⟨r, a', hB, fun post w => br_f h ⟨cs_xv hq hi, nm_e ⟨cs_xv hp hi, br_f ?_ ⟨cs_xv hp hi, nm_r ?_ (nm_e (nm_r (nI_1 i) (hX post w)))⟩⟩⟩, fun post w => br_f h ⟨cs_yv hp hi, cs_yv hq hi, br_f ?_ ⟨cs_yv hq hi, cs_yv hp hi, nm_r ?_ (nm_e (nm_r (nI_1 i) (hY post w)))⟩⟩⟩
      · rw [x1, x2]; exact z
      · rw [x1, x2]
      · rw [y1, y2]; exact z
      · rw [y1, y2]
theorem cs_exch (p q : Nat) (hp : p < 12) (hq : q < 12) : ∀ d i : Nat, i + d = 16 → ∀ (a : Nat → Int32), cs_B a → ∃ (r : Int32) (a' : Nat → Int32), cs_B a' ∧ (∀ post : Int32 → SX → Prop, post r a' → wX_exchange_18 post (nI p) (nI q) (d + 1) (nI i) a) ∧ (∀ post : Int32 → SY → Prop, post r a' → wY_exchange_20 post (nI p) (nI q) (d + 1) (nI i) a) := by
  intro d
  induction d with
  | zero =>
    intro i hd a ha
    have e : i = 16 := by omega
    subst e
    exact ⟨0, a, ha, fun _ w => br_t cs_l16 w, fun _ w => br_t cs_l16 w⟩
  | succ d ih =>
    intro i hd a ha
    have hi : i < 16 := by omega
    have h := cs_g16 hi
    have x1 := cs_xc hp hi
    have x2 := cs_xc hq hi
    have y1 := cs_yc hp hi
    have y2 := cs_yc hq hi
    obtain ⟨r, a', hB, hX, hY⟩ := ih (i + 1) (by omega) (upd (upd a (16 * p + i) (a (16 * q + i))) (16 * q + i) (a (16 * p + i))) (cs_upd (cs_upd ha (ha _) _) (ha _) _)
    refine ⟨r, a', hB, fun post w => br_f h ⟨cs_xv hp hi, nm_e ⟨cs_xv hq hi, cs_xv hp hi, nm_e ⟨cs_xv hq hi, nm_r ?_ (nm_r (nI_1 i) (hX post w))⟩⟩⟩, fun post w => br_f h ⟨cs_yv hp hi, nm_e ⟨cs_yv hq hi, cs_yv hp hi, nm_e ⟨cs_yv hq hi, nm_r ?_ (nm_r (nI_1 i) (hY post w))⟩⟩⟩⟩
    · rw [x1, x2]
    · rw [y1, y2]
theorem cs_mix (p q : Nat) (hp : p < 12) (hq : q < 12) : ∀ d i : Nat, i + d = 16 → ∀ (a : Nat → Int32), cs_B a → ∃ (r : Int32) (a' : Nat → Int32), cs_B a' ∧ (∀ post : Int32 → SX → Prop, post r a' → wX_mix_18 post (nI p) (nI q) (d + 1) (nI i) a) ∧ (∀ post : Int32 → SY → Prop, post r a' → wY_mix_20 post (nI p) (nI q) (d + 1) (nI i) a) := by
  intro d
  induction d with
  | zero =>
    intro i hd a ha
    have e : i = 16 := by omega
    subst e
    exact ⟨0, a, ha, fun _ w => br_t cs_l16 w, fun _ w => br_t cs_l16 w⟩
  | succ d ih =>
    intro i hd a ha
    have hi : i < 16 := by omega
    have h := cs_g16 hi
    have x1 := cs_xc hp hi
    have x2 := cs_xc hq hi
    have y1 := cs_yc hp hi
    have y2 := cs_yc hq hi
    obtain ⟨r, a', hB, hX, hY⟩ := ih (i + 1) (by omega) (upd a (16 * p + i) (a (16 * p + i) ^^^ a (16 * q + i))) (cs_upd ha (cs_xor (ha _) (ha _)) _)
    refine ⟨r, a', hB, fun post w => br_f h ⟨cs_xv hp hi, cs_xv hq hi, cs_xv hp hi, nm_r ?_ (nm_r (nI_1 i) (hX post w))⟩, fun post w => br_f h ⟨cs_yv hp hi, cs_yv hq hi, cs_yv hp hi, nm_r ?_ (nm_r (nI_1 i) (hY post w))⟩⟩
    · rw [x1, x2]
    · rw [y1, y2]
theorem cs_drop (p : Nat) (hp : p < 12) : ∀ d i : Nat, i + d = 16 → ∀ (a : Nat → Int32), cs_B a → ∃ (r : Int32) (a' : Nat → Int32), cs_B a' ∧ (∀ post : Int32 → SX → Prop, post r a' → wX_drop_11 post (nI p) (d + 1) (nI i) a) ∧ (∀ post : Int32 → SY → Prop, post r a' → wY_drop_12 post (nI p) (d + 1) (nI i) a) := by
  intro d
  induction d with
  | zero =>
    intro i hd a ha
    have e : i = 16 := by omega
    subst e
    exact ⟨0, a, ha, fun _ w => br_t cs_l16 w, fun _ w => br_t cs_l16 w⟩
  | succ d ih =>
    intro i hd a ha
    have hi : i < 16 := by omega
    have h := cs_g16 hi
    obtain ⟨r, a', hB, hX, hY⟩ := ih (i + 1) (by omega) (upd a (16 * p + i) 0) (cs_upd ha cs_b0 _)
    refine ⟨r, a', hB, fun post w => br_f h ⟨cs_xv hp hi, nm_r ?_ (nm_r (nI_1 i) (hX post w))⟩, fun post w => br_f h ⟨cs_yv hp hi, nm_r ?_ (nm_r (nI_1 i) (hY post w))⟩⟩
    · rw [cs_xc hp hi]
    · rw [cs_yc hp hi]
theorem cs_x3 {p f i : Nat} : nI p * 16 + nI f + nI i = nI p * 16 + nI (f + i) := by rw [cs_xi, cs_xi, nI_add, Nat.add_assoc]
theorem cs_y3 {p f i : Nat} : 16 * nI p + nI f + nI i = 16 * nI p + nI (f + i) := by rw [cs_yi, cs_yi, nI_add, Nat.add_assoc]
theorem cs_move (p f t n : Nat) (hp : p < 12) (hf : f + n ≤ 16) (ht : t + n ≤ 16) : ∀ d i : Nat, i + d = n → ∀ (a : Nat → Int32), cs_B a → ∃ (r : Int32) (a' : Nat → Int32), cs_B a' ∧ (∀ post : Int32 → SX → Prop, post r a' → wX_move_58 post (nI p) (nI f) (nI t) (nI n) (d + 1) (nI i) a) ∧ (∀ post : Int32 → SY → Prop, post r a' → wY_move_59 post (nI p) (nI f) (nI t) (nI n) (d + 1) (nI i) a) := by
  intro d
  induction d with
  | zero =>
    intro i hd a ha
    have h : nI n ≤ nI i := nI_le (by omega) (by omega)
    exact ⟨0, a, ha, fun _ w => br_t h w, fun _ w => br_t h w⟩
  | succ d ih =>
    intro i hd a ha
    have h : ¬ nI n ≤ nI i := nI_ge (by omega) (by omega)
    have hi1 : f + i < 16 := by omega
    have hi2 : t + i < 16 := by omega
    obtain ⟨r, a', hB, hX, hY⟩ := ih (i + 1) (by omega) (upd a (16 * p + (t + i)) (a (16 * p + (f + i)))) (cs_upd ha (ha _) _)
    refine ⟨r, a', hB, fun post w => br_f h ⟨?_, ?_, nm_r ?_ (nm_r (nI_1 i) (hX post w))⟩, fun post w => br_f h ⟨?_, ?_, nm_r ?_ (nm_r (nI_1 i) (hY post w))⟩⟩
    · rw [cs_x3]; exact cs_xv hp hi1
    · rw [cs_x3]; exact cs_xv hp hi2
    · rw [cs_x3, cs_x3, cs_xc hp hi1, cs_xc hp hi2]
    · rw [cs_y3]; exact cs_yv hp hi1
    · rw [cs_y3]; exact cs_yv hp hi2
    · rw [cs_y3, cs_y3, cs_yc hp hi1, cs_yc hp hi2]
