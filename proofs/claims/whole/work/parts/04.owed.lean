/-! the relation, and what is owed -/
/-- both sides hold the same cells, and each cell is a byte -/
def i_Rel (_ : Nat) (u : SX) (v : SY) : Prop := u = v ∧ cs_B u
theorem i_up {k : Nat} {u : SX} {v : SY} (h : i_Rel k u v) : i_Rel (k + 5) u v := h
theorem i_vc0 : wpX_init (fun u => wpY_init (fun v => i_Rel 0 u v)) := ⟨rfl, fun _ => cs_b0⟩
theorem i_vc_write {k : Nat} {u : SX} {v : SY} (I : i_Rel k u v) (hk : k + 5 ≤ 2560) (v1 : Int32) (v2 : Int32) (v3 : Int32) : wpX_write (fun r u' => wpY_write (fun r' v' => r' = r ∧ i_Rel (k + 5) u' v') v v1 v2 v3) u v1 v2 v3 := by
  obtain ⟨rfl, hB⟩ := I
  unfold wpX_write wpY_write
  dsimp only
  rcases cs_page v1 with ⟨pX, pY⟩ | ⟨p, hp, rfl, pX, pY⟩
  · exact pX _ (br_t rfl (pY _ _ (br_t rfl ⟨rfl, rfl, hB⟩)))
  rcases cs_place v2 with ⟨iX, iY⟩ | ⟨i, hi, rfl, iX, iY⟩
  · exact pX _ (br_f cs_ne (iX _ (br_t rfl (pY _ _ (br_f cs_ne (iY _ _ (br_t rfl ⟨rfl, rfl, hB⟩)))))))
  rcases cs_byte v3 with ⟨bX, bY⟩ | ⟨hb, bX, bY⟩
  · exact pX _ (br_f cs_ne (iX _ (br_f cs_ne (bX _ (br_t rfl (pY _ _ (br_f cs_ne (iY _ _ (br_f cs_ne (bY _ _ (br_t rfl ⟨rfl, rfl, hB⟩)))))))))))
  exact pX _ (br_f cs_ne (iX _ (br_f cs_ne (bX _ (br_f cs_ne (nm_e ⟨cs_xv hp hi, nm_e ⟨cs_xv hp hi, nm_e (pY _ _ (br_f cs_ne (iY _ _ (br_f cs_ne (bY _ _ (br_f cs_ne (⟨cs_yv hp hi, nm_e ⟨cs_yv hp hi, nm_e ⟨by rw [cs_xc hp hi, cs_yc hp hi], by rw [cs_xc hp hi, cs_yc hp hi], cs_upd hB hb _⟩⟩⟩)))))))⟩⟩))))))
theorem i_vc_read {k : Nat} {u : SX} {v : SY} (I : i_Rel k u v) (hk : k + 5 ≤ 2560) (v1 : Int32) (v2 : Int32) : wpX_read (fun r => wpY_read (fun r' => r' = r ∧ i_Rel (k + 5) u v) v v1 v2) u v1 v2 := by
  obtain ⟨rfl, hB⟩ := I
  unfold wpX_read wpY_read
  dsimp only
  rcases cs_page v1 with ⟨pX, pY⟩ | ⟨p, hp, rfl, pX, pY⟩
  · exact pX _ (br_t rfl (pY _ _ (br_t rfl ⟨rfl, rfl, hB⟩)))
  rcases cs_place v2 with ⟨iX, iY⟩ | ⟨i, hi, rfl, iX, iY⟩
  · exact pX _ (br_f cs_ne (iX _ (br_t rfl (pY _ _ (br_f cs_ne (iY _ _ (br_t rfl ⟨rfl, rfl, hB⟩)))))))
  exact pX _ (br_f cs_ne (iX _ (br_f cs_ne (⟨cs_xv hp hi, pY _ _ (br_f cs_ne (iY _ _ (br_f cs_ne (⟨cs_yv hp hi, by rw [cs_xc hp hi, cs_yc hp hi], rfl, hB⟩))))⟩))))
theorem i_vc_fill {k : Nat} {u : SX} {v : SY} (I : i_Rel k u v) (hk : k + 5 ≤ 2560) (v1 : Int32) (v2 : Int32) (v3 : Int32) (v4 : Int32) : wpX_fill (fun r u' => wpY_fill (fun r' v' => r' = r ∧ i_Rel (k + 5) u' v') v v1 v2 v3 v4) u v1 v2 v3 v4 := by
  obtain ⟨rfl, hB⟩ := I
  unfold wpX_fill wpY_fill
  dsimp only
  rcases cs_page v1 with ⟨pX, pY⟩ | ⟨p, hp, rfl, pX, pY⟩
  · exact pX _ (br_t rfl (pY _ _ (br_t rfl ⟨rfl, rfl, hB⟩)))
  rcases cs_place v2 with ⟨iX, iY⟩ | ⟨i, hi, rfl, iX, iY⟩
  · exact pX _ (br_f cs_ne (iX _ (br_t rfl (pY _ _ (br_f cs_ne (iY _ _ (br_t rfl ⟨rfl, rfl, hB⟩)))))))
  rcases cs_place v3 with ⟨tX, tY⟩ | ⟨t, ht, rfl, tX, tY⟩
  · exact pX _ (br_f cs_ne (iX _ (br_f cs_ne (tX _ (br_t rfl (pY _ _ (br_f cs_ne (iY _ _ (br_f cs_ne (tY _ _ (br_t rfl ⟨rfl, rfl, hB⟩)))))))))))
  rcases cs_byte v4 with ⟨bX, bY⟩ | ⟨hb, bX, bY⟩
  · exact pX _ (br_f cs_ne (iX _ (br_f cs_ne (tX _ (br_f cs_ne (bX _ (br_t rfl (pY _ _ (br_f cs_ne (iY _ _ (br_f cs_ne (tY _ _ (br_f cs_ne (bY _ _ (br_t rfl ⟨rfl, rfl, hB⟩)))))))))))))))
  obtain ⟨r, a', hB', hX, hY⟩ := cs_fill p t _ hp ht hb (t + 1 - i) i (by omega) rfl 0 _ hB
  exact pX _ (br_f cs_ne (iX _ (br_f cs_ne (tX _ (br_f cs_ne (bX _ (br_f cs_ne (⟨_, hX _ (pY _ _ (br_f cs_ne (iY _ _ (br_f cs_ne (tY _ _ (br_f cs_ne (bY _ _ (br_f cs_ne (⟨_, hY _ ⟨rfl, rfl, hB'⟩⟩)))))))))⟩))))))))
theorem i_vc_copy {k : Nat} {u : SX} {v : SY} (I : i_Rel k u v) (hk : k + 5 ≤ 2560) (v1 : Int32) (v2 : Int32) : wpX_copy (fun r u' => wpY_copy (fun r' v' => r' = r ∧ i_Rel (k + 5) u' v') v v1 v2) u v1 v2 := by
  obtain ⟨rfl, hB⟩ := I
  unfold wpX_copy wpY_copy
  dsimp only
  rcases cs_page v1 with ⟨pX, pY⟩ | ⟨p, hp, rfl, pX, pY⟩
  · exact pX _ (br_t rfl (pY _ _ (br_t rfl ⟨rfl, rfl, hB⟩)))
  rcases cs_page v2 with ⟨qX, qY⟩ | ⟨q, hq, rfl, qX, qY⟩
  · exact pX _ (br_f cs_ne (qX _ (br_t rfl (pY _ _ (br_f cs_ne (qY _ _ (br_t rfl ⟨rfl, rfl, hB⟩)))))))
  obtain ⟨r, a', hB', hX, hY⟩ := cs_copy p q hp hq 16 0 (by omega) 0 _ hB
  rw [nI_0] at hX hY
  exact pX _ (br_f cs_ne (qX _ (br_f cs_ne (⟨_, hX _ (pY _ _ (br_f cs_ne (qY _ _ (br_f cs_ne (⟨_, hY _ ⟨rfl, rfl, hB'⟩⟩)))))⟩))))
theorem i_vc_exchange {k : Nat} {u : SX} {v : SY} (I : i_Rel k u v) (hk : k + 5 ≤ 2560) (v1 : Int32) (v2 : Int32) : wpX_exchange (fun r u' => wpY_exchange (fun r' v' => r' = r ∧ i_Rel (k + 5) u' v') v v1 v2) u v1 v2 := by
  obtain ⟨rfl, hB⟩ := I
  unfold wpX_exchange wpY_exchange
  dsimp only
  rcases cs_page v1 with ⟨pX, pY⟩ | ⟨p, hp, rfl, pX, pY⟩
  · exact pX _ (br_t rfl (pY _ _ (br_t rfl ⟨rfl, rfl, hB⟩)))
  rcases cs_page v2 with ⟨qX, qY⟩ | ⟨q, hq, rfl, qX, qY⟩
  · exact pX _ (br_f cs_ne (qX _ (br_t rfl (pY _ _ (br_f cs_ne (qY _ _ (br_t rfl ⟨rfl, rfl, hB⟩)))))))
  obtain ⟨r, a', hB', hX, hY⟩ := cs_exch p q hp hq 16 0 (by omega) _ hB
  rw [nI_0] at hX hY
  exact pX _ (br_f cs_ne (qX _ (br_f cs_ne (⟨_, hX _ (pY _ _ (br_f cs_ne (qY _ _ (br_f cs_ne (⟨_, hY _ ⟨rfl, rfl, hB'⟩⟩)))))⟩))))
theorem i_vc_move {k : Nat} {u : SX} {v : SY} (I : i_Rel k u v) (hk : k + 5 ≤ 2560) (v1 : Int32) (v2 : Int32) (v3 : Int32) (v4 : Int32) : wpX_move (fun r u' => wpY_move (fun r' v' => r' = r ∧ i_Rel (k + 5) u' v') v v1 v2 v3 v4) u v1 v2 v3 v4 := by
  obtain ⟨rfl, hB⟩ := I
  unfold wpX_move wpY_move
  dsimp only
  rcases cs_page v1 with ⟨pX, pY⟩ | ⟨p, hp, rfl, pX, pY⟩
  · exact pX _ (br_t rfl (pY _ _ (br_t rfl ⟨rfl, rfl, hB⟩)))
  rcases cs_place v2 with ⟨fX, fY⟩ | ⟨f, hf, rfl, fX, fY⟩
  · exact pX _ (br_f cs_ne (fX _ (br_t rfl (pY _ _ (br_f cs_ne (fY _ _ (br_t rfl ⟨rfl, rfl, hB⟩)))))))
  rcases cs_place v3 with ⟨tX, tY⟩ | ⟨t, ht, rfl, tX, tY⟩
  · exact pX _ (br_f cs_ne (fX _ (br_f cs_ne (tX _ (br_t rfl (pY _ _ (br_f cs_ne (fY _ _ (br_f cs_ne (tY _ _ (br_t rfl ⟨rfl, rfl, hB⟩)))))))))))
  by_cases n0 : v4 < 0
  · exact pX _ (br_f cs_ne (fX _ (br_f cs_ne (tX _ (br_f cs_ne (br_t n0 (pY _ _ (br_f cs_ne (fY _ _ (br_f cs_ne (tY _ _ (br_f cs_ne (br_t n0 ⟨rfl, rfl, hB⟩)))))))))))))
  by_cases n1 : 16 < v4
  · exact pX _ (br_f cs_ne (fX _ (br_f cs_ne (tX _ (br_f cs_ne (br_f n0 (br_t n1 (pY _ _ (br_f cs_ne (fY _ _ (br_f cs_ne (tY _ _ (br_f cs_ne (br_f n0 (br_t n1 ⟨rfl, rfl, hB⟩)))))))))))))))
  by_cases n2 : 16 < nI f + v4
  · exact pX _ (br_f cs_ne (fX _ (br_f cs_ne (tX _ (br_f cs_ne (br_f n0 (br_f n1 (br_t n2 (pY _ _ (br_f cs_ne (fY _ _ (br_f cs_ne (tY _ _ (br_f cs_ne (br_f n0 (br_f n1 (br_t n2 ⟨rfl, rfl, hB⟩)))))))))))))))))
  by_cases n3 : nI t + v4 ≤ 16
  · obtain ⟨n, hn, rfl⟩ := nI_of n0
    have m1 : n ≤ 16 := by
      rw [← cs_16, nI_ltI (by decide) hn] at n1; omega
    have m2 : f + n ≤ 16 := by
      have g := n2; rw [← cs_16, nI_add, nI_ltI (by decide) (by omega)] at g; omega
    have m3 : t + n ≤ 16 := by
      have g := n3; rw [← cs_16, nI_add, nI_leI (by omega) (by decide)] at g; omega
    obtain ⟨r, a', hB', hX, hY⟩ := cs_move p f t n hp m2 m3 n 0 (by omega) _ hB
    rw [nI_0] at hX hY
    exact pX _ (br_f cs_ne (fX _ (br_f cs_ne (tX _ (br_f cs_ne (br_f n0 (br_f n1 (br_f n2 (br_t n3 ⟨_, hX _ (pY _ _ (br_f cs_ne (fY _ _ (br_f cs_ne (tY _ _ (br_f cs_ne (br_f n0 (br_f n1 (br_f n2 (br_t n3 ⟨_, hY _ ⟨rfl, rfl, hB'⟩⟩))))))))))⟩)))))))))
  · exact pX _ (br_f cs_ne (fX _ (br_f cs_ne (tX _ (br_f cs_ne (br_f n0 (br_f n1 (br_f n2 (br_f n3 (pY _ _ (br_f cs_ne (fY _ _ (br_f cs_ne (tY _ _ (br_f cs_ne (br_f n0 (br_f n1 (br_f n2 (br_f n3 ⟨rfl, rfl, hB⟩)))))))))))))))))))
theorem i_vc_mix {k : Nat} {u : SX} {v : SY} (I : i_Rel k u v) (hk : k + 5 ≤ 2560) (v1 : Int32) (v2 : Int32) : wpX_mix (fun r u' => wpY_mix (fun r' v' => r' = r ∧ i_Rel (k + 5) u' v') v v1 v2) u v1 v2 := by
  obtain ⟨rfl, hB⟩ := I
  unfold wpX_mix wpY_mix
  dsimp only
  rcases cs_page v1 with ⟨pX, pY⟩ | ⟨p, hp, rfl, pX, pY⟩
  · exact pX _ (br_t rfl (pY _ _ (br_t rfl ⟨rfl, rfl, hB⟩)))
  rcases cs_page v2 with ⟨qX, qY⟩ | ⟨q, hq, rfl, qX, qY⟩
  · exact pX _ (br_f cs_ne (qX _ (br_t rfl (pY _ _ (br_f cs_ne (qY _ _ (br_t rfl ⟨rfl, rfl, hB⟩)))))))
  obtain ⟨r, a', hB', hX, hY⟩ := cs_mix p q hp hq 16 0 (by omega) _ hB
  rw [nI_0] at hX hY
  exact pX _ (br_f cs_ne (qX _ (br_f cs_ne (⟨_, hX _ (pY _ _ (br_f cs_ne (qY _ _ (br_f cs_ne (⟨_, hY _ ⟨rfl, rfl, hB'⟩⟩)))))⟩))))
theorem i_vc_drop {k : Nat} {u : SX} {v : SY} (I : i_Rel k u v) (hk : k + 5 ≤ 2560) (v1 : Int32) : wpX_drop (fun r u' => wpY_drop (fun r' v' => r' = r ∧ i_Rel (k + 5) u' v') v v1) u v1 := by
  obtain ⟨rfl, hB⟩ := I
  unfold wpX_drop wpY_drop
  dsimp only
  rcases cs_page v1 with ⟨pX, pY⟩ | ⟨p, hp, rfl, pX, pY⟩
  · exact pX _ (br_t rfl (pY _ _ (br_t rfl ⟨rfl, rfl, hB⟩)))
  obtain ⟨r, a', hB', hX, hY⟩ := cs_drop p hp 16 0 (by omega) _ hB
  rw [nI_0] at hX hY
  exact pX _ (br_f cs_ne (⟨_, hX _ (pY _ _ (br_f cs_ne (⟨_, hY _ ⟨rfl, rfl, hB'⟩⟩)))⟩))
theorem i_vc_sum {k : Nat} {u : SX} {v : SY} (I : i_Rel k u v) (hk : k + 5 ≤ 2560) (v1 : Int32) : wpX_sum (fun r => wpY_sum (fun r' => r' = r ∧ i_Rel (k + 5) u v) v v1) u v1 := by
  obtain ⟨rfl, hB⟩ := I
  unfold wpX_sum wpY_sum
  dsimp only
  rcases cs_page v1 with ⟨pX, pY⟩ | ⟨p, hp, rfl, pX, pY⟩
  · exact pX _ (br_t rfl (pY _ _ (br_t rfl ⟨rfl, rfl, hB⟩)))
  obtain ⟨s, _, _, hX, hY⟩ := cs_sum p hp _ hB 16 0 (by omega) 0 (by omega)
  rw [nI_0] at hX hY
  exact pX _ (br_f cs_ne (⟨_, hX _ (pY _ _ (br_f cs_ne (⟨_, hY _ ⟨rfl, rfl, hB⟩⟩)))⟩))
theorem i_vc_differ {k : Nat} {u : SX} {v : SY} (I : i_Rel k u v) (hk : k + 5 ≤ 2560) (v1 : Int32) (v2 : Int32) : wpX_differ (fun r => wpY_differ (fun r' => r' = r ∧ i_Rel (k + 5) u v) v v1 v2) u v1 v2 := by
  obtain ⟨rfl, hB⟩ := I
  unfold wpX_differ wpY_differ
  dsimp only
  rcases cs_page v1 with ⟨pX, pY⟩ | ⟨p, hp, rfl, pX, pY⟩
  · exact pX _ (br_t rfl (pY _ _ (br_t rfl ⟨rfl, rfl, hB⟩)))
  rcases cs_page v2 with ⟨qX, qY⟩ | ⟨q, hq, rfl, qX, qY⟩
  · exact pX _ (br_f cs_ne (qX _ (br_t rfl (pY _ _ (br_f cs_ne (qY _ _ (br_t rfl ⟨rfl, rfl, hB⟩)))))))
  obtain ⟨r, hX, hY⟩ := cs_diff p q hp hq _ 16 0 (by omega)
  rw [nI_0] at hX hY
  exact pX _ (br_f cs_ne (qX _ (br_f cs_ne (⟨_, hX _ (pY _ _ (br_f cs_ne (qY _ _ (br_f cs_ne (⟨_, hY _ ⟨rfl, rfl, hB⟩⟩)))))⟩))))
theorem i_vc_find {k : Nat} {u : SX} {v : SY} (I : i_Rel k u v) (hk : k + 5 ≤ 2560) (v1 : Int32) (v2 : Int32) (v3 : Int32) : wpX_find (fun r => wpY_find (fun r' => r' = r ∧ i_Rel (k + 5) u v) v v1 v2 v3) u v1 v2 v3 := by
  obtain ⟨rfl, hB⟩ := I
  unfold wpX_find wpY_find
  dsimp only
  rcases cs_page v1 with ⟨pX, pY⟩ | ⟨p, hp, rfl, pX, pY⟩
  · exact pX _ (br_t rfl (pY _ _ (br_t rfl ⟨rfl, rfl, hB⟩)))
  rcases cs_place v2 with ⟨iX, iY⟩ | ⟨i, hi, rfl, iX, iY⟩
  · exact pX _ (br_f cs_ne (iX _ (br_t rfl (pY _ _ (br_f cs_ne (iY _ _ (br_t rfl ⟨rfl, rfl, hB⟩)))))))
  rcases cs_byte v3 with ⟨bX, bY⟩ | ⟨hb, bX, bY⟩
  · exact pX _ (br_f cs_ne (iX _ (br_f cs_ne (bX _ (br_t rfl (pY _ _ (br_f cs_ne (iY _ _ (br_f cs_ne (bY _ _ (br_t rfl ⟨rfl, rfl, hB⟩)))))))))))
  obtain ⟨r, hX, hY⟩ := cs_find p hp v3 _ (16 - i) i (by omega)
  exact pX _ (br_f cs_ne (iX _ (br_f cs_ne (bX _ (br_f cs_ne (⟨_, hX _ (pY _ _ (br_f cs_ne (iY _ _ (br_f cs_ne (bY _ _ (br_f cs_ne (⟨_, hY _ ⟨rfl, rfl, hB⟩⟩)))))))⟩))))))
theorem i_vc_blank {k : Nat} {u : SX} {v : SY} (I : i_Rel k u v) (hk : k + 5 ≤ 2560) : wpX_blank (fun r => wpY_blank (fun r' => r' = r ∧ i_Rel (k + 5) u v) v) u := by
  obtain ⟨rfl, hB⟩ := I
  obtain ⟨r, hX, hY⟩ := cs_blank _ hB 12 0 (by omega) 0
  rw [nI_0] at hX hY
  exact ⟨_, hX _ ⟨_, hY _ ⟨rfl, rfl, hB⟩⟩⟩
theorem i_vc_twin {k : Nat} {u : SX} {v : SY} (I : i_Rel k u v) (hk : k + 5 ≤ 2560) (v1 : Int32) : wpX_twin (fun r => wpY_twin (fun r' => r' = r ∧ i_Rel (k + 5) u v) v v1) u v1 := by
  obtain ⟨rfl, hB⟩ := I
  unfold wpX_twin wpY_twin
  dsimp only
  rcases cs_page v1 with ⟨pX, pY⟩ | ⟨p, hp, rfl, pX, pY⟩
  · exact pX _ (br_t rfl (pY _ _ (br_t rfl ⟨rfl, rfl, hB⟩)))
  obtain ⟨r, hX, hY⟩ := cs_twin p hp _ 12 0 (by omega)
  rw [nI_0] at hX hY
  exact pX _ (br_f cs_ne (⟨_, hX _ (pY _ _ (br_f cs_ne (⟨_, hY _ ⟨rfl, rfl, hB⟩⟩)))⟩))
theorem i_vc_away {k : Nat} {u : SX} {v : SY} (I : i_Rel k u v) (hk : k + 5 ≤ 2560) (v1 : Int32) : wpX_away (fun r => wpY_away (fun r' => r' = r ∧ i_Rel (k + 5) u v) v v1) u v1 := by
  obtain ⟨rfl, hB⟩ := I
  unfold wpX_away wpY_away
  dsimp only
  rcases cs_page v1 with ⟨pX, pY⟩ | ⟨p, hp, rfl, pX, pY⟩
  · exact pX _ (br_t rfl (pY _ _ (br_t rfl ⟨rfl, rfl, hB⟩)))
  exact pX _ (br_f cs_ne (pY _ _ (br_f cs_ne (⟨rfl, rfl, hB⟩))))
theorem i_vc_flush {k : Nat} {u : SX} {v : SY} (I : i_Rel k u v) (hk : k + 5 ≤ 2560) (v1 : Int32) : wpX_flush (fun u' => wpY_flush (fun v' => i_Rel (k + 5) u' v') v v1) u v1 := I
theorem i_vc_rest {k : Nat} {u : SX} {v : SY} (I : i_Rel k u v) (hk : k + 5 ≤ 2560) (v1 : Int32) : wpX_rest (fun u' => wpY_rest (fun v' => i_Rel (k + 5) u' v') v v1) u v1 := I
