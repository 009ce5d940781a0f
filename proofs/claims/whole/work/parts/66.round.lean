theorem stay {σ : sN} (hS : Sub σ) : ∀ (m v a d : Nat) (ct sv : Nat → Nat), v < σ 0 3 → ∃ w, w < 6 ^ m ∧ ∀ w', w' % 6 ^ m = w → 1 ≤ vl σ m v ct sv a d w'
  | 0, v, a, d, ct, sv, hv => ⟨0, by decide, fun w' _ => by show 1 ≤ 100 * a + uns (σ 0 5) ct sv + 1; omega⟩
  | m + 1, v, a, d, ct, sv, hv => by
    have hn := hS.1.2
    have h0 : 0 < 6 ^ m := Nat.pow_pos (by decide)
    obtain ⟨w0, h1, h2⟩ := stay hS m v (a + cntB (nwA v (σ 0 7 + d + 1) (σ 4) (σ 5) (σ 6) ct sv) (σ 0 5)) (d + 1) (ctA v (σ 0 7 + d + 1) (σ 4) (σ 5) (σ 6) ct sv) (svA v (σ 0 7 + d + 1) (σ 4) (σ 5) (σ 6) ct sv) hv
    refine ⟨v * 6 ^ m + w0, ?_, fun w' hw => ?_⟩
    · have : v * 6 ^ m ≤ 5 * 6 ^ m := Nat.mul_le_mul_right _ (by omega)
      rw [Nat.pow_succ]
      omega
    · have hd : w' / 6 ^ m % 6 = v := by
        rw [← Nat.mod_mul_right_div_self, show 6 ^ m * 6 = 6 ^ (m + 1) from (Nat.pow_succ ..).symm, hw, Nat.add_comm, Nat.add_mul_div_right _ _ h0, Nat.div_eq_of_lt h1, Nat.zero_add]
      have hm : w' % 6 ^ m = w0 := by
        rw [← Nat.mod_mod_of_dvd w' (show 6 ^ m ∣ 6 ^ (m + 1) from ⟨6, Nat.pow_succ ..⟩), hw, Nat.add_comm, Nat.add_mul_mod_self_right, Nat.mod_eq_of_lt h1]
      have hvv := (hS.2.2.2.2.2.2.2.2.1.1 v hv v hv).2.1.mpr rfl
      show 1 ≤ (if w' / 6 ^ m % 6 < σ 0 3 ∧ nxt (σ 10) v (w' / 6 ^ m % 6) = true then vl σ m (w' / 6 ^ m % 6) (ctA (w' / 6 ^ m % 6) (σ 0 7 + d + 1) (σ 4) (σ 5) (σ 6) ct sv) (svA (w' / 6 ^ m % 6) (σ 0 7 + d + 1) (σ 4) (σ 5) (σ 6) ct sv) (a + cntB (nwA (w' / 6 ^ m % 6) (σ 0 7 + d + 1) (σ 4) (σ 5) (σ 6) ct sv) (σ 0 5)) (d + 1) w' else 0)
      rw [hd, if_pos ⟨hv, by simp [nxt, hvv]⟩]
      exact h2 w' hm
theorem bR_pos {σ : sN} (hS : Sub σ) (M : Nat) : 1 ≤ (bR σ M (6 ^ M)).2 := by
  obtain ⟨w, h1, h2⟩ := stay hS M (σ 0 6) 0 0 (σ 8) (σ 9) hS.2.2.2.1
  have hw := h2 w (Nat.mod_eq_of_lt h1)
  have key : ∀ k, w < k → 1 ≤ (bR σ M k).2 := by
    intro k
    induction k with
    | zero => intro h; exact absurd h (Nat.not_lt_zero _)
    | succ k ih =>
      intro h
      show 1 ≤ (upB (bR σ M k) (0 + k) (vl σ M (σ 0 6) (σ 8) (σ 9) 0 0 (0 + k))).2
      unfold upB
      by_cases q : w = k
      · subst q
        rw [Nat.zero_add]
        split
        · omega
        · exact hw
      · have := ih (by omega)
        split
        · exact this
        · show 1 ≤ vl σ M (σ 0 6) (σ 8) (σ 9) 0 0 (0 + k)
          omega
  exact key _ h1
theorem run7_eq {σ : sN} {I : aI} (hS : Sub σ) (hC : RC σ I) (J : aJ) {M : Nat} (hM5 : M ≤ 5) : ∃ s', fX4_run 22 32 (nI M) I J = some ((), s', J) ∧ BRl s' (bR σ M (6 ^ M)) M ∧ ∀ k j, k < 44 → s' k j = I k j := by
  have hE := hC.2.2.2.2.1
  obtain ⟨z1, d1, d2, f1, f2, f3, f4⟩ := copy0 (e0 := 48) (e1 := 32) (by decide) (by decide) (by decide) (pI (pI I 44 1 (-1)) 44 2 (-1)) J
  have hE1 : Ev z1 (48 + 2 * 0) (σ 0 6) (σ 0 7 + 0) (σ 9) (σ 8) (σ 0 5) := by
    refine ⟨?_, ?_, ?_, fun j hj => ?_⟩
    · show z1 48 0 = _
      rw [f1, pI_ro _ (by decide), pI_ro _ (by decide)]; exact hE.1
    · show z1 48 1 = _
      rw [f2, pI_ro _ (by decide), pI_ro _ (by decide)]; exact hE.2.1
    · show z1 48 2 = _
      rw [f3, pI_ro _ (by decide), pI_ro _ (by decide)]; exact hE.2.2.1
    · show z1 (48 + 1) j = _
      rw [f4 j hj, pI_ro _ (by decide), pI_ro _ (by decide)]; exact hE.2.2.2 j hj
  obtain ⟨s', e1, e2, e3, e4, e5⟩ := extend_eq hS hC J hM5 M 0 7 (σ 0 6) 0 0 (σ 8) (σ 9) z1 (0, 0) (by omega) (by omega) hS.2.2.2.1 hS.pq (by omega) hE1 hE1.2.2.1 (fun j hj => absurd hj (Nat.not_lt_zero j)) ⟨fun _ => ⟨by rw [d2 44 1 (by decide) (by decide), pI_g, if_neg (by omega), pI_g, if_pos ⟨rfl, rfl⟩], by rw [d2 44 2 (by decide) (by decide), pI_g, if_pos ⟨rfl, rfl⟩]⟩, fun z => absurd z (by decide), Nat.zero_le _⟩ (fun k j h => by rw [d2 k j (by omega) (by omega), pI_ro _ (by omega), pI_ro _ (by omega)])
  refine ⟨s', ?_, ?_, e3⟩
  · unfold fX4_run
    rw [show 47 + 1 + 2 * Int32.toNatClampNeg 0 = 48 from rfl, bnd_t d1, bnd_t (show fX4_extend 7 22 0 (nI M) z1 J = _ from e1)]
  · rw [Nat.zero_mul] at e2
    exact e2
