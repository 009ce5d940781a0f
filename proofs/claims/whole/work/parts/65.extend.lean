theorem blk {pw x m i : Nat} (hx : x < 6) (hi : i < 6 ^ m) : ((6 * pw + x) * 6 ^ m + i) / 6 ^ m % 6 = x := by
  have h6 : 0 < 6 ^ m := Nat.pow_pos (by decide)
  rw [Nat.add_comm, Nat.add_mul_div_right _ _ h6, Nat.div_eq_of_lt hi]
  omega
theorem blk0 (pw x m : Nat) : pw * 6 ^ (m + 1) + x * 6 ^ m = (6 * pw + x) * 6 ^ m := by
  rw [Nat.pow_succ, Nat.add_mul, ← Nat.mul_assoc, Nat.mul_comm 6 pw, Nat.mul_assoc pw (6 ^ m) 6, Nat.mul_comm (6 ^ m) 6, Nat.mul_assoc pw 6]
theorem up0 (B : Nat × Nat) (w : Nat) : upB B w 0 = B := by unfold upB; rw [if_pos (Nat.zero_le _)]
theorem pref {pw x d j : Nat} (hj : j < d) : (6 * pw + x) / 6 ^ (d + 1 - 1 - j) % 6 = pw / 6 ^ (d - 1 - j) % 6 ∨ 6 ≤ x := by
  by_cases hx : x < 6
  · left
    rw [show d + 1 - 1 - j = (d - 1 - j) + 1 by omega, Nat.pow_succ, Nat.mul_comm _ 6, ← Nat.div_div_eq_div_mul, show (6 * pw + x) / 6 = pw by omega]
  · right; omega
theorem extend_eq {σ : sN} {I : aI} (hS : Sub σ) (hC : RC σ I) (J : aJ) {M : Nat} (hM5 : M ≤ 5) :
    ∀ (m d f v a pw : Nat) (ct sv : Nat → Nat) (s : aI) (B : Nat × Nat), d + m = M → m < f → v < σ 0 3 → Pq (σ 0 5) (σ 4) (σ 5) (σ 6) ct sv → cntB (fun j => decide (sv j = 1)) (σ 0 5) = cntB (fun j => decide (σ 9 j = 1)) (σ 0 5) + a →
      Ev s (48 + 2 * d) v (σ 0 7 + d) sv ct (σ 0 5) → s 48 2 = nI (msk (fun j => decide (σ 9 j = 1)) (σ 0 5)) → (∀ j, j < d → s 46 j = nI (pw / 6 ^ (d - 1 - j) % 6)) → BRl s B M → (∀ k j, k < 44 → s k j = I k j) →
      ∃ s', fX4_extend f 22 (nI d) (nI M) s J = some ((), s', J) ∧ BRl s' (fd (gW σ m v ct sv a d) (pw * 6 ^ m) (6 ^ m) B) M ∧ (∀ k j, k < 44 → s' k j = I k j) ∧ (∀ k j, 48 ≤ k → k ≤ 49 + 2 * d → s' k j = s k j) ∧ ∀ j, j < d → s' 46 j = s 46 j := by
  obtain ⟨s1, s2, s3, s4, s5, s6, s7, s8, s9, s10, s11⟩ := id hS
  intro m
  induction m with
  | zero =>
    intro d f v a pw ct sv s B hd hf hv hP hc hE h48 h46 hB hk
    obtain ⟨f, rfl⟩ : ∃ z, f = z + 1 := ⟨f - 1, by omega⟩
    have e : d = M := by omega
    subst e
    obtain ⟨s', a1, a2, a3⟩ := judge_eq (w := pw) s3.2 hM5 hP J hE h48 hc h46 hB
    refine ⟨s', ?_, ?_, fun k j h => by rw [a3 k j (by omega) (by omega)]; exact hk k j h, fun k j h1 h2 => a3 k j (by omega) (by omega), fun j hj => a3 46 j (by decide) (by decide)⟩
    · show gX4_extend (fX4_extend f) 22 (nI d) (nI d) s J = _
      unfold gX4_extend BX4_extend_11
      rw [if_pos (nI_le (by omega) (by omega)), gd_t (inb_nI (show d < 6 by omega) (by decide)), nI_clamp (by omega), show 47 + 1 + 2 * d = 48 + 2 * d from rfl, bnd_t a1]
    · rw [Nat.pow_zero, Nat.mul_one]
      exact a2
  | succ m ih =>
    intro d f v a pw ct sv s B hd hf hv hP hc hE h48 h46 hB hk
    obtain ⟨f, rfl⟩ : ∃ z, f = z + 1 := ⟨f - 1, by omega⟩
    have main : ∃ s', LX4_extend_43 (fX4_extend f) 128 22 (nI d) (nI M) (48 + 2 * d) (50 + 2 * d) 0 s J = some ((), s', J) ∧ BRl s' (fd (gW σ (m + 1) v ct sv a d) (pw * 6 ^ (m + 1)) (σ 0 3 * 6 ^ m) B) M ∧ (∀ k j, k < 44 → s' k j = I k j) ∧ (∀ k j, 48 ≤ k → k ≤ 49 + 2 * d → s' k j = s k j) ∧ ∀ j, j < d → s' 46 j = s 46 j := by
      refine sl (fun g x (z : aI) => LX4_extend_43 (fX4_extend f) g 22 (nI d) (nI M) (48 + 2 * d) (50 + 2 * d) (nI x) z J) (σ 0 3)
        (fun x z => BRl z (fd (gW σ (m + 1) v ct sv a d) (pw * 6 ^ (m + 1)) (x * 6 ^ m) B) M ∧ (∀ k j, k < 44 → z k j = I k j) ∧ (∀ k j, 48 ≤ k → k ≤ 49 + 2 * d → z k j = s k j) ∧ ∀ j, j < d → z 46 j = s 46 j)
        (fun y => ∃ s', y = some ((), s', J) ∧ BRl s' (fd (gW σ (m + 1) v ct sv a d) (pw * 6 ^ (m + 1)) (σ 0 3 * 6 ^ m) B) M ∧ (∀ k j, k < 44 → s' k j = I k j) ∧ (∀ k j, 48 ≤ k → k ≤ 49 + 2 * d → s' k j = s k j) ∧ ∀ j, j < d → s' 46 j = s 46 j)
        ?_ ?_ (f0 := 128) (by omega) s ⟨by rw [Nat.zero_mul]; exact hB, hk, fun _ _ _ _ => rfl, fun _ _ => rfl⟩
      · rintro g x z hx ⟨g1, g2, g3, g4⟩
        have hx6 : x < 6 := by omega
        have nextB : ∀ B', fd (gW σ (m + 1) v ct sv a d) (pw * 6 ^ (m + 1)) ((x + 1) * 6 ^ m) B' = fd (gW σ (m + 1) v ct sv a d) ((6 * pw + x) * 6 ^ m) (6 ^ m) (fd (gW σ (m + 1) v ct sv a d) (pw * 6 ^ (m + 1)) (x * 6 ^ m) B') := fun B' => by
          rw [Nat.add_mul, Nat.one_mul, fd_add, blk0]
        have he5 : z (48 + 2 * d) 0 = nI v := by rw [g3 _ _ (by omega) (by omega)]; exact hE.1
        have hb6 : z 6 v = nI (msk (nxt (σ 10) v) (σ 0 3)) := by rw [g2 6 v (by decide)]; exact (hC.2.2.2.2.2.2.2 v hv).1
        show ∃ s', HX4_extend_43 _ _ _ _ _ _ _ _ _ _ = _ ∧ _
        unfold HX4_extend_43 BX4_extend_105
        rw [g2 3 0 (by decide), hC.2.2.1.1, if_neg (nI_ge hx (by omega)), he5, gd_t (inb_nI (show v < 6 by omega) (by decide)), nI_clamp (show v < 2 ^ 31 by omega), hb6, bnd_t (hasMsk (by omega) hx z J), nI_1]
        by_cases hn : nxt (σ 10) v x = true
        · rw [if_pos hn, if_neg ne10, gd_t (inb_nI (show d < 5 by omega) (by decide)), nI_clamp (show d < 2 ^ 31 by omega)]
          obtain ⟨z1, d1, d2, f1, f2, f3, f4⟩ := copy0 (e0 := 50 + 2 * d) (e1 := 48 + 2 * d) (by omega) (by omega) (by omega) (pI z 46 d (nI x)) J
          have r1 : ∀ k j, k ≠ 46 → k ≠ 50 + 2 * d → k ≠ 51 + 2 * d → z1 k j = z k j := fun k j k1 k2 k3 => by rw [d2 k j k2 (by omega), pI_ro _ k1]
          have hE1 : Ev z1 (50 + 2 * d) v (σ 0 7 + d) sv ct (σ 0 5) := by
            refine ⟨?_, ?_, ?_, fun j hj => ?_⟩
            · rw [f1, pI_ro _ (by omega), g3 _ _ (by omega) (by omega)]; exact hE.1
            · rw [f2, pI_ro _ (by omega), g3 _ _ (by omega) (by omega)]; exact hE.2.1
            · rw [f3, pI_ro _ (by omega), g3 _ _ (by omega) (by omega)]; exact hE.2.2.1
            · rw [f4 j hj, pI_ro _ (by omega), g3 _ _ (by omega) (by omega)]; exact hE.2.2.2 j hj
          obtain ⟨z2, p1, p2, p3⟩ := pass_eq (e := 50 + 2 * d) (x := x) (by omega) hP s3.2 hx6 (by omega) z1 J hE1 (by rw [r1 22 0 (by decide) (by omega) (by omega), g2 22 0 (by decide)]; exact hC.2.2.2.1.1) (fun j hj => by
            obtain ⟨q1, q2, q3, q4⟩ := hC.2.2.2.1.2 j (by omega)
            rw [r1 23 j (by decide) (by omega) (by omega), r1 24 j (by decide) (by omega) (by omega), r1 25 j (by decide) (by omega) (by omega), g2 23 j (by decide), g2 24 j (by decide), g2 25 j (by decide)]
            exact ⟨q1, q2, q3⟩)
          have r2 : ∀ k j, k ≠ 46 → k ≠ 50 + 2 * d → k ≠ 51 + 2 * d → z2 k j = z k j := fun k j k1 k2 k3 => by rw [p3 k j k2 (by omega)]; exact r1 k j k1 k2 k3
          have r46 : ∀ j, z2 46 j = if j = d then nI x else z 46 j := fun j => by
            rw [p3 46 j (by omega) (by omega), d2 46 j (by omega) (by omega), pI_g]
            by_cases y : j = d
            · rw [if_pos ⟨rfl, y⟩, if_pos y]
            · rw [if_neg (fun u => y u.2), if_neg y]
          obtain ⟨z3, e1, e2, e3, e4, e5⟩ := ih (d + 1) f x (a + cntB (nwA x (σ 0 7 + d + 1) (σ 4) (σ 5) (σ 6) ct sv) (σ 0 5)) (6 * pw + x) (ctA x (σ 0 7 + d + 1) (σ 4) (σ 5) (σ 6) ct sv) (svA x (σ 0 7 + d + 1) (σ 4) (σ 5) (σ 6) ct sv) z2 (fd (gW σ (m + 1) v ct sv a d) (pw * 6 ^ (m + 1)) (x * 6 ^ m) B) (by omega) (by omega) hx hP.next (by rw [cnt_svA hP, hc]; omega) (by rw [show 48 + 2 * (d + 1) = 50 + 2 * d by omega]; exact p2) (by rw [r2 48 2 (by decide) (by omega) (by omega), g3 48 2 (by omega) (by omega)]; exact h48) (fun j hj => by
            rw [r46]
            by_cases y : j = d
            · rw [if_pos y, y, show d + 1 - 1 - d = 0 by omega, Nat.pow_zero, Nat.div_one]
              exact congrArg nI (by omega)
            · rw [if_neg y, g4 j (by omega), h46 j (by omega)]
              rcases pref (pw := pw) (x := x) (d := d) (j := j) (by omega) with q | q
              · rw [q]
              · omega) (g1.keep (fun k j h => r2 k j (by omega) (by omega) (by omega))) (fun k j h => by rw [r2 k j (by omega) (by omega) (by omega)]; exact g2 k j h)
          rw [bnd_t d1, bnd_t p1, nI_1, bnd_t e1]
          refine ⟨z3, rfl, ?_, e3, fun k j h1 h2 => by rw [e4 k j h1 (by omega), r2 k j (by omega) (by omega) (by omega)]; exact g3 k j h1 h2, fun j hj => by rw [e5 j (by omega), r46, if_neg (by omega)]; exact g4 j hj⟩
          rw [nextB]
          rw [fd_congr (g := gW σ (m + 1) v ct sv a d) (g' := gW σ m x (ctA x (σ 0 7 + d + 1) (σ 4) (σ 5) (σ 6) ct sv) (svA x (σ 0 7 + d + 1) (σ 4) (σ 5) (σ 6) ct sv) (a + cntB (nwA x (σ 0 7 + d + 1) (σ 4) (σ 5) (σ 6) ct sv) (σ 0 5)) (d + 1)) _ (fun i hi B' => by
            have hw := blk (pw := pw) (m := m) (i := i) hx6 hi
            unfold gW
            show upB B' _ (if ((6 * pw + x) * 6 ^ m + i) / 6 ^ m % 6 < σ 0 3 ∧ nxt (σ 10) v (((6 * pw + x) * 6 ^ m + i) / 6 ^ m % 6) = true then _ else 0) = _
            rw [hw, if_pos ⟨hx, hn⟩])]
          exact e2
        · rw [if_neg hn, if_pos rfl]
          refine ⟨z, rfl, ?_, g2, g3, g4⟩
          rw [nextB, fd_id _ (fun i hi B' => by
            have hw := blk (pw := pw) (m := m) (i := i) hx6 hi
            unfold gW
            show upB B' _ (if ((6 * pw + x) * 6 ^ m + i) / 6 ^ m % 6 < σ 0 3 ∧ nxt (σ 10) v (((6 * pw + x) * 6 ^ m + i) / 6 ^ m % 6) = true then _ else 0) = _
            rw [hw, if_neg (fun u => hn u.2), up0])]
          exact g1
      · rintro g z ⟨g1, g2, g3, g4⟩
        refine ⟨z, ?_, g1, g2, g3, g4⟩
        show HX4_extend_43 _ _ _ _ _ _ _ _ _ _ = _
        unfold HX4_extend_43
        rw [g2 3 0 (by decide), hC.2.2.1.1, if_pos (nI_le (by omega) (by omega))]
    obtain ⟨s', a1, a2, a3, a4, a5⟩ := main
    refine ⟨s', ?_, ?_, a3, a4, a5⟩
    · show gX4_extend (fX4_extend f) 22 (nI d) (nI M) s J = _
      unfold gX4_extend
      rw [if_neg (nI_ge (by omega) (by omega)), if_pos (show nI d < 5 from nI_lt (b := 5) (by omega) (by decide)), gd_t (inb_nI (show d < 6 by omega) (by decide)), nI_1, gd_t (inb_nI (show d + 1 < 6 by omega) (by decide)), nI_clamp (by omega), nI_clamp (by omega), show 47 + 1 + 2 * d = 48 + 2 * d from rfl, show 47 + 1 + 2 * (d + 1) = 50 + 2 * d by omega]
      exact a1
    · have h6 : 6 ^ (m + 1) = σ 0 3 * 6 ^ m + (6 - σ 0 3) * 6 ^ m := by
        rw [← Nat.add_mul, show σ 0 3 + (6 - σ 0 3) = 6 by omega, Nat.pow_succ, Nat.mul_comm]
      rw [h6, fd_add, fd_id _ (fun i hi B' => by
        have h0 : 0 < 6 ^ m := Nat.pow_pos (by decide)
        have hq : ((pw * (σ 0 3 * 6 ^ m + (6 - σ 0 3) * 6 ^ m) + σ 0 3 * 6 ^ m) + i) / 6 ^ m = 6 * pw + σ 0 3 + i / 6 ^ m := by
          rw [← h6, blk0, Nat.add_comm, Nat.add_mul_div_right _ _ h0, Nat.add_comm]
        have hi6 : i / 6 ^ m < 6 - σ 0 3 := (Nat.div_lt_iff_lt_mul h0).mpr hi
        obtain ⟨t, ht⟩ : ∃ t, t = i / 6 ^ m := ⟨_, rfl⟩
        rw [← ht] at hq hi6
        unfold gW
        show upB B' _ (if (pw * (σ 0 3 * 6 ^ m + (6 - σ 0 3) * 6 ^ m) + σ 0 3 * 6 ^ m + i) / 6 ^ m % 6 < σ 0 3 ∧ nxt (σ 10) v ((pw * (σ 0 3 * 6 ^ m + (6 - σ 0 3) * 6 ^ m) + σ 0 3 * 6 ^ m + i) / 6 ^ m % 6) = true then _ else 0) = _
        rw [hq, if_neg (fun u => by omega), up0])]
      rw [← h6]
      exact a2
