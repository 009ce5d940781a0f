theorem b_round : ∀ (t : Nat) (Ic : aI) (Jc : aJ) (Im : aI) (Jm : aJ), t < 64 → Rel t Ic Jc Im Jm → ∀ x1 x2 : Int32, ∃ (r : Int32) (Ic' : aI) (Jc' : aJ) (Im' : aI) (Jm' : aJ), fX7_round x1 x2 Ic Jc = some (r, Ic', Jc') ∧ fX8_round x1 x2 Im Jm = some (r, Im', Jm') ∧ Rel (t + 1) Ic' Jc' Im' Jm' := by
  intro t Ic Jc Im Jm ht hR x1 x2
  obtain ⟨σ, hG, hM, hC⟩ := id hR
  have hR1 := Rel_skip _ _ _ _ _ hR
  have hp := hG.p
  unfold fX7_round fX8_round BX7_round_31 BX8_round_36
  rw [bnd_t (isWithin_eq _ _ _ _ _), bnd_t (isWithin_eq _ _ _ _ _), bnd_t (in_rg x1 1 5 1 5 rfl rfl _ _)]
  by_cases hx1 : ¬ ((1 : Int32) ≤ x1 ∧ x1 ≤ 5)
  · rw [rg_f hx1, if_pos rfl, if_pos rfl]
    exact ⟨-102, Ic, Jc, Im, Jm, rfl, rfl, hR1⟩
  have hx1 := Decidable.of_not_not hx1
  obtain ⟨M, hM1, hM5, rfl⟩ := (rg_c (lo := 1) (hi := 5) (by decide) x1 (by decide)).mp hx1
  rw [rg_t hx1, if_neg ne10, if_neg ne10, bnd_t (isWithin_eq _ _ _ _ _), bnd_t (in_rg x2 0 1 0 1 rfl rfl _ _)]
  have main : (x2 = 0 ∨ x2 = 1 ∨ ∃ k, k ≤ 4 ∧ x2 = nI (10 + k)) → ∃ (r : Int32) (Ic' : aI) (Jc' : aJ) (Im' : aI) (Jm' : aJ), BX7_round_34 (nI M) x2 (rg x2 10 14) Ic Jc = some (r, Ic', Jc') ∧ BX8_round_39 (nI M) x2 Im Jm = some (r, Im', Jm') ∧ Rel (t + 1) Ic' Jc' Im' Jm' := by
    intro hx2
    unfold BX7_round_34 BX8_round_39 BX7_round_50 BX8_round_55 BX7_round_113 BX7_round_135
    rw [bnd_t (hasSub_eq _ _), bnd_t (lacks_eq _ _)]
    rcases hG.has (by omega) hM hC with ⟨z1, z2, z3⟩ | ⟨h8, hS, z2, z3⟩
    · rw [if_pos z2, if_pos z3, if_pos rfl, if_neg ne10]
      exact ⟨-103, Ic, Jc, Im, Jm, rfl, rfl, hR1⟩
    rw [if_neg z2, if_neg z3, if_neg ne10, if_pos rfl, hC.2.1.2, hM.g 0 24 rfl]
    have h24 := hG.2.2.1
    by_cases h20 : σ 0 24 = 20
    · rw [if_neg (show ¬ nI (σ 0 24) < 20 from nI_nlt (b := 20) (by omega) (by omega)), if_pos (show nI (σ 0 24) = 20 by rw [h20]; rfl)]
      exact ⟨-103, Ic, Jc, Im, Jm, rfl, rfl, hR1⟩
    rw [if_pos (show nI (σ 0 24) < 20 from nI_lt (b := 20) (by omega) (by decide)), if_neg (show ¬ nI (σ 0 24) = 20 from fun y => h20 ((nI_eq (b := 20) (by omega) (by decide)).mp y)), nI_1]
    obtain ⟨τ, hτ⟩ : ∃ τ : sN, τ = sup σ 0 24 (σ 0 24 + 1) := ⟨_, rfl⟩
    have hSt : Sub τ := by rw [hτ]; simpa [Sub, sup, sup_row] using hS
    have hMt : RM τ (pI Im 0 24 (nI (σ 0 24 + 1))) := by rw [hτ]; exact hM.up 0 24 _ (by omega)
    have hCt : RC τ (pI Ic 0 13 (nI (σ 0 24 + 1))) := by
      rw [hτ]
      obtain ⟨c1, c2, c3, c4, c5, c6, c7, c8⟩ := id hC
      have hk : ∀ k j, k ≠ 0 → pI Ic 0 13 (nI (σ 0 24 + 1)) k j = Ic k j := fun k j h => by rw [pI_ro _ h]
      refine ⟨by simpa [pI_g, sup, sup_row] using c1, ⟨by simpa [pI_g, sup] using c2.1, by simp [pI_g, sup]⟩, by simpa [pI_g, sup, sup_row] using c3, by simpa [pI_g, sup, sup_row] using c4, by simpa [Ev, pI_g, sup, sup_row] using c5, by simpa [pI_g, sup, sup_row] using c6, by simpa [Ev, pI_g, sup, sup_row] using c7, ?_⟩
      have hc := RCt.keep (I' := pI Ic 0 13 (nI (σ 0 24 + 1))) c8 hG.p.1 (fun k j h1 h2 => hk k j (by omega))
      simpa [RCt, sup, sup_row] using hc
    have hGt : Good (t + 1) τ := by
      rw [hτ]
      obtain ⟨g1, g3, g4, g5, g6⟩ := hG.mono
      refine ⟨by simpa [sup, sup_row] using g1, by simpa [sup] using g3, by simp [sup]; omega, by simpa [sup, sup_row] using g5, Or.inr ⟨by simpa [sup] using h8, by rw [← hτ]; exact hSt⟩⟩
    obtain ⟨I1, a1, a2, a3⟩ := run7_eq hSt hCt Jc hM5
    obtain ⟨I2, b1, b2⟩ := roundOf_eq hSt hMt Jm hM1 hM5 x2 hx2 (bR_pos hSt M)
    rw [bnd_t a1, bnd_t b1]
    have hRn : Rel (t + 1) I1 Jc I2 Jm := by
      refine ⟨τ, hGt, hMt.keep (fun k j hr => b2 k j (fun z => by subst z; simp [rs] at hr) (fun z => by subst z; simp [rs] at hr)) (b2 0 30 (by decide) (by decide)), hCt.keep hSt.1.2 (fun k j hr => a3 k j ?_)⟩
      apply Decidable.byContradiction
      intro hk
      match k, hk with
      | k + 44, _ => simp [rc] at hr
      | 0, h | 1, h | 2, h | 3, h | 4, h | 5, h => omega
    obtain ⟨e1, e2, e3⟩ := a2.2.1 (bR_pos hSt M)
    rcases hx2 with rfl | rfl | ⟨k, hk4, rfl⟩
    · rw [rg_f (show ¬ ((10 : Int32) ≤ 0 ∧ (0 : Int32) ≤ 14) by decide), if_pos rfl, if_pos rfl, if_pos rfl, e1]
      exact ⟨_, _, _, _, _, rfl, rfl, hRn⟩
    · rw [rg_f (show ¬ ((10 : Int32) ≤ 1 ∧ (1 : Int32) ≤ 14) by decide), if_pos rfl, if_neg ne10, if_neg ne10, if_pos rfl, e2]
      exact ⟨_, _, _, _, _, rfl, rfl, hRn⟩
    · have q0 : ¬ nI (10 + k) = 0 := nI_ne0 (by omega) (by omega)
      have q1 : ¬ nI (10 + k) = 1 := fun z => by
        have := (nI_eq (b := 1) (by omega) (by decide)).mp z
        omega
      rw [rg_t (show (10 : Int32) ≤ nI (10 + k) ∧ nI (10 + k) ≤ 14 from ⟨nI_le (a := 10) (by omega) (by omega), nI_le (b := 14) (by omega) (by decide)⟩), if_neg ne10, if_neg q0, if_neg q1, show nI (10 + k) - 10 = nI k by
        rw [show (10 : Int32) = nI 10 from rfl, pk_sub (by omega), Nat.add_sub_cancel_left], nI_clamp (by omega)]
      by_cases z : M ≤ k
      · rw [if_pos (nI_le z (by omega)), if_pos (nI_le z (by omega))]
        exact ⟨_, _, _, _, _, rfl, rfl, hRn⟩
      · rw [if_neg (nI_ge (by omega) (by omega)), if_neg (nI_ge (by omega) (by omega)), gd_t (inb_nI (show k < 5 by omega) (by decide)), e3 k (by omega)]
        exact ⟨_, _, _, _, _, rfl, rfl, hRn⟩
  rcases ix2 x2 1 (by decide) with h2 | ⟨w, hw, rfl, h2⟩
  · rw [show rg x2 0 1 = 0 from h2, if_pos rfl, if_pos rfl, bnd_t (in_rg x2 10 14 10 14 rfl rfl _ _)]
    by_cases h14 : (10 : Int32) ≤ x2 ∧ x2 ≤ 14
    · obtain ⟨j, j1, j2, rfl⟩ := (rg_c (lo := 10) (hi := 14) (by decide) x2 (by decide)).mp h14
      have := main (Or.inr (Or.inr ⟨j - 10, by omega, by rw [show 10 + (j - 10) = j by omega]⟩))
      rw [rg_t h14] at this ⊢
      rw [if_neg ne10, if_neg ne10]
      exact this
    · rw [rg_f h14, if_pos rfl, if_pos rfl]
      exact ⟨-102, Ic, Jc, Im, Jm, rfl, rfl, hR1⟩
  · rw [show rg (nI w) 0 1 = 1 from h2, if_neg ne10, if_neg ne10]
    exact main (by
      rcases (show w = 0 ∨ w = 1 by omega) with rfl | rfl
      · exact Or.inl rfl
      · exact Or.inr (Or.inl rfl))
