theorem Good.mono {t : Nat} {σ : sN} (h : Good t σ) : Good (t + 1) σ := by
  obtain ⟨h1, h2, h3⟩ := h
  exact ⟨h1, by omega, h3⟩
theorem b_blank : ∀ (t : Nat) (Ic : aI) (Jc : aJ) (Im : aI) (Jm : aJ), t < 64 → Rel t Ic Jc Im Jm → ∃ (r : Int32) (Ic' : aI) (Jc' : aJ) (Im' : aI) (Jm' : aJ), fX7_blank Ic Jc = some (r, Ic', Jc') ∧ fX8_blank Im Jm = some (r, Im', Jm') ∧ Rel (t + 1) Ic' Jc' Im' Jm' := by
  intro t Ic Jc Im Jm _ hR
  obtain ⟨σ, hG, hM, hC⟩ := hR
  refine ⟨nI (σ 0 1), pI Ic 1 1 0, Jc, pI Im 0 1 0, Jm, by unfold fX7_blank; rw [hC.1.1], by unfold fX8_blank; rw [hM.g 0 1 rfl], sup σ 0 1 0, ?_, hM.up 0 1 0 (by omega), ?_⟩
  · obtain ⟨⟨g1, g2⟩, g3, g4, g5, g6⟩ := hG.mono
    refine ⟨⟨by simp [sup], fun j hj => absurd hj (by simp [sup])⟩, by simpa [sup] using g3, by simpa [sup] using g4, by simpa [sup] using g5, ?_⟩
    rcases g6 with g6 | ⟨g6, g7⟩
    · left; simpa [sup] using g6
    · exact Or.inr ⟨by simpa [sup] using g6, by simpa [Sub, sup, sup_row] using g7⟩
  · have hk : ∀ k j, k ≠ 1 → pI Ic 1 1 0 k j = Ic k j := fun k j h => by rw [pI_ro _ h]
    obtain ⟨c1, c2, c3, c4, c5, c6, c7, c8⟩ := hC
    refine ⟨⟨by simp [pI_g, sup]; rfl, by simpa [pI_g, sup] using c1.2⟩, by simpa [pI_g, sup] using c2, by simpa [pI_g, sup, sup_row] using c3, by simpa [pI_g, sup, sup_row] using c4, ?_, by simpa [pI_g, sup, sup_row] using c6, by simpa [Ev, pI_g, sup, sup_row] using c7, ?_⟩
    · simpa [Ev, pI_g, sup, sup_row] using c5
    · have hc := RCt.keep (I' := pI Ic 1 1 0) c8 hG.p.1 (fun k j h1 h2 => hk k j (by omega))
      simpa [RCt, sup, sup_row] using hc
theorem b_forget : ∀ (t : Nat) (Ic : aI) (Jc : aJ) (Im : aI) (Jm : aJ), t < 64 → Rel t Ic Jc Im Jm → ∃ (r : Int32) (Ic' : aI) (Jc' : aJ) (Im' : aI) (Jm' : aJ), fX7_forget Ic Jc = some (r, Ic', Jc') ∧ fX8_forget Im Jm = some (r, Im', Jm') ∧ Rel (t + 1) Ic' Jc' Im' Jm' := by
  intro t Ic Jc Im Jm _ hR
  obtain ⟨σ, hG, hM, hC⟩ := hR
  refine ⟨nI (σ 0 27), pI Ic 38 0 0, Jc, pI Im 0 27 0, Jm, by unfold fX7_forget; rw [hC.2.2.2.2.2.1.1], by unfold fX8_forget; rw [hM.g 0 27 rfl], sup σ 0 27 0, ?_, hM.up 0 27 0 (by omega), ?_⟩
  · obtain ⟨g1, g3, g4, g5, g6⟩ := hG.mono
    refine ⟨by simpa [sup, sup_row] using g1, by simpa [sup] using g3, by simpa [sup] using g4, by simpa [sup] using g5, ?_⟩
    rcases g6 with g6 | ⟨g6, g7⟩
    · left; simp [sup]; omega
    · refine Or.inr ⟨by simpa [sup] using g6, ?_⟩
      obtain ⟨s1, s2, s3, s4, s5, s6, s7, s8, s9, s10, s11⟩ := g7
      refine ⟨by simpa [sup] using s1, by simpa [sup] using s2, by simpa [sup] using s3, by simpa [sup] using s4, by simpa [sup] using s5, by simpa [sup, sup_row] using s6, by simpa [sup, sup_row] using s7, by simpa [sup, sup_row] using s8, by simpa [sup, sup_row] using s9, ⟨by simp [sup], fun j hj => absurd hj (by simp [sup])⟩, by simpa [sup, sup_row] using s11⟩
  · have hk : ∀ k j, k ≠ 38 → pI Ic 38 0 0 k j = Ic k j := fun k j h => by rw [pI_ro _ h]
    obtain ⟨c1, c2, c3, c4, c5, c6, c7, c8⟩ := hC
    refine ⟨by simpa [pI_g, sup, sup_row] using c1, by simpa [pI_g, sup] using c2, by simpa [pI_g, sup, sup_row] using c3, by simpa [pI_g, sup, sup_row] using c4, by simpa [Ev, pI_g, sup, sup_row] using c5, ⟨by simp [pI_g, sup]; rfl, by simpa [pI_g, sup, sup_row] using c6.2⟩, by simpa [Ev, pI_g, sup, sup_row] using c7, ?_⟩
    have hc := RCt.keep (I' := pI Ic 38 0 0) c8 hG.p.1 (fun k j h1 h2 => hk k j (by omega))
    simpa [RCt, sup, sup_row] using hc
theorem b_stand : ∀ (t : Nat) (Ic : aI) (Jc : aJ) (Im : aI) (Jm : aJ), t < 64 → Rel t Ic Jc Im Jm → ∀ x1 : Int32, ∃ (r : Int32) (Ic' : aI) (Jc' : aJ) (Im' : aI) (Jm' : aJ), fX7_stand x1 Ic Jc = some (r, Ic', Jc') ∧ fX8_stand x1 Im Jm = some (r, Im', Jm') ∧ Rel (t + 1) Ic' Jc' Im' Jm' := by
  intro t Ic Jc Im Jm _ hR x1
  obtain ⟨σ, hG, hM, hC⟩ := id hR
  have hR1 := Rel_skip _ _ _ _ _ hR
  have hp := hG.p
  unfold fX7_stand fX8_stand
  simp only [isC7, isC8, bnd]
  rw [hC.2.2.1.1, hM.g 0 3 rfl]
  rcases ix (p := σ 0 3) (by omega) x1 with h | ⟨a, ha, rfl, h⟩
  · rw [h, if_pos rfl, if_pos rfl]
    exact ⟨-101, Ic, Jc, Im, Jm, rfl, rfl, hR1⟩
  · rw [h, if_neg ne10, if_neg ne10]
    refine ⟨nI (σ 0 6), pI Ic 32 0 (nI a), Jc, pI Im 0 6 (nI a), Jm, by rw [hC.2.2.2.2.1.1], by rw [hM.g 0 6 rfl], sup σ 0 6 a, ?_, hM.up 0 6 a (by omega), ?_⟩
    · obtain ⟨g1, g3, g4, g5, g6⟩ := hG.mono
      refine ⟨by simpa [sup, sup_row] using g1, by simpa [sup] using g3, by simpa [sup] using g4, by simpa [sup] using g5, ?_⟩
      rcases g6 with g6 | ⟨g6, g7⟩
      · omega
      · refine Or.inr ⟨by simpa [sup] using g6, ?_⟩
        obtain ⟨s1, s2, s3, s4, s5, s6, s7, s8, s9, s10, s11⟩ := g7
        exact ⟨by simpa [sup] using s1, by simpa [sup] using s2, by simpa [sup] using s3, by simpa [sup] using ha, by simpa [sup] using s5, by simpa [sup, sup_row] using s6, by simpa [sup, sup_row] using s7, by simpa [sup, sup_row] using s8, by simpa [sup, sup_row] using s9, by simpa [sup, sup_row] using s10, by simpa [sup, sup_row] using s11⟩
    · have hk : ∀ k j, k ≠ 32 → pI Ic 32 0 (nI a) k j = Ic k j := fun k j h => by rw [pI_ro _ h]
      obtain ⟨c1, c2, c3, c4, c5, c6, c7, c8⟩ := hC
      refine ⟨by simpa [pI_g, sup, sup_row] using c1, by simpa [pI_g, sup] using c2, by simpa [pI_g, sup, sup_row] using c3, by simpa [pI_g, sup, sup_row] using c4, ⟨by simp [pI_g, sup], by simpa [pI_g, sup] using c5.2.1, by simpa [pI_g, sup, sup_row] using c5.2.2.1, by simpa [pI_g, sup, sup_row] using c5.2.2.2⟩, by simpa [pI_g, sup, sup_row] using c6, by simpa [Ev, pI_g, sup, sup_row] using c7, ?_⟩
      have hc := RCt.keep (I' := pI Ic 32 0 (nI a)) c8 hG.p.1 (fun k j h1 h2 => hk k j (by omega))
      simpa [RCt, sup, sup_row] using hc
