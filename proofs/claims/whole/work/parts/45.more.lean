theorem Good.rest {t : Nat} {σ σ' : sN} (hG : Good t σ) (h1 : σ' 0 1 = σ 0 1) (h2 : σ' 1 = σ 1) (h3 : σ' 0 8 = σ 0 8) (h4 : σ' 0 24 = σ 0 24) (h5 : σ' 0 30 ≤ σ 0 8 + 1 ∧ ∀ j, j < 6 → σ' 19 (2 * j + 1) ≤ 1 ∧ σ' 25 (2 * j + 1) ≤ 1) (h6 : 1 ≤ σ 0 8) (h7 : Sub σ') : Good (t + 1) σ' := by
  obtain ⟨g1, g3, g4, g5, g6⟩ := hG
  exact ⟨by rw [h1, h2]; exact g1, by rw [h3]; omega, by rw [h4]; exact g4, by rw [h3]; exact h5, Or.inr ⟨by rw [h3]; exact h6, h7⟩⟩
theorem nar01 {x : Int32} (h : x = 0 ∨ x = 1) : vp_nar .boolean x = x := by rcases h with rfl | rfl <;> rfl
theorem b_see : ∀ (t : Nat) (Ic : aI) (Jc : aJ) (Im : aI) (Jm : aJ), t < 64 → Rel t Ic Jc Im Jm → ∀ x1 x2 : Int32, (x2 = 0 ∨ x2 = 1) → ∃ (r : Int32) (Ic' : aI) (Jc' : aJ) (Im' : aI) (Jm' : aJ), fX7_see x1 x2 Ic Jc = some (r, Ic', Jc') ∧ fX8_see x1 x2 Im Jm = some (r, Im', Jm') ∧ Rel (t + 1) Ic' Jc' Im' Jm' := by
  intro t Ic Jc Im Jm _ hR x1 x2 hx2
  obtain ⟨σ, hG, hM, hC⟩ := id hR
  have hR1 := Rel_skip _ _ _ _ _ hR
  have hp := hG.p
  unfold fX7_see fX8_see BX8_see_56
  simp only [isP7, isP8, bnd]
  rw [hC.2.2.2.1.1, hM.g 0 5 rfl]
  rcases ix (p := σ 0 5) (by omega) x1 with h | ⟨a, ha, rfl, h⟩
  · rw [h, if_pos rfl, if_pos rfl]
    exact ⟨-101, Ic, Jc, Im, Jm, rfl, rfl, hR1⟩
  · rw [h, if_neg ne10, if_neg ne10]
    have e1 := hC.2.2.2.2.2.1.1
    have e2 := hM.g 0 27 rfl
    obtain ⟨h8, hS⟩ := hG.sub (Or.inr (Or.inl (by omega)))
    by_cases hf : σ 0 27 = 6
    · refine ⟨-104, Ic, Jc, Im, Jm, ?_, ?_, hR1⟩
      · rw [e1, hf]; rfl
      · rw [e2, hf]; rfl
    · have hlt : σ 0 27 < 6 := by omega
      obtain ⟨hh, hhx, hh1⟩ : ∃ hh : Nat, x2 = nI hh ∧ (hh = 0 ∨ hh = 1) := by
        rcases hx2 with rfl | rfl
        · exact ⟨0, rfl, Or.inl rfl⟩
        · exact ⟨1, rfl, Or.inr rfl⟩
      have c1 : nI (σ 0 27) < 6 := nI_lt (a := σ 0 27) (b := 6) hlt (by decide)
      have c2 : ¬ nI (σ 0 27) = 6 := fun q => hf ((nI_eq (a := σ 0 27) (b := 6) (by omega) (by decide)).mp q)
      have c3 : inb (nI (σ 0 27)) 6 = true := inb_nI hlt (by decide)
      have c4 : (nI (σ 0 27)).toNatClampNeg = σ 0 27 := nI_clamp (by omega)
      have d1 : 2 * nI (σ 0 27) = nI (2 * σ 0 27) := pk_mul 2 _
      have d2 : nI (2 * σ 0 27) + 1 = nI (2 * σ 0 27 + 1) := nI_1 _
      have d3 : inb (nI (2 * σ 0 27)) 12 = true := inb_nI (by omega) (by decide)
      have d4 : inb (nI (2 * σ 0 27 + 1)) 12 = true := inb_nI (by omega) (by decide)
      have d5 : (nI (2 * σ 0 27)).toNatClampNeg = 2 * σ 0 27 := nI_clamp (by omega)
      have d6 : (nI (2 * σ 0 27 + 1)).toNatClampNeg = 2 * σ 0 27 + 1 := nI_clamp (by omega)
      refine ⟨nI (σ 0 27 + 1), pI (pI (pI Ic 39 (σ 0 27) (nI a)) 40 (σ 0 27) (nI hh)) 38 0 (nI (σ 0 27 + 1)), Jc, pI (pI (pI Im 19 (2 * σ 0 27) (nI a)) 19 (2 * σ 0 27 + 1) (nI hh)) 0 27 (nI (σ 0 27 + 1)), Jm, ?_, ?_, ?_⟩
      · rw [e1, if_pos c1, gd_t c3, c4]
        have f1 : (pI Ic 39 (σ 0 27) (nI a)) 38 0 = nI (σ 0 27) := by rw [pI_g, if_neg (by omega)]; exact e1
        rw [f1, gd_t c3, c4, nar01 hx2, hhx]
        simp [pI_g, e1, nI_1]
      · rw [e2, if_neg c2, d1, gd_t d3, d5]
        have f1 : (pI Im 19 (2 * σ 0 27) (nI a)) 0 27 = nI (σ 0 27) := by rw [pI_g, if_neg (by omega)]; exact e2
        rw [f1, d1, d2, gd_t d4, d6, hhx]
        rcases hh1 with rfl | rfl
        · rw [if_pos (show nI 0 = 0 from rfl), show (0 : Int32) = nI 0 from rfl]
          simp [pI_g, e2, nI_1]
        · rw [if_neg (show ¬ nI 1 = 0 by decide), gd_t d4, show (1 : Int32) = nI 1 from rfl]
          rw [show (1 : Int32) = nI 1 from rfl] at *
          simp [pI_g, e2, nI_add]
      · refine ⟨sup (sup (sup σ 19 (2 * σ 0 27) a) 19 (2 * σ 0 27 + 1) hh) 0 27 (σ 0 27 + 1), ?_, ((hM.up 19 (2 * σ 0 27) a (by omega)).up 19 (2 * σ 0 27 + 1) hh (by omega)).up 0 27 (σ 0 27 + 1) (by omega), ?_⟩
        · refine hG.rest (by simp [sup]) (by simp [sup_row]) (by simp [sup]) (by simp [sup]) ⟨by simp [sup]; exact hG.2.2.2.1.1, fun j hj => by
            have := hG.2.2.2.1.2 j hj
            simp [sup]
            by_cases n1 : j = σ 0 27
            · simp [n1]; rw [← n1]; omega
            · have n3 : ¬ 2 * j + 1 = 2 * σ 0 27 := by omega
              have n2 : ¬ 2 * j = 2 * σ 0 27 := by omega
              simp [n2, n3]; exact this⟩ h8 ?_
          obtain ⟨s1, s2, s3, s4, s5, s6, s7, s8, s9, s10, s11⟩ := hS
          refine ⟨by simpa [sup] using s1, by simpa [sup] using s2, by simpa [sup] using s3, by simpa [sup] using s4, by simpa [sup] using s5, by simpa [sup, sup_row] using s6, by simpa [sup, sup_row] using s7, by simpa [sup, sup_row] using s8, by simpa [sup, sup_row] using s9, ⟨by simp [sup]; omega, ?_⟩, by simpa [sup, sup_row] using s11⟩
          intro j hj
          simp [sup] at hj ⊢
          by_cases hjj : j = σ 0 27
          · subst hjj
            rw [if_neg (show ¬ 2 * σ 0 27 = 2 * σ 0 27 + 1 by omega)]
            simp
            exact ha
          · have := s10.2 j (by omega)
            have n1 : ¬ 2 * j = 2 * σ 0 27 + 1 := by omega
            have n2 : ¬ 2 * j = 2 * σ 0 27 := by omega
            simp only [n1, n2, if_false]
            exact this
        · have hk : ∀ k j, k ≠ 38 → k ≠ 39 → k ≠ 40 → pI (pI (pI Ic 39 (σ 0 27) (nI a)) 40 (σ 0 27) (nI hh)) 38 0 (nI (σ 0 27 + 1)) k j = Ic k j := fun k j q1 q2 q3 => by rw [pI_ro _ q1, pI_ro _ q3, pI_ro _ q2]
          obtain ⟨c1, c2, c3, c4, c5, c6, c7, c8⟩ := hC
          refine ⟨by simpa [pI_g, sup, sup_row] using c1, by simpa [pI_g, sup] using c2, by simpa [pI_g, sup, sup_row] using c3, by simpa [pI_g, sup, sup_row] using c4, by simpa [Ev, pI_g, sup, sup_row] using c5, ⟨by simp [pI_g, sup], ?_⟩, by simpa [Ev, pI_g, sup, sup_row] using c7, ?_⟩
          · intro j hj
            have := c6.2 j hj
            by_cases hjj : j = σ 0 27
            · subst hjj
              simp [pI_g, sup]
            · have n1 : ¬ 2 * j = 2 * σ 0 27 + 1 := by omega
              have n2 : ¬ 2 * j = 2 * σ 0 27 := by omega
              have n3 : ¬ 2 * j + 1 = 2 * σ 0 27 := by omega
              simp [pI_g, sup, hjj, n1, n2, n3]
              exact this
          · have hc := RCt.keep (I' := pI (pI (pI Ic 39 (σ 0 27) (nI a)) 40 (σ 0 27) (nI hh)) 38 0 (nI (σ 0 27 + 1))) c8 hG.p.1 (fun k j h1 h2 => hk k j (by omega) (by omega) (by omega))
            simpa [RCt, sup, sup_row] using hc
/-- one row changed at one place -/
theorem pe_up {p : Nat} {kd tm er ct sv : Nat → Nat} (h : Pe p kd tm er ct sv) {a k hr e : Nat} (hk : k ≤ 4) (hh : hr ≤ 9) (he : e ≤ 9) : Pe p (fun j => if j = a then k else kd j) (fun j => if j = a then hr else tm j) (fun j => if j = a then e else er j) (fun j => if j = a then 0 else ct j) (fun j => if j = a then 0 else sv j) := by
  intro j hj
  by_cases hja : j = a
  · subst hja
    have : 0 < ndN k := by unfold ndN; split <;> (try split) <;> omega
    simp only [if_true]
    exact ⟨hk, hh, he, Or.inl trivial, by omega, fun _ => this⟩
  · simp only [hja, if_false]
    exact h j hj
theorem b_call : ∀ (t : Nat) (Ic : aI) (Jc : aJ) (Im : aI) (Jm : aJ), t < 64 → Rel t Ic Jc Im Jm → ∀ x1 x2 x3 x4 : Int32, ∃ (r : Int32) (Ic' : aI) (Jc' : aJ) (Im' : aI) (Jm' : aJ), fX7_call x1 x2 x3 x4 Ic Jc = some (r, Ic', Jc') ∧ fX8_call x1 x2 x3 x4 Im Jm = some (r, Im', Jm') ∧ Rel (t + 1) Ic' Jc' Im' Jm' := by
  intro t Ic Jc Im Jm _ hR x1 x2 x3 x4
  obtain ⟨σ, hG, hM, hC⟩ := id hR
  have hR1 := Rel_skip _ _ _ _ _ hR
  have hp := hG.p
  unfold fX7_call fX8_call BX8_call_48 BX7_call_41 fX0_forgo
  simp only [isP7, isP8, bnd]
  rw [hC.2.2.2.1.1, hM.g 0 5 rfl]
  rcases ix (p := σ 0 5) (by omega) x1 with h | ⟨a, ha, rfl, h⟩
  · rw [h, if_pos rfl, if_pos rfl]
    exact ⟨-101, Ic, Jc, Im, Jm, rfl, rfl, hR1⟩
  rw [h, if_neg ne10, if_neg ne10, isWithin_eq, in_rg x2 0 4 0 4 rfl rfl]
  simp only [bnd]
  rcases ix2 x2 4 (by decide) with h2 | ⟨k, hk, rfl, h2⟩
  · rw [show rg x2 0 4 = 0 from h2, if_pos rfl, if_pos rfl]
    exact ⟨-102, Ic, Jc, Im, Jm, rfl, rfl, hR1⟩
  rw [show rg (nI k) 0 4 = 1 from h2, if_neg ne10, if_neg ne10, isWithin_eq, in_rg x3 0 9 0 9 rfl rfl]
  simp only [bnd]
  rcases ix2 x3 9 (by decide) with h3 | ⟨hr, hhr, rfl, h3⟩
  · rw [show rg x3 0 9 = 0 from h3, if_pos rfl, if_pos rfl]
    exact ⟨-102, Ic, Jc, Im, Jm, rfl, rfl, hR1⟩
  rw [show rg (nI hr) 0 9 = 1 from h3, if_neg ne10, if_neg ne10, isWithin_eq, in_rg x4 0 9 0 9 rfl rfl]
  simp only [bnd]
  rcases ix2 x4 9 (by decide) with h4 | ⟨e, he, rfl, h4⟩
  · rw [show rg x4 0 9 = 0 from h4, if_pos rfl, if_pos rfl]
    exact ⟨-102, Ic, Jc, Im, Jm, rfl, rfl, hR1⟩
  rw [show rg (nI e) 0 9 = 1 from h4, if_neg ne10, if_neg ne10]
  have c3 : inb (nI a) 6 = true := inb_nI (by omega) (by decide)
  have c4 : (nI a).toNatClampNeg = a := nI_clamp (by omega)
  obtain ⟨h8, hS⟩ := hG.sub (Or.inr (Or.inl (by omega)))
  rw [gd_t c3, gd_t c3, gd_t c3, c4]
  have f1 : (pI (pI (pI (pI Ic 24 a (nI k)) 25 a (nI hr)) 26 a (nI e)) (32 + 1) a 0) 32 2 = nI (msk (fun j => decide (σ 9 j = 1)) (σ 0 5)) := by
    rw [pI_g, if_neg (by omega), pI_g, if_neg (by omega), pI_g, if_neg (by omega), pI_g, if_neg (by omega)]
    exact hC.2.2.2.2.1.2.2.1
  rw [f1, msk_anc hp.2.2.1 ha]
  refine ⟨nI (σ 4 a), pI (pI (pI (pI (pI Ic 24 a (nI k)) 25 a (nI hr)) 26 a (nI e)) 33 a 0) 32 2 (nI (msk (fun j => if j = a then false else decide (σ 9 j = 1)) (σ 0 5))), Jc, pI (pI (pI (pI (pI Im 4 a (nI k)) 6 a (nI hr)) 7 a (nI e)) 8 a 0) 9 a 0, Jm, by rw [(hC.2.2.2.1.2 a (by omega)).2.1], by rw [hM.g 4 a (by simp [rs]; omega)], ?_⟩
  refine ⟨sup (sup (sup (sup (sup σ 4 a k) 6 a hr) 7 a e) 8 a 0) 9 a 0, ?_, ((((hM.up 4 a k (by omega)).up 6 a hr (by omega)).up 7 a e (by omega)).up 8 a 0 (by omega)).up 9 a 0 (by omega), ?_⟩
  · refine hG.rest (by simp [sup]) (by simp [sup_row]) (by simp [sup]) (by simp [sup]) (by simpa [sup, sup_row] using hG.2.2.2.1) h8 ?_
    obtain ⟨s1, s2, s3, s4, s5, s6, s7, s8, s9, s10, s11⟩ := hS
    refine ⟨by simpa [sup] using s1, by simpa [sup] using s2, by simpa [sup] using s3, by simpa [sup] using s4, by simpa [sup] using s5, by simpa [sup, sup_row] using s6, by simpa [sup, sup_row] using s7, ?_, by simpa [sup, sup_row] using s9, by simpa [sup, sup_row] using s10, by simpa [sup, sup_row] using s11⟩
    have := pe_up (a := a) s8 hk hhr he
    intro j hj
    have hj : j < σ 0 5 := by simpa [sup] using hj
    simpa [sup] using this j hj
  · have hk' : ∀ q j, q ≠ 24 → q ≠ 25 → q ≠ 26 → q ≠ 33 → q ≠ 32 → pI (pI (pI (pI (pI Ic 24 a (nI k)) 25 a (nI hr)) 26 a (nI e)) 33 a 0) 32 2 (nI (msk (fun j => if j = a then false else decide (σ 9 j = 1)) (σ 0 5))) q j = Ic q j := fun q j q1 q2 q3 q4 q5 => by rw [pI_ro _ q5, pI_ro _ q4, pI_ro _ q3, pI_ro _ q2, pI_ro _ q1]
    obtain ⟨c1, c2, c3, c4, c5, c6, c7, c8⟩ := hC
    refine ⟨by simpa [pI_g, sup, sup_row] using c1, by simpa [pI_g, sup] using c2, by simpa [pI_g, sup, sup_row] using c3, ⟨by simpa [pI_g, sup] using c4.1, ?_⟩, ⟨by simpa [pI_g, sup] using c5.1, by simpa [pI_g, sup] using c5.2.1, ?_, ?_⟩, by simpa [pI_g, sup, sup_row] using c6, by simpa [Ev, pI_g, sup, sup_row] using c7, ?_⟩
    · intro j hj
      have := c4.2 j hj
      by_cases hja : j = a
      · simpa [pI_g, sup, sup_row, hja] using (c4.2 a (by omega)).1
      · simpa [pI_g, sup, sup_row, hja] using this
    · simp only [pI_g, sup]
      simp only [and_self, if_true]
      congr 1
      simp
      apply msk_congr
      intro i _
      by_cases hi : i = a <;> simp [hi]
    · intro j hj
      have := c5.2.2.2 j hj
      by_cases hja : j = a
      · simp [pI_g, sup, hja]; rfl
      · simpa [pI_g, sup, hja] using this
    · have hc := RCt.keep c8 hG.p.1 (fun q j h1 h2 => hk' q j (by omega) (by omega) (by omega) (by omega) (by omega))
      simpa [RCt, sup, sup_row] using hc
