theorem isP7 (x : Int32) (I : aI) (J : aJ) : fX7_isPerson x I J = some (rg x 0 (I 22 0 - 1), I, J) := by
  unfold fX7_isPerson
  rw [isWithin_eq]
  simp only [bnd]
  rw [gd_t (decide_eq_true (rg_01 _ _ _))]
theorem isC7 (x : Int32) (I : aI) (J : aJ) : fX7_isCorner x I J = some (rg x 0 (I 3 0 - 1), I, J) := by
  unfold fX7_isCorner
  rw [isWithin_eq]
  simp only [bnd]
  rw [gd_t (decide_eq_true (rg_01 _ _ _))]
theorem isP8 (x : Int32) (I : aI) (J : aJ) : fX8_isPerson x I J = some (rg x 0 (I 0 5 - 1), I, J) := by
  unfold fX8_isPerson
  rw [in_rg x 0 (I 0 5 - 1) 0 _ rfl (Int32.toInt_toInt64 _)]
  simp only [bnd]
  rw [gd_t (decide_eq_true (rg_01 _ _ _))]
theorem isC8 (x : Int32) (I : aI) (J : aJ) : fX8_isCorner x I J = some (rg x 0 (I 0 3 - 1), I, J) := by
  unfold fX8_isCorner
  rw [in_rg x 0 (I 0 3 - 1) 0 _ rfl (Int32.toInt_toInt64 _)]
  simp only [bnd]
  rw [gd_t (decide_eq_true (rg_01 _ _ _))]
theorem rg_t {x lo hi : Int32} (h : lo ≤ x ∧ x ≤ hi) : rg x lo hi = 1 := by unfold rg; rw [if_pos h]
theorem rg_f {x lo hi : Int32} (h : ¬ (lo ≤ x ∧ x ≤ hi)) : rg x lo hi = 0 := by unfold rg; rw [if_neg h]
theorem ne10 : ¬ (1 : Int32) = 0 := by decide
/-- a number is no index below p, or it is one -/
theorem ix {p : Nat} (hp : p < 1000) (x : Int32) : (rg x 0 (nI p - 1) = 0) ∨ ∃ j, j < p ∧ x = nI j ∧ rg x 0 (nI p - 1) = 1 := by
  by_cases h : 0 ≤ x ∧ x ≤ nI p - 1
  · obtain ⟨j, hj, e⟩ := (rg_n hp x).mp h
    exact Or.inr ⟨j, hj, e, rg_t h⟩
  · exact Or.inl (rg_f h)
theorem ix2 (x : Int32) (hi : Nat) (hh : hi < 2 ^ 31) : (rg x 0 (nI hi) = 0) ∨ ∃ j, j ≤ hi ∧ x = nI j ∧ rg x 0 (nI hi) = 1 := by
  by_cases h : nI 0 ≤ x ∧ x ≤ nI hi
  · obtain ⟨j, -, hj, e⟩ := (rg_c hh x (Nat.zero_le _)).mp h
    exact Or.inr ⟨j, hj, e, rg_t h⟩
  · exact Or.inl (rg_f h)
theorem b_road : ∀ (t : Nat) (Ic : aI) (Jc : aJ) (Im : aI) (Jm : aJ), t < 64 → Rel t Ic Jc Im Jm → ∀ x1 x2 : Int32, ∃ (r : Int32) (Ic' : aI) (Jc' : aJ) (Im' : aI) (Jm' : aJ), fX7_road x1 x2 Ic Jc = some (r, Ic', Jc') ∧ fX8_road x1 x2 Im Jm = some (r, Im', Jm') ∧ Rel (t + 1) Ic' Jc' Im' Jm' := by
  intro t Ic Jc Im Jm _ hR x1 x2
  obtain ⟨σ, hG, hM, hC⟩ := id hR
  have hR1 := Rel_skip _ _ _ _ _ hR
  have hp := hG.p
  unfold fX7_road fX8_road
  rw [isWithin_eq, in_rg x1 0 (Im 0 4 - 1) 0 _ rfl (Int32.toInt_toInt64 _)]
  simp only [bnd]
  rw [hC.2.2.1.2.1, hM.g 0 4 rfl]
  rcases ix (p := σ 0 4) (by omega) x1 with h | ⟨j, hj, rfl, h⟩
  · rw [h, if_pos rfl, if_pos rfl]
    exact ⟨-101, Ic, Jc, Im, Jm, rfl, rfl, hR1⟩
  · rw [h, if_neg ne10, if_neg ne10, isWithin_eq, in_rg x2 0 1 0 1 rfl rfl]
    simp only [bnd]
    rcases ix2 x2 1 (by decide) with h2 | ⟨k, hk, rfl, h2⟩
    · rw [show rg x2 0 1 = 0 from h2, if_pos rfl, if_pos rfl]
      exact ⟨-102, Ic, Jc, Im, Jm, rfl, rfl, hR1⟩
    · rw [show rg (nI k) 0 1 = 1 from h2, if_neg ne10, if_neg ne10]
      have c3 : inb (nI j) 8 = true := inb_nI (by omega) (by decide)
      have c4 : (nI j).toNatClampNeg = j := nI_clamp (by omega)
      have e := hC.2.2.1.2.2 j (by omega)
      have m2 := hM.g 2 j (by simp [rs]; omega)
      have m3 := hM.g 3 j (by simp [rs]; omega)
      by_cases hk0 : nI k = 0
      · rw [if_pos hk0, if_pos hk0, gd_t c3, gd_t c3, c4]
        exact ⟨nI (σ 2 j), Ic, Jc, Im, Jm, by rw [e.1]; rfl, by rw [m2]; rfl, hR1⟩
      · rw [if_neg hk0, if_neg hk0, gd_t c3, gd_t c3, c4]
        exact ⟨nI (σ 3 j), Ic, Jc, Im, Jm, by rw [e.2]; rfl, by rw [m3]; rfl, hR1⟩
theorem i6 {a b : Nat} (ha : a < 6) (hb : b < 6) : 6 * nI a + nI b = nI (6 * a + b) ∧ inb (nI (6 * a + b)) 36 = true ∧ (nI (6 * a + b)).toNatClampNeg = 6 * a + b := by
  refine ⟨?_, inb_nI (by omega) (by decide), nI_clamp (by omega)⟩
  rw [show (6 : Int32) * nI a = nI (6 * a) from pk_mul 6 a, nI_add]
theorem rs10 {a b : Nat} (ha : a < 6) (hb : b < 6) : rs 10 (6 * a + b) = true := by simp [rs]; omega
/-- how far, as told -/
def frI (g : Nat → Nat) (a b : Nat) : Int32 := if fr g a b = 99 then -1 else nI (fr g a b)
theorem Di.le {n : Nat} {f : Nat → Nat → Nat} {r : Nat} {a b : Nat → Nat} (h : Di n f r a b) {i j : Nat} (hi : i < n) (hj : j < n) : f i j ≤ 99 := by
  rcases (h.1 i hi j hj).1 with h | h <;> omega
theorem Good.sub {t : Nat} {σ : sN} (h : Good t σ) (h0 : 0 < σ 0 3 ∨ 0 < σ 0 5 ∨ 0 < σ 0 4 ∨ 0 < σ 0 8) : 1 ≤ σ 0 8 ∧ Sub σ := by
  obtain ⟨-, -, -, -, h | h⟩ := h
  · omega
  · exact h
theorem farOf_eq {σ : sN} {I : aI} (hM : RM σ I) (J : aJ) {a b : Nat} (ha : a < 6) (hb : b < 6) (h99 : fr (σ 10) a b ≤ 99) : fX8_farOf (nI a) (nI b) I J = some (frI (σ 10) a b, I, J) := by
  unfold fX8_farOf BX8_farOf_31 frI
  obtain ⟨h1, h2, h3⟩ := i6 ha hb
  rw [h1, gd_t h2, h3, hM.g 10 _ (rs10 ha hb)]
  by_cases h : fr (σ 10) a b = 99
  · rw [if_pos h, if_pos (show nI (σ 10 (6 * a + b)) = 99 by unfold fr at h; rw [h]; rfl)]
  · rw [if_neg h, if_neg (show ¬ nI (σ 10 (6 * a + b)) = 99 from fun hh => h ((nI_eq (a := σ 10 (6 * a + b)) (b := 99) (by unfold fr at h99; omega) (by decide)).mp hh))]
    rfl
theorem b_far : ∀ (t : Nat) (Ic : aI) (Jc : aJ) (Im : aI) (Jm : aJ), t < 64 → Rel t Ic Jc Im Jm → ∀ x1 x2 : Int32, ∃ (r : Int32) (Ic' : aI) (Jc' : aJ) (Im' : aI) (Jm' : aJ), fX7_far x1 x2 Ic Jc = some (r, Ic', Jc') ∧ fX8_far x1 x2 Im Jm = some (r, Im', Jm') ∧ Rel (t + 1) Ic' Jc' Im' Jm' := by
  intro t Ic Jc Im Jm _ hR x1 x2
  obtain ⟨σ, hG, hM, hC⟩ := id hR
  have hR1 := Rel_skip _ _ _ _ _ hR
  have hp := hG.p
  unfold fX7_far fX8_far BX7_far_16 BX8_far_25 BX8_far_27
  simp only [isC7, isC8, bnd]
  rw [hC.2.2.1.1, hM.g 0 3 rfl]
  rcases ix (p := σ 0 3) (by omega) x1 with h | ⟨a, ha, rfl, h⟩
  · rw [h, if_pos rfl, if_pos rfl]
    exact ⟨-101, Ic, Jc, Im, Jm, rfl, rfl, hR1⟩
  · rw [h, if_neg ne10, if_neg ne10]
    rcases ix (p := σ 0 3) (by omega) x2 with h2 | ⟨b, hb, rfl, h2⟩
    · rw [h2, if_pos rfl, if_pos rfl]
      exact ⟨-101, Ic, Jc, Im, Jm, rfl, rfl, hR1⟩
    · rw [h2, if_neg ne10, if_neg ne10]
      obtain ⟨-, hS⟩ := hG.sub (Or.inl (by omega))
      have h99 : fr (σ 10) a b ≤ 99 := hS.2.2.2.2.2.2.2.2.1.le ha hb
      rw [farOf_eq hM Jm (by omega) (by omega) h99, gd_t (inb_nI (by omega) (by decide)), gd_t (inb_nI (by omega) (by decide)), nI_clamp (show a < 2 ^ 31 by omega), nI_clamp (show b < 2 ^ 31 by omega)]
      have e := ((hC.2.2.2.2.2.2.2 a ha).2.2 b hb).1
      refine ⟨frI (σ 10) a b, Ic, Jc, Im, Jm, ?_, rfl, hR1⟩
      show some (Ic (9 + a) b, Ic, Jc) = _
      rw [e]
      rfl
theorem b_as : ∀ (t : Nat) (Ic : aI) (Jc : aJ) (Im : aI) (Jm : aJ), t < 64 → Rel t Ic Jc Im Jm → ∀ x1 x2 : Int32, ∃ (r : Int32) (Ic' : aI) (Jc' : aJ) (Im' : aI) (Jm' : aJ), fX7_as x1 x2 Ic Jc = some (r, Ic', Jc') ∧ fX8_as x1 x2 Im Jm = some (r, Im', Jm') ∧ Rel (t + 1) Ic' Jc' Im' Jm' := by
  intro t Ic Jc Im Jm _ hR x1 x2
  obtain ⟨σ, hG, hM, hC⟩ := id hR
  have hR1 := Rel_skip _ _ _ _ _ hR
  have hp := hG.p
  unfold fX7_as fX8_as fX1_isOfKind BX7_as_40 BX8_as_55 BX8_as_59 BX8_as_60 BX8_as_70 BX1_isOfKind_29 BX1_isOfKind_33 BX1_isOfKind_34
  simp only [isP7, isP8, bnd]
  rw [hC.2.2.2.1.1, hM.g 0 5 rfl]
  rcases ix (p := σ 0 5) (by omega) x1 with h | ⟨j, hj, rfl, h⟩
  · rw [h, if_pos rfl, if_pos rfl]
    exact ⟨-101, Ic, Jc, Im, Jm, rfl, rfl, hR1⟩
  · rw [h, if_neg ne10, if_neg ne10, isWithin_eq, in_rg x2 0 4 0 4 rfl rfl]
    simp only [bnd]
    rcases rg_01 x2 0 4 with h2 | h2
    · rw [h2, if_pos rfl, if_pos rfl]
      exact ⟨-102, Ic, Jc, Im, Jm, rfl, rfl, hR1⟩
    · rw [h2, if_neg ne10, if_neg ne10]
      have c3 : inb (nI j) 6 = true := inb_nI (by omega) (by decide)
      have c4 : (nI j).toNatClampNeg = j := nI_clamp (by omega)
      have e := (hC.2.2.2.1.2 j (by omega)).2.1
      have m := hM.g 4 j (by simp [rs]; omega)
      simp only [c3, c4, show 22 + 2 = 24 from rfl, e, m, gd]
      refine ⟨if x2 = 0 ∨ nI (σ 4 j) = x2 ∨ (x2 = 1 ∧ nI (σ 4 j) = 4) then nI j else -1, Ic, Jc, Im, Jm, ?_, ?_, hR1⟩
      · by_cases a1 : x2 = 0
        · simp [a1]
        · by_cases a2 : nI (σ 4 j) = x2
          · simp [a1, a2]
          · by_cases a3 : x2 = 1
            · by_cases a4 : nI (σ 4 j) = 4
              · simp [a3, a4]
              · simp only [a3] at a2
                simp [a3, a4, a2]
            · simp [a1, a2, a3]
      · by_cases a1 : x2 = 0
        · simp [a1]
        · by_cases a2 : nI (σ 4 j) = x2
          · simp [a1, a2]
          · have a2' : ¬ x2 = nI (σ 4 j) := fun h => a2 h.symm
            by_cases a3 : x2 = 1
            · by_cases a4 : nI (σ 4 j) = 4
              · simp [a3, a4]
              · simp only [a3] at a2 a2'
                simp [a3, a4, a2, a2']
            · simp [a1, a2, a2', a3]
