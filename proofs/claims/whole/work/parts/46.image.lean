theorem copy8 {e0 e1 n : Nat} (hne : e0 ≠ e1) (hn : n < 100) (I : aI) (J : aJ) : ∃ I' : aI, fX8_copy e0 n e1 n I J = some ((), I', J) ∧ ∀ k j, I' k j = if k = e1 ∧ j < n then I e0 j else I k j := by
  have key : ∀ (m i f : Nat) (Ic : aI), i + m = n → m < f → (∀ k j, Ic k j = if k = e1 ∧ j < i then I e0 j else I k j) → ∃ I' : aI, LX8_copy_2 f e0 n e1 n (nI i) Ic J = some ((), I', J) ∧ ∀ k j, I' k j = if k = e1 ∧ j < n then I e0 j else I k j := by
    intro m
    induction m with
    | zero =>
      intro i f Ic hi hf hI
      obtain ⟨f, rfl⟩ : ∃ g, f = g + 1 := ⟨f - 1, by omega⟩
      refine ⟨Ic, ?_, by rw [show n = i by omega]; exact hI⟩
      show HX8_copy_2 _ e0 n e1 n (nI i) Ic J = _
      unfold HX8_copy_2
      rw [if_pos (nI_le (by omega) (by omega))]
    | succ m ih =>
      intro i f Ic hi hf hI
      obtain ⟨f, rfl⟩ : ∃ g, f = g + 1 := ⟨f - 1, by omega⟩
      have hin : inb (nI i) n = true := inb_nI (by omega) (by omega)
      obtain ⟨I', h1, h2⟩ := ih (i + 1) f (pI Ic e1 i (Ic e0 i)) (by omega) (by omega) (by
        intro k j
        rw [pI_g]
        by_cases hk : k = e1 ∧ j = i
        · rw [if_pos hk, if_pos ⟨hk.1, by omega⟩, hI, if_neg (fun h => hne h.1), hk.2]
        · rw [if_neg hk, hI]
          by_cases hk2 : k = e1 ∧ j < i
          · rw [if_pos hk2, if_pos ⟨hk2.1, by omega⟩]
          · rw [if_neg hk2, if_neg (fun h => by
              have : j ≠ i := fun e => hk ⟨h.1, e⟩
              exact hk2 ⟨h.1, by omega⟩)])
      refine ⟨I', ?_, h2⟩
      show HX8_copy_2 _ e0 n e1 n (nI i) Ic J = _
      unfold HX8_copy_2
      rw [if_neg (nI_ge (by omega) (by omega)), gd_t hin, gd_t hin, nI_clamp (by omega), nI_1]
      exact h1
  exact key n 0 128 I (by omega) (by omega) (fun k j => by rw [if_neg (fun h => Nat.not_lt_zero _ h.2)])
theorem tc0 : (0 : Int32).toNatClampNeg = 0 := rfl
theorem tc6 : (6 : Int32).toNatClampNeg = 6 := rfl
theorem copy0 {e0 e1 : Nat} (h1 : e0 ≠ e1) (h2 : e0 ≠ e1 + 1) (h3 : e0 + 1 ≠ e1) (I : aI) (J : aJ) : ∃ I' : aI, fX0_copy e0 e1 I J = some ((), I', J) ∧ (∀ k j, k ≠ e0 → k ≠ e0 + 1 → I' k j = I k j) ∧ I' e0 0 = I e1 0 ∧ I' e0 1 = I e1 1 ∧ I' e0 2 = I e1 2 ∧ ∀ j, j < 6 → I' (e0 + 1) j = I (e1 + 1) j := by
  have h1' : e1 ≠ e0 := fun h => h1 h.symm
  have h2' : e1 + 1 ≠ e0 := fun h => h2 h.symm
  have h3' : e1 ≠ e0 + 1 := fun h => h3 h.symm
  have h4 : e0 ≠ e0 + 1 := by omega
  have h5 : e0 + 1 ≠ e0 := by omega
  have h6 : e1 + 1 ≠ e0 + 1 := by omega
  refine ⟨_, rfl, ?_, ?_, ?_, ?_, ?_⟩
  · intro k j hk hk2
    simp [uI_g, pI_g, hk, hk2]
  · simp [uI_g, pI_g, h1', h4]
  · simp [uI_g, pI_g, h1', h4]
  · simp [uI_g, pI_g, h1', h4]
  · intro j hj
    simp [uI_g, pI_g, va_cpy, tc0, tc6, hj, h1', h2', h5]
theorem copy1 {e0 e1 : Nat} (h : e0 + 4 < e1 ∨ e1 + 4 < e0) (I : aI) (J : aJ) : ∃ I' : aI, fX1_copy e0 e1 I J = some ((), I', J) ∧ (∀ k j, (k < e0 ∨ e0 + 4 < k) → I' k j = I k j) ∧ I' e0 0 = I e1 0 ∧ ∀ j, j < 6 → I' (e0 + 1) j = I (e1 + 1) j ∧ I' (e0 + 2) j = I (e1 + 2) j ∧ I' (e0 + 3) j = I (e1 + 3) j ∧ I' (e0 + 4) j = I (e1 + 4) j := by
  have a1 : ∀ i, i ≤ 4 → ∀ q, q ≤ 4 → e1 + i ≠ e0 + q := fun i hi q hq => by omega
  have a2 : ∀ i, i ≤ 4 → e1 + i ≠ e0 := fun i hi => by omega
  have a3 : ∀ q, q ≤ 4 → e1 ≠ e0 + q := fun q hq => by omega
  have a4 : e1 ≠ e0 := by omega
  refine ⟨_, rfl, ?_, ?_, ?_⟩
  · intro k j hk
    have b0 : k ≠ e0 := by omega
    have b1 : k ≠ e0 + 1 := by omega
    have b2 : k ≠ e0 + 2 := by omega
    have b3 : k ≠ e0 + 3 := by omega
    have b4 : k ≠ e0 + 4 := by omega
    simp [uI_g, pI_g, b0, b1, b2, b3, b4]
  · simp [uI_g, pI_g, a4]
  · intro j hj
    have c1 := a1 1 (by decide) 1 (by decide)
    have c2 := a1 2 (by decide) 1 (by decide)
    have c3 := a1 3 (by decide) 1 (by decide)
    have c4 := a1 4 (by decide) 1 (by decide)
    have d1 := a1 2 (by decide) 2 (by decide)
    have d2 := a1 3 (by decide) 2 (by decide)
    have d3 := a1 4 (by decide) 2 (by decide)
    have d4 := a1 3 (by decide) 3 (by decide)
    have d5 := a1 4 (by decide) 3 (by decide)
    have z1 := a2 1 (by decide)
    have z2 := a2 2 (by decide)
    have z3 := a2 3 (by decide)
    have z4 := a2 4 (by decide)
    refine ⟨?_, ?_, ?_, ?_⟩ <;> simp [uI_g, pI_g, va_cpy, tc0, tc6, hj, c1, c2, c3, c4, d1, d2, d3, d4, d5, z1, z2, z3, z4]
theorem copy2 {e0 e1 : Nat} (h : e0 + 2 < e1 ∨ e1 + 2 < e0) (I : aI) (J : aJ) (h01 : ∀ j, j < 6 → I (e1 + 2) j = 0 ∨ I (e1 + 2) j = 1) : ∃ I' : aI, fX2_copy e0 e1 I J = some ((), I', J) ∧ (∀ k j, (k < e0 ∨ e0 + 2 < k) → I' k j = I k j) ∧ I' e0 0 = I e1 0 ∧ ∀ j, j < 6 → I' (e0 + 1) j = I (e1 + 1) j ∧ I' (e0 + 2) j = I (e1 + 2) j := by
  have key : ∀ (m i f : Nat) (Ic : aI), i + m = 6 → m < f → (∀ k j, (k < e0 ∨ e0 + 2 < k) → Ic k j = I k j) → Ic e0 0 = I e1 0 → (∀ j, j < i → Ic (e0 + 1) j = I (e1 + 1) j ∧ Ic (e0 + 2) j = I (e1 + 2) j) → ∃ I' : aI, LX2_copy_10 f e0 e1 (nI i) Ic J = some ((), I', J) ∧ (∀ k j, (k < e0 ∨ e0 + 2 < k) → I' k j = I k j) ∧ I' e0 0 = I e1 0 ∧ ∀ j, j < 6 → I' (e0 + 1) j = I (e1 + 1) j ∧ I' (e0 + 2) j = I (e1 + 2) j := by
    intro m
    induction m with
    | zero =>
      intro i f Ic hi hf g1 g2 g3
      obtain ⟨f, rfl⟩ : ∃ g, f = g + 1 := ⟨f - 1, by omega⟩
      refine ⟨Ic, ?_, g1, g2, by rw [show 6 = i by omega]; exact g3⟩
      show HX2_copy_10 _ e0 e1 (nI i) Ic J = _
      unfold HX2_copy_10
      rw [if_pos (show (6 : Int32) ≤ nI i from nI_le (a := 6) (by omega) (by omega))]
    | succ m ih =>
      intro i f Ic hi hf g1 g2 g3
      obtain ⟨f, rfl⟩ : ∃ g, f = g + 1 := ⟨f - 1, by omega⟩
      have hin : inb (nI i) 6 = true := inb_nI (by omega) (by decide)
      have e1r : Ic (e1 + 1) i = I (e1 + 1) i := g1 _ _ (by omega)
      have e2r : pI Ic (e0 + 1) i (Ic (e1 + 1) i) (e1 + 2) i = I (e1 + 2) i := by rw [pI_g, if_neg (by omega)]; exact g1 _ _ (by omega)
      obtain ⟨I', k1, k2⟩ := ih (i + 1) f (pI (pI Ic (e0 + 1) i (Ic (e1 + 1) i)) (e0 + 2) i (I (e1 + 2) i)) (by omega) (by omega) (by
        intro k j hk
        rw [pI_g, if_neg (by omega), pI_g, if_neg (by omega)]
        exact g1 k j hk) (by
        rw [pI_g, if_neg (by omega), pI_g, if_neg (by omega)]
        exact g2) (by
        intro j hj
        by_cases hji : j = i
        · subst hji
          refine ⟨?_, ?_⟩
          · rw [pI_g, if_neg (by omega), pI_g, if_pos ⟨rfl, rfl⟩]; exact e1r
          · rw [pI_g, if_pos ⟨rfl, rfl⟩]
        · have := g3 j (by omega)
          refine ⟨?_, ?_⟩
          · rw [pI_g, if_neg (by omega), pI_g, if_neg (by omega)]; exact this.1
          · rw [pI_g, if_neg (by omega), pI_g, if_neg (by omega)]; exact this.2)
      refine ⟨I', ?_, k2⟩
      show HX2_copy_10 _ e0 e1 (nI i) Ic J = _
      unfold HX2_copy_10
      rw [if_neg (show ¬ (6 : Int32) ≤ nI i from nI_ge (b := 6) (by omega) (by decide)), gd_t hin, nI_clamp (by omega), nI_1, e2r, nar01 (h01 i (by omega))]
      exact k1
  unfold fX2_copy
  exact key 6 0 128 (pI I e0 0 (I e1 0)) (by omega) (by omega) (fun k j hk => by rw [pI_g, if_neg (by omega)]) (by rw [pI_g, if_pos ⟨rfl, rfl⟩]) (fun j hj => absurd hj (Nat.not_lt_zero _))
theorem lacks_eq (I : aI) (J : aJ) : fX8_lacks I J = some ((if I 0 5 = 0 then 1 else 0), I, J) := by
  unfold fX8_lacks BX8_lacks_12
  split <;> rfl
theorem hasSub_eq (I : aI) (J : aJ) : fX7_hasSuburb I J = some ((if I 0 12 ≤ 0 then 0 else 1), I, J) := by
  unfold fX7_hasSuburb BX7_hasSuburb_12
  split <;> rfl
/-- with a suburb and without: how both see it -/
theorem Good.has {t : Nat} {σ : sN} (ht : t < 1000) (hG : Good t σ) {Ic Im : aI} (hM : RM σ Im) (hC : RC σ Ic) : (σ 0 8 = 0 ∧ Im 0 5 = 0 ∧ Ic 0 12 ≤ 0) ∨ (1 ≤ σ 0 8 ∧ Sub σ ∧ ¬ Im 0 5 = 0 ∧ ¬ Ic 0 12 ≤ 0) := by
  rw [hM.g 0 5 rfl, hC.2.1.1]
  obtain ⟨-, h2, -, -, h | ⟨h, hS⟩⟩ := hG
  · left
    rw [h.1, h.2.2.2.1]
    exact ⟨rfl, rfl, by decide⟩
  · right
    exact ⟨h, hS, nI_ne0 (by have := hS.2.2.1.1; omega) (by have := hS.2.2.1.2; omega), nI_nle (by omega) (by omega)⟩
def srow (σ : sN) (k : Nat) (f : Nat → Nat) : sN := fun a => if a = k then f else σ a
theorem srow_g (σ : sN) (k : Nat) (f : Nat → Nat) (a b : Nat) : srow σ k f a b = if a = k then f b else σ a b := by unfold srow; split <;> rfl
theorem srow_r (σ : sN) {k : Nat} {f : Nat → Nat} {a : Nat} (h : a ≠ k) : srow σ k f a = σ a := by unfold srow; rw [if_neg h]
theorem srow_s (σ : sN) {k : Nat} {f : Nat → Nat} : srow σ k f k = f := by unfold srow; rw [if_pos rfl]
def imgS (σ : sN) : sN := fun k => if k = 20 then σ 4 else if k = 21 then σ 6 else if k = 22 then σ 7 else if k = 23 then σ 8 else if k = 24 then σ 9 else if k = 25 then σ 19 else if k = 0 then (fun j => if j = 31 then σ 0 6 else if j = 32 then σ 0 7 else if j = 33 then σ 0 27 else if j = 30 then σ 0 8 + 1 else σ 0 j) else σ k
theorem b_image : ∀ (t : Nat) (Ic : aI) (Jc : aJ) (Im : aI) (Jm : aJ), t < 64 → Rel t Ic Jc Im Jm → ∃ (r : Int32) (Ic' : aI) (Jc' : aJ) (Im' : aI) (Jm' : aJ), fX7_image Ic Jc = some (r, Ic', Jc') ∧ fX8_image Im Jm = some (r, Im', Jm') ∧ Rel (t + 1) Ic' Jc' Im' Jm' := by
  intro t Ic Jc Im Jm ht hR
  obtain ⟨σ, hG, hM, hC⟩ := id hR
  have hR1 := Rel_skip _ _ _ _ _ hR
  have hp := hG.p
  unfold fX7_image fX8_image
  simp only [lacks_eq, hasSub_eq, bnd]
  rcases hG.has (by omega) hM hC with ⟨z1, z2, z3⟩ | ⟨h8, hS, z2, z3⟩
  · rw [if_pos z2, if_pos z3, if_pos rfl, if_neg ne10]
    exact ⟨-103, Ic, Jc, Im, Jm, rfl, rfl, hR1⟩
  rw [if_neg z2, if_neg z3, if_neg ne10, if_pos rfl]
  obtain ⟨m1, a1, b1⟩ := copy8 (e0 := 4) (e1 := 20) (n := 6) (by decide) (by decide) Im Jm
  obtain ⟨m2, a2, b2⟩ := copy8 (e0 := 6) (e1 := 21) (n := 6) (by decide) (by decide) m1 Jm
  obtain ⟨m3, a3, b3⟩ := copy8 (e0 := 7) (e1 := 22) (n := 6) (by decide) (by decide) m2 Jm
  obtain ⟨m4, a4, b4⟩ := copy8 (e0 := 8) (e1 := 23) (n := 6) (by decide) (by decide) m3 Jm
  obtain ⟨m5, a5, b5⟩ := copy8 (e0 := 9) (e1 := 24) (n := 6) (by decide) (by decide) m4 Jm
  obtain ⟨m6, a6, b6⟩ := copy8 (e0 := 19) (e1 := 25) (n := 12) (by decide) (by decide) m5 Jm
  simp only [a1, a2, a3, a4, a5, a6]
  have m0 : ∀ j, m6 0 j = Im 0 j := fun j => by simp [b6, b5, b4, b3, b2, b1]
  obtain ⟨i1, d1, e1, f1, g1⟩ := copy1 (e0 := 27) (e1 := 22) (by omega) Ic Jc
  obtain ⟨i2, d2, e2, f2, g2, k2, l2⟩ := copy0 (e0 := 34) (e1 := 32) (by decide) (by decide) (by decide) i1 Jc
  obtain ⟨i3, d3, e3, f3, g3⟩ := copy2 (e0 := 41) (e1 := 38) (by omega) i2 Jc (fun j hj => by
    rw [e2 40 j (by decide) (by decide), e1 40 j (by omega), (hC.2.2.2.2.2.1.2 j hj).2]
    have := (hG.2.2.2.1.2 j hj).1
    rcases (show σ 19 (2 * j + 1) = 0 ∨ σ 19 (2 * j + 1) = 1 by omega) with q | q
    · rw [q]; exact Or.inl rfl
    · rw [q]; exact Or.inr rfl)
  simp only [d1, d2, d3]
  have hk : ∀ k j, ¬ (27 ≤ k ∧ k ≤ 31) → ¬ (34 ≤ k ∧ k ≤ 35) → ¬ (41 ≤ k ∧ k ≤ 43) → i3 k j = Ic k j := fun k j q1 q2 q3 => by
    rw [e3 k j (by omega), e2 k j (by omega) (by omega), e1 k j (by omega)]
  have h7 := hC.2.2.2.2.1.2.1
  obtain ⟨m7, hm7⟩ : ∃ m7, m7 = (pI (pI (pI (pI m6 0 31 (m6 0 6)) 0 32 ((pI m6 0 31 (m6 0 6)) 0 7)) 0 33 ((pI (pI m6 0 31 (m6 0 6)) 0 32 ((pI m6 0 31 (m6 0 6)) 0 7)) 0 27)) 0 30 ((pI (pI (pI m6 0 31 (m6 0 6)) 0 32 ((pI m6 0 31 (m6 0 6)) 0 7)) 0 33 ((pI (pI m6 0 31 (m6 0 6)) 0 32 ((pI m6 0 31 (m6 0 6)) 0 7)) 0 27)) 0 8)) := ⟨_, rfl⟩
  rw [← hm7]
  have r1 : ∀ j, m7 0 j = if j = 30 then Im 0 8 else if j = 33 then Im 0 27 else if j = 32 then Im 0 7 else if j = 31 then Im 0 6 else Im 0 j := fun j => by rw [hm7]; simp [pI_g, m0]
  have r2 : ∀ k j, k ≠ 0 → m7 k j = m6 k j := fun k j h => by rw [hm7, pI_ro _ h, pI_ro _ h, pI_ro _ h, pI_ro _ h]
  refine ⟨nI (σ 0 7), pI i3 0 11 1, Jc, m7, Jm, ?_, ?_, imgS σ, ?_, ?_, ?_⟩
  · rw [pI_g, if_neg (by decide), hk 32 1 (by omega) (by omega) (by omega), h7]
  · rw [show m7 0 7 = nI (σ 0 7) by rw [r1]; simp [hM.g 0 7 rfl]]
  · refine hG.rest (by simp [imgS]) (by simp [imgS]) (by simp [imgS]) (by simp [imgS]) ⟨by simp [imgS], fun j hj => ?_⟩ h8 ?_
    · have := hG.2.2.2.1.2 j hj
      simp [imgS]
      exact this.1
    · obtain ⟨s1, s2, s3, s4, s5, s6, s7, s8, s9, s10, s11⟩ := hS
      refine ⟨by simpa [imgS] using s1, by simpa [imgS] using s2, by simpa [imgS] using s3, by simpa [imgS] using s4, by simpa [imgS] using s5, by simpa [imgS] using s6, by simpa [imgS] using s7, by simpa [imgS] using s8, by simpa [imgS] using s9, by simpa [imgS] using s10, fun _ => ?_⟩
      simp [imgS]
      exact ⟨s4, s5, s8, s10⟩
  · refine ⟨fun k j hr => ?_, by rw [r1]; simp [hM.g 0 8 rfl, imgS]; rw [← nI_1]; exact (Int32.add_sub_cancel _ _).symm⟩
    by_cases k0 : k = 0
    · subst k0
      have hr' := hr
      simp [rs] at hr
      rcases hr with rfl | rfl | rfl | rfl | rfl | rfl | rfl | rfl | rfl | rfl | rfl | rfl <;> rw [r1] <;> simp [imgS, hM.g 0 1 rfl, hM.g 0 3 rfl, hM.g 0 4 rfl, hM.g 0 5 rfl, hM.g 0 6 rfl, hM.g 0 7 rfl, hM.g 0 8 rfl, hM.g 0 24 rfl, hM.g 0 27 rfl]
    · rw [r2 k j k0]
      simp only [b6, b5, b4, b3, b2, b1]
      by_cases q1 : k = 20
      · subst q1; simp [rs] at hr; simp [imgS, hr]; exact hM.g 4 j (by simpa [rs] using hr)
      by_cases q2 : k = 21
      · subst q2; simp [rs] at hr; simp [imgS, hr]; exact hM.g 6 j (by simpa [rs] using hr)
      by_cases q3 : k = 22
      · subst q3; simp [rs] at hr; simp [imgS, hr]; exact hM.g 7 j (by simpa [rs] using hr)
      by_cases q4 : k = 23
      · subst q4; simp [rs] at hr; simp [imgS, hr]; exact hM.g 8 j (by simpa [rs] using hr)
      by_cases q5 : k = 24
      · subst q5; simp [rs] at hr; simp [imgS, hr]; exact hM.g 9 j (by simpa [rs] using hr)
      by_cases q6 : k = 25
      · subst q6; simp [rs] at hr; simp [imgS, hr]; exact hM.g 19 j (by simpa [rs] using hr)
      simp [imgS, q1, q2, q3, q4, q5, q6, k0]
      exact hM.g k j hr
  · have hk' : ∀ k j, ¬ (27 ≤ k ∧ k ≤ 31) → ¬ (34 ≤ k ∧ k ≤ 35) → ¬ (41 ≤ k ∧ k ≤ 43) → k ≠ 0 → pI i3 0 11 1 k j = Ic k j := fun k j q1 q2 q3 q4 => by rw [pI_ro _ q4]; exact hk k j q1 q2 q3
    have hz : ∀ j, j ≠ 11 → pI i3 0 11 1 0 j = Ic 0 j := fun j q => by rw [pI_g, if_neg (by omega)]; exact hk 0 j (by omega) (by omega) (by omega)
    obtain ⟨c1, c2, c3, c4, c5, c6, c7, c8⟩ := hC
    refine ⟨⟨by rw [hk' 1 1 (by omega) (by omega) (by omega) (by omega)]; simpa [imgS] using c1.1, fun j hj => by rw [hk' 2 j (by omega) (by omega) (by omega) (by omega)]; simpa [imgS] using c1.2 j hj⟩, ⟨by rw [hz 12 (by decide)]; simpa [imgS] using c2.1, by rw [hz 13 (by decide)]; simpa [imgS] using c2.2⟩, ⟨by rw [hk' 3 0 (by omega) (by omega) (by omega) (by omega)]; simpa [imgS] using c3.1, by rw [hk' 3 1 (by omega) (by omega) (by omega) (by omega)]; simpa [imgS] using c3.2.1, fun j hj => by rw [hk' 4 j (by omega) (by omega) (by omega) (by omega), hk' 5 j (by omega) (by omega) (by omega) (by omega)]; simpa [imgS] using c3.2.2 j hj⟩, ⟨by rw [hk' 22 0 (by omega) (by omega) (by omega) (by omega)]; simpa [imgS] using c4.1, fun j hj => by rw [hk' 23 j (by omega) (by omega) (by omega) (by omega), hk' 24 j (by omega) (by omega) (by omega) (by omega), hk' 25 j (by omega) (by omega) (by omega) (by omega), hk' 26 j (by omega) (by omega) (by omega) (by omega)]; simpa [imgS] using c4.2 j hj⟩, ?_, ⟨by rw [hk' 38 0 (by omega) (by omega) (by omega) (by omega)]; simpa [imgS] using c6.1, fun j hj => by rw [hk' 39 j (by omega) (by omega) (by omega) (by omega), hk' 40 j (by omega) (by omega) (by omega) (by omega)]; simpa [imgS] using c6.2 j hj⟩, ⟨by rw [pI_g, if_pos ⟨rfl, rfl⟩]; simp [imgS], fun _ => ⟨⟨?_, ?_⟩, ?_, ?_, ?_⟩⟩, ?_⟩
    · have := c5.keep (I' := pI i3 0 11 1) (fun k j h => hk' k j (by omega) (by omega) (by omega) (by omega))
      simpa [imgS] using this
    · rw [pI_ro _ (by decide), e3 27 0 (by omega), e2 27 0 (by omega) (by omega), f1, c4.1]; simp [imgS]
    · intro j hj
      have := c4.2 j hj
      have g := g1 j hj
      rw [pI_ro _ (by decide), pI_ro _ (by decide), pI_ro _ (by decide), pI_ro _ (by decide), e3 28 j (by omega), e2 28 j (by omega) (by omega), e3 29 j (by omega), e2 29 j (by omega) (by omega), e3 30 j (by omega), e2 30 j (by omega) (by omega), e3 31 j (by omega), e2 31 j (by omega) (by omega)]
      simp only [show 27 + 1 = 28 from rfl, show 27 + 2 = 29 from rfl, show 27 + 3 = 30 from rfl, show 27 + 4 = 31 from rfl] at g
      rw [g.1, g.2.1, g.2.2.1, g.2.2.2]
      simpa [imgS] using this
    · have hq : ∀ j, i1 32 j = Ic 32 j := fun j => e1 32 j (by omega)
      have hq2 : ∀ j, i1 33 j = Ic 33 j := fun j => e1 33 j (by omega)
      refine ⟨?_, ?_, ?_, fun j hj => ?_⟩
      · rw [pI_ro _ (by decide), e3 34 0 (by omega), f2, hq, c5.1]; simp [imgS]
      · rw [pI_ro _ (by decide), e3 34 1 (by omega), g2, hq, c5.2.1]; simp [imgS]
      · rw [pI_ro _ (by decide), e3 34 2 (by omega), k2, hq, c5.2.2.1]; simp [imgS]
      · rw [pI_ro _ (by decide), e3 (34 + 1) j (by omega), l2 j hj, hq2, c5.2.2.2 j hj]; simp [imgS]
    · rw [pI_ro _ (by decide), f3, e2 38 0 (by omega) (by omega), e1 38 0 (by omega), c6.1]; simp [imgS]
    · intro j hj
      have := c6.2 j hj
      have g := g3 j hj
      simp only [show 41 + 1 = 42 from rfl, show 41 + 2 = 43 from rfl] at g
      rw [pI_ro _ (by decide), pI_ro _ (by decide), g.1, g.2, e2 (38 + 1) j (by omega) (by omega), e2 (38 + 2) j (by omega) (by omega), e1 (38 + 1) j (by omega), e1 (38 + 2) j (by omega)]
      simpa [imgS] using this
    · have hc := RCt.keep c8 hG.p.1 (fun k j h1 h2 => hk' k j (by omega) (by omega) (by omega) (by omega))
      simpa [RCt, imgS] using hc
