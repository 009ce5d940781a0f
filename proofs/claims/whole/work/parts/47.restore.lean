theorem bnd_s {α β : Type} (a : α) (I : aI) (J : aJ) (f : α → aI → aJ → Option β) : bnd (some (a, I, J)) f = f a I J := rfl
theorem kept_iff {t : Nat} {σ : sN} {I : aI} (ht : t < 64) (hG : Good t σ) (hM : RM σ I) : I 0 30 = I 0 8 ↔ σ 0 30 = σ 0 8 + 1 := by
  rw [hM.2, hM.g 0 8 rfl]
  have h1 := hG.2.1
  have h2 := hG.2.2.2.1.1
  generalize σ 0 30 = x at *
  generalize σ 0 8 = y at *
  constructor
  · intro h
    have h3 : nI x = nI (y + 1) := by rw [← nI_1, ← h, Int32.sub_add_cancel]
    exact (nI_eq (by omega) (by omega)).mp h3
  · intro h
    rw [h]
    exact nI_pred _
def rstS (σ : sN) : sN := fun k => if k = 4 then σ 20 else if k = 6 then σ 21 else if k = 7 then σ 22 else if k = 8 then σ 23 else if k = 9 then σ 24 else if k = 19 then σ 25 else if k = 0 then (fun j => if j = 6 then σ 0 31 else if j = 7 then σ 0 32 else if j = 27 then σ 0 33 else σ 0 j) else σ k
theorem b_restore : ∀ (t : Nat) (Ic : aI) (Jc : aJ) (Im : aI) (Jm : aJ), t < 64 → Rel t Ic Jc Im Jm → ∃ (r : Int32) (Ic' : aI) (Jc' : aJ) (Im' : aI) (Jm' : aJ), fX7_restore Ic Jc = some (r, Ic', Jc') ∧ fX8_restore Im Jm = some (r, Im', Jm') ∧ Rel (t + 1) Ic' Jc' Im' Jm' := by
  intro t Ic Jc Im Jm ht hR
  obtain ⟨σ, hG, hM, hC⟩ := id hR
  have hR1 := Rel_skip _ _ _ _ _ hR
  have hp := hG.p
  unfold fX7_restore fX8_restore
  have e8 := kept_iff ht hG hM
  by_cases hkp : σ 0 30 = σ 0 8 + 1
  · have hc11 : ¬ Ic 0 11 = 0 := by rw [hC.2.2.2.2.2.2.1.1, if_pos hkp]; exact ne10
    rw [if_neg hc11, if_pos (e8.mpr hkp)]
    obtain ⟨h8, hS⟩ : 1 ≤ σ 0 8 ∧ Sub σ := by
      obtain ⟨-, -, -, -, h | h⟩ := hG
      · omega
      · exact h
    obtain ⟨m1, a1, b1⟩ := copy8 (e0 := 20) (e1 := 4) (n := 6) (by decide) (by decide) Im Jm
    obtain ⟨m2, a2, b2⟩ := copy8 (e0 := 21) (e1 := 6) (n := 6) (by decide) (by decide) m1 Jm
    obtain ⟨m3, a3, b3⟩ := copy8 (e0 := 22) (e1 := 7) (n := 6) (by decide) (by decide) m2 Jm
    obtain ⟨m4, a4, b4⟩ := copy8 (e0 := 23) (e1 := 8) (n := 6) (by decide) (by decide) m3 Jm
    obtain ⟨m5, a5, b5⟩ := copy8 (e0 := 24) (e1 := 9) (n := 6) (by decide) (by decide) m4 Jm
    obtain ⟨m6, a6, b6⟩ := copy8 (e0 := 25) (e1 := 19) (n := 12) (by decide) (by decide) m5 Jm
    rw [bnd_t a1, bnd_t a2, bnd_t a3, bnd_t a4, bnd_t a5, bnd_t a6]
    have m0 : ∀ j, m6 0 j = Im 0 j := fun j => by simp [b6, b5, b4, b3, b2, b1]
    obtain ⟨p1, p2, p3⟩ := hC.2.2.2.2.2.2.1.2 hkp
    obtain ⟨i1, d1, e1, f1, g1⟩ := copy1 (e0 := 22) (e1 := 27) (by omega) Ic Jc
    obtain ⟨i2, d2, e2, f2, g2, k2, l2⟩ := copy0 (e0 := 32) (e1 := 34) (by decide) (by decide) (by decide) i1 Jc
    obtain ⟨i3, d3, e3, f3, g3⟩ := copy2 (e0 := 38) (e1 := 41) (by omega) i2 Jc (fun j hj => by
      rw [e2 43 j (by decide) (by decide), e1 43 j (by omega), (p3.2 j hj).2]
      have := (hG.2.2.2.1.2 j hj).2
      rcases (show σ 25 (2 * j + 1) = 0 ∨ σ 25 (2 * j + 1) = 1 by omega) with q | q
      · rw [q]; exact Or.inl rfl
      · rw [q]; exact Or.inr rfl)
    rw [bnd_t d1, bnd_t d2, bnd_t d3]
    have hk : ∀ k j, ¬ (22 ≤ k ∧ k ≤ 26) → ¬ (32 ≤ k ∧ k ≤ 33) → ¬ (38 ≤ k ∧ k ≤ 40) → i3 k j = Ic k j := fun k j q1 q2 q3 => by
      rw [e3 k j (by omega), e2 k j (by omega) (by omega), e1 k j (by omega)]
    obtain ⟨m7, hm7⟩ : ∃ m7, m7 = pI (pI (pI m6 0 6 (m6 0 31)) 0 7 ((pI m6 0 6 (m6 0 31)) 0 32)) 0 27 ((pI (pI m6 0 6 (m6 0 31)) 0 7 ((pI m6 0 6 (m6 0 31)) 0 32)) 0 33) := ⟨_, rfl⟩
    rw [← hm7]
    have r1 : ∀ j, m7 0 j = if j = 27 then Im 0 33 else if j = 7 then Im 0 32 else if j = 6 then Im 0 31 else Im 0 j := fun j => by rw [hm7]; simp [pI_g, m0]
    have r2 : ∀ k j, k ≠ 0 → m7 k j = m6 k j := fun k j h => by rw [hm7, pI_ro _ h, pI_ro _ h, pI_ro _ h]
    have hq : ∀ j, i1 34 j = Ic 34 j := fun j => e1 34 j (by omega)
    have hq2 : ∀ j, i1 35 j = Ic 35 j := fun j => e1 35 j (by omega)
    obtain ⟨t1, t2, t3, t4⟩ := hS.2.2.2.2.2.2.2.2.2.2 hkp
    refine ⟨nI (σ 0 32), i3, Jc, m7, Jm, ?_, ?_, rstS σ, ?_, ?_, ?_⟩
    · rw [show i3 32 1 = nI (σ 0 32) by rw [e3 32 1 (by omega), g2, hq, p2.2.1]]
    · rw [show m7 0 7 = nI (σ 0 32) by rw [r1]; simp [hM.g 0 32 rfl]]
    · refine hG.rest (by simp [rstS]) (by simp [rstS]) (by simp [rstS]) (by simp [rstS]) ⟨by simp [rstS]; omega, fun j hj => ?_⟩ h8 ?_
      · have := hG.2.2.2.1.2 j hj
        simp [rstS]
        exact this.2
      · obtain ⟨s1, s2, s3, s4, s5, s6, s7, s8, s9, s10, s11⟩ := hS
        refine ⟨by simpa [rstS] using s1, by simpa [rstS] using s2, by simpa [rstS] using s3, by simpa [rstS] using t1, by simpa [rstS] using t2, by simpa [rstS] using s6, by simpa [rstS] using s7, by simpa [rstS] using t3, by simpa [rstS] using s9, by simpa [rstS] using t4, fun _ => ?_⟩
        simp [rstS]
        exact ⟨t1, t2, t3, t4⟩
    · refine ⟨fun k j hr => ?_, by rw [r1]; simpa [rstS] using hM.2⟩
      by_cases k0 : k = 0
      · subst k0
        simp [rs] at hr
        rcases hr with rfl | rfl | rfl | rfl | rfl | rfl | rfl | rfl | rfl | rfl | rfl | rfl <;> rw [r1] <;> simp [rstS, hM.g 0 1 rfl, hM.g 0 3 rfl, hM.g 0 4 rfl, hM.g 0 5 rfl, hM.g 0 8 rfl, hM.g 0 24 rfl, hM.g 0 31 rfl, hM.g 0 32 rfl, hM.g 0 33 rfl]
      · rw [r2 k j k0]
        simp only [b6, b5, b4, b3, b2, b1]
        by_cases q1 : k = 4
        · subst q1; simp [rs] at hr; simp [rstS, hr]; exact hM.g 20 j (by simpa [rs] using hr)
        by_cases q2 : k = 6
        · subst q2; simp [rs] at hr; simp [rstS, hr]; exact hM.g 21 j (by simpa [rs] using hr)
        by_cases q3 : k = 7
        · subst q3; simp [rs] at hr; simp [rstS, hr]; exact hM.g 22 j (by simpa [rs] using hr)
        by_cases q4 : k = 8
        · subst q4; simp [rs] at hr; simp [rstS, hr]; exact hM.g 23 j (by simpa [rs] using hr)
        by_cases q5 : k = 9
        · subst q5; simp [rs] at hr; simp [rstS, hr]; exact hM.g 24 j (by simpa [rs] using hr)
        by_cases q6 : k = 19
        · subst q6; simp [rs] at hr; simp [rstS, hr]; exact hM.g 25 j (by simpa [rs] using hr)
        simp [rstS, q1, q2, q3, q4, q5, q6, k0]
        exact hM.g k j hr
    · obtain ⟨c1, c2, c3, c4, c5, c6, c7, c8⟩ := hC
      refine ⟨⟨by rw [hk 1 1 (by omega) (by omega) (by omega)]; simpa [rstS] using c1.1, fun j hj => by rw [hk 2 j (by omega) (by omega) (by omega)]; simpa [rstS] using c1.2 j hj⟩, ⟨by rw [hk 0 12 (by omega) (by omega) (by omega)]; simpa [rstS] using c2.1, by rw [hk 0 13 (by omega) (by omega) (by omega)]; simpa [rstS] using c2.2⟩, ⟨by rw [hk 3 0 (by omega) (by omega) (by omega)]; simpa [rstS] using c3.1, by rw [hk 3 1 (by omega) (by omega) (by omega)]; simpa [rstS] using c3.2.1, fun j hj => by rw [hk 4 j (by omega) (by omega) (by omega), hk 5 j (by omega) (by omega) (by omega)]; simpa [rstS] using c3.2.2 j hj⟩, ⟨?_, fun j hj => ?_⟩, ⟨?_, ?_, ?_, fun j hj => ?_⟩, ⟨?_, fun j hj => ?_⟩, ⟨by rw [hk 0 11 (by omega) (by omega) (by omega)]; simpa [rstS] using c7.1, fun _ => ⟨⟨by rw [hk 27 0 (by omega) (by omega) (by omega)]; simpa [rstS] using p1.1, fun j hj => by rw [hk 28 j (by omega) (by omega) (by omega), hk 29 j (by omega) (by omega) (by omega), hk 30 j (by omega) (by omega) (by omega), hk 31 j (by omega) (by omega) (by omega)]; simpa [rstS] using p1.2 j hj⟩, ?_, ⟨by rw [hk 41 0 (by omega) (by omega) (by omega)]; simpa [rstS] using p3.1, fun j hj => by rw [hk 42 j (by omega) (by omega) (by omega), hk 43 j (by omega) (by omega) (by omega)]; simpa [rstS] using p3.2 j hj⟩⟩⟩, ?_⟩
      · rw [e3 22 0 (by omega), e2 22 0 (by omega) (by omega), f1, p1.1]; simp [rstS]
      · have := p1.2 j hj
        have g := g1 j hj
        simp only [show 22 + 1 = 23 from rfl, show 22 + 2 = 24 from rfl, show 22 + 3 = 25 from rfl, show 22 + 4 = 26 from rfl] at g
        rw [e3 23 j (by omega), e2 23 j (by omega) (by omega), e3 24 j (by omega), e2 24 j (by omega) (by omega), e3 25 j (by omega), e2 25 j (by omega) (by omega), e3 26 j (by omega), e2 26 j (by omega) (by omega), g.1, g.2.1, g.2.2.1, g.2.2.2]
        simpa [rstS] using this
      · rw [e3 32 0 (by omega), f2, hq, p2.1]; simp [rstS]
      · rw [e3 32 1 (by omega), g2, hq, p2.2.1]; simp [rstS]
      · rw [e3 32 2 (by omega), k2, hq, p2.2.2.1]; simp [rstS]
      · rw [e3 (32 + 1) j (by omega), l2 j hj, hq2, p2.2.2.2 j hj]; simp [rstS]
      · rw [f3, e2 41 0 (by omega) (by omega), e1 41 0 (by omega), p3.1]; simp [rstS]
      · have := p3.2 j hj
        have g := g3 j hj
        simp only [show 38 + 1 = 39 from rfl, show 38 + 2 = 40 from rfl] at g
        rw [g.1, g.2, e2 (41 + 1) j (by omega) (by omega), e2 (41 + 2) j (by omega) (by omega), e1 (41 + 1) j (by omega), e1 (41 + 2) j (by omega)]
        simpa [rstS] using this
      · have := p2.keep (I' := i3) (fun k j h => hk k j (by omega) (by omega) (by omega))
        simpa [rstS] using this
      · have hc := RCt.keep c8 hG.p.1 (fun k j h1 h2 => hk k j (by omega) (by omega) (by omega))
        simpa [RCt, rstS] using hc
  · have hc11 : Ic 0 11 = 0 := by rw [hC.2.2.2.2.2.2.1.1, if_neg hkp]
    rw [if_pos hc11, if_neg (fun h => hkp (e8.mp h))]
    exact ⟨-103, Ic, Jc, Im, Jm, rfl, rfl, hR1⟩
