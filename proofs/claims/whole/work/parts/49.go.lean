theorem isNext8 {σ : sN} {I : aI} (hM : RM σ I) (J : aJ) {a b : Nat} (ha : a < 6) (hb : b < 6) (h99 : fr (σ 10) a b ≤ 99) : fX8_isNext (nI a) (nI b) I J = some ((if nxt (σ 10) a b = true then 1 else 0), I, J) := by
  unfold fX8_isNext BX8_isNext_20
  obtain ⟨e1, e2, e3⟩ := i6 ha hb
  rw [e1, gd_t e2, e3, hM.g 10 _ (rs10 ha hb)]
  have e : (2 : Int32) ≤ nI (σ 10 (6 * a + b)) ↔ 2 ≤ fr (σ 10) a b := nI_leI (a := 2) (by decide) (by unfold fr at h99; omega)
  simp only [e, nxt]
  by_cases q : 2 ≤ fr (σ 10) a b
  · simp [q, gd, Nat.not_lt.mpr q]
  · simp [q, gd, Nat.lt_of_not_le q]
def goS (σ : sN) (x : Nat) : sN := fun k => if k = 8 then (fun j => if j < σ 0 5 then ctA x (σ 0 7 + 1) (σ 4) (σ 5) (σ 6) (σ 8) (σ 9) j else σ 8 j) else if k = 9 then (fun j => if j < σ 0 5 then svA x (σ 0 7 + 1) (σ 4) (σ 5) (σ 6) (σ 8) (σ 9) j else σ 9 j) else if k = 0 then (fun j => if j = 6 then x else if j = 7 then σ 0 7 + 1 else σ 0 j) else σ k
theorem Sub.pq {σ : sN} (hS : Sub σ) : Pq (σ 0 5) (σ 4) (σ 5) (σ 6) (σ 8) (σ 9) := by
  intro j hj
  obtain ⟨s1, s2, s3, s4, s5, s6, s7, s8, s9, s10, s11⟩ := hS
  obtain ⟨u1, u2, u3, u4, u5, u6⟩ := s8 j hj
  have := s7 j hj
  exact ⟨u1, by omega, u2, u4, u5, u6⟩
theorem begin8 (I : aI) (J : aJ) : ∃ I' : aI, fX8_begin I J = some ((), I', J) ∧ ∀ k j, I' k j = if k = 11 ∧ j < 6 then I 8 j else if k = 12 ∧ j < 6 then I 9 j else I k j := by
  obtain ⟨m1, a1, b1⟩ := copy8 (e0 := 8) (e1 := 11) (n := 6) (by decide) (by decide) I J
  obtain ⟨m2, a2, b2⟩ := copy8 (e0 := 9) (e1 := 12) (n := 6) (by decide) (by decide) m1 J
  refine ⟨m2, ?_, fun k j => ?_⟩
  · unfold fX8_begin
    rw [bnd_t a1, bnd_t a2]
  · rw [b2]
    by_cases q : k = 12 ∧ j < 6
    · rw [if_pos q, if_neg (by omega), if_pos q, b1, if_neg (by omega)]
    · rw [if_neg q, if_neg q, b1]
theorem msk_dec {f g : Nat → Nat} {p : Nat} (h : ∀ j, j < p → f j = g j) : msk (fun j => decide (f j = 1)) p = msk (fun j => decide (g j = 1)) p := msk_congr (fun j hj => by rw [h j hj])
theorem b_go : ∀ (t : Nat) (Ic : aI) (Jc : aJ) (Im : aI) (Jm : aJ), t < 64 → Rel t Ic Jc Im Jm → ∀ x1 : Int32, ∃ (r : Int32) (Ic' : aI) (Jc' : aJ) (Im' : aI) (Jm' : aJ), fX7_go x1 Ic Jc = some (r, Ic', Jc') ∧ fX8_go x1 Im Jm = some (r, Im', Jm') ∧ Rel (t + 1) Ic' Jc' Im' Jm' := by
  intro t Ic Jc Im Jm _ hR x1
  obtain ⟨σ, hG, hM, hC⟩ := id hR
  have hR1 := Rel_skip _ _ _ _ _ hR
  have hp := hG.p
  unfold fX7_go fX8_go
  rw [bnd_t (isC7 x1 Ic Jc), bnd_t (isC8 x1 Im Jm), hC.2.2.1.1, hM.g 0 3 rfl]
  rcases ix (p := σ 0 3) (by omega) x1 with h | ⟨x, hx, rfl, h⟩
  · rw [h, if_pos rfl, if_pos rfl]
    exact ⟨-101, Ic, Jc, Im, Jm, rfl, rfl, hR1⟩
  rw [h, if_neg ne10, if_neg ne10]
  obtain ⟨h8, hS⟩ := hG.sub (Or.inl (by omega))
  have hP := hS.pq
  obtain ⟨s1, s2, s3, s4, s5, s6, s7, s8, s9, s10, s11⟩ := id hS
  have hv : σ 0 6 < 6 := by omega
  have hE := hC.2.2.2.2.1
  rw [hE.1, gd_t (inb_nI hv (by decide)), nI_clamp (by omega), (hC.2.2.2.2.2.2.2 _ s4).1, bnd_t (hasMsk (by omega) hx Ic Jc), hM.g 0 6 rfl, bnd_t (isNext8 hM Jm hv (by omega) (s9.le s4 hx))]
  by_cases hn : ¬ nxt (σ 10) (σ 0 6) x = true
  · rw [if_neg hn, if_pos rfl, if_pos rfl]
    exact ⟨-103, Ic, Jc, Im, Jm, rfl, rfl, hR1⟩
  have hn : nxt (σ 10) (σ 0 6) x = true := Decidable.of_not_not hn
  rw [if_pos hn, if_neg ne10, if_neg ne10, hE.2.1, hM.g 0 7 rfl, nI_1]
  by_cases h9 : σ 0 7 = 999
  · rw [if_pos (show nI (σ 0 7) = 999 by rw [h9]; rfl), if_neg (show ¬ nI (σ 0 7 + 1) < 1000 from nI_nlt (b := 1000) (by omega) (by omega))]
    exact ⟨-104, Ic, Jc, Im, Jm, rfl, rfl, hR1⟩
  rw [if_neg (show ¬ nI (σ 0 7) = 999 from fun q => h9 ((nI_eq (b := 999) (by omega) (by decide)).mp q)), if_pos (show nI (σ 0 7 + 1) < 1000 from nI_lt (b := 1000) (by omega) (by decide))]
  obtain ⟨i1, d1, d2, d3⟩ := pass_eq (e := 32) (x := x) (by decide) hP hp.2.2.1 (by omega) (by omega) Ic Jc hE hC.2.2.2.1.1 (fun j hj => by
    obtain ⟨q1, q2, q3, q4⟩ := hC.2.2.2.1.2 j (by omega)
    exact ⟨q1, q2, q3⟩)
  obtain ⟨m1, a1, b1⟩ := begin8 (pI (pI Im 0 7 (nI (σ 0 7 + 1))) 0 6 (nI x)) Jm
  have n6 : m1 0 6 = nI x := by rw [b1, if_neg (by omega), if_neg (by omega), pI_g, if_pos ⟨rfl, rfl⟩]
  have n7 : m1 0 7 = nI (σ 0 7 + 1) := by rw [b1, if_neg (by omega), if_neg (by omega), pI_g, if_neg (by omega), pI_g, if_pos ⟨rfl, rfl⟩]
  have nr : ∀ k j, k ≠ 0 → k ≠ 11 → k ≠ 12 → m1 k j = Im k j := fun k j q1 q2 q3 => by rw [b1, if_neg (by omega), if_neg (by omega), pI_ro _ q1, pI_ro _ q1]
  have n0 : ∀ j, j ≠ 6 → j ≠ 7 → m1 0 j = Im 0 j := fun j q1 q2 => by rw [b1, if_neg (by omega), if_neg (by omega), pI_g, if_neg (by omega), pI_g, if_neg (by omega)]
  have n11 : ∀ j, j < 6 → m1 11 j = nI (σ 8 j) := fun j hj => by rw [b1, if_pos ⟨rfl, hj⟩, pI_ro _ (by decide), pI_ro _ (by decide)]; exact hM.g 8 j (by simpa [rs] using hj)
  have n12 : ∀ j, j < 6 → m1 12 j = nI (σ 9 j) := fun j hj => by rw [b1, if_neg (by omega), if_pos ⟨rfl, hj⟩, pI_ro _ (by decide), pI_ro _ (by decide)]; exact hM.g 9 j (by simpa [rs] using hj)
  obtain ⟨m2, a2, b2⟩ := goThen_eq (x := x) (h := σ 0 7 + 1) hP hp.2.2.1 (by omega) (by omega) m1 Jm (by rw [n0 5 (by decide) (by decide)]; exact hM.g 0 5 rfl) (fun j hj => by
    have j6 : j < 6 := by omega
    refine ⟨?_, ?_, ?_, n11 j j6, n12 j j6⟩
    · rw [nr 4 j (by decide) (by decide) (by decide)]; exact hM.g 4 j (by simpa [rs] using j6)
    · rw [nr 5 j (by decide) (by decide) (by decide)]; exact hM.g 5 j (by simpa [rs] using j6)
    · rw [nr 6 j (by decide) (by decide) (by decide)]; exact hM.g 6 j (by simpa [rs] using j6))
  obtain ⟨m3, a3, b3⟩ := copy8 (e0 := 11) (e1 := 8) (n := 6) (by decide) (by decide) m2 Jm
  obtain ⟨m4, a4, b4⟩ := copy8 (e0 := 12) (e1 := 9) (n := 6) (by decide) (by decide) m3 Jm
  rw [bnd_t d1, bnd_t a1, n6, n7, bnd_t a2, bnd_t a3, bnd_t a4]
  refine ⟨_, i1, Jc, m4, Jm, rfl, rfl, goS σ x, ?_, ?_, ?_⟩
  · refine hG.rest (by simp [goS]) (by simp [goS]) (by simp [goS]) (by simp [goS]) (by simpa [goS] using hG.2.2.2.1) h8 ?_
    refine ⟨by simpa [goS] using s1, by simpa [goS] using s2, by simpa [goS] using s3, by simpa [goS] using hx, by simp [goS]; omega, by simpa [goS] using s6, by simpa [goS] using s7, ?_, by simpa [goS] using s9, by simpa [goS] using s10, by simpa [goS] using s11⟩
    intro j hj
    have hj : j < σ 0 5 := by simpa [goS] using hj
    obtain ⟨u1, u2, u3, u4, u5, u6⟩ := s8 j hj
    obtain ⟨v1, v2, v3, v4, v5, v6⟩ := hP.next (x := x) (h := σ 0 7 + 1) j hj
    simp only [goS]
    simp [hj]
    exact ⟨u1, u2, u3, v4, v5, v6⟩
  · refine ⟨fun k j hr => ?_, ?_⟩
    · by_cases k9 : k = 9
      · subst k9
        have hj : j < 6 := by simpa [rs] using hr
        rw [b4, if_pos ⟨rfl, hj⟩, b3, if_neg (by omega), b2, if_neg (by omega)]
        by_cases q : j < σ 0 5
        · rw [if_pos ⟨rfl, q⟩]; simp [goS, q]
        · rw [if_neg (by omega), n12 j hj]; simp [goS, q]
      by_cases k8 : k = 8
      · subst k8
        have hj : j < 6 := by simpa [rs] using hr
        rw [b4, if_neg (by omega), b3, if_pos ⟨rfl, hj⟩, b2]
        by_cases q : j < σ 0 5
        · rw [if_pos ⟨rfl, q⟩]; simp [goS, q]
        · rw [if_neg (by omega), if_neg (by omega), n11 j hj]; simp [goS, q]
      have k11 : k ≠ 11 := fun q => by subst q; simp [rs] at hr
      have k12 : k ≠ 12 := fun q => by subst q; simp [rs] at hr
      rw [b4, if_neg (by omega), b3, if_neg (by omega), b2, if_neg (by omega), if_neg (by omega)]
      by_cases k0 : k = 0
      · subst k0
        by_cases j6 : j = 6
        · subst j6; rw [n6]; simp [goS]
        by_cases j7 : j = 7
        · subst j7; rw [n7]; simp [goS]
        rw [n0 j j6 j7, hM.g 0 j hr]; simp [goS, j6, j7]
      · rw [nr k j k0 k11 k12, hM.g k j hr]; simp [goS, k0, k8, k9]
    · rw [b4, if_neg (by omega), b3, if_neg (by omega), b2, if_neg (by omega), if_neg (by omega), n0 30 (by decide) (by decide), hM.2]; simp [goS]
  · obtain ⟨c1, c2, c3, c4, c5, c6, c7, c8⟩ := hC
    have hk : ∀ k j, k ≠ 32 → k ≠ 33 → i1 k j = Ic k j := d3
    refine ⟨⟨by rw [hk 1 1 (by decide) (by decide)]; simpa [goS] using c1.1, fun j hj => by rw [hk 2 j (by decide) (by decide)]; simpa [goS] using c1.2 j hj⟩, ⟨by rw [hk 0 12 (by decide) (by decide)]; simpa [goS] using c2.1, by rw [hk 0 13 (by decide) (by decide)]; simpa [goS] using c2.2⟩, ⟨by rw [hk 3 0 (by decide) (by decide)]; simpa [goS] using c3.1, by rw [hk 3 1 (by decide) (by decide)]; simpa [goS] using c3.2.1, fun j hj => by rw [hk 4 j (by decide) (by decide), hk 5 j (by decide) (by decide)]; simpa [goS] using c3.2.2 j hj⟩, ⟨by rw [hk 22 0 (by decide) (by decide)]; simpa [goS] using c4.1, fun j hj => by rw [hk 23 j (by decide) (by decide), hk 24 j (by decide) (by decide), hk 25 j (by decide) (by decide), hk 26 j (by decide) (by decide)]; simpa [goS] using c4.2 j hj⟩, ⟨by rw [d2.1]; simp [goS], by rw [d2.2.1]; simp [goS], ?_, fun j hj => ?_⟩, ⟨by rw [hk 38 0 (by decide) (by decide)]; simpa [goS] using c6.1, fun j hj => by rw [hk 39 j (by decide) (by decide), hk 40 j (by decide) (by decide)]; simpa [goS] using c6.2 j hj⟩, ⟨by rw [hk 0 11 (by decide) (by decide)]; simpa [goS] using c7.1, fun hh => ?_⟩, ?_⟩
    · rw [d2.2.2.1]
      have e5 : goS σ x 0 5 = σ 0 5 := by simp [goS]
      rw [e5]
      exact congrArg nI (msk_dec (fun j hj => by simp [goS, hj]))
    · rw [d2.2.2.2 j hj]
      have e5 : goS σ x 0 5 = σ 0 5 := by simp [goS]
      rw [e5]
      by_cases q : j < σ 0 5
      · rw [if_pos q, if_pos q]; simp [goS, q]
      · rw [if_neg q, if_neg q]
    · have hh : σ 0 30 = σ 0 8 + 1 := by simpa [goS] using hh
      obtain ⟨p1, p2, p3⟩ := c7.2 hh
      refine ⟨⟨by rw [hk 27 0 (by decide) (by decide)]; simpa [goS] using p1.1, fun j hj => by rw [hk 28 j (by decide) (by decide), hk 29 j (by decide) (by decide), hk 30 j (by decide) (by decide), hk 31 j (by decide) (by decide)]; simpa [goS] using p1.2 j hj⟩, ?_, ⟨by rw [hk 41 0 (by decide) (by decide)]; simpa [goS] using p3.1, fun j hj => by rw [hk 42 j (by decide) (by decide), hk 43 j (by decide) (by decide)]; simpa [goS] using p3.2 j hj⟩⟩
      have := p2.keep (I' := i1) (fun k j h => hk k j (by omega) (by omega))
      simpa [goS] using this
    · have hc := RCt.keep c8 hG.p.1 (fun k j h1 h2 => hk k j (by omega) (by omega))
      simpa [RCt, goS] using hc
