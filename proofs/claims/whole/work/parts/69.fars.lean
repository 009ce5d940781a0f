def Snd (n : Nat) (A : Nat → Nat → Bool) (g : Nat → Nat) : Prop := ∀ a, a < n → ∀ c, c < n → g (6 * a + c) < 99 → Rf n A (g (6 * a + c)) a c = true
def GI (s : aI) (g : Nat → Nat) : Prop := ∀ j, j < 36 → s 10 j = nI (g j) ∧ g j ≤ 99
def gup (g : Nat → Nat) (i x : Nat) : Nat → Nat := fun j => if j = i then x else g j
def mn (x y : Nat) : Nat := if x ≤ y then x else y
theorem GI.up {s : aI} {g : Nat → Nat} (h : GI s g) {i x : Nat} (hx : x ≤ 99) : GI (pI s 10 i (nI x)) (gup g i x) := by
  intro j hj
  rw [pI_g]
  unfold gup
  by_cases q : j = i
  · rw [if_pos ⟨rfl, q⟩, if_pos q]; exact ⟨rfl, hx⟩
  · rw [if_neg (fun z => q z.2), if_neg q]; exact h j hj
theorem Snd.up {n : Nat} {A : Nat → Nat → Bool} {g : Nat → Nat} (hn : n ≤ 6) (h : Snd n A g) {a b c : Nat} (ha : a < n) (hb : b < n) (hc6 : c < 6) (hA : A a b = true) : Snd n A (gup g (6 * a + c) (mn (g (6 * a + c)) (g (6 * b + c) + 1))) := by
  intro a' ha' c' hc' hl
  unfold gup at hl ⊢
  by_cases q : 6 * a' + c' = 6 * a + c
  · have q1 : a' = a := by omega
    have q2 : c' = c := by omega
    subst q1 q2
    rw [if_pos rfl] at hl ⊢
    unfold mn at hl ⊢
    by_cases z : g (6 * a' + c') ≤ g (6 * b + c') + 1
    · rw [if_pos z] at hl ⊢; exact h a' ha' c' hc' hl
    · rw [if_neg z] at hl ⊢
      exact Rf_s.mpr (Or.inr ⟨b, hb, hA, h b hb c' hc' (by omega)⟩)
  · rw [if_neg q] at hl ⊢
    exact h a' ha' c' hc' hl
theorem mn_le (x y : Nat) : mn x y ≤ x ∧ mn x y ≤ y := by unfold mn; split <;> omega
theorem relax {n r : Nat} {s2 s3 : Nat → Nat} (hn : n ≤ 6) (hr8 : r ≤ 8) (hr : ∀ k, k < r → s2 k < n ∧ s3 k < n ∧ s2 k ≠ s3 k) (k39 : Int32 → aI → aJ → Option (RT Unit)) (k47 : Int32 → Int32 → aI → aJ → Option (RT Unit)) (x1 : Int32) {k : Nat} (hk : k < r) {I s : aI} (J : aJ) (h23 : ∀ k, k < r → I 2 k = nI (s2 k) ∧ I 3 k = nI (s3 k)) (hs : ∀ q j, q ≠ 10 → s q j = I q j) {g0 : Nat → Nat} (hg : GI s g0) (hS : Snd n (adj r s2 s3) g0) :
    ∃ s' g, LX8_layFars_57 k39 k47 128 x1 (nI k) 0 s J = k47 x1 (nI (k + 1)) s' J ∧ GI s' g ∧ Snd n (adj r s2 s3) g ∧ (∀ j, g j ≤ g0 j) ∧ (∀ c, c < 6 → g (6 * s2 k + c) ≤ g0 (6 * s3 k + c) + 1 ∧ g (6 * s3 k + c) ≤ g0 (6 * s2 k + c) + 1) ∧ ∀ q j, q ≠ 10 → s' q j = I q j := by
  obtain ⟨q1, q2, q3⟩ := hr k hk
  obtain ⟨c2, c3⟩ := h23 k hk
  have hA : adj r s2 s3 (s2 k) (s3 k) = true := adj_iff.mpr ⟨k, hk, Or.inl ⟨rfl, rfl⟩⟩
  refine sl (fun f c (z : aI) => LX8_layFars_57 k39 k47 f x1 (nI k) (nI c) z J) 6 (fun c z => ∃ g, GI z g ∧ Snd n (adj r s2 s3) g ∧ (∀ j, g j ≤ g0 j) ∧ (∀ c', c' < c → g (6 * s2 k + c') ≤ g0 (6 * s3 k + c') + 1 ∧ g (6 * s3 k + c') ≤ g0 (6 * s2 k + c') + 1) ∧ ∀ q j, q ≠ 10 → z q j = I q j)
    (fun y => ∃ s' g, y = k47 x1 (nI (k + 1)) s' J ∧ GI s' g ∧ Snd n (adj r s2 s3) g ∧ (∀ j, g j ≤ g0 j) ∧ (∀ c, c < 6 → g (6 * s2 k + c) ≤ g0 (6 * s3 k + c) + 1 ∧ g (6 * s3 k + c) ≤ g0 (6 * s2 k + c) + 1) ∧ ∀ q j, q ≠ 10 → s' q j = I q j) ?_ ?_ (f0 := 128) (by decide) s ⟨g0, hg, hS, fun _ => Nat.le_refl _, fun c' hc' => absurd hc' (Nat.not_lt_zero c'), hs⟩
  · rintro f c z hc ⟨g, e1, e2, e3, e4, e5⟩
    obtain ⟨i1, i2, i3⟩ := i6 (a := s2 k) (b := c) (by omega) hc
    obtain ⟨j1, j2, j3⟩ := i6 (a := s3 k) (b := c) (by omega) hc
    obtain ⟨v1, w1⟩ := e1 (6 * s2 k + c) (by omega)
    obtain ⟨v2, w2⟩ := e1 (6 * s3 k + c) (by omega)
    have m1 := mn_le (g (6 * s2 k + c)) (g (6 * s3 k + c) + 1)
    obtain ⟨g1, hg1⟩ : ∃ g1, g1 = gup g (6 * s2 k + c) (mn (g (6 * s2 k + c)) (g (6 * s3 k + c) + 1)) := ⟨_, rfl⟩
    have E1 : GI (pI z 10 (6 * s2 k + c) (nI (mn (g (6 * s2 k + c)) (g (6 * s3 k + c) + 1)))) g1 := by rw [hg1]; exact e1.up (by omega)
    have S1 : Snd n (adj r s2 s3) g1 := by rw [hg1]; exact e2.up hn q1 q2 hc hA
    have a1 : g1 (6 * s2 k + c) = mn (g (6 * s2 k + c)) (g (6 * s3 k + c) + 1) := by rw [hg1]; unfold gup; rw [if_pos rfl]
    have b1 : g1 (6 * s3 k + c) = g (6 * s3 k + c) := by rw [hg1]; unfold gup; rw [if_neg (by omega)]
    have o1 : ∀ j, j ≠ 6 * s2 k + c → g1 j = g j := fun j hj => by rw [hg1]; unfold gup; rw [if_neg hj]
    obtain ⟨v3, w3⟩ := E1 (6 * s2 k + c) (by omega)
    obtain ⟨v4, w4⟩ := E1 (6 * s3 k + c) (by omega)
    have m2 := mn_le (g1 (6 * s3 k + c)) (g1 (6 * s2 k + c) + 1)
    obtain ⟨g2, hg2⟩ : ∃ g2, g2 = gup g1 (6 * s3 k + c) (mn (g1 (6 * s3 k + c)) (g1 (6 * s2 k + c) + 1)) := ⟨_, rfl⟩
    have E2 : GI (pI (pI z 10 (6 * s2 k + c) (nI (mn (g (6 * s2 k + c)) (g (6 * s3 k + c) + 1)))) 10 (6 * s3 k + c) (nI (mn (g1 (6 * s3 k + c)) (g1 (6 * s2 k + c) + 1)))) g2 := by rw [hg2]; exact E1.up (by omega)
    have S2 : Snd n (adj r s2 s3) g2 := by rw [hg2]; exact S1.up hn q2 q1 hc (adj_sym hA)
    have b2 : g2 (6 * s3 k + c) = mn (g1 (6 * s3 k + c)) (g1 (6 * s2 k + c) + 1) := by rw [hg2]; unfold gup; rw [if_pos rfl]
    have o2 : ∀ j, j ≠ 6 * s3 k + c → g2 j = g1 j := fun j hj => by rw [hg2]; unfold gup; rw [if_neg hj]
    have l1 : ∀ j, g2 j ≤ g j := fun j => by
      by_cases y3 : j = 6 * s3 k + c
      · subst y3; rw [b2]; omega
      · rw [o2 j y3]
        by_cases y2 : j = 6 * s2 k + c
        · subst y2; rw [a1]; omega
        · rw [o1 j y2]; omega
    refine ⟨_, ?_, g2, E2, S2, fun j => Nat.le_trans (l1 j) (e3 j), fun c' hc' => ?_, fun q j hq => by rw [pI_ro _ hq, pI_ro _ hq]; exact e5 q j hq⟩
    · show HX8_layFars_57 _ _ _ _ _ _ _ _ = _
      unfold HX8_layFars_57
      rw [if_neg (show ¬ (6 : Int32) ≤ nI c from nI_ge (b := 6) hc (by decide)), gd_t (inb_nI (show k < 8 by omega) (by decide)), nI_clamp (show k < 2 ^ 31 by omega), e5 2 k (by decide), e5 3 k (by decide), c2, c3, i1, j1, gd_t j2, gd_t i2, i3, j3, v1, v2, nI_1]
      have tail : ∀ u, u = mn (g (6 * s2 k + c)) (g (6 * s3 k + c) + 1) → BX8_layFars_133 k39 k47 (LX8_layFars_57 k39 k47 f) x1 (nI k) (nI c) (nI (6 * s2 k + c)) (nI (6 * s3 k + c)) (nI u) (nI (6 * s2 k + c)) z J = LX8_layFars_57 k39 k47 f x1 (nI k) (nI (c + 1)) (pI (pI z 10 (6 * s2 k + c) (nI (mn (g (6 * s2 k + c)) (g (6 * s3 k + c) + 1)))) 10 (6 * s3 k + c) (nI (mn (g1 (6 * s3 k + c)) (g1 (6 * s2 k + c) + 1)))) J := by
        intro u hu
        subst hu
        unfold BX8_layFars_133 BX8_layFars_178
        rw [gd_t i2, gd_t i2, gd_t j2, i3, j3, v3, v4, nI_1, gd_t j2, gd_t j2, nI_1]
        unfold mn
        by_cases y : g1 (6 * s3 k + c) ≤ g1 (6 * s2 k + c) + 1
        · rw [if_pos (nI_le y (by omega)), if_pos y]
        · rw [if_neg (nI_ge (by omega) (by omega)), if_neg y]
      by_cases y : g (6 * s2 k + c) ≤ g (6 * s3 k + c) + 1
      · rw [if_pos (nI_le y (by omega))]
        exact tail _ (by unfold mn; rw [if_pos y])
      · rw [if_neg (nI_ge (by omega) (by omega))]
        exact tail _ (by unfold mn; rw [if_neg y])
    · by_cases y : c' = c
      · subst y
        have f2 := e3 (6 * s2 k + c')
        have f3 := e3 (6 * s3 k + c')
        have t2 : g2 (6 * s2 k + c') = g1 (6 * s2 k + c') := o2 _ (by omega)
        exact ⟨by rw [t2, a1]; omega, by rw [b2, a1] at *; omega⟩
      · have := e4 c' (by omega)
        have := l1 (6 * s2 k + c')
        have := l1 (6 * s3 k + c')
        omega
  · rintro f z ⟨g, e1, e2, e3, e4, e5⟩
    refine ⟨z, g, ?_, e1, e2, e3, e4, e5⟩
    show HX8_layFars_57 _ _ _ _ _ _ _ _ = _
    unfold HX8_layFars_57
    rw [if_pos (show (6 : Int32) ≤ nI 6 from by decide), nI_1]
