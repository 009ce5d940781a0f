/-! the reference's measure -/
def Up (r : Nat) (s2 s3 : Nat → Nat) (gs g : Nat → Nat) : Prop := (∀ j, g j ≤ gs j) ∧ ∀ k, k < r → ∀ c, c < 6 → g (6 * s2 k + c) ≤ gs (6 * s3 k + c) + 1 ∧ g (6 * s3 k + c) ≤ gs (6 * s2 k + c) + 1
def Cpl (n : Nat) (A : Nat → Nat → Bool) (T : Nat) (g : Nat → Nat) : Prop := ∀ a, a < n → ∀ c, c < n → ∀ t, t ≤ T → Rf n A t a c = true → g (6 * a + c) ≤ t
theorem Cpl.up {n r T : Nat} {s2 s3 g0 g : Nat → Nat} (hn : n ≤ 6) (h : Cpl n (adj r s2 s3) T g0) (hu : Up r s2 s3 g0 g) : Cpl n (adj r s2 s3) (T + 1) g := by
  intro a ha c hc t ht hR
  cases t with
  | zero => exact Nat.le_trans (hu.1 _) (h a ha c hc 0 (Nat.zero_le _) hR)
  | succ t =>
    rcases Rf_s.mp hR with q | ⟨b, hb, q1, q2⟩
    · have := hu.1 (6 * a + c)
      have := h a ha c hc t (by omega) q
      omega
    · obtain ⟨k, hk, w⟩ := adj_iff.mp q1
      have z := h b hb c hc t (by omega) q2
      have y := hu.2 k hk c (by omega)
      rcases w with ⟨w1, w2⟩ | ⟨w1, w2⟩
      · rw [w1, w2] at y; omega
      · rw [w1, w2] at y; omega
theorem pass47 {n r : Nat} {s2 s3 : Nat → Nat} (hn : n ≤ 6) (hr8 : r ≤ 8) (hr : ∀ k, k < r → s2 k < n ∧ s3 k < n ∧ s2 k ≠ s3 k) (k39 : Int32 → aI → aJ → Option (RT Unit)) (x1 : Int32) {I s : aI} (J : aJ) (h04 : I 0 4 = nI r) (h23 : ∀ k, k < r → I 2 k = nI (s2 k) ∧ I 3 k = nI (s3 k)) (hs : ∀ q j, q ≠ 10 → s q j = I q j) {g0 : Nat → Nat} (hg : GI s g0) (hS : Snd n (adj r s2 s3) g0) :
    ∃ s' g, LX8_layFars_47 k39 128 x1 0 s J = k39 (x1 + 1) s' J ∧ GI s' g ∧ Snd n (adj r s2 s3) g ∧ Up r s2 s3 g0 g ∧ ∀ q j, q ≠ 10 → s' q j = I q j := by
  refine sl (fun f k (z : aI) => LX8_layFars_47 k39 f x1 (nI k) z J) r (fun k z => ∃ g, GI z g ∧ Snd n (adj r s2 s3) g ∧ Up k s2 s3 g0 g ∧ ∀ q j, q ≠ 10 → z q j = I q j)
    (fun y => ∃ s' g, y = k39 (x1 + 1) s' J ∧ GI s' g ∧ Snd n (adj r s2 s3) g ∧ Up r s2 s3 g0 g ∧ ∀ q j, q ≠ 10 → s' q j = I q j) ?_ ?_ (f0 := 128) (by omega) s ⟨g0, hg, hS, ⟨fun _ => Nat.le_refl _, fun k hk => absurd hk (Nat.not_lt_zero k)⟩, hs⟩
  · rintro f k z hk ⟨g, e1, e2, ⟨e3, e4⟩, e5⟩
    obtain ⟨s', g', a1, a2, a3, a4, a5, a6⟩ := relax hn hr8 hr k39 (LX8_layFars_47 k39 f) x1 hk J h23 e5 e1 e2
    refine ⟨s', ?_, g', a2, a3, ⟨fun j => Nat.le_trans (a4 j) (e3 j), fun k' hk' c hc => ?_⟩, a6⟩
    · show HX8_layFars_47 _ _ _ _ _ _ = _
      unfold HX8_layFars_47
      rw [e5 0 4 (by decide), h04, if_neg (nI_ge hk (by omega))]
      exact a1
    · by_cases y : k' = k
      · subst y
        have := a5 c hc
        have := e3 (6 * s2 k' + c)
        have := e3 (6 * s3 k' + c)
        omega
      · have := e4 k' (by omega) c hc
        have := a4 (6 * s2 k' + c)
        have := a4 (6 * s3 k' + c)
        omega
  · rintro f z ⟨g, e1, e2, e3, e5⟩
    refine ⟨z, g, ?_, e1, e2, e3, e5⟩
    show HX8_layFars_47 _ _ _ _ _ _ = _
    unfold HX8_layFars_47
    rw [e5 0 4 (by decide), h04, if_pos (nI_le (Nat.le_refl r) (by omega))]
theorem layFars_eq {n r : Nat} {s2 s3 : Nat → Nat} (hn : n ≤ 6) (hr8 : r ≤ 8) (hr : ∀ k, k < r → s2 k < n ∧ s3 k < n ∧ s2 k ≠ s3 k) (I : aI) (J : aJ) (h04 : I 0 4 = nI r) (h23 : ∀ k, k < r → I 2 k = nI (s2 k) ∧ I 3 k = nI (s3 k)) :
    ∃ I' g, fX8_layFars I J = some ((), I', J) ∧ GI I' g ∧ Dm n (adj r s2 s3) (fr g) ∧ ∀ q j, q ≠ 10 → I' q j = I q j := by
  have outer : ∀ (s : aI) (g0 : Nat → Nat), (∀ q j, q ≠ 10 → s q j = I q j) → GI s g0 → Snd n (adj r s2 s3) g0 → Cpl n (adj r s2 s3) 0 g0 → ∃ I' g, LX8_layFars_39 128 0 s J = some ((), I', J) ∧ GI I' g ∧ Dm n (adj r s2 s3) (fr g) ∧ ∀ q j, q ≠ 10 → I' q j = I q j := by
    intro s g0 hs h1 h2 h3
    refine sl (fun f i (z : aI) => LX8_layFars_39 f (nI i) z J) 6 (fun i z => ∃ g, GI z g ∧ Snd n (adj r s2 s3) g ∧ Cpl n (adj r s2 s3) i g ∧ ∀ q j, q ≠ 10 → z q j = I q j) (fun y => ∃ I' g, y = some ((), I', J) ∧ GI I' g ∧ Dm n (adj r s2 s3) (fr g) ∧ ∀ q j, q ≠ 10 → I' q j = I q j) ?_ ?_ (f0 := 128) (by decide) s ⟨g0, h1, h2, h3, hs⟩
    · rintro f i z hi ⟨g, e1, e2, e3, e4⟩
      obtain ⟨s', g', a1, a2, a3, a4, a5⟩ := pass47 hn hr8 hr (LX8_layFars_39 f) (nI i) J h04 h23 e4 e1 e2
      refine ⟨s', ?_, g', a2, a3, e3.up hn a4, a5⟩
      show HX8_layFars_39 _ _ _ _ = _
      unfold HX8_layFars_39
      rw [if_neg (show ¬ (6 : Int32) ≤ nI i from nI_ge (b := 6) hi (by decide)), a1, nI_1]
    · rintro f z ⟨g, e1, e2, e3, e4⟩
      refine ⟨z, g, ?_, e1, fun a ha c hc => ⟨e2 a ha c hc, (e1 (6 * a + c) (by omega)).2, fun t ht h => e3 a ha c hc t ht h⟩, e4⟩
      show HX8_layFars_39 _ _ _ _ = _
      unfold HX8_layFars_39
      rw [if_pos (show (6 : Int32) ≤ nI 6 from by decide)]
  refine sl (fun f i (z : aI) => LX8_layFars_2 f (nI i) z J) 36 (fun i z => (∀ j, j < i → z 10 j = nI (if j / 6 = j % 6 then 0 else 99)) ∧ ∀ q j, q ≠ 10 → z q j = I q j) (fun y => ∃ I' g, y = some ((), I', J) ∧ GI I' g ∧ Dm n (adj r s2 s3) (fr g) ∧ ∀ q j, q ≠ 10 → I' q j = I q j) ?_ ?_ (f0 := 128) (by decide) I ⟨fun j hj => absurd hj (Nat.not_lt_zero j), fun _ _ _ => rfl⟩
  · rintro f i z hi ⟨e1, e2⟩
    obtain ⟨d1, d2⟩ := d6 hi
    refine ⟨pI z 10 i (nI (if i / 6 = i % 6 then 0 else 99)), ?_, fun j hj => ?_, fun q j hq => by rw [pI_ro _ hq]; exact e2 q j hq⟩
    · show HX8_layFars_2 _ _ _ _ = _
      unfold HX8_layFars_2 BX8_layFars_30
      rw [if_neg (show ¬ (36 : Int32) ≤ nI i from nI_ge (b := 36) hi (by decide)), d1, d2, gd_t (inb_nI hi (by decide)), gd_t (inb_nI hi (by decide)), nI_clamp (by omega), nI_1]
      have l1 : nI (i / 6) = nI (i % 6) ↔ i / 6 = i % 6 := nI_eq (by omega) (by omega)
      simp only [l1]
      by_cases w : i / 6 = i % 6
      · rw [if_pos w, if_pos w]; rfl
      · rw [if_neg w, if_neg w]; rfl
    · rw [pI_g]
      by_cases w : j = i
      · rw [if_pos ⟨rfl, w⟩, w]
      · rw [if_neg (fun y => w y.2)]; exact e1 j (by omega)
  · rintro f z ⟨e1, e2⟩
    show ∃ I' g, HX8_layFars_2 _ _ _ _ = _ ∧ _
    unfold HX8_layFars_2
    rw [if_pos (show (36 : Int32) ≤ nI 36 from by decide)]
    refine outer z (fun j => if j / 6 = j % 6 then 0 else 99) e2 (fun j hj => ⟨e1 j hj, by show (if j / 6 = j % 6 then 0 else 99) ≤ 99; split <;> omega⟩) (fun a ha c hc hl => ?_) (fun a ha c hc t ht hR => ?_)
    · have e1 : (6 * a + c) / 6 = a := by omega
      have e2 : (6 * a + c) % 6 = c := by omega
      have hl : (if (6 * a + c) / 6 = (6 * a + c) % 6 then 0 else 99) < 99 := hl
      show Rf n (adj r s2 s3) (if (6 * a + c) / 6 = (6 * a + c) % 6 then 0 else 99) a c = true
      rw [e1, e2] at hl ⊢
      by_cases w : a = c
      · rw [if_pos w]; simp [Rf, w]
      · rw [if_neg w] at hl; omega
    · have e0 : t = 0 := by omega
      subst e0
      have : a = c := by simpa [Rf] using hR
      subst this
      show (if (6 * a + a) / 6 = (6 * a + a) % 6 then 0 else 99) ≤ 0
      rw [if_pos (by omega)]
      exact Nat.le_refl 0
