/-! how far: what both measures find -/
def adj (r : Nat) (s2 s3 : Nat → Nat) (a b : Nat) : Bool := anyB r (fun k => (decide (s2 k = a) && decide (s3 k = b)) || (decide (s3 k = a) && decide (s2 k = b)))
theorem anyB_iff {n : Nat} {f : Nat → Bool} : anyB n f = true ↔ ∃ i, i < n ∧ f i = true := by
  induction n with
  | zero => exact ⟨fun h => absurd (show (false : Bool) = true from h) (by decide), fun ⟨i, hi, _⟩ => absurd hi (Nat.not_lt_zero i)⟩
  | succ n ih =>
    rw [anyB_s, Bool.or_eq_true, ih]
    constructor
    · rintro (⟨i, hi, h⟩ | h)
      · exact ⟨i, by omega, h⟩
      · exact ⟨n, by omega, h⟩
    · rintro ⟨i, hi, h⟩
      by_cases q : i = n
      · subst q; exact Or.inr h
      · exact Or.inl ⟨i, by omega, h⟩
theorem adj_iff {r : Nat} {s2 s3 : Nat → Nat} {a b : Nat} : adj r s2 s3 a b = true ↔ ∃ k, k < r ∧ ((s2 k = a ∧ s3 k = b) ∨ (s3 k = a ∧ s2 k = b)) := by
  unfold adj
  rw [anyB_iff]
  constructor
  · rintro ⟨k, hk, h⟩
    exact ⟨k, hk, by simpa using h⟩
  · rintro ⟨k, hk, h⟩
    exact ⟨k, hk, by simpa using h⟩
theorem adj_sym {r : Nat} {s2 s3 : Nat → Nat} {a b : Nat} (h : adj r s2 s3 a b = true) : adj r s2 s3 b a = true := by
  obtain ⟨k, hk, h⟩ := adj_iff.mp h
  exact adj_iff.mpr ⟨k, hk, by omega⟩
/-- c is within t roads of a -/
def Rf (n : Nat) (A : Nat → Nat → Bool) : Nat → Nat → Nat → Bool
  | 0, a, c => decide (a = c)
  | t + 1, a, c => Rf n A t a c || anyB n (fun b => A a b && Rf n A t b c)
theorem Rf_s {n : Nat} {A : Nat → Nat → Bool} {t a c : Nat} : Rf n A (t + 1) a c = true ↔ Rf n A t a c = true ∨ ∃ b, b < n ∧ A a b = true ∧ Rf n A t b c = true := by
  show (Rf n A t a c || anyB n (fun b => A a b && Rf n A t b c)) = true ↔ _
  rw [Bool.or_eq_true, anyB_iff]
  simp only [Bool.and_eq_true]
theorem Rf_le {n : Nat} {A : Nat → Nat → Bool} {a c t u : Nat} (h : t ≤ u) (hr : Rf n A t a c = true) : Rf n A u a c = true := by
  induction h with
  | refl => exact hr
  | step _ ih => exact Rf_s.mpr (Or.inl ih)
theorem Rf_end {n : Nat} {A : Nat → Nat → Bool} : ∀ {t a b c : Nat}, a < n → c < n → Rf n A t a b = true → A b c = true → Rf n A (t + 1) a c = true
  | 0, a, b, c, ha, hc, h, hA => by
    have : a = b := by simpa [Rf] using h
    subst this
    exact Rf_s.mpr (Or.inr ⟨c, hc, hA, by simp [Rf]⟩)
  | t + 1, a, b, c, ha, hc, h, hA => by
    rcases Rf_s.mp h with h | ⟨d, hd, h1, h2⟩
    · exact Rf_le (by omega) (Rf_end ha hc h hA)
    · exact Rf_s.mpr (Or.inr ⟨d, hd, h1, Rf_end hd hc h2 hA⟩)
theorem Rf_sym {n : Nat} {A : Nat → Nat → Bool} (hA : ∀ a b, A a b = true → A b a = true) : ∀ {t a c : Nat}, a < n → c < n → Rf n A t a c = true → Rf n A t c a = true
  | 0, a, c, _, _, h => by
    have : a = c := by simpa [Rf] using h
    simp [Rf, this]
  | t + 1, a, c, ha, hc, h => by
    rcases Rf_s.mp h with h | ⟨b, hb, h1, h2⟩
    · exact Rf_le (by omega) (Rf_sym hA ha hc h)
    · exact Rf_end hc ha (Rf_sym hA hb hc h2) (hA _ _ h1)
theorem cnt_mono {f g : Nat → Bool} : ∀ n, (∀ i, i < n → f i = true → g i = true) → cntB f n ≤ cntB g n
  | 0, _ => Nat.le_refl _
  | n + 1, h => by
    have ih := cnt_mono n (fun i hi => h i (by omega))
    have hn := h n (by omega)
    simp only [cntB]
    by_cases q : f n = true
    · rw [if_pos q, if_pos (hn q)]; omega
    · rw [if_neg q]; omega
theorem cnt_grow {f g : Nat → Bool} {b : Nat} : ∀ n, b < n → (∀ i, i < n → f i = true → g i = true) → f b = false → g b = true → cntB f n + 1 ≤ cntB g n
  | 0, hb, _, _, _ => absurd hb (Nat.not_lt_zero b)
  | n + 1, hb, h, h1, h2 => by
    simp only [cntB]
    by_cases q : b = n
    · subst q
      have := cnt_mono b (fun i hi => h i (by omega))
      rw [if_neg (by rw [h1]; decide), if_pos h2]
      omega
    · have ih := cnt_grow n (by omega) (fun i hi => h i (by omega)) h1 h2
      have hn := h n (by omega)
      by_cases z : f n = true
      · rw [if_pos z, if_pos (hn z)]; omega
      · rw [if_neg z]; omega
/-- what is found new at step t + 1 needs t + 2 corners -/
theorem Rf_new {n : Nat} {A : Nat → Nat → Bool} {c : Nat} (hc : c < n) : ∀ {t b : Nat}, b < n → Rf n A (t + 1) b c = true → Rf n A t b c = false → t + 2 ≤ cntB (fun b => Rf n A (t + 1) b c) n
  | 0, b, hb, h1, h2 => by
    have e0 : 1 ≤ cntB (fun b => Rf n A 0 b c) n := by
      have := cnt_grow (f := fun _ => false) (g := fun b => Rf n A 0 b c) n hc (fun i _ h => absurd h (by decide)) rfl (by simp [Rf])
      omega
    have := cnt_grow (f := fun b => Rf n A 0 b c) (g := fun b => Rf n A (0 + 1) b c) n hb (fun i _ h => Rf_le (by decide) h) h2 h1
    omega
  | t + 1, b, hb, h1, h2 => by
    rcases Rf_s.mp h1 with h | ⟨d, hd, h3, h4⟩
    · rw [h2] at h; exact absurd h (by decide)
    have h5 : Rf n A t d c = false := by
      apply Bool.eq_false_iff.mpr
      intro z
      have := Rf_s.mpr (Or.inr ⟨d, hd, h3, z⟩)
      rw [h2] at this
      exact absurd this (by decide)
    have ih := Rf_new hc hd h4 h5
    have := cnt_grow (f := fun b => Rf n A (t + 1) b c) (g := fun b => Rf n A (t + 1 + 1) b c) n hb (fun i _ h => Rf_le (by omega) h) h2 h1
    omega
/-- all that can be reached is reached in n - 1 -/
theorem Rf_full {n : Nat} {A : Nat → Nat → Bool} {c : Nat} (hc : c < n) : ∀ {t b : Nat}, b < n → Rf n A t b c = true → Rf n A (n - 1) b c = true
  | 0, b, hb, h => Rf_le (by omega) h
  | t + 1, b, hb, h => by
    by_cases q : Rf n A t b c = true
    · exact Rf_full hc hb q
    · have h1 := Rf_new hc hb h (by simpa using q)
      have h2 := cntB_le (fun b => Rf n A (t + 1) b c) n
      exact Rf_le (by omega) h
/-- f tells the least number of roads; 99: no way -/
def Dm (n : Nat) (A : Nat → Nat → Bool) (f : Nat → Nat → Nat) : Prop := ∀ a, a < n → ∀ c, c < n → (f a c < 99 → Rf n A (f a c) a c = true) ∧ f a c ≤ 99 ∧ ∀ t, t ≤ 6 → Rf n A t a c = true → f a c ≤ t
theorem Dm.small {n : Nat} {A : Nat → Nat → Bool} {f : Nat → Nat → Nat} (hn : n ≤ 6) (h : Dm n A f) {a c : Nat} (ha : a < n) (hc : c < n) : f a c ≤ n - 1 ∨ f a c = 99 := by
  obtain ⟨h1, h2, h3⟩ := h a ha c hc
  by_cases q : f a c < 99
  · exact Or.inl (h3 _ (by omega) (Rf_full hc ha (h1 q)))
  · right; omega
theorem Dm.sym {n : Nat} {A : Nat → Nat → Bool} {f : Nat → Nat → Nat} (hn : n ≤ 6) (hA : ∀ a b, A a b = true → A b a = true) (h : Dm n A f) {a c : Nat} (ha : a < n) (hc : c < n) : f a c = f c a := by
  have key : ∀ a c, a < n → c < n → f a c ≤ f c a := by
    intro a c ha hc
    obtain ⟨h1, h2, h3⟩ := h c hc a ha
    have h4 := h a ha c hc
    rcases h.small hn hc ha with q | q
    · exact h4.2.2 _ (by omega) (Rf_sym hA hc ha (h1 (by omega)))
    · omega
  have k1 := key a c ha hc
  have k2 := key c a hc ha
  omega
theorem Dm.di {n r : Nat} {s2 s3 : Nat → Nat} {f : Nat → Nat → Nat} (hn : n ≤ 6) (hr : ∀ k, k < r → s2 k < n ∧ s3 k < n ∧ s2 k ≠ s3 k) (h : Dm n (adj r s2 s3) f) : Di n f r s2 s3 := by
  have hA : ∀ a b, adj r s2 s3 a b = true → adj r s2 s3 b a = true := fun a b => adj_sym
  have hne : ∀ a, adj r s2 s3 a a = true → False := by
    intro a z
    obtain ⟨k, hk, q⟩ := adj_iff.mp z
    have := hr k hk
    omega
  have h0 : ∀ a, a < n → ∀ c, c < n → (f a c = 0 ↔ a = c) := by
    intro a ha c hc
    obtain ⟨h1, h2, h3⟩ := h a ha c hc
    constructor
    · intro z
      have := h1 (by omega)
      rw [z] at this
      simpa [Rf] using this
    · intro z
      have := h3 0 (by decide) (by simp [Rf, z])
      omega
  have h1 : ∀ a, a < n → ∀ c, c < n → (f a c = 1 ↔ a ≠ c ∧ adj r s2 s3 a c = true) := by
    intro a ha c hc
    obtain ⟨g1, g2, g3⟩ := h a ha c hc
    have z0 := h0 a ha c hc
    constructor
    · intro z
      have := g1 (by omega)
      rw [z] at this
      refine ⟨fun y => by have := z0.mpr y; omega, ?_⟩
      rcases Rf_s.mp this with q | ⟨b, hb, q1, q2⟩
      · have : a = c := by simpa [Rf] using q
        have := z0.mpr this
        omega
      · have : b = c := by simpa [Rf] using q2
        rw [← this]; exact q1
    · rintro ⟨y1, y2⟩
      have := g3 1 (by decide) (Rf_s.mpr (Or.inr ⟨c, hc, y2, by simp [Rf]⟩))
      have : f a c ≠ 0 := fun y => y1 (z0.mp y)
      omega
  refine ⟨fun i hi j hj => ⟨?_, h0 i hi j hj, h.sym hn hA hi hj, ?_⟩, fun i hi j hj k hk hik => ?_, fun i hi j hj hpos h99 => ?_⟩
  · rcases h.small hn hi hj with q | q
    · left; omega
    · exact Or.inr q
  · rw [h1 i hi j hj, adj_iff]
    constructor
    · rintro ⟨y, k, hk, q⟩
      exact ⟨y, k, hk, by omega⟩
    · rintro ⟨y, k, hk, q⟩
      exact ⟨y, k, hk, by omega⟩
  · by_cases q : f k j = 99
    · exact Or.inr q
    · left
      have g := h k hk j hj
      have g' := h i hi j hj
      have sm := h.small hn hk hj
      have hR := g.1 (by omega)
      by_cases z : i = k
      · subst z; omega
      · have : f i k = 1 := by
          have := (h0 i hi k hk)
          have : f i k ≠ 0 := fun y => z (this.mp y)
          omega
        exact g'.2.2 _ (by omega) (Rf_s.mpr (Or.inr ⟨k, hk, ((h1 i hi k hk).mp this).2, hR⟩))
  · have g := h i hi j hj
    have sm := h.small hn hi hj
    obtain ⟨t, ht⟩ : ∃ t, f i j = t + 1 := ⟨f i j - 1, by omega⟩
    have hR := g.1 (by omega)
    rw [ht] at hR
    rcases Rf_s.mp hR with q | ⟨b, hb, q1, q2⟩
    · have := g.2.2 t (by omega) q
      omega
    · have gb := h b hb j hj
      have l1 := gb.2.2 t (by omega) q2
      have l2 : f i j ≤ f b j + 1 := g.2.2 _ (by omega) (Rf_s.mpr (Or.inr ⟨b, hb, q1, gb.1 (by omega)⟩))
      refine ⟨b, hb, (h1 i hi b hb).mpr ⟨fun y => ?_, q1⟩, by omega⟩
      subst y
      exact hne i q1
