/-! what a page that is a suburb says -/
theorem fl_all {q : Nat → Nat} : ∀ m x, fl q m x = x + m → ∀ y, x ≤ y → y < x + m → okL q (smAt q y) y = true
  | 0, x, _, y, h1, h2 => by omega
  | m + 1, x, h, y, h1, h2 => by
    have h : (if okL q (smAt q x) x = true then fl q m (x + 1) else x) = x + (m + 1) := h
    by_cases w : okL q (smAt q x) x = true
    · rw [if_pos w] at h
      by_cases z : y = x
      · rw [z]; exact w
      · exact fl_all m (x + 1) (by omega) y (by omega) (by omega)
    · rw [if_neg w] at h; omega
theorem sm_stay {q : Nat → Nat} {x : Nat} (h : smAt q x ≠ 0) : ∀ k, smAt q (x + k) = smAt q x
  | 0 => rfl
  | k + 1 => by
    have ih := sm_stay h k
    show smS q (smAt q (x + k)) (x + k) = _
    rw [ih]
    unfold smS
    rw [if_neg (fun y => h y.2.1)]
theorem sm_late {q : Nat → Nat} {x : Nat} (h : smAt q x = 0) : ∀ k, smAt q (x + k) = 0 ∨ x ≤ smAt q (x + k)
  | 0 => Or.inl h
  | k + 1 => by
    show smS q (smAt q (x + k)) (x + k) = 0 ∨ x ≤ smS q (smAt q (x + k)) (x + k)
    unfold smS
    by_cases c : 3 ≤ x + k ∧ smAt q (x + k) = 0 ∧ (x + k - 3) % 3 = 2 ∧ q (x + k) = 59
    · rw [if_pos c]; right; omega
    · rw [if_neg c]; exact sm_late h k
theorem sm_lo {q : Nat → Nat} {N y : Nat} (hsm : smAt q N ≠ 0) (hy : y ≤ smAt q N) : smAt q y = 0 := by
  apply Decidable.byContradiction
  intro z
  have h1 := smAt_lt q y z
  have h0 := smAt_lt q N hsm
  have h2 := sm_stay z (N - y)
  rw [show y + (N - y) = N by omega] at h2
  omega
theorem sm_hi {q : Nat → Nat} {N y : Nat} (hsm : smAt q N ≠ 0) (hy : smAt q N < y) (hN : y ≤ N) : smAt q y = smAt q N := by
  by_cases z : smAt q y = 0
  · have h2 := sm_late z (N - y)
    rw [show y + (N - y) = N by omega] at h2
    omega
  · have h2 := sm_stay z (N - y)
    rw [show y + (N - y) = N by omega] at h2
    exact h2.symm
theorem page_ok {q : Nat → Nat} {N : Nat} (hfl : fl q N 0 = N) (hsm : smAt q N ≠ 0) (h10 : smAt q N + 10 ≤ N) (h5 : (N - smAt q N) % 5 = 0) :
    (50 ≤ q 0 ∧ q 0 ≤ 54) ∧ cLet q 1 = true ∧ (∃ r, smAt q N = 3 * r + 2 ∧ 1 ≤ r ∧ r ≤ 8 ∧ ∀ k, k < r → cLet q (3 + 3 * k) = true ∧ cLet q (4 + 3 * k) = true ∧ q (4 + 3 * k) ≠ q (3 + 3 * k)) ∧
    ∃ p, N = smAt q N + 5 * p ∧ 2 ≤ p ∧ p ≤ 6 ∧ ∀ j, j < p → kdN (q (smAt q N + 1 + 5 * j)) < 5 ∧ cLet q (smAt q N + 1 + 5 * j + 1) = true ∧ dLet q (smAt q N + 1 + 5 * j + 2) = true ∧ dLet q (smAt q N + 1 + 5 * j + 3) = true := by
  have all := fl_all (q := q) N 0 (by omega)
  obtain ⟨m1, m2, m3⟩ := smAt_lt q N hsm
  have road : ∀ x, 3 ≤ x → x ≤ smAt q N → okR q x = true := by
    intro x h1 h2
    have := all x (by omega) (by omega)
    unfold okL at this
    rw [if_neg (by omega), if_neg (by omega), if_neg (by omega), if_pos (sm_lo hsm h2)] at this
    exact this
  have pers : ∀ x, smAt q N < x → x < N → okP q (smAt q N) x = true := by
    intro x h1 h2
    have := all x (by omega) (by omega)
    unfold okL at this
    rw [sm_hi hsm h1 (by omega), if_neg (by omega), if_neg (by omega), if_neg (by omega), if_neg hsm] at this
    exact this
  have sep : ∀ x, 3 ≤ x → x < smAt q N → (x - 3) % 3 = 2 → x - 3 < 23 := by
    intro x h1 h2 h3
    have h := road x h1 (by omega)
    unfold okR at h
    rw [if_neg (by omega), if_neg (by omega)] at h
    by_cases w : q x = 59
    · have e : smAt q (x + 1) = x := by
        show smS q (smAt q x) x = x
        unfold smS
        rw [if_pos ⟨h1, sm_lo hsm (by omega), h3, w⟩]
      have := sm_lo (y := x + 1) hsm (by omega)
      omega
    · rw [if_neg w] at h
      have : q x = 44 ∧ x - 3 < 23 := by simpa using h
      exact this.2
  refine ⟨?_, ?_, ⟨(smAt q N - 2) / 3, by omega, by omega, ?_, fun k hk => ⟨?_, ?_⟩⟩, ⟨(N - smAt q N) / 5, by omega, by omega, ?_, fun j hj => ⟨?_, ?_, ?_, ?_⟩⟩⟩
  · have := all 0 (by omega) (by omega)
    unfold okL at this
    rw [if_pos rfl] at this
    simpa using this
  · have := all 1 (by omega) (by omega)
    unfold okL at this
    rw [if_neg (by decide), if_pos rfl] at this
    exact this
  · apply Decidable.byContradiction
    intro z
    have := sep 26 (by omega) (by omega) (by decide)
    omega
  · have h := road (3 + 3 * k) (by omega) (by omega)
    unfold okR at h
    rw [if_pos (by omega)] at h
    exact h
  · have h := road (4 + 3 * k) (by omega) (by omega)
    unfold okR at h
    rw [if_neg (by omega), if_pos (by omega), show 4 + 3 * k - 1 = 3 + 3 * k by omega, Bool.and_eq_true] at h
    exact ⟨h.1, by simpa using h.2⟩
  · apply Decidable.byContradiction
    intro z
    have h := pers (smAt q N + 30) (by omega) (by omega)
    unfold okP at h
    rw [show smAt q N + 30 - smAt q N - 1 = 29 by omega, if_neg (by decide), if_neg (by decide), if_pos (by decide)] at h
    simp at h
  · have h := pers (smAt q N + 1 + 5 * j) (by omega) (by omega)
    unfold okP at h
    rw [if_pos (by omega)] at h
    simpa using h
  · have h := pers (smAt q N + 1 + 5 * j + 1) (by omega) (by omega)
    unfold okP at h
    rw [if_neg (by omega), if_pos (by omega)] at h
    exact h
  · have h := pers (smAt q N + 1 + 5 * j + 2) (by omega) (by omega)
    unfold okP at h
    rw [if_neg (by omega), if_neg (by omega), if_neg (by omega)] at h
    exact h
  · have h := pers (smAt q N + 1 + 5 * j + 3) (by omega) (by omega)
    unfold okP at h
    rw [if_neg (by omega), if_neg (by omega), if_neg (by omega)] at h
    exact h
theorem cLet_n {q : Nat → Nat} {x : Nat} (h : cLet q x = true) : 48 ≤ q x ∧ q x < q 0 := by simpa [cLet] using h
theorem dLet_n {q : Nat → Nat} {x : Nat} (h : dLet q x = true) : 48 ≤ q x ∧ q x ≤ 57 := by simpa [dLet] using h
theorem kd_n {c : Nat} (h : kdN c < 5) : kdI c = nI (kdN c) := by
  unfold kdN at h ⊢
  unfold kdI
  by_cases c1 : c = 112
  · rw [if_pos c1, if_pos c1]; rfl
  rw [if_neg c1] at h ⊢
  rw [if_neg c1]
  by_cases c2 : c = 116
  · rw [if_pos c2, if_pos c2]; rfl
  rw [if_neg c2] at h ⊢
  rw [if_neg c2]
  by_cases c3 : c = 99
  · rw [if_pos c3, if_pos c3]; rfl
  rw [if_neg c3] at h ⊢
  rw [if_neg c3]
  by_cases c4 : c = 104
  · rw [if_pos c4, if_pos c4]; rfl
  rw [if_neg c4] at h ⊢
  rw [if_neg c4]
  by_cases c5 : c = 100
  · rw [if_pos c5, if_pos c5]; rfl
  rw [if_neg c5] at h
  exact absurd h (by decide)
/-- a person's entry -/
def pv (q : Nat → Nat) (sm a j : Nat) : Nat := if a = 4 then kdN (q (sm + 1 + 5 * j)) else if a = 5 then q (sm + 1 + 5 * j + 1) - 48 else if a = 6 then q (sm + 1 + 5 * j + 2) - 48 else if a = 7 then q (sm + 1 + 5 * j + 3) - 48 else 0
/-- the page is a suburb: n corners, r roads, p people -/
def Pk (q : Nat → Nat) (N sm n r p : Nat) : Prop := (q 0 = n + 48 ∧ 2 ≤ n ∧ n ≤ 6) ∧ (48 ≤ q 1 ∧ q 1 < q 0) ∧ (sm = 3 * r + 2 ∧ 1 ≤ r ∧ r ≤ 8 ∧ ∀ k, k < r → (48 ≤ q (3 + 3 * k) ∧ q (3 + 3 * k) < q 0) ∧ (48 ≤ q (4 + 3 * k) ∧ q (4 + 3 * k) < q 0) ∧ q (4 + 3 * k) ≠ q (3 + 3 * k)) ∧
  (N = sm + 5 * p ∧ N ≤ 60 ∧ 2 ≤ p ∧ p ≤ 6 ∧ ∀ j, j < p → kdN (q (sm + 1 + 5 * j)) < 5 ∧ (48 ≤ q (sm + 1 + 5 * j + 1) ∧ q (sm + 1 + 5 * j + 1) < q 0) ∧ (48 ≤ q (sm + 1 + 5 * j + 2) ∧ q (sm + 1 + 5 * j + 2) ≤ 57) ∧ (48 ≤ q (sm + 1 + 5 * j + 3) ∧ q (sm + 1 + 5 * j + 3) ≤ 57)) ∧ ∀ j, j < N → q j < 127
theorem page_k {q : Nat → Nat} {N : Nat} (hN : N ≤ 60) (hq : ∀ j, j < N → q j < 127) (hfl : fl q N 0 = N) (hsm : smAt q N ≠ 0) (h10 : smAt q N + 10 ≤ N) (h5 : (N - smAt q N) % 5 = 0) : ∃ n r p, Pk q N (smAt q N) n r p := by
  obtain ⟨a1, a2, ⟨r, b1, b2, b3, b4⟩, p, c1, c2, c3, c4⟩ := page_ok hfl hsm h10 h5
  refine ⟨q 0 - 48, r, p, ⟨by omega, by omega, by omega⟩, cLet_n a2, ⟨b1, b2, b3, fun k hk => ?_⟩, ⟨c1, hN, c2, c3, fun j hj => ?_⟩, hq⟩
  · obtain ⟨d1, d2, d3⟩ := b4 k hk
    exact ⟨cLet_n d1, cLet_n d2, d3⟩
  · obtain ⟨d1, d2, d3, d4⟩ := c4 j hj
    exact ⟨d1, cLet_n d2, dLet_n d3, dLet_n d4⟩
