theorem RM.g {σ : sN} {I : aI} (h : RM σ I) (k j : Nat) (hr : rs k j = true) : I k j = nI (σ k j) := h.1 k j hr
theorem Good.p {t : Nat} {σ : sN} (h : Good t σ) : σ 0 3 ≤ 6 ∧ σ 0 4 ≤ 8 ∧ σ 0 5 ≤ 6 ∧ σ 0 27 ≤ 6 := by
  obtain ⟨-, -, -, -, h | ⟨-, h1, h2, h3, -, -, -, -, -, -, h4, -⟩⟩ := h
  · omega
  · exact ⟨h1.2, h2.2, h3.2, h4.1⟩
theorem sup_same (σ : sN) (k j x : Nat) : sup σ k j x k j = x := by simp [sup]
theorem sup_ne (σ : sN) {k j x a b : Nat} (h : ¬ (a = k ∧ b = j)) : sup σ k j x a b = σ a b := by simp [sup, h]
theorem sup_row (σ : sN) {k j x a : Nat} (h : a ≠ k) : sup σ k j x a = σ a := by funext b; simp [sup, h]
theorem RM.up {σ : sN} {I : aI} (h : RM σ I) (k j x : Nat) (hk : ¬ (k = 0 ∧ j = 30)) : RM (sup σ k j x) (pI I k j (nI x)) := by
  refine ⟨fun a b hr => ?_, ?_⟩
  · rw [pI_g]
    by_cases hh : a = k ∧ b = j
    · rw [if_pos hh]; simp [sup, hh]
    · rw [if_neg hh, sup_ne _ hh]; exact h.1 a b hr
  · rw [pI_g, if_neg (fun hh => hk ⟨hh.1.symm, hh.2.symm⟩), sup_ne _ (fun hh => hk ⟨hh.1.symm, hh.2.symm⟩)]
    exact h.2
/-- the class's slots that are told -/
def rc (k j : Nat) : Bool := match k with
  | 0 => [11, 12, 13].contains j
  | 1 => j == 1
  | 2 => decide (j < 60)
  | 3 => decide (j < 2)
  | 4 => decide (j < 8)
  | 5 => decide (j < 8)
  | _ => (decide (6 ≤ k) && decide (k ≤ 35)) || (decide (38 ≤ k) && decide (k ≤ 43))
theorem Ev.keep {I I' : aI} {e v h : Nat} {sv ct : Nat → Nat} {p : Nat} (H : Ev I e v h sv ct p) (hk : ∀ k j, (k = e ∨ k = e + 1) → I' k j = I k j) : Ev I' e v h sv ct p := by
  obtain ⟨h1, h2, h3, h4⟩ := H
  exact ⟨by rw [hk _ _ (Or.inl rfl)]; exact h1, by rw [hk _ _ (Or.inl rfl)]; exact h2, by rw [hk _ _ (Or.inl rfl)]; exact h3, fun j hj => by rw [hk _ _ (Or.inr rfl)]; exact h4 j hj⟩
def RCp (σ : sN) (I : aI) : Prop := I 1 1 = nI (σ 0 1) ∧ ∀ j, j < 60 → I 2 j = nI (σ 1 j)
def RCt (I : aI) (n r : Nat) (s2 s3 g : Nat → Nat) : Prop := ∀ a, a < n → I 6 a = nI (msk (nxt g a) n) ∧ I 7 a = nI (dgr s2 s3 a r) ∧ ∀ b, b < n → I (9 + a) b = (if fr g a b = 99 then -1 else nI (fr g a b)) ∧ I (16 + a) b = ctI n g a b
theorem RCt.keep {I I' : aI} {n r : Nat} {s2 s3 g : Nat → Nat} (h : RCt I n r s2 s3 g) (hn : n ≤ 6) (hk : ∀ k j, 6 ≤ k → k ≤ 21 → I' k j = I k j) : RCt I' n r s2 s3 g := by
  intro a ha
  obtain ⟨h1, h2, h3⟩ := h a ha
  refine ⟨by rw [hk _ _ (by omega) (by omega)]; exact h1, by rw [hk _ _ (by omega) (by omega)]; exact h2, fun b hb => ?_⟩
  rw [hk _ _ (by omega) (by omega), hk _ _ (by omega) (by omega)]
  exact h3 b hb
theorem RC.keep {σ : sN} {I I' : aI} (h : RC σ I) (hn : σ 0 3 ≤ 6) (hk : ∀ k j, rc k j = true → I' k j = I k j) : RC σ I' := by
  obtain ⟨c1, c2, c3, c4, c5, c6, c7, c8⟩ := h
  have big : ∀ k j, 6 ≤ k → k ≤ 35 → I' k j = I k j := fun k j h1 h2 => hk k j (by
    match k, h1 with
    | k + 6, _ => simp [rc]; omega)
  have big2 : ∀ k j, 38 ≤ k → k ≤ 43 → I' k j = I k j := fun k j h1 h2 => hk k j (by
    match k, h1 with
    | k + 38, _ => simp [rc]; omega)
  refine ⟨⟨by rw [hk 1 1 rfl]; exact c1.1, fun j hj => by rw [hk 2 j (by simpa [rc] using hj)]; exact c1.2 j hj⟩, ⟨by rw [hk 0 12 rfl]; exact c2.1, by rw [hk 0 13 rfl]; exact c2.2⟩, ⟨by rw [hk 3 0 rfl]; exact c3.1, by rw [hk 3 1 rfl]; exact c3.2.1, fun j hj => by rw [hk 4 j (by simpa [rc] using hj), hk 5 j (by simpa [rc] using hj)]; exact c3.2.2 j hj⟩, ⟨by rw [big _ _ (by omega) (by omega)]; exact c4.1, fun j hj => ?_⟩, c5.keep (fun k j h => big k j (by omega) (by omega)), ⟨by rw [big2 _ _ (by omega) (by omega)]; exact c6.1, fun j hj => ?_⟩, ⟨by rw [hk 0 11 rfl]; exact c7.1, fun hh => ?_⟩, RCt.keep (I := I) c8 hn (fun k j h1 h2 => big k j h1 (by omega))⟩
  · rw [big 23 _ (by omega) (by omega), big 24 _ (by omega) (by omega), big 25 _ (by omega) (by omega), big 26 _ (by omega) (by omega)]
    exact c4.2 j hj
  · rw [big2 39 _ (by omega) (by omega), big2 40 _ (by omega) (by omega)]
    exact c6.2 j hj
  · obtain ⟨d1, d2, d3⟩ := c7.2 hh
    refine ⟨⟨by rw [big _ _ (by omega) (by omega)]; exact d1.1, fun j hj => ?_⟩, d2.keep (fun k j h => big k j (by omega) (by omega)), ⟨by rw [big2 _ _ (by omega) (by omega)]; exact d3.1, fun j hj => ?_⟩⟩
    · rw [big 28 _ (by omega) (by omega), big 29 _ (by omega) (by omega), big 30 _ (by omega) (by omega), big 31 _ (by omega) (by omega)]
      exact d1.2 j hj
    · rw [big2 42 _ (by omega) (by omega), big2 43 _ (by omega) (by omega)]
      exact d3.2 j hj
theorem RM.keep {σ : sN} {I I' : aI} (h : RM σ I) (hk : ∀ k j, rs k j = true → I' k j = I k j) (h30 : I' 0 30 = I 0 30) : RM σ I' := ⟨fun k j hr => by rw [hk k j hr]; exact h.1 k j hr, by rw [h30]; exact h.2⟩
theorem pI_ro (I : aI) {k j : Nat} {x : Int32} {a : Nat} (h : a ≠ k) : pI I k j x a = I a := by funext b; rw [pI_g, if_neg (fun hh => h hh.1)]
theorem lt60 {n : Nat} (h : n ≤ 60) : nI n = 60 ↔ n = 60 := nI_eq (a := n) (b := 60) (by omega) (by decide)
theorem b_letter : ∀ (t : Nat) (Ic : aI) (Jc : aJ) (Im : aI) (Jm : aJ), t < 64 → Rel t Ic Jc Im Jm → ∀ x1 : Int32, ∃ (r : Int32) (Ic' : aI) (Jc' : aJ) (Im' : aI) (Jm' : aJ), fX7_letter x1 Ic Jc = some (r, Ic', Jc') ∧ fX8_letter x1 Im Jm = some (r, Im', Jm') ∧ Rel (t + 1) Ic' Jc' Im' Jm' := by
  intro t Ic Jc Im Jm _ hR x1
  obtain ⟨σ, hG, hM, hC⟩ := id hR
  have hR1 := Rel_skip _ _ _ _ _ hR
  unfold fX7_letter fX8_letter
  rw [isWithin_eq, in_rg x1 1 126 1 126 rfl rfl]
  simp only [bnd]
  by_cases h : (1 : Int32) ≤ x1 ∧ x1 ≤ 126
  · have hr : rg x1 1 126 = 1 := by unfold rg; rw [if_pos h]
    rw [hr, if_neg (by decide : ¬ (1 : Int32) = 0), if_neg (by decide : ¬ (1 : Int32) = 0)]
    have e1 := hC.1.1
    have e2 := hM.g 0 1 rfl
    have h60 := hG.1.1
    obtain ⟨j, hj1, hj2, rfl⟩ := (rg_c (lo := 1) (hi := 126) (by decide) x1 (by decide)).mp h
    by_cases hf : σ 0 1 = 60
    · refine ⟨-104, Ic, Jc, Im, Jm, ?_, ?_, hR1⟩
      · rw [e1, hf]; rfl
      · rw [e2, hf]; rfl
    · have hlt : σ 0 1 < 60 := by omega
      have c1 : nI (σ 0 1) < 60 := nI_lt (a := σ 0 1) (b := 60) hlt (by decide)
      have c2 : ¬ nI (σ 0 1) = 60 := fun hh => hf ((lt60 h60).mp hh)
      have c3 : inb (nI (σ 0 1)) 60 = true := inb_nI hlt (by decide)
      have c4 : (nI (σ 0 1)).toNatClampNeg = σ 0 1 := nI_clamp (by omega)
      refine ⟨nI (σ 0 1 + 1), pI (pI Ic 2 (σ 0 1) (nI j)) 1 1 (nI (σ 0 1 + 1)), Jc, pI (pI Im 1 (σ 0 1) (nI j)) 0 1 (nI (σ 0 1 + 1)), Jm, ?_, ?_, ?_⟩
      · rw [e1, if_pos c1, gd_t c3, c4]
        simp [pI_g, e1, nI_1]
      · rw [e2, if_neg c2, gd_t c3, c4]
        simp [pI_g, e2, nI_1]
      · refine ⟨sup (sup σ 1 (σ 0 1) j) 0 1 (σ 0 1 + 1), ?_, (hM.up 1 (σ 0 1) j (by omega)).up 0 1 (σ 0 1 + 1) (by omega), ?_⟩
        · obtain ⟨⟨g1, g2⟩, g3, g4, g5, g6⟩ := hG
          refine ⟨⟨?_, ?_⟩, ?_⟩
          · simp [sup]; omega
          · intro k hk
            simp [sup] at hk ⊢
            by_cases hkk : k = σ 0 1
            · simp [hkk]; omega
            · simp [hkk]; exact g2 k (by omega)
          · refine ⟨by simp [sup]; omega, by simpa [sup] using g4, by simpa [sup] using g5, ?_⟩
            rcases g6 with g6 | ⟨g6, g7⟩
            · left; simpa [sup] using g6
            · right
              refine ⟨by simpa [sup] using g6, ?_⟩
              simpa [Sub, sup, sup_row] using g7
        · obtain ⟨c1, c2, c3, c4, c5, c6, c7, c8⟩ := hC
          refine ⟨⟨?_, ?_⟩, ?_, ?_, ?_, ?_, ?_, ?_, ?_⟩
          · simp [pI_g, sup]
          · intro k hk
            by_cases hkk : k = σ 0 1
            · simp [pI_g, sup, hkk]
            · simpa [pI_g, sup, hkk] using c1.2 k hk
          · simpa [pI_g, sup] using c2
          · simpa [pI_g, sup] using c3
          · simpa [pI_g, sup] using c4
          · simpa [Ev, pI_g, sup] using c5
          · simpa [pI_g, sup] using c6
          · simpa [Ev, pI_g, sup] using c7
          · have hc := RCt.keep (I' := pI (pI Ic 2 (σ 0 1) (nI j)) 1 1 (nI (σ 0 1 + 1))) c8 hG.p.1 (fun k j h1 h2 => by rw [pI_ro _ (by omega), pI_ro _ (by omega)])
            simpa [RCt, sup, sup_row] using hc
  · have hr : rg x1 1 126 = 0 := by unfold rg; rw [if_neg h]
    rw [hr, if_pos rfl, if_pos rfl]
    exact ⟨-102, Ic, Jc, Im, Jm, rfl, rfl, hR1⟩
