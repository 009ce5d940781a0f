theorem hasMsk6 {f : Nat → Bool} {n j : Nat} (hn : n ≤ 8) (hj : j < 32) (I : aI) (J : aJ) : fX7_hasBit (nI (msk f n)) (nI j) I J = some (nI (if j < n ∧ f j = true then 1 else 0), I, J) := by
  have h : msk f n < 2 ^ 31 := Nat.lt_of_lt_of_le (msk_lt f n) (Nat.pow_le_pow_right (n := 2) (by decide) (by omega))
  rw [hasBit_eq h hj, msk_bit]
theorem cbu_eq {e p v h : Nat} {sv ct : Nat → Nat} (hp : p ≤ 6) (h01 : ∀ j, j < p → sv j = 0 ∨ sv j = 1) {I : aI} (J : aJ) (hE : Ev I e v h sv ct p) : fX0_countedByUnserved e I J = some (nI (uns p ct sv), I, J) := by
  have e1 : fX0_countedBy e (I e 2) I J = some (nI (smN (fun j => if j < p then (if sv j = 0 then ct j else 0) else 0) 6), I, J) := by
    rw [hE.2.2.1]
    refine cl (fun f j => LX0_countedBy_4 f e (nI (msk (fun j => decide (sv j = 1)) p)) (nI (smN (fun j => if j < p then (if sv j = 0 then ct j else 0) else 0) j)) (nI j) I J) 6 (fun f j hj => ?_) (fun f => ?_) (f0 := 128) (by decide)
    · show HX0_countedBy_4 _ _ _ _ _ _ _ = _
      unfold HX0_countedBy_4 BX0_countedBy_27
      rw [if_neg (show ¬ (6 : Int32) ≤ nI j from nI_ge (b := 6) hj (by decide)), bnd_t (hasMsk6 (by omega) (by omega) I J), gd_t (inb_nI hj (by decide)), nI_clamp (by omega), hE.2.2.2 j hj, nI_1, nI_add]
      simp only [smN]
      by_cases z : j < p
      · rcases h01 j z with q | q
        · rw [if_neg (show ¬ (j < p ∧ decide (sv j = 1) = true) by simp [q]), if_pos (show nI 0 = 0 from rfl), if_pos z, if_pos z, if_pos q]
        · rw [if_pos (show j < p ∧ decide (sv j = 1) = true by simp [q, z]), if_neg (show ¬ nI 1 = 0 by decide), if_pos z, if_neg (show ¬ sv j = 0 by omega)]; rfl
      · rw [if_neg (show ¬ (j < p ∧ decide (sv j = 1) = true) from fun y => z y.1), if_pos (show nI 0 = 0 from rfl), if_neg z, if_neg z]
    · rfl
  unfold fX0_countedByUnserved
  rw [bnd_t e1, smN_cut (fun j => if sv j = 0 then ct j else 0) 6 hp]
  rfl
/-- the best so far, as the class holds it -/
def BRl (s : aI) (B : Nat × Nat) (M : Nat) : Prop := (B.2 = 0 → s 44 1 = -1 ∧ s 44 2 = -1) ∧ (1 ≤ B.2 → s 44 1 = nI ((B.2 - 1) / 100) ∧ s 44 2 = nI ((B.2 - 1) % 100) ∧ ∀ j, j < M → s 45 j = nI (B.1 / 6 ^ (M - 1 - j) % 6)) ∧ B.2 ≤ 619
theorem BRl.keep {s s' : aI} {B : Nat × Nat} {M : Nat} (h : BRl s B M) (hk : ∀ k j, (k = 44 ∨ k = 45) → s' k j = s k j) : BRl s' B M := by
  obtain ⟨h1, h2, h3⟩ := h
  refine ⟨fun z => ?_, fun z => ?_, h3⟩
  · rw [hk 44 1 (Or.inl rfl), hk 44 2 (Or.inl rfl)]; exact h1 z
  · obtain ⟨a, b, c⟩ := h2 z
    rw [hk 44 1 (Or.inl rfl), hk 44 2 (Or.inl rfl)]
    exact ⟨a, b, fun j hj => by rw [hk 45 j (Or.inr rfl)]; exact c j hj⟩
theorem judge_eq {e p v h a w M : Nat} {kd pl tm ct sv sv0 : Nat → Nat} (hp : p ≤ 6) (hM : M ≤ 5) (hP : Pq p kd pl tm ct sv) {s : aI} (J : aJ) (hE : Ev s e v h sv ct p) (h48 : s 48 2 = nI (msk (fun j => decide (sv0 j = 1)) p)) (hc : cntB (fun j => decide (sv j = 1)) p = cntB (fun j => decide (sv0 j = 1)) p + a) (h46 : ∀ j, j < M → s 46 j = nI (w / 6 ^ (M - 1 - j) % 6)) {B : Nat × Nat} (hB : BRl s B M) :
    ∃ s', fX4_judge e s J = some ((), s', J) ∧ BRl s' (upB B w (100 * a + uns p ct sv + 1)) M ∧ ∀ k j, k ≠ 44 → k ≠ 45 → s' k j = s k j := by
  have hu := uns_le hP hp
  have hca := cntB_le (fun j => decide (sv j = 1)) p
  unfold fX4_judge
  rw [bnd_t (served_eq hp J hE.2.2.1), show (47 + 1 + 2 * Int32.toNatClampNeg 0) = 48 from rfl, bnd_t (served_eq hp J h48), bnd_t (cbu_eq hp (fun j hj => (hP j hj).2.2.2.1) J hE), hc, pk_sub (by omega), Nat.add_sub_cancel_left]
  have up : ∀ y, y = 100 * a + uns p ct sv + 1 → ¬ y ≤ B.2 → ∃ s', BX4_judge_44 (nI a) (nI (uns p ct sv)) s J = some ((), s', J) ∧ BRl s' (upB B w y) M ∧ ∀ k j, k ≠ 44 → k ≠ 45 → s' k j = s k j := by
    intro y hy hn
    refine ⟨uI (pI (pI s 44 1 (nI a)) 44 2 (nI (uns p ct sv))) 45 (va_cpy ((pI (pI s 44 1 (nI a)) 44 2 (nI (uns p ct sv))) 46) ((pI (pI s 44 1 (nI a)) 44 2 (nI (uns p ct sv))) 45) 0 0 5), rfl, ?_, fun k j h1 h2 => by rw [uI_g, if_neg h2, pI_ro _ h1, pI_ro _ h1]⟩
    unfold upB
    rw [if_neg hn]
    refine ⟨fun z => ?_, fun _ => ⟨?_, ?_, fun j hj => ?_⟩, ?_⟩
    · have : y = 0 := z
      omega
    · rw [uI_g, if_neg (by decide), pI_g, if_neg (by omega), pI_g, if_pos ⟨rfl, rfl⟩]
      exact congrArg nI (by show a = (y - 1) / 100; omega)
    · rw [uI_g, if_neg (by decide), pI_g, if_pos ⟨rfl, rfl⟩]
      exact congrArg nI (by show uns p ct sv = (y - 1) % 100; omega)
    · rw [uI_g, if_pos rfl, pk_cpy_in (by omega) (by omega), Nat.sub_zero, Nat.zero_add, pI_ro _ (by decide), pI_ro _ (by decide)]
      exact h46 j hj
    · show y ≤ 619
      omega
  have keep : 100 * a + uns p ct sv + 1 ≤ B.2 → ∃ s', BX4_judge_68 s J = some ((), s', J) ∧ BRl s' (upB B w (100 * a + uns p ct sv + 1)) M ∧ ∀ k j, k ≠ 44 → k ≠ 45 → s' k j = s k j := by
    intro hn
    refine ⟨s, rfl, ?_, fun _ _ _ _ => rfl⟩
    unfold upB
    rw [if_pos hn]
    exact hB
  obtain ⟨b1, b2, b3⟩ := hB
  by_cases z : B.2 = 0
  · rw [(b1 z).1, if_pos (show (-1 : Int32) < nI a from by rw [Int32.lt_iff_toInt_lt, nI_toInt (by omega), show (-1 : Int32).toInt = -1 from rfl]; omega)]
    exact up _ rfl (by omega)
  · obtain ⟨c1, c2, c3⟩ := b2 (by omega)
    rw [c1, c2]
    by_cases q1 : (B.2 - 1) / 100 < a
    · rw [if_pos (nI_lt q1 (by omega))]
      exact up _ rfl (by omega)
    · rw [if_neg (nI_nlt (by omega) (by omega))]
      by_cases q2 : a = (B.2 - 1) / 100
      · rw [if_pos (show nI a = nI ((B.2 - 1) / 100) by rw [← q2])]
        by_cases q3 : uns p ct sv ≤ (B.2 - 1) % 100
        · rw [if_pos (nI_le q3 (by omega))]
          exact keep (by omega)
        · rw [if_neg (nI_ge (by omega) (by omega))]
          exact up _ rfl (by omega)
      · rw [if_neg (fun y => q2 ((nI_eq (by omega) (by omega)).mp y))]
        exact keep (by omega)
