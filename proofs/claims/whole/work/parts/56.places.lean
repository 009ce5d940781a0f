def bt (m j : Nat) : Bool := decide (m / 2 ^ j % 2 = 1)
theorem bt_msk (f : Nat → Bool) (n j : Nat) : bt (msk f n) j = (decide (j < n) && f j) := by
  unfold bt
  rw [msk_bit]
  by_cases h1 : j < n <;> cases h2 : f j <;> simp [h1]
theorem msk_ext (f : Nat → Bool) {n : Nat} : ∀ k, n ≤ k → msk (fun j => decide (j < n) && f j) k = msk f n
  | 0, h => by rw [show n = 0 by omega]; rfl
  | k + 1, h => by
    by_cases q : n = k + 1
    · subst q
      exact msk_congr (fun i hi => by simp [hi])
    · rw [msk_s, if_neg (by simp; omega)]
      exact msk_ext f k (by omega)
theorem and64 : ∀ m, m < 64 → ∀ k, k < 64 → nI m &&& nI k = nI (msk (fun j => bt m j && bt k j) 6) := by decide +kernel
theorem andc64 : ∀ m, m < 64 → ∀ k, k < 64 → nI m &&& (nI k ^^^ (-1)) = nI (msk (fun j => bt m j && !bt k j) 6) := by decide +kernel
theorem msk_and {f g : Nat → Bool} {n : Nat} (hn : n ≤ 6) : nI (msk f n) &&& nI (msk g n) = nI (msk (fun j => f j && g j) n) := by
  rw [and64 _ (msk64 hn) _ (msk64 hn), ← msk_ext (fun j => f j && g j) 6 hn]
  refine congrArg nI (msk_congr (fun j hj => ?_))
  rw [bt_msk, bt_msk]
  cases decide (j < n) <;> simp
theorem msk_andc {f g : Nat → Bool} {n : Nat} (hn : n ≤ 6) : nI (msk f n) &&& (nI (msk g n) ^^^ (-1)) = nI (msk (fun j => f j && !g j) n) := by
  rw [andc64 _ (msk64 hn) _ (msk64 hn), ← msk_ext (fun j => f j && !g j) 6 hn]
  refine congrArg nI (msk_congr (fun j hj => ?_))
  rw [bt_msk, bt_msk]
  cases decide (j < n) <;> simp
theorem full6 : ∀ n, n < 7 → ((1 : Int32) <<< (nI n &&& 31)) - 1 = nI (msk (fun _ => true) n) := by decide +kernel
/-- what one look says of a corner; where the van may be -/
def lk (σ : sN) (q b : Nat) : Bool := hrs σ (σ 19 (2 * q)) b == decide (σ 19 (2 * q + 1) = 1)
def psb (σ : sN) (b : Nat) : Bool := allB (σ 0 27) (fun q => lk σ q b)
theorem possible_eq {t : Nat} {σ : sN} {I : aI} (hG : Good t σ) (hS : Sub σ) (hC : RC σ I) (J : aJ) : fX7_possibleCorners I J = some (nI (msk (psb σ) (σ 0 3)), I, J) := by
  obtain ⟨s1, s2, s3, s4, s5, s6, s7, s8, s9, s10, s11⟩ := id hS
  unfold fX7_possibleCorners
  rw [hC.2.2.1.1, full6 _ (by omega)]
  refine cl (fun f q => LX7_possibleCorners_14 f (nI (msk (fun b => allB q (fun q => lk σ q b)) (σ 0 3))) (nI q) I J) (σ 0 27) (fun f q hq => ?_) (fun f => ?_) (f0 := 128) (by have := s10.1; omega)
  · have h6 := s10.1
    have hw := s10.2 q hq
    have c6 := hC.2.2.2.2.2.1.2 q (by omega)
    have h01 := (hG.2.2.2.1.2 q (by omega)).1
    show HX7_possibleCorners_14 _ _ _ _ _ = _
    unfold HX7_possibleCorners_14 BX7_possibleCorners_59
    rw [hC.2.2.2.2.2.1.1, if_neg (nI_ge hq (by omega)), gd_t (inb_nI (show q < 6 by omega) (by decide)), nI_clamp (by omega), c6.1, bnd_t (earshot_eq hS hC J hw), c6.2, nI_1, msk_and s1.2, msk_andc s1.2]
    rcases (show σ 19 (2 * q + 1) = 0 ∨ σ 19 (2 * q + 1) = 1 by omega) with z | z
    · rw [z, if_pos (show nI 0 = 0 from rfl)]
      refine congrArg (fun m => LX7_possibleCorners_14 f (nI m) (nI (q + 1)) I J) (msk_congr (fun b hb => ?_))
      rw [allB_s]
      unfold lk
      rw [z]
      cases hrs σ (σ 19 (2 * q)) b <;> simp
    · rw [z, if_neg (show ¬ nI 1 = 0 by decide)]
      refine congrArg (fun m => LX7_possibleCorners_14 f (nI m) (nI (q + 1)) I J) (msk_congr (fun b hb => ?_))
      rw [allB_s]
      unfold lk
      rw [z]
      cases hrs σ (σ 19 (2 * q)) b <;> simp
  · have h6 := s10.1
    show HX7_possibleCorners_14 _ _ _ _ _ = _
    unfold HX7_possibleCorners_14
    rw [hC.2.2.2.2.2.1.1, if_pos (nI_le (by omega) (by omega))]
    rfl
theorem hearsAt_eq {σ : sN} {I : aI} (hS : Sub σ) (hM : RM σ I) (J : aJ) {i b : Nat} (hi : i < σ 0 5) (hb : b < σ 0 3) : fX8_hearsAt (nI i) (nI b) I J = some (bN (hrs σ i b), I, J) := by
  obtain ⟨s1, s2, s3, s4, s5, s6, s7, s8, s9, s10, s11⟩ := id hS
  have hl := s7 i hi
  have he := s8 i hi
  have h99 := s9.le hl hb
  unfold fX8_hearsAt BX8_hearsAt_30
  obtain ⟨e1, e2, e3⟩ := i6 (a := σ 5 i) (b := b) (by omega) (by omega)
  rw [gd_t (inb_nI (show i < 6 by omega) (by decide)), nI_clamp (by omega), hM.g 5 i (by simp [rs]; omega), e1, gd_t e2, e3, hM.g 7 i (by simp [rs]; omega), hM.g 10 _ (rs10 (by omega) (by omega)), show σ 10 (6 * σ 5 i + b) = fr (σ 10) (σ 5 i) b from rfl]
  by_cases q : fr (σ 10) (σ 5 i) b ≤ σ 7 i
  · rw [if_neg (nI_nlt q (by omega)), show hrs σ i b = true by unfold hrs; simpa using q]; rfl
  · rw [if_pos (nI_lt (Nat.lt_of_not_le q) (by omega)), show hrs σ i b = false by unfold hrs; simpa using q]; rfl
theorem placesOf_eq {t : Nat} {σ : sN} {I : aI} (hG : Good t σ) (hS : Sub σ) (hM : RM σ I) (J : aJ) : fX8_placesOf I J = some (nI (msk (psb σ) (σ 0 3)), I, J) := by
  obtain ⟨s1, s2, s3, s4, s5, s6, s7, s8, s9, s10, s11⟩ := id hS
  have h6 := s10.1
  refine cl (fun f b => LX8_placesOf_4 f (nI (msk (psb σ) b)) (nI b) I J) (σ 0 3) (fun f b hb => ?_) (fun f => ?_) (f0 := 128) (by omega)
  · have inner : LX8_placesOf_17 (LX8_placesOf_4 f) 128 (nI (msk (psb σ) b)) (nI b) 1 0 I J = LX8_placesOf_4 f (nI (msk (psb σ) (b + 1))) (nI (b + 1)) I J := by
      refine cl (fun g q => LX8_placesOf_17 (LX8_placesOf_4 f) g (nI (msk (psb σ) b)) (nI b) (bN (allB q (fun q => lk σ q b))) (nI (2 * q)) I J) (σ 0 27) (fun g q hq => ?_) (fun g => ?_) (f0 := 128) (by omega)
      · have hw := s10.2 q hq
        have h01 := (hG.2.2.2.1.2 q (by omega)).1
        show HX8_placesOf_17 _ _ _ _ _ _ _ _ = _
        unfold HX8_placesOf_17 BX8_placesOf_60 BX8_placesOf_61
        rw [hM.g 0 27 rfl, show (2 : Int32) * nI (σ 0 27) = nI (2 * σ 0 27) from pk_mul 2 _, if_neg (nI_ge (by omega) (by omega)), gd_t (inb_nI (show 2 * q < 12 by omega) (by decide)), nI_1, nI_clamp (show 2 * q < 2 ^ 31 by omega), nI_clamp (show 2 * q + 1 < 2 ^ 31 by omega), hM.g 19 (2 * q) (by simp [rs]; omega), bnd_t (hearsAt_eq hS hM J hw hb), gd_t (inb_nI (show 2 * q + 1 < 12 by omega) (by decide)), hM.g 19 (2 * q + 1) (by simp [rs]; omega), allB_s, show nI (2 * q) + 2 = nI (2 * (q + 1)) from nI_add (2 * q) 2]
        unfold lk
        rcases (show σ 19 (2 * q + 1) = 0 ∨ σ 19 (2 * q + 1) = 1 by omega) with z | z
        · rw [z]
          cases allB q (fun q => hrs σ (σ 19 (2 * q)) b == decide (σ 19 (2 * q + 1) = 1)) <;> cases hrs σ (σ 19 (2 * q)) b <;> rfl
        · rw [z]
          cases allB q (fun q => hrs σ (σ 19 (2 * q)) b == decide (σ 19 (2 * q + 1) = 1)) <;> cases hrs σ (σ 19 (2 * q)) b <;> rfl
      · show HX8_placesOf_17 _ _ _ _ _ _ _ _ = _
        unfold HX8_placesOf_17 BX8_placesOf_80
        rw [hM.g 0 27 rfl, show (2 : Int32) * nI (σ 0 27) = nI (2 * σ 0 27) from pk_mul 2 _, if_pos (nI_le (by omega) (by omega)), or_top (by omega), nI_1, msk_s, Int32.or_zero]
        by_cases z : psb σ b = true
        · rw [if_pos z, show allB (σ 0 27) (fun q => lk σ q b) = true from z, if_neg (show ¬ bN true = 0 by decide)]
        · rw [if_neg z, show allB (σ 0 27) (fun q => lk σ q b) = false by simpa [psb] using z, if_pos (show bN false = 0 from rfl)]
    show HX8_placesOf_4 _ _ _ _ _ = _
    unfold HX8_placesOf_4
    rw [hM.g 0 3 rfl, if_neg (nI_ge hb (by omega)), inner]
  · show HX8_placesOf_4 _ _ _ _ _ = _
    unfold HX8_placesOf_4
    rw [hM.g 0 3 rfl, if_pos (nI_le (by omega) (by omega))]
theorem places_eq {t : Nat} {σ : sN} {Ic Im : aI} (ht : t < 1000) (hG : Good t σ) (hM : RM σ Im) (hC : RC σ Ic) (Jc Jm : aJ) : ∃ r : Int32, fX7_places Ic Jc = some (r, Ic, Jc) ∧ fX8_places Im Jm = some (r, Im, Jm) := by
  unfold fX7_places fX8_places BX7_places_16 BX8_places_16
  rw [bnd_t (hasSub_eq _ _), bnd_t (lacks_eq _ _)]
  rcases hG.has ht hM hC with ⟨z1, z2, z3⟩ | ⟨h8, hS, z2, z3⟩
  · rw [if_pos z2, if_pos z3, if_pos rfl, if_neg ne10]
    exact ⟨-103, rfl, rfl⟩
  · rw [if_neg z2, if_neg z3, if_neg ne10, if_pos rfl, bnd_t (possible_eq hG hS hC Jc), bnd_t (placesOf_eq hG hS hM Jm)]
    exact ⟨_, rfl, rfl⟩
theorem b_places : ∀ (t : Nat) (Ic : aI) (Jc : aJ) (Im : aI) (Jm : aJ), t < 64 → Rel t Ic Jc Im Jm → ∃ (r : Int32) (Ic' : aI) (Jc' : aJ) (Im' : aI) (Jm' : aJ), fX7_places Ic Jc = some (r, Ic', Jc') ∧ fX8_places Im Jm = some (r, Im', Jm') ∧ Rel (t + 1) Ic' Jc' Im' Jm' := by
  intro t Ic Jc Im Jm ht hR
  obtain ⟨σ, hG, hM, hC⟩ := id hR
  obtain ⟨r, h1, h2⟩ := places_eq (by omega) hG hM hC Jc Jm
  exact ⟨r, Ic, Jc, Im, Jm, h1, h2, Rel_skip _ _ _ _ _ hR⟩
/-! whom to ask -/
def yesN (σ : sN) (i n : Nat) : Nat := cntB (fun b => psb σ b && hrs σ i b) n
def noN (σ : sN) (i n : Nat) : Nat := cntB (fun b => psb σ b && !hrs σ i b) n
def wst (σ : sN) (i : Nat) : Nat := if yesN σ i (σ 0 3) < noN σ i (σ 0 3) then noN σ i (σ 0 3) else yesN σ i (σ 0 3)
def bst (σ : sN) : Nat → Nat × Nat
  | 0 => (0, wst σ 0)
  | k + 1 => if (bst σ k).2 ≤ wst σ (k + 1) then bst σ k else (k + 1, wst σ (k + 1))
theorem yn (σ : sN) (i : Nat) : ∀ n, yesN σ i n + noN σ i n = cntB (psb σ) n
  | 0 => rfl
  | n + 1 => by
    have := yn σ i n
    unfold yesN noN at this ⊢
    simp only [cntB]
    rcases Bool.eq_false_or_eq_true (psb σ n) with h1 | h1 <;> rcases Bool.eq_false_or_eq_true (hrs σ i n) with h2 | h2 <;> simp [h1, h2] <;> omega
theorem wst_le (σ : sN) (i : Nat) : wst σ i ≤ cntB (psb σ) (σ 0 3) := by
  have := yn σ i (σ 0 3)
  unfold wst; split <;> omega
theorem bst_le (σ : sN) : ∀ k, (bst σ k).2 ≤ cntB (psb σ) (σ 0 3)
  | 0 => wst_le σ 0
  | k + 1 => by
    show (if (bst σ k).2 ≤ wst σ (k + 1) then bst σ k else (k + 1, wst σ (k + 1))).2 ≤ _
    split
    · exact bst_le σ k
    · exact wst_le σ (k + 1)
theorem cnt_0 (f : Nat → Bool) : ∀ n, cntB f n = 0 ↔ msk f n = 0
  | 0 => Iff.rfl
  | n + 1 => by
    have := cnt_0 f n
    have h2 : 0 < 2 ^ n := Nat.two_pow_pos n
    simp only [cntB, msk]
    cases f n <;> simp <;> omega
theorem wit_step {σ : sN} {I : aI} (hS : Sub σ) (hC : RC σ I) (J : aJ) (f i : Nat) (hi : i < σ 0 5) (x3 : Int32) (w : Nat) (hw : w ≤ 7) : LX7_bestWitness_21 (f + 1) (nI (msk (psb σ) (σ 0 3))) (nI (cntB (psb σ) (σ 0 3))) x3 (nI w) (nI i) I J = if w ≤ wst σ i then LX7_bestWitness_21 f (nI (msk (psb σ) (σ 0 3))) (nI (cntB (psb σ) (σ 0 3))) x3 (nI w) (nI (i + 1)) I J else LX7_bestWitness_21 f (nI (msk (psb σ) (σ 0 3))) (nI (cntB (psb σ) (σ 0 3))) (nI i) (nI (wst σ i)) (nI (i + 1)) I J := by
  have hn := hS.1.2
  have hp := hS.2.2.1.2
  have hyn := yn σ i (σ 0 3)
  have hc := cntB_le (psb σ) (σ 0 3)
  show HX7_bestWitness_21 _ _ _ _ _ _ _ _ = _
  unfold HX7_bestWitness_21 BX7_bestWitness_71
  rw [hC.2.2.2.1.1, if_neg (nI_ge hi (by omega)), bnd_t (earshot_eq hS hC J hi), msk_and hn, bnd_t (bc_msk hn I J), show cntB (fun j => psb σ j && hrs σ i j) (σ 0 3) = yesN σ i (σ 0 3) from rfl, pk_sub (by omega), show cntB (psb σ) (σ 0 3) - yesN σ i (σ 0 3) = noN σ i (σ 0 3) by omega, nI_1]
  have e : (if nI (yesN σ i (σ 0 3)) < nI (noN σ i (σ 0 3)) then nI (noN σ i (σ 0 3)) else nI (yesN σ i (σ 0 3))) = nI (wst σ i) := by
    unfold wst
    by_cases q : yesN σ i (σ 0 3) < noN σ i (σ 0 3)
    · rw [if_pos q, if_pos (nI_lt q (by omega))]
    · rw [if_neg q, if_neg (nI_nlt (by omega) (by omega))]
  have hwl := wst_le σ i
  rw [e]
  by_cases q : w ≤ wst σ i
  · rw [if_pos (nI_le q (by omega)), if_pos q]
  · rw [if_neg (nI_ge (by omega) (by omega)), if_neg q]
theorem witness_eq {σ : sN} {I : aI} (hS : Sub σ) (hC : RC σ I) (J : aJ) : fX7_bestWitness (nI (msk (psb σ) (σ 0 3))) I J = some ((if cntB (psb σ) (σ 0 3) = 0 then -1 else nI (bst σ (σ 0 5 - 1)).1), I, J) := by
  have hn := hS.1.2
  have hp := hS.2.2.1
  have hc := cntB_le (psb σ) (σ 0 3)
  unfold fX7_bestWitness
  rw [bnd_t (bc_msk hn I J)]
  by_cases q : cntB (psb σ) (σ 0 3) = 0
  · rw [if_pos q, q, if_pos (show nI 0 = 0 from rfl)]
  rw [if_neg q, if_neg (nI_ne0 (by omega) (by omega)), nI_1]
  have hwl := wst_le σ 0
  have st := wit_step hS hC J 127 0 (by omega) (-1) (cntB (psb σ) (σ 0 3) + 1) (by omega)
  rw [if_neg (by omega)] at st
  refine Eq.trans st ?_
  refine cl (fun f j => LX7_bestWitness_21 f (nI (msk (psb σ) (σ 0 3))) (nI (cntB (psb σ) (σ 0 3))) (nI (bst σ j).1) (nI (bst σ j).2) (nI (j + 1)) I J) (σ 0 5 - 1) (fun f j hj => ?_) (fun f => ?_) (f0 := 127) (by omega)
  · have hb := bst_le σ j
    refine Eq.trans (wit_step hS hC J f (j + 1) (by omega) _ _ (by omega)) ?_
    show _ = LX7_bestWitness_21 f _ _ (nI (if (bst σ j).2 ≤ wst σ (j + 1) then bst σ j else (j + 1, wst σ (j + 1))).1) (nI (if (bst σ j).2 ≤ wst σ (j + 1) then bst σ j else (j + 1, wst σ (j + 1))).2) (nI (j + 1 + 1)) I J
    by_cases z : (bst σ j).2 ≤ wst σ (j + 1)
    · rw [if_pos z, if_pos z]
    · rw [if_neg z, if_neg z]
  · show HX7_bestWitness_21 _ _ _ _ _ _ _ _ = _
    unfold HX7_bestWitness_21
    rw [hC.2.2.2.1.1, if_pos (nI_le (by omega) (by omega))]
theorem ask_step {σ : sN} {I : aI} (hS : Sub σ) (hM : RM σ I) (J : aJ) (f i : Nat) (hi : i < σ 0 5) (x2 : Int32) (w : Nat) (hw : w ≤ 7) (hne : ¬ msk (psb σ) (σ 0 3) = 0) : LX8_askOf_13 (f + 1) (nI (msk (psb σ) (σ 0 3))) x2 (nI w) (nI i) I J = if w ≤ wst σ i then LX8_askOf_13 f (nI (msk (psb σ) (σ 0 3))) x2 (nI w) (nI (i + 1)) I J else LX8_askOf_13 f (nI (msk (psb σ) (σ 0 3))) (nI i) (nI (wst σ i)) (nI (i + 1)) I J := by
  have hn := hS.1.2
  have hp := hS.2.2.1.2
  have hm := msk64 (f := psb σ) hn
  have hwl := wst_le σ i
  have hc := cntB_le (psb σ) (σ 0 3)
  have hyn := yn σ i (σ 0 3)
  have fin : ∀ s0 : Int32, s0 = nI (wst σ i) → BX8_askOf_106 (LX8_askOf_13 f) (nI (msk (psb σ) (σ 0 3))) x2 (nI w) (nI i) s0 I J = if w ≤ wst σ i then LX8_askOf_13 f (nI (msk (psb σ) (σ 0 3))) x2 (nI w) (nI (i + 1)) I J else LX8_askOf_13 f (nI (msk (psb σ) (σ 0 3))) (nI i) (nI (wst σ i)) (nI (i + 1)) I J := by
    intro s0 h
    subst h
    unfold BX8_askOf_106 BX8_askOf_120 BX8_askOf_133
    rw [nI_1]
    by_cases q : w ≤ wst σ i
    · rw [if_pos (nI_le q (by omega)), if_pos (nI_le q (by omega)), if_pos q]
    · rw [if_neg (nI_ge (by omega) (by omega)), if_neg (nI_ge (by omega) (by omega)), if_neg q]
  have inner : LX8_askOf_35 (LX8_askOf_13 f) 128 (nI (msk (psb σ) (σ 0 3))) x2 (nI w) (nI i) 0 0 0 I J = if w ≤ wst σ i then LX8_askOf_13 f (nI (msk (psb σ) (σ 0 3))) x2 (nI w) (nI (i + 1)) I J else LX8_askOf_13 f (nI (msk (psb σ) (σ 0 3))) (nI i) (nI (wst σ i)) (nI (i + 1)) I J := by
    refine cl (fun g b => LX8_askOf_35 (LX8_askOf_13 f) g (nI (msk (psb σ) (σ 0 3))) x2 (nI w) (nI i) (nI (yesN σ i b)) (nI (noN σ i b)) (nI b) I J) (σ 0 3) (fun g b hb => ?_) (fun g => ?_) (f0 := 128) (by omega)
    · show HX8_askOf_35 _ _ _ _ _ _ _ _ _ _ _ = _
      unfold HX8_askOf_35
      rw [hM.g 0 3 rfl, if_neg (nI_ge hb (by omega)), bnd_t (hearsAt_eq hS hM J hi hb), bnd_t (hearsAt_eq hS hM J hi hb), bitN (by omega) (by omega), msk_bit, nI_1]
      have y1 : nI (if b < σ 0 3 ∧ psb σ b = true then 1 else 0) * bN (hrs σ i b) = nI (if (psb σ b && hrs σ i b) = true then 1 else 0) := by
        rcases Bool.eq_false_or_eq_true (psb σ b) with h1 | h1 <;> rcases Bool.eq_false_or_eq_true (hrs σ i b) with h2 | h2 <;> rw [h1, h2] <;> simp [hb] <;> decide
      have y2 : nI (if b < σ 0 3 ∧ psb σ b = true then 1 else 0) * (1 - bN (hrs σ i b)) = nI (if (psb σ b && !hrs σ i b) = true then 1 else 0) := by
        rcases Bool.eq_false_or_eq_true (psb σ b) with h1 | h1 <;> rcases Bool.eq_false_or_eq_true (hrs σ i b) with h2 | h2 <;> rw [h1, h2] <;> simp [hb] <;> decide
      rw [y1, y2, nI_add, nI_add]
      rfl
    · show HX8_askOf_35 _ _ _ _ _ _ _ _ _ _ _ = _
      unfold HX8_askOf_35
      rw [hM.g 0 3 rfl, if_pos (nI_le (by omega) (by omega))]
      by_cases q : yesN σ i (σ 0 3) ≤ noN σ i (σ 0 3)
      · rw [if_pos (nI_le q (by omega))]
        exact fin _ (congrArg nI (by unfold wst; split <;> omega))
      · rw [if_neg (nI_ge (by omega) (by omega))]
        exact fin _ (congrArg nI (by unfold wst; split <;> omega))
  show HX8_askOf_13 _ _ _ _ _ _ _ = _
  unfold HX8_askOf_13
  rw [hM.g 0 5 rfl, if_neg (nI_ge hi (by omega)), if_neg (nI_ne0 (by omega) (by omega)), inner]
theorem askOf_eq {t : Nat} {σ : sN} {I : aI} (hG : Good t σ) (hS : Sub σ) (hM : RM σ I) (J : aJ) : fX8_askOf I J = some ((if cntB (psb σ) (σ 0 3) = 0 then -1 else nI (bst σ (σ 0 5 - 1)).1), I, J) := by
  have hn := hS.1.2
  have hp := hS.2.2.1
  have hc := cntB_le (psb σ) (σ 0 3)
  have hz := cnt_0 (psb σ) (σ 0 3)
  unfold fX8_askOf
  rw [bnd_t (placesOf_eq hG hS hM J)]
  by_cases q : cntB (psb σ) (σ 0 3) = 0
  · rw [if_pos q, hz.mp q]
    show HX8_askOf_13 _ _ _ _ _ _ _ = _
    unfold HX8_askOf_13 BX8_askOf_140
    rw [hM.g 0 5 rfl, if_neg (show ¬ nI (σ 0 5) ≤ 0 from nI_nle (by omega) (by omega)), if_pos (show nI 0 = 0 from rfl)]
  rw [if_neg q]
  have hne : ¬ msk (psb σ) (σ 0 3) = 0 := fun z => q (hz.mpr z)
  have hwl := wst_le σ 0
  have st := ask_step hS hM J 127 0 (by omega) (-1) 7 (by omega) hne
  rw [if_neg (by omega)] at st
  refine Eq.trans st ?_
  refine cl (fun f j => LX8_askOf_13 f (nI (msk (psb σ) (σ 0 3))) (nI (bst σ j).1) (nI (bst σ j).2) (nI (j + 1)) I J) (σ 0 5 - 1) (fun f j hj => ?_) (fun f => ?_) (f0 := 127) (by omega)
  · have hb := bst_le σ j
    refine Eq.trans (ask_step hS hM J f (j + 1) (by omega) _ _ (by omega) hne) ?_
    show _ = LX8_askOf_13 f _ (nI (if (bst σ j).2 ≤ wst σ (j + 1) then bst σ j else (j + 1, wst σ (j + 1))).1) (nI (if (bst σ j).2 ≤ wst σ (j + 1) then bst σ j else (j + 1, wst σ (j + 1))).2) (nI (j + 1 + 1)) I J
    by_cases z : (bst σ j).2 ≤ wst σ (j + 1)
    · rw [if_pos z, if_pos z]
    · rw [if_neg z, if_neg z]
  · show HX8_askOf_13 _ _ _ _ _ _ _ = _
    unfold HX8_askOf_13 BX8_askOf_140
    rw [hM.g 0 5 rfl, if_pos (nI_le (by omega) (by omega))]
theorem ask_eq {t : Nat} {σ : sN} {Ic Im : aI} (ht : t < 1000) (hG : Good t σ) (hM : RM σ Im) (hC : RC σ Ic) (Jc Jm : aJ) : ∃ r : Int32, fX7_ask Ic Jc = some (r, Ic, Jc) ∧ fX8_ask Im Jm = some (r, Im, Jm) := by
  unfold fX7_ask fX8_ask BX7_ask_20 BX8_ask_16
  rw [bnd_t (hasSub_eq _ _), bnd_t (lacks_eq _ _)]
  rcases hG.has ht hM hC with ⟨z1, z2, z3⟩ | ⟨h8, hS, z2, z3⟩
  · rw [if_pos z2, if_pos z3, if_pos rfl, if_neg ne10]
    exact ⟨-103, rfl, rfl⟩
  · rw [if_neg z2, if_neg z3, if_neg ne10, if_pos rfl, bnd_t (possible_eq hG hS hC Jc), bnd_t (witness_eq hS hC Jc), bnd_t (askOf_eq hG hS hM Jm)]
    exact ⟨_, rfl, rfl⟩
theorem b_ask : ∀ (t : Nat) (Ic : aI) (Jc : aJ) (Im : aI) (Jm : aJ), t < 64 → Rel t Ic Jc Im Jm → ∃ (r : Int32) (Ic' : aI) (Jc' : aJ) (Im' : aI) (Jm' : aJ), fX7_ask Ic Jc = some (r, Ic', Jc') ∧ fX8_ask Im Jm = some (r, Im', Jm') ∧ Rel (t + 1) Ic' Jc' Im' Jm' := by
  intro t Ic Jc Im Jm ht hR
  obtain ⟨σ, hG, hM, hC⟩ := id hR
  obtain ⟨r, h1, h2⟩ := ask_eq (by omega) hG hM hC Jc Jm
  exact ⟨r, Ic, Jc, Im, Jm, h1, h2, Rel_skip _ _ _ _ _ hR⟩
