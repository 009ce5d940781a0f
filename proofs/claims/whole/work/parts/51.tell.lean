/-- a loop whose state is told by its index -/
theorem cl {β : Type} (L : Nat → Nat → β) (N : Nat) {res : β} (hs : ∀ f i, i < N → L (f + 1) i = L f (i + 1)) (he : ∀ f, L (f + 1) N = res) {f0 : Nat} (hN : N < f0) : L f0 0 = res := by
  have key : ∀ m i f, i + m = N → m < f → L f i = res := by
    intro m
    induction m with
    | zero =>
      intro i f hi hf
      obtain ⟨f, rfl⟩ : ∃ g, f = g + 1 := ⟨f - 1, by omega⟩
      rw [show i = N by omega]
      exact he f
    | succ m ih =>
      intro i f hi hf
      obtain ⟨f, rfl⟩ : ∃ g, f = g + 1 := ⟨f - 1, by omega⟩
      rw [hs f i (by omega)]
      exact ih (i + 1) f (by omega) (by omega)
  exact key N 0 f0 (by omega) (by omega)
theorem or_top {f : Nat → Bool} {j : Nat} (hj : j < 6) : nI (msk f j) ||| ((1 : Int32) <<< (nI j &&& 31)) = nI (msk f j + 2 ^ j) := by
  have h := msk_lt f j
  have h64 : msk f j < 64 := Nat.lt_of_lt_of_le h (Nat.pow_le_pow_right (n := 2) (j := 6) (by decide) (by omega))
  rw [shl1 j (by omega), or64 _ h64 j hj, if_neg (by rw [Nat.div_eq_of_lt h]; decide)]
theorem msk_s (f : Nat → Bool) (j : Nat) : msk f (j + 1) = if f j = true then msk f j + 2 ^ j else msk f j := by
  show msk f j + (if f j = true then 2 ^ j else 0) = _
  split
  · rfl
  · rfl
/-- sums -/
def smN (f : Nat → Nat) : Nat → Nat
  | 0 => 0
  | n + 1 => smN f n + f n
theorem smN_congr {f g : Nat → Nat} : ∀ {n : Nat}, (∀ i, i < n → f i = g i) → smN f n = smN g n
  | 0, _ => rfl
  | n + 1, h => by simp only [smN]; rw [smN_congr (fun i hi => h i (by omega)), h n (by omega)]
theorem whoAt_eq {p x : Nat} {pl : Nat → Nat} (hp : p ≤ 6) (hx : x < 6) (hl : ∀ j, j < p → pl j < 6) {I : aI} (J : aJ) (h5 : I 0 5 = nI p) (hr : ∀ j, j < p → I 5 j = nI (pl j)) : fX8_whoAt (nI x) I J = some (nI (msk (fun j => decide (pl j = x)) p), I, J) := by
  refine cl (fun f i => LX8_whoAt_4 f (nI x) (nI (msk (fun j => decide (pl j = x)) i)) (nI i) I J) p (fun f i hi => ?_) (fun f => ?_) (f0 := 128) (by omega)
  · show HX8_whoAt_4 _ _ _ _ _ _ = _
    unfold HX8_whoAt_4 BX8_whoAt_30
    have := hl i hi
    have x1 : nI (pl i) = nI x ↔ pl i = x := nI_eq (by omega) (by omega)
    rw [h5, if_neg (nI_ge hi (by omega)), gd_t (inb_nI (show i < 6 by omega) (by decide)), nI_clamp (by omega), hr i hi, or_top (by omega), nI_1, msk_s]
    by_cases q : pl i = x
    · rw [if_pos (x1.mpr q), if_pos (by simpa using q)]
    · rw [if_neg (fun z => q (x1.mp z)), if_neg (by simpa using q), Int32.or_zero]
  · show HX8_whoAt_4 _ _ _ _ _ _ = _
    unfold HX8_whoAt_4
    rw [h5, if_pos (nI_le (by omega) (by omega))]
theorem whoLives_eq {p x : Nat} {pl : Nat → Nat} (hp : p ≤ 6) (hx : x < 6) (hl : ∀ j, j < p → pl j < 6) {I : aI} (J : aJ) (h5 : I 22 0 = nI p) (hr : ∀ j, j < p → I 23 j = nI (pl j)) : fX1_whoLivesAt 22 (nI x) I J = some (nI (msk (fun j => decide (pl j = x)) p), I, J) := by
  refine cl (fun f i => LX1_whoLivesAt_4 f 22 (nI x) (nI (msk (fun j => decide (pl j = x)) i)) (nI i) I J) p (fun f i hi => ?_) (fun f => ?_) (f0 := 128) (by omega)
  · show HX1_whoLivesAt_4 _ _ _ _ _ _ _ = _
    unfold HX1_whoLivesAt_4 BX1_whoLivesAt_28
    have := hl i hi
    have x1 : nI (pl i) = nI x ↔ pl i = x := nI_eq (by omega) (by omega)
    rw [h5, if_neg (nI_ge hi (by omega)), gd_t (inb_nI (show i < 6 by omega) (by decide)), nI_clamp (by omega), show I (22 + 1) i = nI (pl i) from hr i hi, or_top (by omega), nI_1, msk_s]
    by_cases q : pl i = x
    · rw [if_pos (x1.mpr q), if_pos (by simpa using q)]
    · rw [if_neg (fun z => q (x1.mp z)), if_neg (by simpa using q)]
  · show HX1_whoLivesAt_4 _ _ _ _ _ _ _ = _
    unfold HX1_whoLivesAt_4
    rw [h5, if_pos (nI_le (by omega) (by omega))]
theorem nextTo_eq {σ : sN} {I : aI} (hM : RM σ I) (J : aJ) {a : Nat} (hn : σ 0 3 ≤ 6) (ha : a < σ 0 3) (h99 : ∀ b, b < σ 0 3 → fr (σ 10) a b ≤ 99) : fX8_nextTo (nI a) I J = some (nI (msk (fun b => decide (fr (σ 10) a b = 1)) (σ 0 3)), I, J) := by
  refine cl (fun f i => LX8_nextTo_4 f (nI a) (nI (msk (fun b => decide (fr (σ 10) a b = 1)) i)) (nI i) I J) (σ 0 3) (fun f i hi => ?_) (fun f => ?_) (f0 := 128) (by omega)
  · show HX8_nextTo_4 _ _ _ _ _ _ = _
    unfold HX8_nextTo_4 BX8_nextTo_35
    have := h99 i hi
    have x1 : nI (fr (σ 10) a i) = 1 ↔ fr (σ 10) a i = 1 := nI_eq (b := 1) (by omega) (by decide)
    obtain ⟨e1, e2, e3⟩ := i6 (a := a) (b := i) (by omega) (by omega)
    rw [hM.g 0 3 rfl, if_neg (nI_ge hi (by omega)), e1, gd_t e2, e3, hM.g 10 _ (rs10 (by omega) (by omega)), show σ 10 (6 * a + i) = fr (σ 10) a i from rfl, or_top (by omega), nI_1, msk_s]
    by_cases q : fr (σ 10) a i = 1
    · rw [if_pos (x1.mpr q), if_pos (by simpa using q)]
    · rw [if_neg (fun z => q (x1.mp z)), if_neg (by simpa using q), Int32.or_zero]
  · show HX8_nextTo_4 _ _ _ _ _ _ = _
    unfold HX8_nextTo_4
    rw [hM.g 0 3 rfl, if_pos (nI_le (by omega) (by omega))]
theorem reach_self {σ : sN} (hS : Sub σ) {a : Nat} (ha : a < σ 0 3) : nI (msk (nxt (σ 10) a) (σ 0 3)) &&& (((1 : Int32) <<< (nI a &&& 31)) ^^^ (-1)) = nI (msk (fun b => decide (fr (σ 10) a b = 1)) (σ 0 3)) := by
  rw [msk_anc hS.1.2 ha]
  refine congrArg nI (msk_congr (fun b hb => ?_))
  have hd := (hS.2.2.2.2.2.2.2.2.1.1 a ha b hb).2.1
  by_cases q : b = a
  · subst q
    have := hd.mpr rfl
    simp [this]
  · have : fr (σ 10) a b ≠ 0 := fun z => q (hd.mp z).symm
    simp only [q, if_false, nxt]
    by_cases z : fr (σ 10) a b = 1
    · simp [z]
    · simp [z]; omega
/-- who hears the van -/
def hrs (σ : sN) (i b : Nat) : Bool := decide (fr (σ 10) (σ 5 i) b ≤ σ 7 i)
theorem earshot_eq {σ : sN} {I : aI} (hS : Sub σ) (hC : RC σ I) (J : aJ) {i : Nat} (hi : i < σ 0 5) : fX7_earshot (nI i) I J = some (nI (msk (hrs σ i) (σ 0 3)), I, J) := by
  obtain ⟨s1, s2, s3, s4, s5, s6, s7, s8, s9, s10, s11⟩ := id hS
  have hl := s7 i hi
  have he := s8 i hi
  have ci := hC.2.2.2.1.2 i (by omega)
  have hin : inb (nI i) 6 = true := inb_nI (by omega) (by decide)
  have c : (nI i).toNatClampNeg = i := nI_clamp (by omega)
  unfold fX7_earshot
  rw [gd_t hin, c, ci.1]
  refine cl (fun f j => LX7_earshot_15 f (nI i) (nI (msk (hrs σ i) j)) (nI (σ 5 i)) (nI j) I J) (σ 0 3) (fun f j hj => ?_) (fun f => ?_) (f0 := 128) (by omega)
  · show HX7_earshot_15 _ _ _ _ _ _ _ = _
    unfold HX7_earshot_15 BX7_earshot_68
    have h99 := (s9.1 _ hl j hj).1
    have ct := ((hC.2.2.2.2.2.2.2 _ hl).2.2 j hj).1
    rw [hC.2.2.1.1, if_neg (nI_ge hj (by omega)), gd_t (inb_nI (show σ 5 i < 6 by omega) (by decide)), gd_t (inb_nI (show j < 6 by omega) (by decide)), gd_t hin, nI_clamp (show σ 5 i < 2 ^ 31 by omega), nI_clamp (show j < 2 ^ 31 by omega), c, ci.2.2.2, show 8 + 1 + σ 5 i = 9 + σ 5 i from rfl, ct, or_top (by omega), nI_1, msk_s]
    by_cases q : fr (σ 10) (σ 5 i) j = 99
    · rw [if_pos q, if_pos rfl, if_neg (by unfold hrs; simp; omega)]
    · rw [if_neg q, if_neg (by
        intro z
        have := nI_pos (n := fr (σ 10) (σ 5 i) j) (by omega)
        rw [z] at this
        exact this (by decide))]
      by_cases q2 : fr (σ 10) (σ 5 i) j ≤ σ 7 i
      · rw [if_neg (nI_nlt q2 (by omega)), if_pos (by unfold hrs; simpa using q2)]
      · rw [if_pos (nI_lt (by omega) (by omega)), if_neg (by unfold hrs; simpa using q2)]
  · show HX7_earshot_15 _ _ _ _ _ _ _ = _
    unfold HX7_earshot_15
    rw [hC.2.2.1.1, if_pos (nI_le (by omega) (by omega))]
theorem hearsVan_eq {σ : sN} {I : aI} (hS : Sub σ) (hC : RC σ I) (J : aJ) {i : Nat} (hi : i < σ 0 5) : fX7_hearsVan (nI i) I J = some ((if hrs σ i (σ 0 6) = true then 1 else 0), I, J) := by
  unfold fX7_hearsVan
  rw [bnd_t (earshot_eq hS hC J hi), hC.2.2.2.2.1.1, bnd_t (hasMsk (by have := hS.1.2; omega) hS.2.2.2.1 I J)]
  by_cases q : hrs σ i (σ 0 6) = true
  · rw [if_pos q]; rfl
  · rw [if_neg q]; rfl
theorem hears8_eq {σ : sN} {I : aI} (hS : Sub σ) (hM : RM σ I) (J : aJ) {i : Nat} (hi : i < σ 0 5) : fX8_hears (nI i) I J = some ((if hrs σ i (σ 0 6) = true then 1 else 0), I, J) := by
  obtain ⟨s1, s2, s3, s4, s5, s6, s7, s8, s9, s10, s11⟩ := id hS
  have hl := s7 i hi
  have he := s8 i hi
  have h99 := s9.le hl s4
  unfold fX8_hears BX8_hears_33
  obtain ⟨e1, e2, e3⟩ := i6 (a := σ 5 i) (b := σ 0 6) (by omega) (by omega)
  rw [gd_t (inb_nI (show i < 6 by omega) (by decide)), nI_clamp (by omega), hM.g 5 i (by simp [rs]; omega), hM.g 0 6 rfl, e1, gd_t e2, e3, hM.g 7 i (by simp [rs]; omega), hM.g 10 _ (rs10 (by omega) (by omega)), show σ 10 (6 * σ 5 i + σ 0 6) = fr (σ 10) (σ 5 i) (σ 0 6) from rfl]
  by_cases q : fr (σ 10) (σ 5 i) (σ 0 6) ≤ σ 7 i
  · rw [if_neg (nI_nlt q (by omega)), if_pos (by unfold hrs; simpa using q)]
  · rw [if_pos (nI_lt (Nat.lt_of_not_le q) (by omega)), if_neg (by unfold hrs; simpa using q)]
theorem smN_cut (f : Nat → Nat) {p : Nat} : ∀ n, p ≤ n → smN (fun j => if j < p then f j else 0) n = smN f p
  | 0, h => by rw [show p = 0 by omega]; rfl
  | n + 1, h => by
    by_cases q : p = n + 1
    · subst q
      exact smN_congr (fun i hi => if_pos hi)
    · simp only [smN]
      rw [smN_cut f n (by omega), if_neg (by omega)]
      rfl
theorem smN_cnt {f : Nat → Nat} : ∀ n, (∀ j, j < n → f j = 0 ∨ f j = 1) → smN f n = cntB (fun j => decide (f j = 1)) n
  | 0, _ => rfl
  | n + 1, h => by
    simp only [smN, cntB]
    rw [smN_cnt n (fun j hj => h j (by omega))]
    rcases h n (by omega) with q | q <;> simp [q]
theorem sumOf_eq {e p : Nat} {f : Nat → Nat} (hp : p ≤ 6) {I : aI} (J : aJ) (h5 : I 0 5 = nI p) (hr : ∀ j, j < p → I e j = nI (f j)) : fX8_sumOf e 6 I J = some (nI (smN f p), I, J) := by
  refine cl (fun q i => LX8_sumOf_4 q e 6 (nI (smN f i)) (nI i) I J) p (fun q i hi => ?_) (fun q => ?_) (f0 := 128) (by omega)
  · show HX8_sumOf_4 _ _ _ _ _ _ _ = _
    unfold HX8_sumOf_4
    rw [h5, if_neg (nI_ge hi (by omega)), gd_t (inb_nI (show i < 6 by omega) (by decide)), nI_clamp (by omega), hr i hi, nI_1, nI_add]
    rfl
  · show HX8_sumOf_4 _ _ _ _ _ _ _ = _
    unfold HX8_sumOf_4
    rw [h5, if_pos (nI_le (by omega) (by omega))]
theorem hasBit0 {j : Nat} (hj : j < 32) (I : aI) (J : aJ) : fX7_hasBit 0 (nI j) I J = some (0, I, J) := by
  have h := hasBit_eq (m := 0) (j := j) (by decide) hj I J
  rw [Nat.zero_div] at h
  exact h
theorem countedAll_eq {e : Nat} {f : Nat → Nat} {I : aI} (J : aJ) (hr : ∀ j, j < 6 → I (e + 1) j = nI (f j)) : fX0_countedByAll e I J = some (nI (smN f 6), I, J) := by
  have : fX0_countedBy e 0 I J = some (nI (smN f 6), I, J) := by
    refine cl (fun q i => LX0_countedBy_4 q e 0 (nI (smN f i)) (nI i) I J) 6 (fun q i hi => ?_) (fun q => ?_) (f0 := 128) (by omega)
    · show HX0_countedBy_4 _ _ _ _ _ _ _ = _
      unfold HX0_countedBy_4 BX0_countedBy_27
      rw [if_neg (show ¬ (6 : Int32) ≤ nI i from nI_ge (b := 6) hi (by decide)), bnd_t (hasBit0 (by omega) I J), if_pos rfl, gd_t (inb_nI hi (by decide)), nI_clamp (by omega), hr i hi, nI_1, nI_add]
      rfl
    · rfl
  unfold fX0_countedByAll
  rw [bnd_t this]
theorem hearing_eq {σ : sN} {I : aI} (hp : σ 0 5 ≤ 6) (hS : 0 < σ 0 5 → Sub σ) (hM : RM σ I) (J : aJ) : fX8_hearing I J = some (nI (cntB (fun i => hrs σ i (σ 0 6)) (σ 0 5)), I, J) := by
  refine cl (fun q i => LX8_hearing_4 q (nI (cntB (fun i => hrs σ i (σ 0 6)) i)) (nI i) I J) (σ 0 5) (fun q i hi => ?_) (fun q => ?_) (f0 := 128) (by omega)
  · show HX8_hearing_4 _ _ _ _ _ = _
    unfold HX8_hearing_4
    rw [hM.g 0 5 rfl, if_neg (nI_ge hi (by omega)), bnd_t (hears8_eq (hS (by omega)) hM J hi), nI_1]
    simp only [cntB]
    by_cases z : hrs σ i (σ 0 6) = true
    · rw [if_pos z, if_pos z, nI_1]
    · rw [if_neg z, if_neg z, Int32.add_zero]; rfl
  · show HX8_hearing_4 _ _ _ _ _ = _
    unfold HX8_hearing_4
    rw [hM.g 0 5 rfl, if_pos (nI_le (by omega) (by omega))]
theorem hearers_eq {σ : sN} {I : aI} (hp : σ 0 5 ≤ 6) (hS : 0 < σ 0 5 → Sub σ) (hC : RC σ I) (J : aJ) : fX7_hearersNumber I J = some (nI (cntB (fun i => hrs σ i (σ 0 6)) (σ 0 5)), I, J) := by
  refine cl (fun q i => LX7_hearersNumber_4 q (nI (cntB (fun i => hrs σ i (σ 0 6)) i)) (nI i) I J) (σ 0 5) (fun q i hi => ?_) (fun q => ?_) (f0 := 128) (by omega)
  · show HX7_hearersNumber_4 _ _ _ _ _ = _
    unfold HX7_hearersNumber_4 BX7_hearersNumber_29
    rw [hC.2.2.2.1.1, if_neg (nI_ge hi (by omega)), bnd_t (hearsVan_eq (hS (by omega)) hC J hi), nI_1]
    simp only [cntB]
    by_cases z : hrs σ i (σ 0 6) = true
    · rw [if_pos z, if_pos z, if_neg ne10, nI_1]
    · rw [if_neg z, if_neg z, if_pos rfl, Int32.add_zero]; rfl
  · show HX7_hearersNumber_4 _ _ _ _ _ = _
    unfold HX7_hearersNumber_4
    rw [hC.2.2.2.1.1, if_pos (nI_le (by omega) (by omega))]
theorem count_eq {t : Nat} {σ : sN} {Ic Im : aI} (hG : Good t σ) (hM : RM σ Im) (hC : RC σ Ic) (Jc Jm : aJ) (x : Int32) : ∃ r, fX7_count x Ic Jc = some (r, Ic, Jc) ∧ fX8_countOf x Im Jm = some (r, Im, Jm) := by
  have hp := hG.p
  have hS : 0 < σ 0 5 → Sub σ := fun h => (hG.sub (Or.inr (Or.inl h))).2
  have hE := hC.2.2.2.2.1
  unfold fX7_count fX8_countOf
  by_cases h0 : x = 0
  · rw [if_pos h0, if_pos h0, hC.2.2.1.1, hM.g 0 3 rfl]; exact ⟨_, rfl, rfl⟩
  rw [if_neg h0, if_neg h0]
  by_cases h1 : x = 1
  · rw [if_pos h1, if_pos h1, hC.2.2.1.2.1, hM.g 0 4 rfl]; exact ⟨_, rfl, rfl⟩
  rw [if_neg h1, if_neg h1]
  by_cases h2 : x = 2
  · rw [if_pos h2, if_pos h2, hC.2.2.2.1.1, hM.g 0 5 rfl]; exact ⟨_, rfl, rfl⟩
  rw [if_neg h2, if_neg h2]
  by_cases h3 : x = 3
  · rw [if_pos h3, if_pos h3, hE.1, hM.g 0 6 rfl]; exact ⟨_, rfl, rfl⟩
  rw [if_neg h3, if_neg h3]
  by_cases h4 : x = 4
  · rw [if_pos h4, if_pos h4, hE.2.1, hM.g 0 7 rfl]; exact ⟨_, rfl, rfl⟩
  rw [if_neg h4, if_neg h4]
  by_cases h5 : x = 5
  · rw [if_pos h5, if_pos h5, bnd_t (served_eq hp.2.2.1 Jc hE.2.2.1), bnd_t (sumOf_eq hp.2.2.1 Jm (hM.g 0 5 rfl) (fun j hj => hM.g 9 j (by simp [rs]; omega))), smN_cnt _ (fun j hj => ((hS (by omega)).2.2.2.2.2.2.2.1 j hj).2.2.2.1)]
    exact ⟨_, rfl, rfl⟩
  rw [if_neg h5, if_neg h5]
  by_cases h6 : x = 6
  · rw [if_pos h6, if_pos h6, bnd_t (countedAll_eq (e := 32) Jc hE.2.2.2), bnd_t (sumOf_eq hp.2.2.1 Jm (hM.g 0 5 rfl) (fun j hj => hM.g 8 j (by simp [rs]; omega))), smN_cut _ _ hp.2.2.1]
    exact ⟨_, rfl, rfl⟩
  rw [if_neg h6, if_neg h6]
  by_cases h7 : x = 7
  · rw [if_pos h7, if_pos h7, bnd_t (hearers_eq hp.2.2.1 hS hC Jc), bnd_t (hearing_eq hp.2.2.1 hS hM Jm)]
    exact ⟨_, rfl, rfl⟩
  rw [if_neg h7, if_neg h7]
  by_cases h8 : x = 8
  · rw [if_pos h8, if_pos h8, hC.2.2.2.2.2.1.1, hM.g 0 27 rfl]; exact ⟨_, rfl, rfl⟩
  rw [if_neg h8, if_neg h8]
  by_cases h9 : x = 9
  · rw [if_pos h9, if_pos h9, hC.1.1, hM.g 0 1 rfl]; exact ⟨_, rfl, rfl⟩
  rw [if_neg h9, if_neg h9]
  by_cases h10 : x = 10
  · rw [if_pos h10, if_pos h10, hC.2.1.1, hM.g 0 8 rfl]; exact ⟨_, rfl, rfl⟩
  rw [if_neg h10, if_neg h10]
  by_cases h11 : x = 11
  · rw [if_pos h11, if_pos h11, hC.2.1.2, hM.g 0 24 rfl]; exact ⟨_, rfl, rfl⟩
  rw [if_neg h11, if_neg h11]
  exact ⟨_, rfl, rfl⟩
theorem b_count : ∀ (t : Nat) (Ic : aI) (Jc : aJ) (Im : aI) (Jm : aJ), t < 64 → Rel t Ic Jc Im Jm → ∀ x1 : Int32, ∃ (r : Int32) (Ic' : aI) (Jc' : aJ) (Im' : aI) (Jm' : aJ), fX7_count x1 Ic Jc = some (r, Ic', Jc') ∧ fX8_count x1 Im Jm = some (r, Im', Jm') ∧ Rel (t + 1) Ic' Jc' Im' Jm' := by
  intro t Ic Jc Im Jm _ hR x1
  obtain ⟨σ, hG, hM, hC⟩ := id hR
  obtain ⟨r, h1, h2⟩ := count_eq hG hM hC Jc Jm x1
  exact ⟨r, Ic, Jc, Im, Jm, h1, by unfold fX8_count; rw [bnd_t h2], Rel_skip _ _ _ _ _ hR⟩
