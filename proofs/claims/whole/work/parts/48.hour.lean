/-! one hour of an evening, in both -/
def tmO (kd tm h : Nat) : Bool := decide (tm ≤ h) && (decide (kd ≠ 2) || decide (h % 2 = 1))
def ctA (x h : Nat) (kd pl tm ct sv : Nat → Nat) (j : Nat) : Nat := if sv j = 0 then (if pl j = x then (if tmO (kd j) (tm j) h = true then ct j + 1 else ct j) else if kd j = 3 then 0 else ct j) else ct j
def svA (x h : Nat) (kd pl tm ct sv : Nat → Nat) (j : Nat) : Nat := if sv j = 0 ∧ pl j = x ∧ tmO (kd j) (tm j) h = true ∧ ndN (kd j) ≤ ct j + 1 then 1 else sv j
def nwA (x h : Nat) (kd pl tm ct sv : Nat → Nat) (j : Nat) : Bool := decide (sv j = 0 ∧ svA x h kd pl tm ct sv j = 1)
/-- what an hour asks of the people -/
def Pq (p : Nat) (kd pl tm ct sv : Nat → Nat) : Prop := ∀ j, j < p → kd j ≤ 4 ∧ pl j < 6 ∧ tm j ≤ 9 ∧ (sv j = 0 ∨ sv j = 1) ∧ ct j ≤ ndN (kd j) ∧ (sv j = 0 → ct j < ndN (kd j))
theorem ndN_le (k : Nat) : 1 ≤ ndN k ∧ ndN k ≤ 3 := by unfold ndN; split <;> (try split) <;> omega
theorem ndF_eq {k : Nat} (h : k ≤ 4) : ndF k = nI (ndN k) := by
  rcases (show k = 0 ∨ k = 1 ∨ k = 2 ∨ k = 3 ∨ k = 4 by omega) with rfl | rfl | rfl | rfl | rfl <;> rfl
theorem needs8 {k : Nat} (h : k ≤ 4) (I : aI) (J : aJ) : fX8_needs (nI k) I J = some (nI (ndN k), I, J) := by
  rcases (show k = 0 ∨ k = 1 ∨ k = 2 ∨ k = 3 ∨ k = 4 by omega) with rfl | rfl | rfl | rfl | rfl <;> rfl
theorem par2 {h : Nat} (hh : h < 2000) : nI h - nI h / 2 * 2 = nI (h % 2) := pk_rem (d := 2) (by omega) (by decide) (by decide)
theorem isTime8 {j h kd tm : Nat} (hj : j < 6) (hh : h < 2000) (hk : kd ≤ 4) (ht : tm ≤ 9) {I : aI} {J : aJ} (h6 : I 6 j = nI tm) (h4 : I 4 j = nI kd) : fX8_isTime (nI j) (nI h) I J = some ((if tmO kd tm h = true then 1 else 0), I, J) := by
  unfold fX8_isTime BX8_isTime_31 BX8_isTime_27 BX8_isTime_32
  rw [gd_t (inb_nI hj (by decide)), nI_clamp (by omega), h6, h4, par2 hh]
  have e1 : nI h < nI tm ↔ ¬ tm ≤ h := by rw [nI_ltI (by omega) (by omega)]; omega
  have e2 : nI kd = 2 ↔ kd = 2 := nI_eq (b := 2) (by omega) (by decide)
  have e3 : nI (h % 2) = 1 ↔ h % 2 = 1 := nI_eq (b := 1) (by omega) (by decide)
  simp only [e1, e2, e3, tmO]
  by_cases a1 : tm ≤ h
  · by_cases a2 : kd = 2
    · by_cases a3 : h % 2 = 1
      · simp [a1, a2, a3, gd]
      · simp [a1, a2, a3, gd]
    · simp [a1, a2, gd]
  · simp [a1, gd]
theorem ctA_le {p x h : Nat} {kd pl tm ct sv : Nat → Nat} (hP : Pq p kd pl tm ct sv) {j : Nat} (hj : j < p) : ctA x h kd pl tm ct sv j ≤ ndN (kd j) := by
  obtain ⟨q1, q2, q3, q4, q5, q6⟩ := hP j hj
  unfold ctA
  split
  · rename_i h0
    have := q6 h0
    split
    · split <;> omega
    · split <;> omega
  · exact q5
theorem svA_01 {p x h : Nat} {kd pl tm ct sv : Nat → Nat} (hP : Pq p kd pl tm ct sv) {j : Nat} (hj : j < p) : svA x h kd pl tm ct sv j = 0 ∨ svA x h kd pl tm ct sv j = 1 := by
  obtain ⟨q1, q2, q3, q4, q5, q6⟩ := hP j hj
  unfold svA
  split
  · exact Or.inr rfl
  · exact q4
theorem ctA_lt {p x h : Nat} {kd pl tm ct sv : Nat → Nat} (hP : Pq p kd pl tm ct sv) {j : Nat} (hj : j < p) (h0 : sv j = 0) : ctA x h kd pl tm ct sv j < ndN (kd j) ↔ svA x h kd pl tm ct sv j = 0 := by
  obtain ⟨q1, q2, q3, q4, q5, q6⟩ := hP j hj
  have := q6 h0
  unfold ctA svA
  by_cases a1 : pl j = x
  · by_cases a2 : tmO (kd j) (tm j) h = true
    · by_cases a3 : ndN (kd j) ≤ ct j + 1
      · simp [h0, a1, a2, a3]
      · simp [h0, a1, a2, a3]; omega
    · simp [h0, a1, a2, this]
  · by_cases a2 : kd j = 3
    · simp [h0, a1, a2]; decide
    · simp [h0, a1, a2, this]
theorem Pq.next {p x h : Nat} {kd pl tm ct sv : Nat → Nat} (hP : Pq p kd pl tm ct sv) : Pq p kd pl tm (ctA x h kd pl tm ct sv) (svA x h kd pl tm ct sv) := by
  intro j hj
  obtain ⟨q1, q2, q3, q4, q5, q6⟩ := hP j hj
  refine ⟨q1, q2, q3, svA_01 hP hj, ctA_le hP hj, fun h0 => ?_⟩
  have : sv j = 0 := by
    unfold svA at h0
    split at h0
    · exact absurd h0 (by decide)
    · exact h0
  exact (ctA_lt hP hj this).mpr h0
theorem goThen_eq {p x h : Nat} {kd pl tm ct sv : Nat → Nat} (hP : Pq p kd pl tm ct sv) (hp : p ≤ 6) (hx : x < 6) (hh : h < 2000) (I : aI) (J : aJ) (h5 : I 0 5 = nI p)
    (hr : ∀ j, j < p → I 4 j = nI (kd j) ∧ I 5 j = nI (pl j) ∧ I 6 j = nI (tm j) ∧ I 11 j = nI (ct j) ∧ I 12 j = nI (sv j)) :
    ∃ I' : aI, fX8_goThen (nI x) (nI h) I J = some (nI (cntB (nwA x h kd pl tm ct sv) p), I', J) ∧ ∀ k j, I' k j = if k = 11 ∧ j < p then nI (ctA x h kd pl tm ct sv j) else if k = 12 ∧ j < p then nI (svA x h kd pl tm ct sv j) else I k j := by
  have key : ∀ (m i f : Nat) (Ic : aI), i + m = p → m < f → (∀ k j, Ic k j = if k = 11 ∧ j < i then nI (ctA x h kd pl tm ct sv j) else if k = 12 ∧ j < i then nI (svA x h kd pl tm ct sv j) else I k j) →
      ∃ I' : aI, LX8_goThen_5 f (nI x) (nI h) (nI (cntB (nwA x h kd pl tm ct sv) i)) (nI i) Ic J = some (nI (cntB (nwA x h kd pl tm ct sv) p), I', J) ∧ ∀ k j, I' k j = if k = 11 ∧ j < p then nI (ctA x h kd pl tm ct sv j) else if k = 12 ∧ j < p then nI (svA x h kd pl tm ct sv j) else I k j := by
    intro m
    induction m with
    | zero =>
      intro i f Ic hi hf hI
      obtain ⟨f, rfl⟩ : ∃ g, f = g + 1 := ⟨f - 1, by omega⟩
      have e : i = p := by omega
      subst e
      refine ⟨Ic, ?_, hI⟩
      show HX8_goThen_5 _ (nI x) (nI h) _ (nI i) Ic J = _
      unfold HX8_goThen_5
      rw [show Ic 0 5 = nI i by rw [hI]; simpa using h5, if_pos (nI_le (by omega) (by omega))]
    | succ m ih =>
      intro i f Ic hi hf hI
      obtain ⟨f, rfl⟩ : ∃ g, f = g + 1 := ⟨f - 1, by omega⟩
      have hin : inb (nI i) 6 = true := inb_nI (by omega) (by decide)
      have hip : i < p := by omega
      obtain ⟨r4, r5, r6, r11, r12⟩ := hr i hip
      obtain ⟨q1, q2, q3, q4, q5, q6⟩ := hP i hip
      have nd := ndN_le (kd i)
      have e05 : Ic 0 5 = nI p := by rw [hI]; simpa using h5
      have e4 : Ic 4 i = nI (kd i) := by rw [hI]; simpa using r4
      have e5 : Ic 5 i = nI (pl i) := by rw [hI]; simpa using r5
      have e6 : Ic 6 i = nI (tm i) := by rw [hI]; simpa using r6
      have e11 : Ic 11 i = nI (ct i) := by rw [hI]; simpa using r11
      have e12 : Ic 12 i = nI (sv i) := by rw [hI]; simpa using r12
      have c : (nI i).toNatClampNeg = i := nI_clamp (by omega)
      have go : ∀ Ic' : aI, Ic' 11 i = nI (ctA x h kd pl tm ct sv i) → Ic' 12 i = nI (svA x h kd pl tm ct sv i) → (∀ k j, ¬ (k = 11 ∧ j = i) → ¬ (k = 12 ∧ j = i) → Ic' k j = Ic k j) →
          ∃ I' : aI, LX8_goThen_5 f (nI x) (nI h) (nI (cntB (nwA x h kd pl tm ct sv) i + (if nwA x h kd pl tm ct sv i = true then 1 else 0))) (nI i + 1) Ic' J = some (nI (cntB (nwA x h kd pl tm ct sv) p), I', J) ∧ ∀ k j, I' k j = if k = 11 ∧ j < p then nI (ctA x h kd pl tm ct sv j) else if k = 12 ∧ j < p then nI (svA x h kd pl tm ct sv j) else I k j := by
        intro Ic' g1 g2 g3
        have := ih (i + 1) f Ic' (by omega) (by omega) (by
          intro k j
          by_cases a1 : k = 11 ∧ j = i
          · rw [a1.1, a1.2, g1, if_pos ⟨rfl, by omega⟩]
          by_cases a2 : k = 12 ∧ j = i
          · rw [a2.1, a2.2, g2, if_neg (by omega), if_pos ⟨rfl, by omega⟩]
          rw [g3 k j a1 a2, hI]
          have b1 : (k = 11 ∧ j < i) ↔ (k = 11 ∧ j < i + 1) := by omega
          have b2 : (k = 12 ∧ j < i) ↔ (k = 12 ∧ j < i + 1) := by omega
          simp only [b1, b2])
        rw [nI_1]
        exact this
      show ∃ I' : aI, HX8_goThen_5 _ (nI x) (nI h) _ (nI i) Ic J = _ ∧ _
      unfold HX8_goThen_5
      rw [e05, if_neg (nI_ge hip (by omega)), gd_t hin, c, e5, e4, e12]
      have x1 : nI (pl i) = nI x ↔ pl i = x := nI_eq (by omega) (by omega)
      have x2 : nI (sv i) = 0 ↔ sv i = 0 := nI_eq (b := 0) (by omega) (by decide)
      have x3 : nI (kd i) = 3 ↔ kd i = 3 := nI_eq (b := 3) (by omega) (by decide)
      by_cases a1 : pl i = x
      · rw [if_pos (x1.mpr a1)]
        by_cases a2 : sv i = 0
        · rw [if_pos (x2.mpr a2), bnd_t (isTime8 (by omega) hh q1 q3 e6 e4)]
          by_cases a3 : tmO (kd i) (tm i) h = true
          · have y0 : ctA x h kd pl tm ct sv i = ct i + 1 := by unfold ctA; rw [if_pos a2, if_pos a1, if_pos a3]
            have y1 : (pI Ic 11 i (Ic 11 i + 1)) 4 i = nI (kd i) := by rw [pI_g, if_neg (by omega)]; exact e4
            have y2 : (pI Ic 11 i (Ic 11 i + 1)) 11 i = nI (ct i + 1) := by rw [pI_g, if_pos ⟨rfl, rfl⟩, e11, nI_1]
            rw [if_pos a3, if_neg ne10, y1, bnd_t (needs8 q1 _ _), y2]
            unfold BX8_goThen_129 BX8_goThen_140
            rw [gd_t hin, gd_t hin, gd_t hin, gd_t hin, c]
            by_cases a4 : ndN (kd i) ≤ ct i + 1
            · have y3 : svA x h kd pl tm ct sv i = 1 := by unfold svA; rw [if_pos ⟨a2, a1, a3, a4⟩]
              rw [if_neg (nI_nlt a4 (by omega)), show pI (pI Ic 11 i (Ic 11 i + 1)) 12 i 1 12 i = 1 by rw [pI_g, if_pos ⟨rfl, rfl⟩]]
              have := go (pI (pI Ic 11 i (Ic 11 i + 1)) 12 i 1) (by rw [pI_g, if_neg (by omega), y2, y0]) (by rw [pI_g, if_pos ⟨rfl, rfl⟩, y3]; rfl) (fun k j b1 b2 => by rw [pI_g, if_neg b2, pI_g, if_neg b1])
              rw [if_pos (by unfold nwA; simp [a2, y3]), ← nI_1] at this
              exact this
            · have y3 : svA x h kd pl tm ct sv i = 0 := by unfold svA; rw [if_neg (fun q => a4 q.2.2.2)]; exact a2
              rw [if_pos (nI_lt (by omega) (by omega)), show pI (pI Ic 11 i (Ic 11 i + 1)) 12 i 0 12 i = 0 by rw [pI_g, if_pos ⟨rfl, rfl⟩], Int32.add_zero]
              have := go (pI (pI Ic 11 i (Ic 11 i + 1)) 12 i 0) (by rw [pI_g, if_neg (by omega), y2, y0]) (by rw [pI_g, if_pos ⟨rfl, rfl⟩, y3]; rfl) (fun k j b1 b2 => by rw [pI_g, if_neg b2, pI_g, if_neg b1])
              rw [if_neg (by unfold nwA; simp [y3]), Nat.add_zero] at this
              exact this
          · have y0 : ctA x h kd pl tm ct sv i = ct i := by unfold ctA; rw [if_pos a2, if_pos a1, if_neg a3]
            have y3 : svA x h kd pl tm ct sv i = sv i := by unfold svA; rw [if_neg (fun q => a3 q.2.2.1)]
            rw [if_neg a3, if_pos rfl]
            unfold BX8_goThen_140
            have := go Ic (by rw [y0, e11]) (by rw [y3, e12]) (fun k j b1 b2 => rfl)
            rw [if_neg (by unfold nwA; simp [y3, a2]), Nat.add_zero] at this
            exact this
        · have y0 : ctA x h kd pl tm ct sv i = ct i := by unfold ctA; rw [if_neg a2]
          have y3 : svA x h kd pl tm ct sv i = sv i := by unfold svA; rw [if_neg (fun q => a2 q.1)]
          rw [if_neg (fun q => a2 (x2.mp q))]
          unfold BX8_goThen_140
          have := go Ic (by rw [y0, e11]) (by rw [y3, e12]) (fun k j b1 b2 => rfl)
          rw [if_neg (by unfold nwA; simp [a2]), Nat.add_zero] at this
          exact this
      · have y3 : svA x h kd pl tm ct sv i = sv i := by unfold svA; rw [if_neg (fun q => a1 q.2.1)]
        rw [if_neg (fun q => a1 (x1.mp q))]
        unfold BX8_goThen_56 BX8_goThen_63 BX8_goThen_140
        rw [gd_t hin, gd_t hin, gd_t hin, c]
        have nn : ¬ (nwA x h kd pl tm ct sv i = true) := by
          unfold nwA
          rw [y3]
          rcases q4 with q | q <;> simp [q]
        by_cases a2 : kd i = 3
        · rw [if_pos (x3.mpr a2)]
          by_cases a3 : sv i = 0
          · have y0 : ctA x h kd pl tm ct sv i = 0 := by unfold ctA; rw [if_pos a3, if_neg a1, if_pos a2]
            rw [if_pos (x2.mpr a3)]
            have := go (pI Ic 11 i 0) (by rw [pI_g, if_pos ⟨rfl, rfl⟩, y0]; rfl) (by rw [pI_g, if_neg (by omega), y3, e12]) (fun k j b1 b2 => by rw [pI_g, if_neg b1])
            rw [if_neg nn, Nat.add_zero] at this
            exact this
          · have y0 : ctA x h kd pl tm ct sv i = ct i := by unfold ctA; rw [if_neg a3]
            rw [if_neg (fun q => a3 (x2.mp q))]
            have := go (pI Ic 11 i (Ic 11 i)) (by rw [pI_g, if_pos ⟨rfl, rfl⟩, y0, e11]) (by rw [pI_g, if_neg (by omega), y3, e12]) (fun k j b1 b2 => by rw [pI_g, if_neg b1])
            rw [if_neg nn, Nat.add_zero] at this
            exact this
        · have y0 : ctA x h kd pl tm ct sv i = ct i := by unfold ctA; rw [if_neg a1, if_neg a2]; simp
          rw [if_neg (fun q => a2 (x3.mp q))]
          have := go (pI Ic 11 i (Ic 11 i)) (by rw [pI_g, if_pos ⟨rfl, rfl⟩, y0, e11]) (by rw [pI_g, if_neg (by omega), y3, e12]) (fun k j b1 b2 => by rw [pI_g, if_neg b1])
          rw [if_neg nn, Nat.add_zero] at this
          exact this
  exact key p 0 128 I (by omega) (by omega) (fun k j => by rw [if_neg (by omega), if_neg (by omega)])
theorem cAfter {x h j : Nat} {kd pl tm ct sv : Nat → Nat} (hj : j < 6) (hh : h < 2000) (hk : kd j ≤ 4) (ht : tm j ≤ 9) (h0 : sv j = 0) {I : aI} {J : aJ} (h24 : I (22 + 2) j = nI (kd j)) (h25 : I (22 + 3) j = nI (tm j)) :
    fX1_countedAfter 22 (nI j) (nI (ct j)) (if pl j = x then 1 else 0) (nI h) I J = some (nI (ctA x h kd pl tm ct sv j), I, J) := by
  unfold fX1_countedAfter BX1_countedAfter_19 BX1_countedAfter_48 BX1_countedAfter_52 BX1_countedAfter_53 BX1_countedAfter_67
  have hin : inb (nI j) 6 = true := inb_nI hj (by decide)
  rw [gd_t hin, gd_t hin, nI_clamp (by omega), h24, h25, par2 hh]
  have e1 : nI h < nI (tm j) ↔ ¬ tm j ≤ h := by rw [nI_ltI (by omega) (by omega)]; omega
  have e2 : nI (kd j) = 2 ↔ kd j = 2 := nI_eq (b := 2) (by omega) (by decide)
  have e4 : nI (kd j) = 3 ↔ kd j = 3 := nI_eq (b := 3) (by omega) (by decide)
  have e3 : nI (h % 2) = 0 ↔ ¬ h % 2 = 1 := by rw [show (0 : Int32) = nI 0 from rfl, nI_eq (b := 0) (by omega) (by decide)]; omega
  simp only [e1, e2, e3, e4, ctA, h0, if_true, tmO]
  by_cases a1 : pl j = x
  · rw [if_pos a1, if_neg ne10, if_pos a1]
    by_cases a2 : tm j ≤ h
    · by_cases a3 : kd j = 2
      · by_cases a4 : h % 2 = 1
        · simp [a2, a3, a4, nI_1]
        · simp [a2, a3, a4]
      · simp [a2, a3, nI_1]
    · simp [a2]
  · rw [if_neg a1, if_pos rfl, if_neg a1]
    by_cases a3 : kd j = 3
    · rw [if_pos a3, if_pos a3]; rfl
    · rw [if_neg a3, if_neg a3]
theorem meet_eq {e x h i : Nat} {kd pl tm ct sv : Nat → Nat} (he : 32 ≤ e) (hi : i < 6) (hx : x < 6) (hl : pl i < 6) (hh : h < 2000) (hk : kd i ≤ 4) (ht : tm i ≤ 9) (h0 : sv i = 0) (hct : ct i ≤ 4) {I : aI} (J : aJ)
    (a0 : I e 0 = nI x) (a1 : I e 1 = nI h) (b1 : I 23 i = nI (pl i)) (b2 : I 24 i = nI (kd i)) (b3 : I 25 i = nI (tm i)) (b4 : I (e + 1) i = nI (ct i)) :
    fX0_meet e (nI i) 22 I J = some ((), (if ctA x h kd pl tm ct sv i < ndN (kd i) then pI I (e + 1) i (nI (ctA x h kd pl tm ct sv i)) else pI (pI I (e + 1) i (nI (ctA x h kd pl tm ct sv i))) e 2 (I e 2 ||| ((1 : Int32) <<< (nI i &&& 31)))), J) := by
  unfold fX0_meet
  have hin : inb (nI i) 6 = true := inb_nI hi (by decide)
  have c : (nI i).toNatClampNeg = i := nI_clamp (by omega)
  have b1' : I (22 + 1) i = nI (pl i) := b1
  have x1 : nI (pl i) = nI x ↔ pl i = x := nI_eq (by omega) (by omega)
  have hc := cAfter (x := x) (h := h) (pl := pl) (ct := ct) hi hh hk ht h0 (J := J) (show I (22 + 2) i = nI (kd i) from b2) (show I (22 + 3) i = nI (tm i) from b3)
  have nd := ndN_le (kd i)
  have cl : ctA x h kd pl tm ct sv i ≤ 5 := by
    unfold ctA
    split
    · split
      · split <;> omega
      · split <;> omega
    · omega
  have mm : BX0_meet_31 e (nI i) 22 (if pl i = x then 1 else 0) (nI (ct i)) (nI i) 22 (nI i) (e + 1) I J = some ((), (if ctA x h kd pl tm ct sv i < ndN (kd i) then pI I (e + 1) i (nI (ctA x h kd pl tm ct sv i)) else pI (pI I (e + 1) i (nI (ctA x h kd pl tm ct sv i))) e 2 (I e 2 ||| ((1 : Int32) <<< (nI i &&& 31)))), J) := by
    unfold BX0_meet_31
    rw [a1, bnd_t hc, gd_t hin, gd_t hin, c]
    have nn : fX1_needs 22 (nI i) (pI I (e + 1) i (nI (ctA x h kd pl tm ct sv i))) J = some (nI (ndN (kd i)), (pI I (e + 1) i (nI (ctA x h kd pl tm ct sv i))), J) := by
      unfold fX1_needs
      rw [gd_t hin, c, show pI I (e + 1) i (nI (ctA x h kd pl tm ct sv i)) (22 + 2) i = nI (kd i) by rw [pI_ro _ (by omega)]; exact b2, gd_t (inb_nI (by omega) (by decide)), nI_clamp (by omega), ndF_eq hk]
    rw [bnd_t nn, show pI I (e + 1) i (nI (ctA x h kd pl tm ct sv i)) (e + 1) i = nI (ctA x h kd pl tm ct sv i) by rw [pI_g, if_pos ⟨rfl, rfl⟩]]
    unfold BX0_meet_65
    rw [show pI I (e + 1) i (nI (ctA x h kd pl tm ct sv i)) e 2 = I e 2 by rw [pI_ro _ (by omega)]]
    by_cases q : ctA x h kd pl tm ct sv i < ndN (kd i)
    · rw [if_pos (nI_lt q (by omega)), if_pos q]
    · rw [if_neg (nI_nlt (by omega) (by omega)), if_neg q]
  rw [gd_t hin, c, b1', a0, b4]
  by_cases q : pl i = x
  · rw [if_pos (x1.mpr q)]
    rw [if_pos q] at mm
    exact mm
  · rw [if_neg (fun z => q (x1.mp z))]
    rw [if_neg q] at mm
    exact mm
theorem served_eq {e p : Nat} {f : Nat → Bool} (hp : p ≤ 6) {I : aI} (J : aJ) (h2 : I e 2 = nI (msk f p)) : fX0_servedNumber e I J = some (nI (cntB f p), I, J) := by
  unfold fX0_servedNumber
  rw [h2, bnd_t (bc_msk hp I J)]
theorem isServed_eq {e p i : Nat} {f : Nat → Bool} (hp : p ≤ 6) (hi : i < p) {I : aI} (J : aJ) (h2 : I e 2 = nI (msk f p)) : fX0_isServed e (nI i) I J = some ((if f i = true then 1 else 0), I, J) := by
  unfold fX0_isServed
  rw [h2, bnd_t (hasMsk (by omega) hi I J)]
  by_cases q : f i = true
  · rw [if_pos q]; rfl
  · rw [if_neg q]; rfl
theorem cnt_new (f g w : Nat → Bool) : ∀ n, (∀ i, i < n → (f i = true → g i = true ∧ w i = false) ∧ (f i = false → g i = w i)) → cntB g n = cntB f n + cntB w n
  | 0, _ => rfl
  | n + 1, h => by
    have ih := cnt_new f g w n (fun i hi => h i (by omega))
    have hn := h n (by omega)
    simp only [cntB, ih]
    by_cases q : f n = true
    · have := hn.1 q
      rw [if_pos q, if_pos this.1, this.2, if_neg (by decide)]
      omega
    · have := hn.2 (by simpa using q)
      rw [if_neg q, this]
      omega
theorem pass_eq {e p x h v : Nat} {kd pl tm ct sv : Nat → Nat} (he : 32 ≤ e) (hP : Pq p kd pl tm ct sv) (hp : p ≤ 6) (hx : x < 6) (hh : h < 1999) (I : aI) (J : aJ) (hE : Ev I e v h sv ct p) (h5 : I 22 0 = nI p)
    (hr : ∀ j, j < p → I 23 j = nI (pl j) ∧ I 24 j = nI (kd j) ∧ I 25 j = nI (tm j)) :
    ∃ I' : aI, fX0_pass e (nI x) 22 I J = some (nI (cntB (nwA x (h + 1) kd pl tm ct sv) p), I', J) ∧ Ev I' e x (h + 1) (svA x (h + 1) kd pl tm ct sv) (ctA x (h + 1) kd pl tm ct sv) p ∧ ∀ k j, k ≠ e → k ≠ e + 1 → I' k j = I k j := by
  have key : ∀ (m i f : Nat) (Ic : aI), i + m = p → m < f → Ic e 0 = nI x → Ic e 1 = nI (h + 1) → Ic e 2 = nI (msk (fun j => decide ((if j < i then svA x (h + 1) kd pl tm ct sv j else sv j) = 1)) p) → (∀ j, j < 6 → Ic (e + 1) j = nI (if j < p then (if j < i then ctA x (h + 1) kd pl tm ct sv j else ct j) else 0)) → (∀ k j, k ≠ e → k ≠ e + 1 → Ic k j = I k j) →
      ∃ I' : aI, LX0_pass_23 f e 22 (nI (cntB (fun j => decide (sv j = 1)) p)) (nI i) Ic J = some (nI (cntB (nwA x (h + 1) kd pl tm ct sv) p), I', J) ∧ Ev I' e x (h + 1) (svA x (h + 1) kd pl tm ct sv) (ctA x (h + 1) kd pl tm ct sv) p ∧ ∀ k j, k ≠ e → k ≠ e + 1 → I' k j = I k j := by
    intro m
    induction m with
    | zero =>
      intro i f Ic hi hf g0 g1 g2 g3 g4
      obtain ⟨f, rfl⟩ : ∃ g, f = g + 1 := ⟨f - 1, by omega⟩
      have e' : i = p := by omega
      subst e'
      have g2' : Ic e 2 = nI (msk (fun j => decide (svA x (h + 1) kd pl tm ct sv j = 1)) i) := by
        rw [g2]
        exact congrArg nI (msk_congr (fun j hj => by simp only [hj, if_true]))
      refine ⟨Ic, ?_, ⟨g0, g1, g2', fun j hj => ?_⟩, g4⟩
      · show HX0_pass_23 _ e 22 _ (nI i) Ic J = _
        unfold HX0_pass_23
        have hc : cntB (fun j => decide (svA x (h + 1) kd pl tm ct sv j = 1)) i = cntB (fun j => decide (sv j = 1)) i + cntB (nwA x (h + 1) kd pl tm ct sv) i := by
          refine cnt_new _ _ _ i (fun j hj => ?_)
          obtain ⟨q1, q2, q3, q4, q5, q6⟩ := hP j hj
          refine ⟨fun z => ?_, fun z => ?_⟩
          · have z : sv j = 1 := by simpa using z
            have : svA x (h + 1) kd pl tm ct sv j = sv j := by unfold svA; rw [if_neg (fun q => by omega)]
            unfold nwA
            rw [this]
            simp [z]
          · have z : sv j = 0 := by rcases q4 with q | q; exact q; simp [q] at z
            unfold nwA
            simp [z]
        rw [g4 22 0 (by omega) (by omega), h5, if_pos (nI_le (by omega) (by omega)), bnd_t (served_eq hp J g2'), hc, pk_sub (by omega), Nat.add_sub_cancel_left]
      · rw [g3 j hj]
        by_cases q : j < i
        · simp only [q, if_true]
        · simp only [q, if_false]
    | succ m ih =>
      intro i f Ic hi hf g0 g1 g2 g3 g4
      obtain ⟨f, rfl⟩ : ∃ g, f = g + 1 := ⟨f - 1, by omega⟩
      have hip : i < p := by omega
      obtain ⟨r1, r2, r3⟩ := hr i hip
      obtain ⟨q1, q2, q3, q4, q5, q6⟩ := hP i hip
      have nd := ndN_le (kd i)
      show ∃ I' : aI, HX0_pass_23 _ e 22 _ (nI i) Ic J = _ ∧ _
      unfold HX0_pass_23
      rw [g4 22 0 (by omega) (by omega), h5, if_neg (nI_ge hip (by omega)), bnd_t (isServed_eq hp hip J g2)]
      unfold BX0_pass_48
      have g3i : Ic (e + 1) i = nI (ct i) := by rw [g3 i (by omega), if_pos hip, if_neg (Nat.lt_irrefl i)]
      by_cases a2 : sv i = 0
      · have u1 : (decide ((if i < i then svA x (h + 1) kd pl tm ct sv i else sv i) = 1)) = false := by simp [a2]
        rw [u1, if_pos (show (if false = true then (1 : Int32) else 0) = 0 from rfl), bnd_t (meet_eq (x := x) (h := h + 1) (pl := pl) (sv := sv) he (by omega) hx q2 (by omega) q1 q3 a2 (by omega) J g0 g1 (by rw [g4 23 i (by omega) (by omega)]; exact r1) (by rw [g4 24 i (by omega) (by omega)]; exact r2) (by rw [g4 25 i (by omega) (by omega)]; exact r3) g3i), nI_1]
        have hl := ctA_lt (x := x) (h := h + 1) hP hip a2
        by_cases a3 : ctA x (h + 1) kd pl tm ct sv i < ndN (kd i)
        · rw [if_pos a3]
          refine ih (i + 1) f _ (by omega) (by omega) (by rw [pI_ro _ (by omega)]; exact g0) (by rw [pI_ro _ (by omega)]; exact g1) ?_ ?_ (fun k j k1 k2 => by rw [pI_ro _ k2]; exact g4 k j k1 k2)
          · rw [pI_ro _ (by omega), g2]
            refine congrArg nI (msk_congr (fun j hj => ?_))
            by_cases q : j = i
            · subst q; simp [a2, hl.mp a3]
            · have : j < i ↔ j < i + 1 := by omega
              simp only [this]
          · intro j hj
            rw [pI_g]
            by_cases q : j = i
            · subst q; simp [hip]
            · rw [if_neg (fun z => q z.2), g3 j hj]
              have : j < i ↔ j < i + 1 := by omega
              simp only [this]
        · rw [if_neg a3]
          have s1 : svA x (h + 1) kd pl tm ct sv i = 1 := by
            rcases svA_01 (x := x) (h := h + 1) hP hip with q | q
            · exact absurd (hl.mpr q) a3
            · exact q
          refine ih (i + 1) f _ (by omega) (by omega) (by rw [pI_g, if_neg (by omega), pI_ro _ (by omega)]; exact g0) (by rw [pI_g, if_neg (by omega), pI_ro _ (by omega)]; exact g1) ?_ ?_ (fun k j k1 k2 => by rw [pI_ro _ k1, pI_ro _ k2]; exact g4 k j k1 k2)
          · rw [pI_g, if_pos ⟨rfl, rfl⟩, g2, msk_or hp hip]
            refine congrArg nI (msk_congr (fun j hj => ?_))
            by_cases q : j = i
            · subst q; simp [s1]
            · have : j < i ↔ j < i + 1 := by omega
              simp only [q, if_false, this]
          · intro j hj
            rw [pI_ro _ (by omega), pI_g]
            by_cases q : j = i
            · subst q; simp [hip]
            · rw [if_neg (fun z => q z.2), g3 j hj]
              have : j < i ↔ j < i + 1 := by omega
              simp only [this]
      · have a1 : sv i = 1 := by omega
        have s1 : svA x (h + 1) kd pl tm ct sv i = sv i := by unfold svA; rw [if_neg (fun q => a2 q.1)]
        have s2 : ctA x (h + 1) kd pl tm ct sv i = ct i := by unfold ctA; rw [if_neg a2]
        have u1 : (decide ((if i < i then svA x (h + 1) kd pl tm ct sv i else sv i) = 1)) = true := by simp [a1]
        rw [u1, if_pos rfl, if_neg ne10, nI_1]
        refine ih (i + 1) f _ (by omega) (by omega) g0 g1 ?_ ?_ g4
        · rw [g2]
          refine congrArg nI (msk_congr (fun j hj => ?_))
          by_cases q : j = i
          · subst q; simp [s1]
          · have : j < i ↔ j < i + 1 := by omega
            simp only [this]
        · intro j hj
          rw [g3 j hj]
          by_cases q : j = i
          · subst q; simp [s2]
          · have : j < i ↔ j < i + 1 := by omega
            simp only [this]
  unfold fX0_pass
  rw [bnd_t (served_eq hp J hE.2.2.1)]
  refine key p 0 128 _ (by omega) (by omega) ?_ ?_ ?_ ?_ ?_
  · rw [pI_g, if_neg (by omega), pI_g, if_pos ⟨rfl, rfl⟩]
  · rw [pI_g, if_pos ⟨rfl, rfl⟩, pI_g, if_neg (by omega), hE.2.1, nI_1]
  · rw [pI_g, if_neg (by omega), pI_g, if_neg (by omega), hE.2.2.1]
    exact congrArg nI (msk_congr (fun j hj => by simp only [Nat.not_lt_zero, if_false]))
  · intro j hj
    rw [pI_ro _ (by omega), pI_ro _ (by omega), hE.2.2.2 j hj]
    simp only [Nat.not_lt_zero, if_false]
  · intro k j k1 k2
    rw [pI_ro _ k1, pI_ro _ k1]
