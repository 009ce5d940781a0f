/-! the reference's search for the soonest hour: sets of (corner, count) -/
def OKc (σ : sN) (i T : Nat) (s : aI) (r : Nat) : Prop := ∀ c, c < σ 0 3 → ∀ k, k < 4 → s r (4 * c + k) = 1 → fr (σ 10) (σ 0 6) c ≤ T ∧ k ≤ Gp σ i T ∧ k < ndN (σ 4 i)
def gsp (σ : sN) (i T c k : Nat) : Nat := gst (σ 4 i) (σ 6 i) (σ 0 7 + T) (decide (c = σ 5 i)) k
theorem gst_mono {kd tm h c c' : Nat} (w : Bool) (hc : c ≤ c') : gst kd tm h w c ≤ gst kd tm h w c' := by
  unfold gst; split; split; omega; omega; split; omega; omega
theorem gst_up {kd tm h c : Nat} (w : Bool) (hk : kd ≠ 3) : c ≤ gst kd tm h w c := by
  unfold gst; rw [if_neg hk]; split; split; omega; omega; omega
/-- a way of one more hour -/
theorem way1 {σ : sN} {i T c k c' : Nat} (hS : Sub σ) (hT : T < 40) (hi : i < σ 0 5) (hc : c < σ 0 3) (hc' : c' < σ 0 3) (hx : nxt (σ 10) c c' = true) (h1 : fr (σ 10) (σ 0 6) c ≤ T) (h2 : k ≤ Gp σ i T) : fr (σ 10) (σ 0 6) c' ≤ T + 1 ∧ gsp σ i (T + 1) c' k ≤ Gp σ i (T + 1) := by
  obtain ⟨s1, s2, s3, s4, s5, s6, s7, s8, s9, s10, s11⟩ := id hS
  have hx : fr (σ 10) c c' < 2 := by simpa [nxt] using hx
  have e1 := (s9.1 c hc c' hc').2.2.1
  have e2 := (s9.1 c' hc' _ s4).2.2.1
  have e3 := (s9.1 c hc _ s4).2.2.1
  have hf : fr (σ 10) (σ 0 6) c' ≤ T + 1 := by
    rcases s9.2.1 c' hc' (σ 0 6) s4 c hc (by omega) with h | h <;> omega
  refine ⟨hf, ?_⟩
  show gst _ _ _ _ _ ≤ gst (σ 4 i) (σ 6 i) (σ 0 7 + T + 1) (decide (fr (σ 10) (σ 0 6) (σ 5 i) ≤ T + 1)) (Gp σ i T)
  rw [show σ 0 7 + (T + 1) = σ 0 7 + T + 1 from rfl]
  by_cases q : c' = σ 5 i
  · rw [show decide (c' = σ 5 i) = true by simpa using q, show decide (fr (σ 10) (σ 0 6) (σ 5 i) ≤ T + 1) = true by rw [← q]; simpa using hf]
    exact gst_mono true h2
  · rw [show decide (c' = σ 5 i) = false by simpa using q]
    by_cases z : σ 4 i = 3
    · have : gst (σ 4 i) (σ 6 i) (σ 0 7 + T + 1) false k = 0 := by unfold gst; rw [if_neg (by decide), if_pos z]
      omega
    · have e : gst (σ 4 i) (σ 6 i) (σ 0 7 + T + 1) false k = k := by unfold gst; rw [if_neg (by decide), if_neg z]
      have := gst_up (tm := σ 6 i) (h := σ 0 7 + T + 1) (c := Gp σ i T) (decide (fr (σ 10) (σ 0 6) (σ 5 i) ≤ T + 1)) z
      omega
/-- the best way goes one corner on -/
theorem way2 {σ : sN} {i T c : Nat} (hS : Sub σ) (hi : i < σ 0 5) (hc : c < σ 0 3) (hd : fr (σ 10) (σ 0 6) (σ 5 i) ≠ 99) (h1 : fr (σ 10) c (σ 5 i) = fr (σ 10) (σ 0 6) (σ 5 i) - T) : ∃ c', c' < σ 0 3 ∧ nxt (σ 10) c c' = true ∧ fr (σ 10) c' (σ 5 i) = fr (σ 10) (σ 0 6) (σ 5 i) - (T + 1) ∧ gsp σ i (T + 1) c' (Gp σ i T) = Gp σ i (T + 1) := by
  obtain ⟨s1, s2, s3, s4, s5, s6, s7, s8, s9, s10, s11⟩ := id hS
  have hl := s7 i hi
  have h5 := (s9.1 _ s4 _ hl).1
  have fin : ∀ c', c' < σ 0 3 → fr (σ 10) c' (σ 5 i) = fr (σ 10) (σ 0 6) (σ 5 i) - (T + 1) → gsp σ i (T + 1) c' (Gp σ i T) = Gp σ i (T + 1) := by
    intro c' hc' hq
    have hz := (s9.1 c' hc' _ hl).2.1
    show gst _ _ _ _ _ = gst (σ 4 i) (σ 6 i) (σ 0 7 + T + 1) (decide (fr (σ 10) (σ 0 6) (σ 5 i) ≤ T + 1)) (Gp σ i T)
    have : decide (c' = σ 5 i) = decide (fr (σ 10) (σ 0 6) (σ 5 i) ≤ T + 1) := by
      by_cases q : c' = σ 5 i
      · have := hz.mpr q
        rw [show decide (c' = σ 5 i) = true by simpa using q]
        exact (decide_eq_true (by omega)).symm
      · have : fr (σ 10) c' (σ 5 i) ≠ 0 := fun z => q (hz.mp z)
        rw [show decide (c' = σ 5 i) = false by simpa using q]
        exact (decide_eq_false (by omega)).symm
    rw [this]
    rfl
  by_cases q : fr (σ 10) c (σ 5 i) = 0
  · have hcc := (s9.1 c hc c hc).2.1.mpr rfl
    have e : fr (σ 10) c (σ 5 i) = fr (σ 10) (σ 0 6) (σ 5 i) - (T + 1) := by omega
    exact ⟨c, hc, by simp [nxt]; omega, e, fin c hc e⟩
  · obtain ⟨c', hc', e1, e2⟩ := s9.2.2 c hc _ hl (by omega) (by omega)
    have e : fr (σ 10) c' (σ 5 i) = fr (σ 10) (σ 0 6) (σ 5 i) - (T + 1) := by omega
    exact ⟨c', hc', by simp [nxt]; omega, e, fin c' hc' e⟩
theorem d4 {i : Nat} (hi : i < 24) : nI i / 4 = nI (i / 4) ∧ nI i - nI (i / 4) * 4 = nI (i % 4) := by
  refine ⟨pk_div (d := 4) (by omega) (by decide) (by decide), ?_⟩
  rw [show nI (i / 4) = nI i / 4 from (pk_div (d := 4) (by omega) (by decide) (by decide)).symm]
  exact pk_rem (d := 4) (by omega) (by decide) (by decide)
def Kp (s I : aI) : Prop := ∀ q j, q ≠ 13 → q ≠ 14 → s q j = I q j
theorem Kp.rm {σ : sN} {s I : aI} (h : Kp s I) (hM : RM σ I) : RM σ s := hM.keep (fun q j hr => h q j (fun z => by subst z; simp [rs] at hr) (fun z => by subst z; simp [rs] at hr)) (h 0 30 (by decide) (by decide))
theorem soon98 {σ : sN} {I : aI} (hS : Sub σ) (hM : RM σ I) (J : aJ) {i T e : Nat} (hi : i < σ 0 5) (hT : T < 40) (he : e < 4 * σ 0 3) (k56 : Int32 → Int32 → aI → aJ → Option (RT Int32)) (k85 : Int32 → Int32 → Int32 → aI → aJ → Option (RT Int32)) (h13 : I 13 e = 1) (hA : OKc σ i T I 13) (hB : OKc σ i (T + 1) I 14) :
    (∃ I', LX8_soonOf_98 k56 k85 128 (nI i) (nI (T + 1)) (nI e) 0 I J = some (nI (T + 1), I', J) ∧ Kp I' I ∧ ndN (σ 4 i) ≤ Gp σ i (T + 1)) ∨
    (∃ I', LX8_soonOf_98 k56 k85 128 (nI i) (nI (T + 1)) (nI e) 0 I J = k85 (nI i) (nI (T + 1)) (nI (e + 1)) I' J ∧ (∀ q j, q ≠ 14 → I' q j = I q j) ∧ OKc σ i (T + 1) I' 14 ∧ (∀ j, I 14 j = 1 → I' 14 j = 1) ∧ (∀ c', c' < σ 0 3 → nxt (σ 10) (e / 4) c' = true → gsp σ i (T + 1) c' (e % 4) < ndN (σ 4 i) ∧ I' 14 (4 * c' + gsp σ i (T + 1) c' (e % 4)) = 1)) := by
  obtain ⟨s1, s2, s3, s4, s5, s6, s7, s8, s9, s10, s11⟩ := id hS
  have hl := s7 i hi
  obtain ⟨u1, u2, u3, u4, u5, u6⟩ := s8 i hi
  have nd := ndN_le (σ 4 i)
  have hc4 : e / 4 < σ 0 3 := by omega
  obtain ⟨A1, A2, A3⟩ := hA (e / 4) hc4 (e % 4) (by omega) (by rw [show 4 * (e / 4) + e % 4 = e by omega]; exact h13)
  have hin : inb (nI i) 6 = true := inb_nI (by omega) (by decide)
  have c : (nI i).toNatClampNeg = i := nI_clamp (by omega)
  obtain ⟨e1, e2⟩ := d4 (i := e) (by omega)
  refine sle (fun f c' (s : aI) => LX8_soonOf_98 k56 k85 f (nI i) (nI (T + 1)) (nI e) (nI c') s J) (σ 0 3)
    (fun z s => (∀ q j, q ≠ 14 → s q j = I q j) ∧ OKc σ i (T + 1) s 14 ∧ (∀ j, I 14 j = 1 → s 14 j = 1) ∧ (∀ c', c' < z → nxt (σ 10) (e / 4) c' = true → gsp σ i (T + 1) c' (e % 4) < ndN (σ 4 i) ∧ s 14 (4 * c' + gsp σ i (T + 1) c' (e % 4)) = 1))
    (fun r => (∃ I', r = some (nI (T + 1), I', J) ∧ Kp I' I ∧ ndN (σ 4 i) ≤ Gp σ i (T + 1)) ∨ (∃ I', r = k85 (nI i) (nI (T + 1)) (nI (e + 1)) I' J ∧ (∀ q j, q ≠ 14 → I' q j = I q j) ∧ OKc σ i (T + 1) I' 14 ∧ (∀ j, I 14 j = 1 → I' 14 j = 1) ∧ (∀ c', c' < σ 0 3 → nxt (σ 10) (e / 4) c' = true → gsp σ i (T + 1) c' (e % 4) < ndN (σ 4 i) ∧ I' 14 (4 * c' + gsp σ i (T + 1) c' (e % 4)) = 1)))
    ?_ ?_ (f0 := 128) (by omega) I ⟨fun _ _ _ => rfl, hB, fun _ h => h, fun c' hc' => absurd hc' (Nat.not_lt_zero c')⟩
  · rintro f c' s hc' ⟨g1, g2, g3, g4⟩
    have hMs : RM σ s := hM.keep (fun q j hr => g1 q j (fun z => by subst z; simp [rs] at hr)) (g1 0 30 (by decide))
    have hgl : gsp σ i (T + 1) c' (e % 4) ≤ 4 := by
      have := gst_le (σ 4 i) (σ 6 i) (σ 0 7 + (T + 1)) (decide (c' = σ 5 i)) (e % 4)
      unfold gsp; omega
    -- one corner
    have hh : LX8_soonOf_98 k56 k85 (f + 1) (nI i) (nI (T + 1)) (nI e) (nI c') s J = if nxt (σ 10) (e / 4) c' = true then (if gsp σ i (T + 1) c' (e % 4) < ndN (σ 4 i) then LX8_soonOf_98 k56 k85 f (nI i) (nI (T + 1)) (nI e) (nI (c' + 1)) (pI s 14 (4 * c' + gsp σ i (T + 1) c' (e % 4)) 1) J else some (nI (T + 1), s, J)) else LX8_soonOf_98 k56 k85 f (nI i) (nI (T + 1)) (nI e) (nI (c' + 1)) s J := by
      have tail : ∀ g, g = gsp σ i (T + 1) c' (e % 4) → BX8_soonOf_187 k56 k85 (LX8_soonOf_98 k56 k85 f) (nI i) (nI (T + 1)) (nI e) (nI c') (nI g) s J = (if gsp σ i (T + 1) c' (e % 4) < ndN (σ 4 i) then LX8_soonOf_98 k56 k85 f (nI i) (nI (T + 1)) (nI e) (nI (c' + 1)) (pI s 14 (4 * c' + gsp σ i (T + 1) c' (e % 4)) 1) J else some (nI (T + 1), s, J)) := by
        intro g hg
        subst hg
        unfold BX8_soonOf_187 BX8_soonOf_218
        rw [gd_t hin, c, hMs.g 4 i (by simp [rs]; omega), bnd_t (needs8 u1 s J), nI_1]
        by_cases q : gsp σ i (T + 1) c' (e % 4) < ndN (σ 4 i)
        · rw [if_pos (nI_lt q (by omega)), if_pos q, show (4 : Int32) * nI c' = nI (4 * c') from pk_mul 4 c', nI_add, gd_t (inb_nI (by omega) (by decide)), nI_clamp (by omega)]
        · rw [if_neg (nI_nlt (by omega) (by omega)), if_neg q]
      show HX8_soonOf_98 _ _ _ _ _ _ _ _ _ = _
      unfold HX8_soonOf_98
      rw [hMs.g 0 3 rfl, if_neg (nI_ge hc' (by omega)), gd_t (inb_nI (show e < 24 by omega) (by decide)), nI_clamp (show e < 2 ^ 31 by omega), g1 13 e (by decide), h13, if_pos rfl, e1, bnd_t (isNextB hMs J (by omega) (by omega) (s9.le hc4 hc'))]
      by_cases q : nxt (σ 10) (e / 4) c' = true
      · rw [q, if_neg (show ¬ bN true = 0 by decide), if_pos rfl, gd_t hin, c, hMs.g 5 i (by simp [rs]; omega), hMs.g 4 i (by simp [rs]; omega), e2, hMs.g 0 7 rfl, nI_add]
        have l1 : nI c' = nI (σ 5 i) ↔ c' = σ 5 i := nI_eq (by omega) (by omega)
        have l2 : nI (σ 4 i) = 3 ↔ σ 4 i = 3 := nI_eq (b := 3) (by omega) (by decide)
        by_cases z : c' = σ 5 i
        · rw [if_pos (l1.mpr z), bnd_t (isTime8 (by omega) (by omega) u1 u2 (hMs.g 6 i (by simp [rs]; omega)) (hMs.g 4 i (by simp [rs]; omega)))]
          by_cases w : tmO (σ 4 i) (σ 6 i) (σ 0 7 + (T + 1)) = true
          · rw [if_pos w, if_neg ne10, nI_1]
            exact tail _ (by unfold gsp gst; rw [if_pos (by simpa using z), if_pos w])
          · rw [if_neg w, if_pos rfl]
            exact tail _ (by unfold gsp gst; rw [if_pos (by simpa using z), if_neg w])
        · rw [if_neg (fun y => z (l1.mp y))]
          by_cases w : σ 4 i = 3
          · rw [if_pos (l2.mpr w)]
            exact tail 0 (by unfold gsp gst; rw [if_neg (by simpa using z), if_pos w])
          · rw [if_neg (fun y => w (l2.mp y))]
            exact tail _ (by unfold gsp gst; rw [if_neg (by simpa using z), if_neg w])
      · rw [if_neg q, show nxt (σ 10) (e / 4) c' = false by simpa using q, if_pos (show bN false = 0 from rfl)]
        unfold BX8_soonOf_218
        rw [nI_1]
    show (_ ∨ _) ∨ _
    simp only [hh]
    by_cases q : nxt (σ 10) (e / 4) c' = true
    · obtain ⟨w1, w2⟩ := way1 hS hT hi hc4 hc' q A1 A2
      rw [if_pos q]
      by_cases z : gsp σ i (T + 1) c' (e % 4) < ndN (σ 4 i)
      · rw [if_pos z]
        refine Or.inr ⟨_, rfl, fun a j ha => by rw [pI_ro _ ha]; exact g1 a j ha, fun a ha k hk h => ?_, fun j hj => ?_, fun a ha hx => ?_⟩
        · rw [pI_g] at h
          by_cases y : 4 * a + k = 4 * c' + gsp σ i (T + 1) c' (e % 4)
          · have y1 : a = c' := by omega
            have y2 : k = gsp σ i (T + 1) c' (e % 4) := by omega
            rw [y1, y2]
            exact ⟨w1, w2, z⟩
          · rw [if_neg (fun x => y x.2)] at h
            exact g2 a ha k hk h
        · rw [pI_g]
          split
          · rfl
          · exact g3 j hj
        · by_cases y : a = c'
          · subst y
            exact ⟨z, by rw [pI_g, if_pos ⟨rfl, rfl⟩]⟩
          · obtain ⟨v1, v2⟩ := g4 a (by omega) hx
            refine ⟨v1, ?_⟩
            rw [pI_g]
            split
            · rfl
            · exact v2
      · rw [if_neg z]
        exact Or.inl (Or.inl ⟨s, rfl, fun a j h1 h2 => g1 a j h2, by omega⟩)
    · rw [if_neg q]
      refine Or.inr ⟨s, rfl, g1, g2, g3, fun a ha hx => ?_⟩
      by_cases y : a = c'
      · subst y; exact absurd hx q
      · exact g4 a (by omega) hx
  · rintro f s ⟨g1, g2, g3, g4⟩
    refine Or.inr ⟨s, ?_, g1, g2, g3, g4⟩
    show HX8_soonOf_98 _ _ _ _ _ _ _ _ _ = _
    unfold HX8_soonOf_98 BX8_soonOf_224
    rw [g1 0 3 (by decide), hM.g 0 3 rfl, if_pos (nI_le (by omega) (by omega)), nI_1]
