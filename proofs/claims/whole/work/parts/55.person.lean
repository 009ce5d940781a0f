def B2 (σ : sN) (i T : Nat) (s : aI) : Prop := Gp σ i T < ndN (σ 4 i) ∧ (fr (σ 10) (σ 0 6) (σ 5 i) ≠ 99 → ∃ c, c < σ 0 3 ∧ fr (σ 10) c (σ 5 i) = fr (σ 10) (σ 0 6) (σ 5 i) - T ∧ s 13 (4 * c + Gp σ i T) = 1)
theorem soon85 {σ : sN} {I : aI} (hS : Sub σ) (hM : RM σ I) (J : aJ) {i T : Nat} (hi : i < σ 0 5) (h0 : σ 9 i = 0) (hT : T < 40) (k56 : Int32 → Int32 → aI → aJ → Option (RT Int32)) (hA : OKc σ i T I 13) (hB : B2 σ i T I) (h14 : ∀ j, j < 24 → I 14 j = 0) :
    (∃ I', LX8_soonOf_85 k56 128 (nI i) (nI (T + 1)) 0 I J = some (nI (T + 1), I', J) ∧ Kp I' I ∧ ndN (σ 4 i) ≤ Gp σ i (T + 1)) ∨
    (∃ I', LX8_soonOf_85 k56 128 (nI i) (nI (T + 1)) 0 I J = k56 (nI i) (nI (T + 1 + 1)) I' J ∧ Kp I' I ∧ OKc σ i (T + 1) I' 13 ∧ B2 σ i (T + 1) I') := by
  obtain ⟨s1, s2, s3, s4, s5, s6, s7, s8, s9, s10, s11⟩ := id hS
  have nd := ndN_le (σ 4 i)
  refine sle (fun f e (s : aI) => LX8_soonOf_85 k56 f (nI i) (nI (T + 1)) (nI e) s J) (4 * σ 0 3)
    (fun e s => (∀ q j, q ≠ 14 → s q j = I q j) ∧ OKc σ i (T + 1) s 14 ∧ ∀ e', e' < e → I 13 e' = 1 → ∀ c', c' < σ 0 3 → nxt (σ 10) (e' / 4) c' = true → gsp σ i (T + 1) c' (e' % 4) < ndN (σ 4 i) ∧ s 14 (4 * c' + gsp σ i (T + 1) c' (e' % 4)) = 1)
    (fun r => (∃ I', r = some (nI (T + 1), I', J) ∧ Kp I' I ∧ ndN (σ 4 i) ≤ Gp σ i (T + 1)) ∨ (∃ I', r = k56 (nI i) (nI (T + 1 + 1)) I' J ∧ Kp I' I ∧ OKc σ i (T + 1) I' 13 ∧ B2 σ i (T + 1) I'))
    ?_ ?_ (f0 := 128) (by omega) I ⟨fun _ _ _ => rfl, fun c hc k hk h => by rw [h14 _ (by omega)] at h; exact absurd h (by decide), fun e' he' => absurd he' (Nat.not_lt_zero e')⟩
  · rintro f e s he ⟨g1, g2, g3⟩
    have hMs : RM σ s := hM.keep (fun q j hr => g1 q j (fun z => by subst z; simp [rs] at hr)) (g1 0 30 (by decide))
    have hh : LX8_soonOf_85 k56 (f + 1) (nI i) (nI (T + 1)) (nI e) s J = LX8_soonOf_98 k56 (LX8_soonOf_85 k56 f) 128 (nI i) (nI (T + 1)) (nI e) 0 s J := by
      show HX8_soonOf_85 _ _ _ _ _ _ _ = _
      unfold HX8_soonOf_85
      rw [hMs.g 0 3 rfl, show (4 : Int32) * nI (σ 0 3) = nI (4 * σ 0 3) from pk_mul 4 _, if_neg (nI_ge he (by omega))]
    show (_ ∨ _) ∨ _
    simp only [hh]
    by_cases q : s 13 e = 1
    · have hA' : OKc σ i T s 13 := fun c hc k hk h => hA c hc k hk (by rw [g1 13 _ (by decide)] at h; exact h)
      rcases soon98 hS hMs J hi hT he k56 (LX8_soonOf_85 k56 f) q hA' g2 with ⟨I', a1, a2, a3⟩ | ⟨I', a1, a2, a3, a4, a5⟩
      · exact Or.inl (Or.inl ⟨I', a1, fun x j h1 h2 => by rw [a2 x j h1 h2]; exact g1 x j h2, a3⟩)
      · refine Or.inr ⟨I', a1, fun x j hx => by rw [a2 x j hx]; exact g1 x j hx, a3, fun e' he' h13 c' hc' hx => ?_⟩
        by_cases y : e' = e
        · subst y; exact a5 c' hc' hx
        · obtain ⟨v1, v2⟩ := g3 e' (by omega) h13 c' hc' hx
          exact ⟨v1, a4 _ v2⟩
    · refine Or.inr ⟨s, ?_, g1, g2, fun e' he' h13 c' hc' hx => ?_⟩
      · show HX8_soonOf_98 _ _ _ _ _ _ _ _ _ = _
        unfold HX8_soonOf_98 BX8_soonOf_224
        rw [hMs.g 0 3 rfl, if_neg (show ¬ nI (σ 0 3) ≤ 0 from nI_nle (by omega) (by omega)), gd_t (inb_nI (show e < 24 by omega) (by decide)), nI_clamp (by omega), if_neg q, nI_1]
      · by_cases y : e' = e
        · subst y; exact absurd (by rw [g1 13 _ (by decide)]; exact h13) q
        · exact g3 e' (by omega) h13 c' hc' hx
  · rintro f s ⟨g1, g2, g3⟩
    obtain ⟨I', a1, b1⟩ := copy8 (e0 := 14) (e1 := 13) (n := 24) (by decide) (by decide) s J
    refine Or.inr ⟨I', ?_, fun q j h1 h2 => by rw [b1, if_neg (fun z => h1 z.1)]; exact g1 q j h2, fun c hc k hk h => ?_, ?_⟩
    · show HX8_soonOf_85 _ _ _ _ _ _ _ = _
      unfold HX8_soonOf_85
      rw [g1 0 3 (by decide), hM.g 0 3 rfl, show (4 : Int32) * nI (σ 0 3) = nI (4 * σ 0 3) from pk_mul 4 _, if_pos (nI_le (by omega) (by omega)), bnd_t a1, nI_1]
    · rw [b1, if_pos ⟨rfl, by omega⟩] at h
      exact g2 c hc k hk h
    · obtain ⟨z1, z2⟩ := hB
      by_cases hd : fr (σ 10) (σ 0 6) (σ 5 i) = 99
      · have e1 := Gp_99 (i := i) hd (T + 1) (by omega)
        have e2 := (s8 i hi).2.2.2.2.2 h0
        exact ⟨by omega, fun y => absurd hd y⟩
      · obtain ⟨c, hc, w1, w2⟩ := z2 hd
        obtain ⟨c', hc', v1, v2, v3⟩ := way2 hS hi hc hd w1
        have := g3 (4 * c + Gp σ i T) (by omega) w2 c' hc' (by rw [show (4 * c + Gp σ i T) / 4 = c by omega]; exact v1)
        rw [show (4 * c + Gp σ i T) % 4 = Gp σ i T by omega, v3] at this
        refine ⟨this.1, fun _ => ⟨c', hc', v2, ?_⟩⟩
        rw [b1, if_pos ⟨rfl, by omega⟩]
        exact this.2
theorem soonOf_eq {σ : sN} {I : aI} (hS : Sub σ) (hM : RM σ I) (J : aJ) {i : Nat} (hi : i < σ 0 5) : ∃ I', fX8_soonOf (nI i) I J = some (snI σ i, I', J) ∧ Kp I' I := by
  obtain ⟨s1, s2, s3, s4, s5, s6, s7, s8, s9, s10, s11⟩ := id hS
  have nd := ndN_le (σ 4 i)
  obtain ⟨u1, u2, u3, u4, u5, u6⟩ := s8 i hi
  have hin : inb (nI i) 6 = true := inb_nI (by omega) (by decide)
  have c : (nI i).toNatClampNeg = i := nI_clamp (by omega)
  unfold fX8_soonOf snI
  rw [gd_t hin, c, hM.g 9 i (by simp [rs]; omega)]
  by_cases q : σ 9 i = 1
  · rw [if_pos (show nI (σ 9 i) = 1 by rw [q]; rfl), if_pos q]
    exact ⟨I, rfl, fun _ _ _ _ => rfl⟩
  have h0 : σ 9 i = 0 := by omega
  have hct := u6 h0
  rw [if_neg (show ¬ nI (σ 9 i) = 1 by rw [h0]; decide), if_neg q]
  have key : ∀ (m T f : Nat) (s : aI), T + m = 40 → m < f → Kp s I → OKc σ i T s 13 → B2 σ i T s → ∃ I', LX8_soonOf_56 f (nI i) (nI (T + 1)) s J = some (lst (fun t => decide (ndN (σ 4 i) ≤ Gp σ i t)) m (T + 1), I', J) ∧ Kp I' I := by
    intro m
    induction m with
    | zero =>
      intro T f s hT hf hk hA hB
      obtain ⟨f, rfl⟩ : ∃ z, f = z + 1 := ⟨f - 1, by omega⟩
      refine ⟨s, ?_, hk⟩
      show HX8_soonOf_56 _ _ _ _ _ = _
      unfold HX8_soonOf_56
      rw [if_pos (show (41 : Int32) ≤ nI (T + 1) from nI_le (a := 41) (by omega) (by omega))]
      rfl
    | succ m ih =>
      intro T f s hT hf hk hA hB
      obtain ⟨f, rfl⟩ : ∃ z, f = z + 1 := ⟨f - 1, by omega⟩
      have clear : ∃ s1, LX8_soonOf_64 (LX8_soonOf_56 f) 128 (nI i) (nI (T + 1)) 0 s J = LX8_soonOf_85 (LX8_soonOf_56 f) 128 (nI i) (nI (T + 1)) 0 s1 J ∧ (∀ j, j < 24 → s1 14 j = 0) ∧ ∀ q j, q ≠ 14 → s1 q j = s q j := by
        refine sl (fun g j (z : aI) => LX8_soonOf_64 (LX8_soonOf_56 f) g (nI i) (nI (T + 1)) (nI j) z J) 24 (fun n z => (∀ j, j < n → z 14 j = 0) ∧ ∀ q j, q ≠ 14 → z q j = s q j)
          (fun r => ∃ s1, r = LX8_soonOf_85 (LX8_soonOf_56 f) 128 (nI i) (nI (T + 1)) 0 s1 J ∧ (∀ j, j < 24 → s1 14 j = 0) ∧ ∀ q j, q ≠ 14 → s1 q j = s q j) ?_ ?_ (f0 := 128) (by decide) s ⟨fun j hj => absurd hj (Nat.not_lt_zero j), fun _ _ _ => rfl⟩
        · rintro g j z hj ⟨g1, g2⟩
          refine ⟨pI z 14 j 0, ?_, fun a ha => ?_, fun a b ha => by rw [pI_ro _ ha]; exact g2 a b ha⟩
          · show HX8_soonOf_64 _ _ _ _ _ _ _ = _
            unfold HX8_soonOf_64
            rw [if_neg (show ¬ (24 : Int32) ≤ nI j from nI_ge (b := 24) hj (by decide)), gd_t (inb_nI hj (by decide)), nI_clamp (by omega), nI_1]
          · rw [pI_g]
            by_cases y : a = j
            · rw [if_pos ⟨rfl, y⟩]
            · rw [if_neg (fun w => y w.2)]; exact g1 a (by omega)
        · rintro g z ⟨g1, g2⟩
          refine ⟨z, ?_, g1, g2⟩
          show HX8_soonOf_64 _ _ _ _ _ _ _ = _
          unfold HX8_soonOf_64
          rw [if_pos (show (24 : Int32) ≤ nI 24 from by decide)]
      obtain ⟨sA, c1, c2, c3⟩ := clear
      have hkA : Kp sA I := fun a b h1 h2 => by rw [c3 a b h2]; exact hk a b h1 h2
      have hMA : RM σ sA := hkA.rm hM
      have hAA : OKc σ i T sA 13 := fun a ha k hk h => hA a ha k hk (by rw [c3 13 _ (by decide)] at h; exact h)
      have hBA : B2 σ i T sA := ⟨hB.1, fun hd => by
        obtain ⟨a, h1, h2, h3⟩ := hB.2 hd
        exact ⟨a, h1, h2, by rw [c3 13 _ (by decide)]; exact h3⟩⟩
      have hh : LX8_soonOf_56 (f + 1) (nI i) (nI (T + 1)) s J = LX8_soonOf_85 (LX8_soonOf_56 f) 128 (nI i) (nI (T + 1)) 0 sA J := by
        show HX8_soonOf_56 _ _ _ _ _ = _
        unfold HX8_soonOf_56
        rw [if_neg (show ¬ (41 : Int32) ≤ nI (T + 1) from nI_ge (b := 41) (by omega) (by decide)), c1]
      rw [hh]
      show ∃ I', _ = some ((if decide (ndN (σ 4 i) ≤ Gp σ i (T + 1)) = true then nI (T + 1) else lst (fun t => decide (ndN (σ 4 i) ≤ Gp σ i t)) m (T + 1 + 1)), I', J) ∧ _
      rcases soon85 hS hMA J hi h0 (by omega) (LX8_soonOf_56 f) hAA hBA c2 with ⟨I', a1, a2, a3⟩ | ⟨I', a1, a2, a3, a4⟩
      · rw [if_pos (by simpa using a3)]
        exact ⟨I', a1, fun a b h1 h2 => by rw [a2 a b h1 h2]; exact hkA a b h1 h2⟩
      · have := a4.1
        rw [if_neg (by simp; omega), a1]
        exact ih (T + 1) f I' (by omega) (by omega) (fun a b h1 h2 => by rw [a2 a b h1 h2]; exact hkA a b h1 h2) a3 a4
  refine sl (fun f j (s : aI) => LX8_soonOf_14 f (nI i) (nI j) s J) 24 (fun n s => (∀ j, j < n → s 13 j = bN (decide (j = 4 * σ 0 6 + σ 8 i))) ∧ ∀ q j, q ≠ 13 → s q j = I q j)
    (fun r => ∃ I', r = some (lst (fun t => decide (ndN (σ 4 i) ≤ Gp σ i t)) 40 1, I', J) ∧ Kp I' I) ?_ ?_ (f0 := 128) (by decide) I ⟨fun j hj => absurd hj (Nat.not_lt_zero j), fun _ _ _ => rfl⟩
  · rintro f j s hj ⟨g1, g2⟩
    refine ⟨pI s 13 j (bN (decide (j = 4 * σ 0 6 + σ 8 i))), ?_, fun a ha => ?_, fun a b ha => by rw [pI_ro _ ha]; exact g2 a b ha⟩
    · show HX8_soonOf_14 _ _ _ _ _ = _
      unfold HX8_soonOf_14 BX8_soonOf_47
      rw [if_neg (show ¬ (24 : Int32) ≤ nI j from nI_ge (b := 24) hj (by decide)), gd_t hin, c, g2 0 6 (by decide), g2 8 i (by decide), hM.g 0 6 rfl, hM.g 8 i (by simp [rs]; omega), show (4 : Int32) * nI (σ 0 6) = nI (4 * σ 0 6) from pk_mul 4 _, nI_add, gd_t (inb_nI hj (by decide)), gd_t (inb_nI hj (by decide)), nI_clamp (by omega), nI_1]
      have l1 : nI j = nI (4 * σ 0 6 + σ 8 i) ↔ j = 4 * σ 0 6 + σ 8 i := nI_eq (by omega) (by omega)
      by_cases z : j = 4 * σ 0 6 + σ 8 i
      · rw [if_pos (l1.mpr z), show decide (j = 4 * σ 0 6 + σ 8 i) = true by simpa using z]; rfl
      · rw [if_neg (fun y => z (l1.mp y)), show decide (j = 4 * σ 0 6 + σ 8 i) = false by simpa using z]; rfl
    · rw [pI_g]
      by_cases y : a = j
      · rw [if_pos ⟨rfl, y⟩, y]
      · rw [if_neg (fun w => y w.2)]; exact g1 a (by omega)
  · rintro f s ⟨g1, g2⟩
    show ∃ I', HX8_soonOf_14 _ _ _ _ _ = _ ∧ _
    unfold HX8_soonOf_14
    rw [if_pos (show (24 : Int32) ≤ nI 24 from by decide)]
    refine key 40 0 128 s (by omega) (by omega) (fun a b h1 h2 => g2 a b h1) (fun a ha k hk h => ?_) ⟨hct, fun _ => ⟨σ 0 6, s4, by omega, ?_⟩⟩
    · rw [g1 _ (by omega), bN_1] at h
      have h : 4 * a + k = 4 * σ 0 6 + σ 8 i := by simpa using h
      have h1 : a = σ 0 6 := by omega
      have h2 : k = σ 8 i := by omega
      have h3 := (s9.1 _ s4 _ s4).2.1.mpr rfl
      rw [h1, h2]
      exact ⟨by omega, Nat.le_refl _, hct⟩
    · show s 13 (4 * σ 0 6 + σ 8 i) = 1
      rw [g1 _ (by omega)]
      simp [bN]
theorem person_eq {t : Nat} {σ : sN} {Ic Im : aI} (hG : Good t σ) (hM : RM σ Im) (hC : RC σ Ic) (Jc Jm : aJ) {i : Nat} (hi : i < σ 0 5) (x2 : Int32) : ∃ (r : Int32) (Im' : aI), fX7_person (nI i) x2 Ic Jc = some (r, Ic, Jc) ∧ fX8_tellPerson (nI i) x2 Im Jm = some (r, Im', Jm) ∧ RM σ Im' := by
  have hp := hG.p
  obtain ⟨h8, hS⟩ := hG.sub (Or.inr (Or.inl (by omega)))
  obtain ⟨s1, s2, s3, s4, s5, s6, s7, s8, s9, s10, s11⟩ := id hS
  obtain ⟨u1, u2, u3, u4, u5, u6⟩ := s8 i hi
  have hE := hC.2.2.2.2.1
  have ci := hC.2.2.2.1.2 i (by omega)
  have i6 : i < 6 := by omega
  have hin : inb (nI i) 6 = true := inb_nI i6 (by decide)
  have c : (nI i).toNatClampNeg = i := nI_clamp (by omega)
  unfold fX8_tellPerson fX7_person BX7_person_128 BX7_person_161
  rw [bnd_t (isP7 _ Ic Jc), hC.2.2.2.1.1, rg_t ((rg_n (by omega) _).mpr ⟨i, hi, rfl⟩), if_neg ne10, bnd_t (isWithin_eq _ _ _ _ _)]
  simp only [gd_t hin, c]
  rcases ix2 x2 8 (by decide) with h2 | ⟨w, hw, rfl, h2⟩
  · have n0 : ∀ k, k ≤ 8 → ¬ x2 = nI k := fun k hk z => by
      subst z
      have : rg (nI k) 0 (nI 8) = 1 := rg_t ⟨nI_pos' (by omega), nI_le hk (by decide)⟩
      rw [this] at h2
      exact ne10 h2
    rw [show rg x2 0 8 = 0 from h2, if_pos rfl, if_neg (show ¬ x2 = 0 from n0 0 (by decide)), if_neg (show ¬ x2 = 1 from n0 1 (by decide)), if_neg (show ¬ x2 = 2 from n0 2 (by decide)), if_neg (show ¬ x2 = 3 from n0 3 (by decide)), if_neg (show ¬ x2 = 4 from n0 4 (by decide)), if_neg (show ¬ x2 = 5 from n0 5 (by decide)), if_neg (show ¬ x2 = 6 from n0 6 (by decide)), if_neg (show ¬ x2 = 7 from n0 7 (by decide)), if_neg (show ¬ x2 = 8 from n0 8 (by decide))]
    exact ⟨-102, Im, rfl, rfl, hM⟩
  rw [show rg (nI w) 0 8 = 1 from h2, if_neg ne10]
  have nn : ∀ a b : Nat, a < 9 → b < 9 → a ≠ b → ¬ nI a = nI b := fun a b ha hb h z => h ((nI_eq (by omega) (by omega)).mp z)
  by_cases w0 : w = 0
  · subst w0
    rw [if_pos (show nI 0 = 0 from rfl), if_pos (show nI 0 = 0 from rfl), ci.2.1, hM.g 4 i (by simpa [rs] using i6)]
    exact ⟨_, Im, rfl, rfl, hM⟩
  rw [if_neg (show ¬ nI w = 0 from nn w 0 (by omega) (by omega) w0), if_neg (show ¬ nI w = 0 from nn w 0 (by omega) (by omega) w0)]
  by_cases w1 : w = 1
  · subst w1
    rw [if_pos (show nI 1 = 1 from rfl), if_pos (show nI 1 = 1 from rfl), ci.1, hM.g 5 i (by simpa [rs] using i6)]
    exact ⟨_, Im, rfl, rfl, hM⟩
  rw [if_neg (show ¬ nI w = 1 from nn w 1 (by omega) (by omega) w1), if_neg (show ¬ nI w = 1 from nn w 1 (by omega) (by omega) w1)]
  by_cases w2 : w = 2
  · subst w2
    rw [if_pos (show nI 2 = 2 from rfl), if_pos (show nI 2 = 2 from rfl), ci.2.2.1, hM.g 6 i (by simpa [rs] using i6)]
    exact ⟨_, Im, rfl, rfl, hM⟩
  rw [if_neg (show ¬ nI w = 2 from nn w 2 (by omega) (by omega) w2), if_neg (show ¬ nI w = 2 from nn w 2 (by omega) (by omega) w2)]
  by_cases w3 : w = 3
  · subst w3
    rw [if_pos (show nI 3 = 3 from rfl), if_pos (show nI 3 = 3 from rfl), ci.2.2.2, hM.g 7 i (by simpa [rs] using i6)]
    exact ⟨_, Im, rfl, rfl, hM⟩
  rw [if_neg (show ¬ nI w = 3 from nn w 3 (by omega) (by omega) w3), if_neg (show ¬ nI w = 3 from nn w 3 (by omega) (by omega) w3)]
  by_cases w4 : w = 4
  · subst w4
    rw [if_pos (show nI 4 = 4 from rfl), if_pos (show nI 4 = 4 from rfl), bnd_t (isServed_eq hp.2.2.1 hi Jc hE.2.2.1), hM.g 9 i (by simpa [rs] using i6)]
    rcases u4 with q | q
    · rw [q]; exact ⟨0, Im, rfl, rfl, hM⟩
    · rw [q]; exact ⟨1, Im, rfl, rfl, hM⟩
  rw [if_neg (show ¬ nI w = 4 from nn w 4 (by omega) (by omega) w4), if_neg (show ¬ nI w = 4 from nn w 4 (by omega) (by omega) w4)]
  by_cases w5 : w = 5
  · subst w5
    rw [if_pos (show nI 5 = 5 from rfl), if_pos (show nI 5 = 5 from rfl), show Ic 33 i = nI (σ 8 i) by rw [hE.2.2.2 i i6, if_pos hi], hM.g 8 i (by simpa [rs] using i6)]
    exact ⟨_, Im, rfl, rfl, hM⟩
  rw [if_neg (show ¬ nI w = 5 from nn w 5 (by omega) (by omega) w5), if_neg (show ¬ nI w = 5 from nn w 5 (by omega) (by omega) w5)]
  by_cases w6 : w = 6
  · subst w6
    rw [if_pos (show nI 6 = 6 from rfl), if_pos (show nI 6 = 6 from rfl), bnd_t (needs7 i6 u1 Jc ci.2.1), hM.g 4 i (by simpa [rs] using i6), bnd_t (needs8 u1 Im Jm)]
    exact ⟨_, Im, rfl, rfl, hM⟩
  rw [if_neg (show ¬ nI w = 6 from nn w 6 (by omega) (by omega) w6), if_neg (show ¬ nI w = 6 from nn w 6 (by omega) (by omega) w6)]
  by_cases w7 : w = 7
  · subst w7
    rw [if_pos (show nI 7 = 7 from rfl), if_pos (show nI 7 = 7 from rfl), bnd_t (hearsVan_eq hS hC Jc hi), bnd_t (hears8_eq hS hM Jm hi)]
    by_cases q : hrs σ i (σ 0 6) = true
    · rw [if_pos q, if_neg ne10]; exact ⟨1, Im, rfl, rfl, hM⟩
    · rw [if_neg q, if_pos rfl]; exact ⟨0, Im, rfl, rfl, hM⟩
  have w8 : w = 8 := by omega
  subst w8
  obtain ⟨I', a1, a2⟩ := soonOf_eq hS hM Jm hi
  rw [if_neg (show ¬ nI 8 = 7 by decide), if_neg (show ¬ nI 8 = 7 by decide), if_pos (show nI 8 = 8 from rfl), bnd_t (soonest_eq hS hC Jc hi), bnd_t a1]
  exact ⟨_, I', rfl, rfl, a2.rm hM⟩
theorem b_person : ∀ (t : Nat) (Ic : aI) (Jc : aJ) (Im : aI) (Jm : aJ), t < 64 → Rel t Ic Jc Im Jm → ∀ x1 x2 : Int32, ∃ (r : Int32) (Ic' : aI) (Jc' : aJ) (Im' : aI) (Jm' : aJ), fX7_person x1 x2 Ic Jc = some (r, Ic', Jc') ∧ fX8_person x1 x2 Im Jm = some (r, Im', Jm') ∧ Rel (t + 1) Ic' Jc' Im' Jm' := by
  intro t Ic Jc Im Jm _ hR x1 x2
  obtain ⟨σ, hG, hM, hC⟩ := id hR
  have hR1 := Rel_skip _ _ _ _ _ hR
  have hp := hG.p
  rcases ix (p := σ 0 5) (by omega) x1 with h | ⟨a, ha, rfl, h⟩
  · unfold fX7_person fX8_person BX8_person_19
    rw [bnd_t (isP7 x1 Ic Jc), bnd_t (isP8 x1 Im Jm), hC.2.2.2.1.1, hM.g 0 5 rfl, h, if_pos rfl, if_pos rfl]
    exact ⟨-101, Ic, Jc, Im, Jm, rfl, rfl, hR1⟩
  obtain ⟨r, Im', a1, a2, a3⟩ := person_eq hG hM hC Jc Jm ha x2
  refine ⟨r, Ic, Jc, Im', Jm, a1, ?_, σ, hG.mono, a3, hC⟩
  unfold fX8_person BX8_person_19
  rw [bnd_t (isP8 _ Im Jm), hM.g 0 5 rfl, h, if_neg ne10, bnd_t a2]
