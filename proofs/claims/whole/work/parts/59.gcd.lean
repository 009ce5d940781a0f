/-- Euclid's loop, with a count -/
theorem eu {β : Type} (L : Nat → Nat → Nat → Nat → β) (R : Nat → β) (hs : ∀ f x y c, 0 < y → x < 2 ^ 63 → y < 2 ^ 63 → c < 100 → L (f + 1) x y c = L f y (x % y) (c + 1)) (he : ∀ f x c, x < 2 ^ 63 → L (f + 1) x 0 c = R x) : ∀ k x y f c, y < 2 ^ k → y ≤ x → x < 2 ^ 63 → 2 * k + 1 ≤ f → c + 2 * k ≤ 100 → L f x y c = R (Nat.gcd x y) := by
  have gr : ∀ x y, Nat.gcd x y = Nat.gcd y (x % y) := fun x y => by rw [Nat.gcd_comm x y, Nat.gcd_rec y x, Nat.gcd_comm]
  intro k
  induction k with
  | zero =>
    intro x y f c hy hyx hx hf hc
    have : y = 0 := by omega
    subst this
    obtain ⟨f, rfl⟩ : ∃ z, f = z + 1 := ⟨f - 1, by omega⟩
    rw [he f x c hx, Nat.gcd_zero_right]
  | succ k ih =>
    intro x y f c hy hyx hx hf hc
    obtain ⟨f, rfl⟩ : ∃ z, f = z + 1 := ⟨f - 1, by omega⟩
    by_cases h0 : y = 0
    · subst h0
      rw [he f x c hx, Nat.gcd_zero_right]
    have hr : x % y < y := Nat.mod_lt _ (by omega)
    rw [hs f x y c (by omega) hx (by omega) (by omega), gr x y]
    obtain ⟨f, rfl⟩ : ∃ z, f = z + 1 := ⟨f - 1, by omega⟩
    by_cases h1 : x % y = 0
    · rw [h1, he f y _ (by omega), Nat.gcd_zero_right]
    have hr2 : y % (x % y) < x % y := Nat.mod_lt _ (by omega)
    have hd : 2 * (y % (x % y)) < y := by
      have e := Nat.div_add_mod y (x % y)
      have q1 : 1 ≤ y / (x % y) := (Nat.one_le_div_iff (by omega)).mpr (by omega)
      have q2 : x % y ≤ (x % y) * (y / (x % y)) := Nat.le_mul_of_pos_right _ q1
      omega
    rw [hs f y (x % y) (c + 1) (by omega) (by omega) (by omega) (by omega), gr y (x % y)]
    exact ih (x % y) (y % (x % y)) f (c + 1 + 1) (by rw [Nat.pow_succ] at hy; omega) (by omega) (by omega) (by omega) (by omega)
theorem eu2 {β : Type} (L : Nat → Nat → Nat → Nat → β) (R : Nat → β) (hs : ∀ f x y c, 0 < y → x < 2 ^ 63 → y < 2 ^ 63 → c < 100 → L (f + 1) x y c = L f y (x % y) (c + 1)) (he : ∀ f x c, x < 2 ^ 63 → L (f + 1) x 0 c = R x) {D w : Nat} (hD : D < 2 ^ 39) (hw : w < 2 ^ 63) : L 128 D w 0 = R (Nat.gcd D w) := by
  by_cases h : w ≤ D
  · exact eu L R hs he 39 D w 128 0 (by omega) h (by omega) (by omega) (by omega)
  · rw [hs 127 D w 0 (by omega) (by omega) hw (by omega), Nat.mod_eq_of_lt (by omega), eu L R hs he 39 w D 127 1 hD (by omega) hw (by omega) (by omega), Nat.gcd_comm]
theorem cmp0 {y : Nat} (hy : y < 2 ^ 63) : lg_cmp (lN y) 0 = if y = 0 then 0 else 1 := by
  unfold lg_cmp
  rw [show (0 : Int64) = lN 0 from rfl]
  by_cases h : y = 0
  · subst h; rfl
  · rw [if_pos (show lN y > lN 0 from (pk_lLT (by decide) hy).mpr (by omega)), if_neg h]
def wv (σ : sN) : Nat → Nat → Nat
  | 0 => fun a => if a = σ 0 6 then 1 else 0
  | t + 1 => stw (σ 0 4) (fun a => dgr (σ 2) (σ 3) a (σ 0 4)) (wv σ t) (σ 2) (σ 3)
theorem wv_le {σ : sN} (hS : Sub σ) : ∀ t a, a < σ 0 3 → wv σ t a ≤ 14280 ^ t
  | 0, a, _ => by show (if a = σ 0 6 then 1 else 0) ≤ 1; split <;> omega
  | t + 1, a, ha => by
    rw [Nat.pow_succ, Nat.mul_comm]
    exact stw_le hS.2.1.2 hS.2.2.2.2.2.1 (wv_le hS t) ha
theorem big4 {t : Nat} (h : t ≤ 4) : 14280 ^ t < 2 ^ 63 ∧ 840 ^ t < 2 ^ 39 ∧ 0 < 840 ^ t := by
  rcases (show t = 0 ∨ t = 1 ∨ t = 2 ∨ t = 3 ∨ t = 4 by omega) with rfl | rfl | rfl | rfl | rfl <;> decide
theorem fillJ (I : aI) (J : aJ) : ∃ J', fJ7_fill_d0a16 61 6 0 I J = some ((), I, J') ∧ (∀ j, j < 6 → J' 61 j = 0) ∧ ∀ q j, q ≠ 61 → J' q j = J q j := by
  refine sl (fun f i (s : aJ) => LJ7_fill_d0a16_6 f 61 6 0 (nI i) (nI 6) I s) 6 (fun i s => (∀ j, j < i → s 61 j = 0) ∧ ∀ q j, q ≠ 61 → s q j = J q j)
    (fun x => ∃ J', x = some ((), I, J') ∧ (∀ j, j < 6 → J' 61 j = 0) ∧ ∀ q j, q ≠ 61 → J' q j = J q j) ?_ ?_ (f0 := 128) (by decide) J ⟨fun j hj => absurd hj (Nat.not_lt_zero j), fun _ _ _ => rfl⟩
  · rintro f i s hi ⟨g1, g2⟩
    refine ⟨pJ s 61 i 0, ?_, fun a ha => ?_, fun q j hq => by rw [pJ_g, if_neg (fun x => hq x.1)]; exact g2 q j hq⟩
    · show HJ7_fill_d0a16_6 _ _ _ _ _ _ _ _ = _
      unfold HJ7_fill_d0a16_6
      rw [if_neg (nI_ge hi (by decide)), gd_t (inb_nI hi (by decide)), nI_clamp (by omega), nI_1]
    · rw [pJ_g]
      by_cases x : a = i
      · rw [if_pos ⟨rfl, x⟩]
      · rw [if_neg (fun v => x v.2)]; exact g1 a (by omega)
  · rintro f s ⟨g1, g2⟩
    refine ⟨s, ?_, g1, g2⟩
    show HJ7_fill_d0a16_6 _ _ _ _ _ _ _ _ = _
    unfold HJ7_fill_d0a16_6
    rw [if_pos (nI_le (by omega) (by decide))]
theorem run_eq {σ : sN} {I : aI} (hS : Sub σ) (hC : RC σ I) (J : aJ) {T : Nat} (hT : T ≤ 4) : ∃ J', fX5_run (nI (σ 0 6)) (nI T) I J = some ((), I, J') ∧ (∀ a, a < σ 0 3 → J' 61 a = lN (wv σ T a)) ∧ J' 60 0 = lN (840 ^ T) := by
  obtain ⟨s1, s2, s3, s4, s5, s6, s7, s8, s9, s10, s11⟩ := id hS
  obtain ⟨J1, a1, a2, a3⟩ := fillJ I J
  unfold fX5_run
  rw [bnd_t a1, gd_t (inb_nI (show σ 0 6 < 6 by omega) (by decide)), nI_clamp (by omega)]
  refine sl (fun f t (s : aJ) => LX5_run_23 f (nI T) (nI t) I s) T (fun t s => (∀ a, a < σ 0 3 → s 61 a = lN (wv σ t a)) ∧ s 60 0 = lN (840 ^ t))
    (fun x => ∃ J', x = some ((), I, J') ∧ (∀ a, a < σ 0 3 → J' 61 a = lN (wv σ T a)) ∧ J' 60 0 = lN (840 ^ T)) ?_ ?_ (f0 := 128) (by omega) _ ⟨fun a ha => ?_, by rw [pJ_g, if_pos ⟨rfl, rfl⟩]; rfl⟩
  · rintro f t s ht ⟨g1, g2⟩
    obtain ⟨J2, b1, b2, b3⟩ := scatter_eq (n := σ 0 3) (r := σ 0 4) (dg := fun a => dgr (σ 2) (σ 3) a (σ 0 4)) (w := wv σ t) (s2 := σ 2) (s3 := σ 3) s1.2 s2.2 (fun k hk => ⟨(s6 k hk).1, (s6 k hk).2.1⟩) (fun a _ => Nat.le_trans (dgr_le _ _ _ _) s2.2) s hC.2.2.1.1 hC.2.2.1.2.1 hC.2.2.1.2.2 (fun a ha => (hC.2.2.2.2.2.2.2 a ha).2.1) g1
    refine ⟨pJ J2 60 0 (J2 60 0 * 840), ?_, fun a ha => by rw [pJ_g, if_neg (by omega)]; exact b2 a ha, ?_⟩
    · show HX5_run_23 _ _ _ _ _ = _
      unfold HX5_run_23
      rw [if_neg (nI_ge ht (by omega)), bnd_t b1, nI_1]
    · rw [pJ_g, if_pos ⟨rfl, rfl⟩, b3, g2, show (840 : Int64) = lN 840 from rfl, lN_mul, Nat.pow_succ]
  · rintro f s ⟨g1, g2⟩
    refine ⟨s, ?_, g1, g2⟩
    show HX5_run_23 _ _ _ _ _ = _
    unfold HX5_run_23
    rw [if_pos (nI_le (by omega) (by omega))]
  · rw [pJ_g, if_neg (by omega), pJ_g]
    show _ = lN (if a = σ 0 6 then 1 else 0)
    by_cases z : a = σ 0 6
    · rw [if_pos ⟨rfl, z⟩, if_pos z]; rfl
    · rw [if_neg (fun v => z v.2), if_neg z, a2 a (by omega)]; rfl
theorem shared_eq {D w a : Nat} (ha : a < 6) (hD : D < 2 ^ 39) (hD0 : 0 < D) (hw : w < 2 ^ 63) {I : aI} {J : aJ} (h60 : J 60 0 = lN D) (h61 : J 61 a = lN w) : fX5_sharedPart (nI a) I J = some (lN (Nat.gcd D w), I, J) := by
  unfold fX5_sharedPart
  rw [gd_t (inb_nI ha (by decide)), nI_clamp (by omega), h60, h61]
  have hg : Nat.gcd D w ≤ D := Nat.le_of_dvd hD0 (Nat.gcd_dvd_left D w)
  have hg0 : 0 < Nat.gcd D w := Nat.gcd_pos_of_pos_left w hD0
  have e := eu2 (fun f x y c => LX5_sharedPart_16 f (lN x) (lN y) (nI c) I J) (fun x => some ((if 1 < lN x then lN x else 1), I, J)) (fun f x y c hy hx hy2 hc => by
    show HX5_sharedPart_16 _ _ _ _ _ _ = _
    unfold HX5_sharedPart_16
    rw [if_neg (show ¬ (100 : Int32) ≤ nI c from nI_ge (b := 100) hc (by decide)), cmp0 hy2, if_neg (show ¬ y = 0 by omega), if_neg ne10, gd_t (by simp [show (0 : Int64) = lN 0 from rfl, pk_lEQ (b := 0) hy2 (by decide)]; omega), pk_lRem hx hy hy2, nI_1]) (fun f x c hx => by
    show HX5_sharedPart_16 _ _ _ _ _ _ = _
    unfold HX5_sharedPart_16 BX5_sharedPart_49
    rw [cmp0 (by decide), if_pos rfl, if_pos rfl]
    split <;> rfl) hD hw
  refine Eq.trans e ?_
  rw [show (1 : Int64) = lN 1 from rfl]
  by_cases z : 1 < Nat.gcd D w
  · rw [if_pos ((pk_lLT (by decide) (by omega)).mpr z)]
  · rw [if_neg (fun v => z ((pk_lLT (by decide) (by omega)).mp v)), show Nat.gcd D w = 1 by omega]
theorem oddsOf_eq {σ : sN} {I : aI} (hS : Sub σ) (hM : RM σ I) (J : aJ) {i T x : Nat} (hi : i < σ 0 5) (hT : T ≤ 4) (hx : x ≤ 1) : ∃ J', fX8_oddsOf (nI i) (nI T) (nI x) I J = some (nI ((if x = 0 then wv σ T (σ 5 i) else 840 ^ T) / Nat.gcd (840 ^ T) (wv σ T (σ 5 i))), I, J') ∧ ∀ q j, q ≠ 17 → q ≠ 18 → J' q j = J q j := by
  obtain ⟨s1, s2, s3, s4, s5, s6, s7, s8, s9, s10, s11⟩ := id hS
  have hl := s7 i hi
  obtain ⟨b1, b2, b3⟩ := big4 hT
  have hw := wv_le hS T _ hl
  have hin : inb (nI i) 6 = true := inb_nI (by omega) (by decide)
  have c : (nI i).toNatClampNeg = i := nI_clamp (by omega)
  have hg : Nat.gcd (840 ^ T) (wv σ T (σ 5 i)) ≤ 840 ^ T := Nat.le_of_dvd b3 (Nat.gcd_dvd_left _ _)
  have hg0 : 0 < Nat.gcd (840 ^ T) (wv σ T (σ 5 i)) := Nat.gcd_pos_of_pos_left _ b3
  refine sl (fun f j (s : aJ) => LX8_oddsOf_6 f (nI i) (nI T) (nI x) 1 (nI j) I s) 6 (fun m s => (∀ j, j < m → s 17 j = lN (if j = σ 0 6 then 1 else 0)) ∧ ∀ q j, q ≠ 17 → s q j = J q j)
    (fun y => ∃ J', y = some (nI ((if x = 0 then wv σ T (σ 5 i) else 840 ^ T) / Nat.gcd (840 ^ T) (wv σ T (σ 5 i))), I, J') ∧ ∀ q j, q ≠ 17 → q ≠ 18 → J' q j = J q j) ?_ ?_ (f0 := 128) (by decide) J ⟨fun j hj => absurd hj (Nat.not_lt_zero j), fun _ _ _ => rfl⟩
  · rintro f j s hj ⟨g1, g2⟩
    refine ⟨pJ s 17 j (lN (if j = σ 0 6 then 1 else 0)), ?_, fun a ha => ?_, fun q j hq => by rw [pJ_g, if_neg (fun v => hq v.1)]; exact g2 q j hq⟩
    · show HX8_oddsOf_6 _ _ _ _ _ _ _ _ = _
      unfold HX8_oddsOf_6 BX8_oddsOf_33
      have l1 : nI j = nI (σ 0 6) ↔ j = σ 0 6 := nI_eq (by omega) (by omega)
      rw [if_neg (show ¬ (6 : Int32) ≤ nI j from nI_ge (b := 6) hj (by decide)), hM.g 0 6 rfl, gd_t (inb_nI hj (by decide)), gd_t (inb_nI hj (by decide)), nI_clamp (by omega), nI_1]
      by_cases z : j = σ 0 6
      · rw [if_pos (l1.mpr z), if_pos z]; rfl
      · rw [if_neg (fun v => z (l1.mp v)), if_neg z]; rfl
    · rw [pJ_g]
      by_cases z : a = j
      · rw [if_pos ⟨rfl, z⟩, z]
      · rw [if_neg (fun v => z v.2)]; exact g1 a (by omega)
  · rintro f s ⟨g1, g2⟩
    show ∃ J', HX8_oddsOf_6 _ _ _ _ _ _ _ _ = _ ∧ _
    unfold HX8_oddsOf_6
    rw [if_pos (show (6 : Int32) ≤ nI 6 from by decide)]
    refine sl (fun f t (z : aJ) => LX8_oddsOf_43 f (nI i) (nI T) (nI x) (lN (840 ^ t)) (nI t) I z) T (fun t z => (∀ a, a < σ 0 3 → z 17 a = lN (wv σ t a)) ∧ ∀ q j, q ≠ 17 → q ≠ 18 → z q j = J q j)
      (fun y => ∃ J', y = some (nI ((if x = 0 then wv σ T (σ 5 i) else 840 ^ T) / Nat.gcd (840 ^ T) (wv σ T (σ 5 i))), I, J') ∧ ∀ q j, q ≠ 17 → q ≠ 18 → J' q j = J q j) ?_ ?_ (f0 := 128) (by omega) s ⟨fun a ha => g1 a (by omega), fun q j h1 h2 => g2 q j h1⟩
    · rintro f t z ht ⟨e1, e2⟩
      obtain ⟨z', v1, v2, v3⟩ := stray_eq (n := σ 0 3) (r := σ 0 4) (w := wv σ t) (s2 := σ 2) (s3 := σ 3) s1.2 s2.2 s6 z (hM.g 0 3 rfl) (hM.g 0 4 rfl) (fun k hk => ⟨hM.g 2 k (by simp [rs]; omega), hM.g 3 k (by simp [rs]; omega)⟩) e1
      refine ⟨z', ?_, v2, fun q j h1 h2 => by rw [v3 q j h1 h2]; exact e2 q j h1 h2⟩
      show HX8_oddsOf_43 _ _ _ _ _ _ _ _ = _
      unfold HX8_oddsOf_43
      rw [if_neg (nI_ge ht (by omega)), bnd_t v1, show (840 : Int64) = lN 840 from rfl, lN_mul, nI_1, Nat.pow_succ]
    · rintro f z ⟨e1, e2⟩
      refine ⟨z, ?_, e2⟩
      show HX8_oddsOf_43 _ _ _ _ _ _ _ _ = _
      unfold HX8_oddsOf_43
      rw [if_pos (nI_le (by omega) (by omega)), gd_t hin, c, hM.g 5 i (by simp [rs]; omega), gd_t (inb_nI (show σ 5 i < 6 by omega) (by decide)), nI_clamp (show σ 5 i < 2 ^ 31 by omega), e1 _ hl]
      have e := eu2 (fun f a b _ => LX8_oddsOf_88 f (nI x) (lN (840 ^ T)) (lN (wv σ T (σ 5 i))) (lN a) (lN b) I z) (fun g => if nI x = 0 then gd (decide (¬ lN g = 0)) (some (Int64.toInt32 (lN (wv σ T (σ 5 i)) / lN g), I, z)) else gd (decide (¬ lN g = 0)) (some (Int64.toInt32 (lN (840 ^ T) / lN g), I, z))) (fun f a b c hb ha hb2 hc => by
        show HX8_oddsOf_88 _ _ _ _ _ _ _ _ = _
        unfold HX8_oddsOf_88
        rw [cmp0 hb2, if_neg (show ¬ b = 0 by omega), if_neg (show ¬ (1 : Int32) ≤ 0 by decide), gd_t (by simp [show (0 : Int64) = lN 0 from rfl, pk_lEQ (b := 0) hb2 (by decide)]; omega), pk_lRem ha hb hb2]) (fun f a c ha => by
        show HX8_oddsOf_88 _ _ _ _ _ _ _ _ = _
        unfold HX8_oddsOf_88 BX8_oddsOf_130
        rw [cmp0 (by decide), if_pos rfl, if_pos (show (0 : Int32) ≤ 0 by decide)]) b2 (show wv σ T (σ 5 i) < 2 ^ 63 by omega)
      refine Eq.trans e ?_
      have gg : decide (¬ lN (Nat.gcd (840 ^ T) (wv σ T (σ 5 i))) = 0) = true := by
        simp [show (0 : Int64) = lN 0 from rfl, pk_lEQ (b := 0) (show Nat.gcd (840 ^ T) (wv σ T (σ 5 i)) < 2 ^ 63 by omega) (by decide)]
      rw [gd_t gg, gd_t gg, pk_lDiv (by omega) hg0 (by omega), pk_lDiv (by omega) hg0 (by omega), lN_i, lN_i]
      rcases (show x = 0 ∨ x = 1 by omega) with rfl | rfl
      · rw [if_pos (show nI 0 = 0 from rfl), if_pos rfl]
      · rw [if_neg (show ¬ nI 1 = 0 by decide), if_neg (by decide)]
theorem odds7_eq {σ : sN} {I : aI} (hS : Sub σ) (hC : RC σ I) (J : aJ) {i T x : Nat} (hi : i < σ 0 5) (hT1 : 1 ≤ T) (hT : T ≤ 4) (hx : x ≤ 1) : ∃ J', fX7_odds (nI i) (nI T) (nI x) I J = some (nI ((if x = 0 then wv σ T (σ 5 i) else 840 ^ T) / Nat.gcd (840 ^ T) (wv σ T (σ 5 i))), I, J') := by
  obtain ⟨s1, s2, s3, s4, s5, s6, s7, s8, s9, s10, s11⟩ := id hS
  have hl := s7 i hi
  obtain ⟨b1, b2, b3⟩ := big4 hT
  have hw := wv_le hS T _ hl
  have hg : Nat.gcd (840 ^ T) (wv σ T (σ 5 i)) ≤ 840 ^ T := Nat.le_of_dvd b3 (Nat.gcd_dvd_left _ _)
  have hg0 : 0 < Nat.gcd (840 ^ T) (wv σ T (σ 5 i)) := Nat.gcd_pos_of_pos_left _ b3
  have hin : inb (nI i) 6 = true := inb_nI (by omega) (by decide)
  have c : (nI i).toNatClampNeg = i := nI_clamp (by omega)
  have hlin : inb (nI (σ 5 i)) 6 = true := inb_nI (by omega) (by decide)
  have cl5 : (nI (σ 5 i)).toNatClampNeg = σ 5 i := nI_clamp (by omega)
  obtain ⟨J', a1, a2, a3⟩ := run_eq hS hC J hT
  have sh := shared_eq (a := σ 5 i) (by omega) b2 b3 (show wv σ T (σ 5 i) < 2 ^ 63 by omega) (I := I) a3 (a2 _ hl)
  have gg : decide (¬ lN (Nat.gcd (840 ^ T) (wv σ T (σ 5 i))) = 0) = true := by
    simp [show (0 : Int64) = lN 0 from rfl, pk_lEQ (b := 0) (show Nat.gcd (840 ^ T) (wv σ T (σ 5 i)) < 2 ^ 63 by omega) (by decide)]
  have ab : fX5_above (nI (σ 5 i)) I J' = some (nI (wv σ T (σ 5 i) / Nat.gcd (840 ^ T) (wv σ T (σ 5 i))), I, J') := by
    unfold fX5_above
    rw [gd_t hlin, bnd_t sh, gd_t gg, cl5, a2 _ hl, pk_lDiv (by omega) hg0 (by omega), lN_i]
  have be : fX5_below (nI (σ 5 i)) I J' = some (nI (840 ^ T / Nat.gcd (840 ^ T) (wv σ T (σ 5 i))), I, J') := by
    unfold fX5_below
    rw [bnd_t sh, gd_t gg, a3, pk_lDiv (by omega) hg0 (by omega), lN_i]
  refine ⟨J', ?_⟩
  unfold fX7_odds BX7_odds_90
  rw [bnd_t (isP7 _ I J), hC.2.2.2.1.1, rg_t ((rg_n (by omega) _).mpr ⟨i, hi, rfl⟩), if_neg ne10, bnd_t (isWithin_eq _ _ _ _ _), rg_t (show (1 : Int32) ≤ nI T ∧ nI T ≤ 4 from ⟨nI_le (a := 1) hT1 (by omega), nI_le (b := 4) hT (by decide)⟩), if_neg ne10, bnd_t (isWithin_eq _ _ _ _ _), rg_t (show (0 : Int32) ≤ nI x ∧ nI x ≤ 1 from ⟨nI_pos' (by omega), nI_le (b := 1) hx (by decide)⟩), if_neg ne10, hC.2.2.2.2.1.1, bnd_t a1, gd_t hin, gd_t hin, c, (hC.2.2.2.1.2 i (by omega)).1, bnd_t ab, bnd_t be]
  rcases (show x = 0 ∨ x = 1 by omega) with rfl | rfl
  · rw [if_pos (show nI 0 = 0 from rfl), if_pos rfl]
  · rw [if_neg (show ¬ nI 1 = 0 by decide), if_neg (by decide)]
theorem b_odds : ∀ (t : Nat) (Ic : aI) (Jc : aJ) (Im : aI) (Jm : aJ), t < 64 → Rel t Ic Jc Im Jm → ∀ x1 x2 x3 : Int32, ∃ (r : Int32) (Ic' : aI) (Jc' : aJ) (Im' : aI) (Jm' : aJ), fX7_odds x1 x2 x3 Ic Jc = some (r, Ic', Jc') ∧ fX8_odds x1 x2 x3 Im Jm = some (r, Im', Jm') ∧ Rel (t + 1) Ic' Jc' Im' Jm' := by
  intro t Ic Jc Im Jm _ hR x1 x2 x3
  obtain ⟨σ, hG, hM, hC⟩ := id hR
  have hR1 := Rel_skip _ _ _ _ _ hR
  have hp := hG.p
  have rr : ∀ (J1 J2 : aJ), Rel (t + 1) Ic J1 Im J2 := fun J1 J2 => ⟨σ, hG.mono, hM, hC⟩
  rcases ix (p := σ 0 5) (by omega) x1 with h | ⟨i, hi, rfl, h⟩
  · unfold fX7_odds fX8_odds
    rw [bnd_t (isP7 x1 Ic Jc), bnd_t (isP8 x1 Im Jm), hC.2.2.2.1.1, hM.g 0 5 rfl, h, if_pos rfl, if_pos rfl]
    exact ⟨-101, Ic, Jc, Im, Jm, rfl, rfl, hR1⟩
  by_cases hx2 : ¬ ((1 : Int32) ≤ x2 ∧ x2 ≤ 4)
  · unfold fX7_odds fX8_odds BX8_odds_43 BX8_odds_45 BX7_odds_29
    rw [bnd_t (isP7 _ Ic Jc), bnd_t (isP8 _ Im Jm), hC.2.2.2.1.1, hM.g 0 5 rfl, h, if_neg ne10, if_neg ne10, bnd_t (isWithin_eq _ _ _ _ _), bnd_t (in_rg x2 1 4 1 4 rfl rfl _ _), rg_f hx2, if_pos rfl, if_pos rfl]
    exact ⟨-102, Ic, Jc, Im, Jm, rfl, rfl, hR1⟩
  have hx2 := Decidable.of_not_not hx2
  by_cases hx3 : ¬ ((0 : Int32) ≤ x3 ∧ x3 ≤ 1)
  · unfold fX7_odds fX8_odds BX8_odds_43 BX8_odds_45 BX7_odds_29
    rw [bnd_t (isP7 _ Ic Jc), bnd_t (isP8 _ Im Jm), hC.2.2.2.1.1, hM.g 0 5 rfl, h, if_neg ne10, if_neg ne10, bnd_t (isWithin_eq _ _ _ _ _), bnd_t (in_rg x2 1 4 1 4 rfl rfl _ _), rg_t hx2, if_neg ne10, if_neg ne10, bnd_t (isWithin_eq _ _ _ _ _), bnd_t (in_rg x3 0 1 0 1 rfl rfl _ _), rg_f hx3, if_pos rfl, if_pos rfl]
    exact ⟨-102, Ic, Jc, Im, Jm, rfl, rfl, hR1⟩
  have hx3 := Decidable.of_not_not hx3
  obtain ⟨T, hT1, hT2, rfl⟩ := (rg_c (lo := 1) (hi := 4) (by decide) x2 (by decide)).mp hx2
  obtain ⟨x, hxa, hxb, rfl⟩ := (rg_c (lo := 0) (hi := 1) (by decide) x3 (by decide)).mp hx3
  obtain ⟨h8, hS⟩ := hG.sub (Or.inr (Or.inl (by omega)))
  obtain ⟨J1, a1⟩ := odds7_eq hS hC Jc hi hT1 hT2 hxb
  obtain ⟨J2, a2, a3⟩ := oddsOf_eq hS hM Jm hi hT2 hxb
  refine ⟨_, Ic, J1, Im, J2, a1, ?_, rr J1 J2⟩
  unfold fX8_odds BX8_odds_45
  rw [bnd_t (isP8 _ Im Jm), hM.g 0 5 rfl, h, if_neg ne10, bnd_t (in_rg _ 1 4 1 4 rfl rfl _ _), rg_t hx2, if_neg ne10, bnd_t (in_rg _ 0 1 0 1 rfl rfl _ _), rg_t hx3, if_neg ne10, bnd_t a2]
