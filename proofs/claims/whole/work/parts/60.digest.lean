/-- two loops side by side -/
theorem jl {S1 S2 β1 β2 : Type} (L1 : Nat → Nat → S1 → β1) (L2 : Nat → Nat → S2 → β2) (N : Nat) (Inv : S1 → S2 → Prop) (Q : β1 → β2 → Prop) (hs : ∀ f g i s1 s2, i < N → Inv s1 s2 → ∃ s1' s2', L1 (f + 1) i s1 = L1 f (i + 1) s1' ∧ L2 (g + 1) i s2 = L2 g (i + 1) s2' ∧ Inv s1' s2') (he : ∀ f g s1 s2, Inv s1 s2 → Q (L1 (f + 1) N s1) (L2 (g + 1) N s2)) {f0 g0 : Nat} (hN : N < f0) (hN2 : N < g0) (s1 : S1) (s2 : S2) (h0 : Inv s1 s2) : Q (L1 f0 0 s1) (L2 g0 0 s2) := by
  have key : ∀ m i f g s1 s2, i + m = N → m < f → m < g → Inv s1 s2 → Q (L1 f i s1) (L2 g i s2) := by
    intro m
    induction m with
    | zero =>
      intro i f g s1 s2 hi hf hg h
      obtain ⟨f, rfl⟩ : ∃ z, f = z + 1 := ⟨f - 1, by omega⟩
      obtain ⟨g, rfl⟩ : ∃ z, g = z + 1 := ⟨g - 1, by omega⟩
      have e : i = N := by omega
      subst e
      exact he f g s1 s2 h
    | succ m ih =>
      intro i f g s1 s2 hi hf hg h
      obtain ⟨f, rfl⟩ : ∃ z, f = z + 1 := ⟨f - 1, by omega⟩
      obtain ⟨g, rfl⟩ : ∃ z, g = z + 1 := ⟨g - 1, by omega⟩
      obtain ⟨s1', s2', h1, h2, h3⟩ := hs f g i s1 s2 (by omega) h
      rw [h1, h2]
      exact ih (i + 1) f g s1' s2' (by omega) (by omega) (by omega) h3
  exact key N 0 f0 g0 s1 s2 (by omega) hN hN2 h0
theorem say_eq (x : Int64) (I : aI) (J : aJ) : fX8_say x I J = some ((), I, pJ J 0 40 (31 * J 0 40 + x)) := rfl
theorem mix_eq (h x : Int64) (I : aI) (J : aJ) : fX7_mix h x I J = some (31 * h + x, I, J) := rfl
theorem say_g (J : aJ) (x : Int64) : (pJ J 0 40 (31 * J 0 40 + x)) 0 40 = 31 * J 0 40 + x := by rw [pJ_g, if_pos ⟨rfl, rfl⟩]
/-- where both are while they say: the sum so far -/
def Sy (σ : sN) (s1 : Int64 × aJ) (s2 : aI × aJ) : Prop := RM σ s2.1 ∧ s2.2 0 40 = s1.1
theorem Sy.say {σ : sN} {h : Int64} {Jc : aJ} {Im : aI} {Jm : aJ} (h1 : RM σ Im) (h2 : Jm 0 40 = h) (x : Int64) (Jc' : aJ) : Sy σ (31 * h + x, Jc') (Im, pJ Jm 0 40 (31 * Jm 0 40 + x)) := ⟨h1, by show (pJ Jm 0 40 (31 * Jm 0 40 + x)) 0 40 = _; rw [say_g, h2]⟩
theorem people1 {t : Nat} {σ : sN} {Ic : aI} (hG : Good t σ) (hC : RC σ Ic) {i : Nat} (hi : i < σ 0 5) (k5 : Int64 → Int32 → aI → aJ → Option (RT Int64)) (k9 : Int32 → aI → aJ → Option (RT Int64)) (h : Int64) (Jc : aJ) (Im : aI) (Jm : aJ) (hM : RM σ Im) (hh : Jm 0 40 = h) :
    ∃ h' Jc' Im' Jm', LX7_digestOfPeople_20 k5 128 h (nI i) 0 Ic Jc = k5 h' (nI (i + 1)) Ic Jc' ∧ LX8_digest_19 k9 128 (nI i) 0 Im Jm = k9 (nI (i + 1)) Im' Jm' ∧ RM σ Im' ∧ Jm' 0 40 = h' := by
  obtain ⟨h8, hS⟩ := hG.sub (Or.inr (Or.inl (by omega)))
  refine jl (fun f j (s : Int64 × aJ) => LX7_digestOfPeople_20 k5 f s.1 (nI i) (nI j) Ic s.2) (fun f j (s : aI × aJ) => LX8_digest_19 k9 f (nI i) (nI j) s.1 s.2) 9 (Sy σ)
    (fun r1 r2 => ∃ h' Jc' Im' Jm', r1 = k5 h' (nI (i + 1)) Ic Jc' ∧ r2 = k9 (nI (i + 1)) Im' Jm' ∧ RM σ Im' ∧ Jm' 0 40 = h') ?_ ?_ (f0 := 128) (g0 := 128) (by decide) (by decide) (h, Jc) (Im, Jm) ⟨hM, hh⟩
  · rintro f g j ⟨h, Jc⟩ ⟨Im, Jm⟩ hj ⟨hM, hh⟩
    obtain ⟨r, Im', a1, a2, a3⟩ := person_eq hG hM hC Jc Jm hi (nI j)
    refine ⟨(31 * h + r.toInt64, Jc), (Im', pJ Jm 0 40 (31 * Jm 0 40 + r.toInt64)), ?_, ?_, Sy.say (Jc := Jc) a3 hh _ _⟩
    · show HX7_digestOfPeople_20 _ _ _ _ _ _ _ = _
      unfold HX7_digestOfPeople_20
      rw [if_neg (show ¬ (9 : Int32) ≤ nI j from nI_ge (b := 9) hj (by decide)), bnd_t a1, bnd_t (mix_eq _ _ _ _), nI_1]
    · show HX8_digest_19 _ _ _ _ _ _ = _
      unfold HX8_digest_19
      rw [if_neg (show ¬ (9 : Int32) ≤ nI j from nI_ge (b := 9) hj (by decide)), bnd_t a2, bnd_t (say_eq _ _ _), nI_1]
  · rintro f g ⟨h, Jc⟩ ⟨Im, Jm⟩ ⟨hM, hh⟩
    obtain ⟨J1, a1⟩ := odds7_eq hS hC Jc hi (T := 2) (x := 0) (by decide) (by decide) (by decide)
    obtain ⟨J2, a2⟩ := odds7_eq hS hC J1 hi (T := 2) (x := 1) (by decide) (by decide) (by decide)
    obtain ⟨r1, hr1⟩ : ∃ r, r = nI ((if 0 = 0 then wv σ 2 (σ 5 i) else 840 ^ 2) / Nat.gcd (840 ^ 2) (wv σ 2 (σ 5 i))) := ⟨_, rfl⟩
    obtain ⟨r2, hr2⟩ : ∃ r, r = nI ((if 1 = 0 then wv σ 2 (σ 5 i) else 840 ^ 2) / Nat.gcd (840 ^ 2) (wv σ 2 (σ 5 i))) := ⟨_, rfl⟩
    obtain ⟨K1, b1, b2⟩ := oddsOf_eq hS hM Jm hi (T := 2) (x := 0) (by decide) (by decide)
    obtain ⟨K2, c1, c2⟩ := oddsOf_eq hS hM (pJ K1 0 40 (31 * K1 0 40 + r1.toInt64)) hi (T := 2) (x := 1) (by decide) (by decide)
    rw [← hr1] at a1 b1
    rw [← hr2] at a2 c1
    have hh : Jm 0 40 = h := hh
    refine ⟨31 * (31 * h + r1.toInt64) + r2.toInt64, J2, Im, pJ K2 0 40 (31 * K2 0 40 + r2.toInt64), ?_, ?_, hM, ?_⟩
    · show HX7_digestOfPeople_20 _ _ _ _ _ _ _ = _
      unfold HX7_digestOfPeople_20
      rw [if_pos (show (9 : Int32) ≤ nI 9 from by decide), bnd_t (show fX7_odds (nI i) 2 0 Ic Jc = _ from a1), bnd_t (mix_eq _ _ _ _), bnd_t (show fX7_odds (nI i) 2 1 Ic J1 = _ from a2), bnd_t (mix_eq _ _ _ _), nI_1]
    · show HX8_digest_19 _ _ _ _ _ _ = _
      unfold HX8_digest_19
      rw [if_pos (show (9 : Int32) ≤ nI 9 from by decide), bnd_t (show fX8_oddsOf (nI i) 2 0 Im Jm = _ from b1), bnd_t (say_eq _ _ _), bnd_t (show fX8_oddsOf (nI i) 2 1 Im _ = _ from c1), bnd_t (say_eq _ _ _), nI_1]
    · rw [say_g, c2 0 40 (by decide) (by decide), say_g, b2 0 40 (by decide) (by decide), hh]
theorem road7 {t : Nat} {σ : sN} {Ic : aI} (hG : Good t σ) (hC : RC σ Ic) (Jc : aJ) {k : Nat} (hk : k < σ 0 4) : fX7_road (nI k) 0 Ic Jc = some (nI (σ 2 k), Ic, Jc) ∧ fX7_road (nI k) (nI 1) Ic Jc = some (nI (σ 3 k), Ic, Jc) := by
  have hp := hG.p
  have e := hC.2.2.1.2.2 k (by omega)
  have c3 : inb (nI k) 8 = true := inb_nI (by omega) (by decide)
  have c4 : (nI k).toNatClampNeg = k := nI_clamp (by omega)
  have hk1 : rg (nI k) 0 (nI (σ 0 4) - 1) = 1 := rg_t ((rg_n (by omega) _).mpr ⟨k, hk, rfl⟩)
  refine ⟨?_, ?_⟩
  · unfold fX7_road
    rw [bnd_t (isWithin_eq _ _ _ _ _), hC.2.2.1.2.1, hk1, if_neg ne10, bnd_t (isWithin_eq _ _ _ _ _), rg_t (show (0 : Int32) ≤ 0 ∧ (0 : Int32) ≤ 1 by decide), if_neg ne10, if_pos rfl, gd_t c3, c4, e.1]
    rfl
  · unfold fX7_road
    rw [bnd_t (isWithin_eq _ _ _ _ _), hC.2.2.1.2.1, hk1, if_neg ne10, bnd_t (isWithin_eq _ _ _ _ _), rg_t (show (0 : Int32) ≤ nI 1 ∧ nI 1 ≤ 1 by decide), if_neg ne10, if_neg (show ¬ nI 1 = 0 by decide), gd_t c3, c4, e.2]
    rfl
theorem corner1 {t : Nat} {σ : sN} {Ic : aI} (hG : Good t σ) (hC : RC σ Ic) {a : Nat} (ha : a < σ 0 3) (k55 : Int64 → Int32 → aI → aJ → Option (RT Int64)) (k40 : Int32 → aI → aJ → Option (RT Unit)) (h : Int64) (Jc : aJ) (Im : aI) (Jm : aJ) (hM : RM σ Im) (hh : Jm 0 40 = h) :
    ∃ h' Jc' Im' Jm', LX7_digestOfStreets_70 k55 128 h (nI a) 0 Ic Jc = k55 h' (nI (a + 1)) Ic Jc' ∧ LX8_sayThings_50 k40 128 (nI a) 0 Im Jm = k40 (nI (a + 1)) Im' Jm' ∧ RM σ Im' ∧ Jm' 0 40 = h' := by
  refine jl (fun f j (s : Int64 × aJ) => LX7_digestOfStreets_70 k55 f s.1 (nI a) (nI j) Ic s.2) (fun f j (s : aI × aJ) => LX8_sayThings_50 k40 f (nI a) (nI j) s.1 s.2) 4 (Sy σ)
    (fun r1 r2 => ∃ h' Jc' Im' Jm', r1 = k55 h' (nI (a + 1)) Ic Jc' ∧ r2 = k40 (nI (a + 1)) Im' Jm' ∧ RM σ Im' ∧ Jm' 0 40 = h') ?_ ?_ (f0 := 128) (g0 := 128) (by decide) (by decide) (h, Jc) (Im, Jm) ⟨hM, hh⟩
  · rintro f g j ⟨h, Jc⟩ ⟨Im, Jm⟩ hj ⟨hM, hh⟩
    obtain ⟨r, Im', a1, a2, a3⟩ := corner_eq hG hM hC Jc Jm ha (nI j)
    refine ⟨(31 * h + r.toInt64, Jc), (Im', pJ Jm 0 40 (31 * Jm 0 40 + r.toInt64)), ?_, ?_, Sy.say (Jc := Jc) a3 hh _ _⟩
    · show HX7_digestOfStreets_70 _ _ _ _ _ _ _ = _
      unfold HX7_digestOfStreets_70
      rw [if_neg (show ¬ (4 : Int32) ≤ nI j from nI_ge (b := 4) hj (by decide)), bnd_t a1, bnd_t (mix_eq _ _ _ _), nI_1]
    · show HX8_sayThings_50 _ _ _ _ _ _ = _
      unfold HX8_sayThings_50
      rw [if_neg (show ¬ (4 : Int32) ≤ nI j from nI_ge (b := 4) hj (by decide)), bnd_t a2, bnd_t (say_eq _ _ _), nI_1]
  · rintro f g ⟨h, Jc⟩ ⟨Im, Jm⟩ ⟨hM, hh⟩
    refine ⟨h, Jc, Im, Jm, ?_, ?_, hM, hh⟩
    · show HX7_digestOfStreets_70 _ _ _ _ _ _ _ = _
      unfold HX7_digestOfStreets_70
      rw [if_pos (show (4 : Int32) ≤ nI 4 from by decide), nI_1]
    · show HX8_sayThings_50 _ _ _ _ _ _ = _
      unfold HX8_sayThings_50
      rw [if_pos (show (4 : Int32) ≤ nI 4 from by decide), nI_1]
theorem streets {t : Nat} {σ : sN} {Ic : aI} (hG : Good t σ) (hC : RC σ Ic) (h : Int64) (Jc : aJ) (Im : aI) (Jm : aJ) (hM : RM σ Im) (hh : Jm 0 40 = h) :
    ∃ h' Jc' Im' Jm', fX7_digestOfStreets h Ic Jc = some (h', Ic, Jc') ∧ fX8_sayThings Im Jm = some ((), Im', Jm') ∧ RM σ Im' ∧ Jm' 0 40 = h' := by
  have hp := hG.p
  refine jl (fun f k (s : Int64 × aJ) => LX7_digestOfStreets_5 f s.1 (nI k) Ic s.2) (fun f k (s : aI × aJ) => LX8_sayThings_2 f (nI k) s.1 s.2) (σ 0 4) (Sy σ)
    (fun r1 r2 => ∃ h' Jc' Im' Jm', r1 = some (h', Ic, Jc') ∧ r2 = some ((), Im', Jm') ∧ RM σ Im' ∧ Jm' 0 40 = h') ?_ ?_ (f0 := 128) (g0 := 128) (by omega) (by omega) (h, Jc) (Im, Jm) ⟨hM, hh⟩
  · rintro f g k ⟨h, Jc⟩ ⟨Im, Jm⟩ hk ⟨hM, hh⟩
    have hh : Jm 0 40 = h := hh
    have hM : RM σ Im := hM
    obtain ⟨r0, r1⟩ := road7 hG hC Jc hk
    refine ⟨(31 * (31 * h + (nI (σ 2 k)).toInt64) + (nI (σ 3 k)).toInt64, Jc), (Im, pJ (pJ Jm 0 40 (31 * Jm 0 40 + (nI (σ 2 k)).toInt64)) 0 40 (31 * (pJ Jm 0 40 (31 * Jm 0 40 + (nI (σ 2 k)).toInt64)) 0 40 + (nI (σ 3 k)).toInt64)), ?_, ?_, Sy.say (Jc := Jc) hM (by rw [say_g, hh]) _ _⟩
    · have e : LX7_digestOfStreets_20 (LX7_digestOfStreets_5 f) 128 h (nI k) 0 Ic Jc = LX7_digestOfStreets_5 f (31 * (31 * h + (nI (σ 2 k)).toInt64) + (nI (σ 3 k)).toInt64) (nI (k + 1)) Ic Jc := by
        show HX7_digestOfStreets_20 _ _ _ _ _ _ _ = _
        unfold HX7_digestOfStreets_20
        rw [if_neg (show ¬ (2 : Int32) ≤ 0 by decide), bnd_t r0, bnd_t (mix_eq _ _ _ _)]
        show HX7_digestOfStreets_20 _ _ _ _ _ _ _ = _
        unfold HX7_digestOfStreets_20
        rw [if_neg (show ¬ (2 : Int32) ≤ 0 + 1 by decide), bnd_t (show fX7_road (nI k) (0 + 1) Ic Jc = _ from r1), bnd_t (mix_eq _ _ _ _)]
        show HX7_digestOfStreets_20 _ _ _ _ _ _ _ = _
        unfold HX7_digestOfStreets_20
        rw [if_pos (show (2 : Int32) ≤ 0 + 1 + 1 by decide), nI_1]
      show HX7_digestOfStreets_5 _ _ _ _ _ = _
      unfold HX7_digestOfStreets_5
      rw [hC.2.2.1.2.1, if_neg (nI_ge hk (by omega)), e]
    · show HX8_sayThings_2 _ _ Im Jm = _
      unfold HX8_sayThings_2
      rw [hM.g 0 4 rfl, if_neg (nI_ge hk (by omega)), gd_t (inb_nI (show k < 8 by omega) (by decide)), nI_clamp (by omega), hM.g 2 k (by simp [rs]; omega), bnd_t (say_eq _ _ _), hM.g 3 k (by simp [rs]; omega), bnd_t (say_eq _ _ _), nI_1]
  · rintro f g ⟨h, Jc⟩ ⟨Im, Jm⟩ ⟨hM, hh⟩
    have hh : Jm 0 40 = h := hh
    have hM : RM σ Im := hM
    have e1 : LX7_digestOfStreets_5 (f + 1) h (nI (σ 0 4)) Ic Jc = LX7_digestOfStreets_55 128 h 0 Ic Jc := by
      show HX7_digestOfStreets_5 _ _ _ _ _ = _
      unfold HX7_digestOfStreets_5
      rw [hC.2.2.1.2.1, if_pos (nI_le (by omega) (by omega))]
    have e2 : LX8_sayThings_2 (g + 1) (nI (σ 0 4)) Im Jm = LX8_sayThings_40 128 0 Im Jm := by
      show HX8_sayThings_2 _ _ Im Jm = _
      unfold HX8_sayThings_2
      rw [hM.g 0 4 rfl, if_pos (nI_le (by omega) (by omega))]
    show ∃ h' Jc' Im' Jm', LX7_digestOfStreets_5 (f + 1) h (nI (σ 0 4)) Ic Jc = _ ∧ LX8_sayThings_2 (g + 1) (nI (σ 0 4)) Im Jm = _ ∧ _
    rw [e1, e2]
    refine jl (fun f a (s : Int64 × aJ) => LX7_digestOfStreets_55 f s.1 (nI a) Ic s.2) (fun f a (s : aI × aJ) => LX8_sayThings_40 f (nI a) s.1 s.2) (σ 0 3) (Sy σ)
      (fun r1 r2 => ∃ h' Jc' Im' Jm', r1 = some (h', Ic, Jc') ∧ r2 = some ((), Im', Jm') ∧ RM σ Im' ∧ Jm' 0 40 = h') ?_ ?_ (f0 := 128) (g0 := 128) (by omega) (by omega) (h, Jc) (Im, Jm) ⟨hM, hh⟩
    · rintro f g a ⟨h, Jc⟩ ⟨Im, Jm⟩ ha ⟨hM, hh⟩
      have hM : RM σ Im := hM
      obtain ⟨h', Jc', Im', Jm', b1, b2, b3, b4⟩ := corner1 hG hC ha (LX7_digestOfStreets_55 f) (LX8_sayThings_40 g) h Jc Im Jm hM hh
      refine ⟨(h', Jc'), (Im', Jm'), ?_, ?_, b3, b4⟩
      · show HX7_digestOfStreets_55 _ _ _ _ _ = _
        unfold HX7_digestOfStreets_55
        rw [hC.2.2.1.1, if_neg (nI_ge ha (by omega)), b1]
      · show HX8_sayThings_40 _ _ Im Jm = _
        unfold HX8_sayThings_40
        rw [hM.g 0 3 rfl, if_neg (nI_ge ha (by omega)), b2]
    · rintro f g ⟨h, Jc⟩ ⟨Im, Jm⟩ ⟨hM, hh⟩
      have hM : RM σ Im := hM
      refine ⟨h, Jc, Im, Jm, ?_, ?_, hM, hh⟩
      · show HX7_digestOfStreets_55 _ _ _ _ _ = _
        unfold HX7_digestOfStreets_55
        rw [hC.2.2.1.1, if_pos (nI_le (by omega) (by omega))]
      · show HX8_sayThings_40 _ _ Im Jm = _
        unfold HX8_sayThings_40
        rw [hM.g 0 3 rfl, if_pos (nI_le (by omega) (by omega))]
theorem ending {t : Nat} {σ : sN} {Ic : aI} (hG : Good t σ) (hC : RC σ Ic) (h : Int64) (Jc : aJ) (Im : aI) (Jm : aJ) (hM : RM σ Im) (hh : Jm 0 40 = h) :
    ∃ h' Jc' Im' Jm', BX7_digest_39 h Ic Jc = some (h', Ic, Jc') ∧ BX8_digest_101 Im Jm = some (h', Im', Jm') ∧ RM σ Im' := by
  have h60 := hG.1.1
  refine jl (fun f j (s : Int64 × aJ) => LX7_digest_41 f s.1 (nI j) Ic s.2) (fun f j (s : aI × aJ) => LX8_digest_103 f (nI j) s.1 s.2) (σ 0 1) (Sy σ)
    (fun r1 r2 => ∃ h' Jc' Im' Jm', r1 = some (h', Ic, Jc') ∧ r2 = some (h', Im', Jm') ∧ RM σ Im') ?_ ?_ (f0 := 128) (g0 := 128) (by omega) (by omega) (h, Jc) (Im, Jm) ⟨hM, hh⟩
  · rintro f g j ⟨h, Jc⟩ ⟨Im, Jm⟩ hj ⟨hM, hh⟩
    have hM : RM σ Im := hM
    refine ⟨(31 * h + (nI (σ 1 j)).toInt64, Jc), (Im, pJ Jm 0 40 (31 * Jm 0 40 + (nI (σ 1 j)).toInt64)), ?_, ?_, Sy.say (Jc := Jc) hM hh _ _⟩
    · show HX7_digest_41 _ _ _ _ _ = _
      unfold HX7_digest_41
      rw [hC.1.1, if_neg (nI_ge hj (by omega)), gd_t (inb_nI (show j < 60 by omega) (by decide)), nI_clamp (by omega), hC.1.2 j (by omega), bnd_t (mix_eq _ _ _ _), nI_1]
    · show HX8_digest_103 _ _ Im Jm = _
      unfold HX8_digest_103
      rw [hM.g 0 1 rfl, if_neg (nI_ge hj (by omega)), gd_t (inb_nI (show j < 60 by omega) (by decide)), nI_clamp (by omega), hM.g 1 j (by simp [rs]; omega), bnd_t (say_eq _ _ _), nI_1]
  · rintro f g ⟨h, Jc⟩ ⟨Im, Jm⟩ ⟨hM, hh⟩
    have hM : RM σ Im := hM
    have hh : Jm 0 40 = h := hh
    have e1 : LX7_digest_41 (f + 1) h (nI (σ 0 1)) Ic Jc = LX7_digest_75 128 h 0 Ic Jc := by
      show HX7_digest_41 _ _ _ _ _ = _
      unfold HX7_digest_41
      rw [hC.1.1, if_pos (nI_le (by omega) (by omega))]
    have e2 : LX8_digest_103 (g + 1) (nI (σ 0 1)) Im Jm = LX8_digest_130 128 0 Im Jm := by
      show HX8_digest_103 _ _ Im Jm = _
      unfold HX8_digest_103
      rw [hM.g 0 1 rfl, if_pos (nI_le (by omega) (by omega))]
    show ∃ h' Jc' Im' Jm', LX7_digest_41 (f + 1) h (nI (σ 0 1)) Ic Jc = _ ∧ LX8_digest_103 (g + 1) (nI (σ 0 1)) Im Jm = _ ∧ _
    rw [e1, e2]
    refine jl (fun f j (s : Int64 × aJ) => LX7_digest_75 f s.1 (nI j) Ic s.2) (fun f j (s : aI × aJ) => LX8_digest_130 f (nI j) s.1 s.2) 12 (Sy σ)
      (fun r1 r2 => ∃ h' Jc' Im' Jm', r1 = some (h', Ic, Jc') ∧ r2 = some (h', Im', Jm') ∧ RM σ Im') ?_ ?_ (f0 := 128) (g0 := 128) (by omega) (by omega) (h, Jc) (Im, Jm) ⟨hM, hh⟩
    · rintro f g j ⟨h, Jc⟩ ⟨Im, Jm⟩ hj ⟨hM, hh⟩
      have hM : RM σ Im := hM
      obtain ⟨r, a1, a2⟩ := count_eq hG hM hC Jc Jm (nI j)
      refine ⟨(31 * h + r.toInt64, Jc), (Im, pJ Jm 0 40 (31 * Jm 0 40 + r.toInt64)), ?_, ?_, Sy.say (Jc := Jc) hM hh _ _⟩
      · show HX7_digest_75 _ _ _ _ _ = _
        unfold HX7_digest_75
        rw [if_neg (show ¬ (12 : Int32) ≤ nI j from nI_ge (b := 12) hj (by decide)), bnd_t a1, bnd_t (mix_eq _ _ _ _), nI_1]
      · show HX8_digest_130 _ _ Im Jm = _
        unfold HX8_digest_130
        rw [if_neg (show ¬ (12 : Int32) ≤ nI j from nI_ge (b := 12) hj (by decide)), bnd_t a2, bnd_t (say_eq _ _ _), nI_1]
    · rintro f g ⟨h, Jc⟩ ⟨Im, Jm⟩ ⟨hM, hh⟩
      have hh : Jm 0 40 = h := hh
      refine ⟨h, Jc, Im, Jm, ?_, ?_, hM⟩
      · show HX7_digest_75 _ _ _ _ _ = _
        unfold HX7_digest_75
        rw [if_pos (show (12 : Int32) ≤ nI 12 from by decide)]
      · show HX8_digest_130 _ _ Im Jm = _
        unfold HX8_digest_130
        rw [if_pos (show (12 : Int32) ≤ nI 12 from by decide), hh]
theorem b_digest : ∀ (t : Nat) (Ic : aI) (Jc : aJ) (Im : aI) (Jm : aJ), t < 64 → Rel t Ic Jc Im Jm → ∃ (r : Int64) (Ic' : aI) (Jc' : aJ) (Im' : aI) (Jm' : aJ), fX7_digest Ic Jc = some (r, Ic', Jc') ∧ fX8_digest Im Jm = some (r, Im', Jm') ∧ Rel (t + 1) Ic' Jc' Im' Jm' := by
  intro t Ic Jc Im Jm ht hR
  obtain ⟨σ, hG, hM, hC⟩ := id hR
  have hp := hG.p
  have ppl : ∃ h' Jc' Im' Jm', fX7_digestOfPeople 1237 Ic Jc = some (h', Ic, Jc') ∧ fX8_digest Im Jm = (bnd (fX8_sayThings Im' Jm') fun r2 I2 J2 => bnd (fX8_lacks I2 J2) fun r3 I3 J3 => if r3 = 0 then bnd (fX8_placesOf I3 J3) fun r5 I5 J5 => bnd (fX8_say (Int32.toInt64 r5) I5 J5) fun r6 I6 J6 => bnd (fX8_askOf I6 J6) fun r7 I7 J7 => bnd (fX8_say (Int32.toInt64 r7) I7 J7) fun r8 I8 J8 => BX8_digest_101 I8 J8 else BX8_digest_101 I3 J3) ∧ RM σ Im' ∧ Jm' 0 40 = h' := by
    refine jl (fun f j (s : Int64 × aJ) => LX7_digestOfPeople_5 f s.1 (nI j) Ic s.2) (fun f j (s : aI × aJ) => LX8_digest_9 f (nI j) s.1 s.2) (σ 0 5) (Sy σ)
      (fun r1 r2 => ∃ h' Jc' Im' Jm', r1 = some (h', Ic, Jc') ∧ r2 = (bnd (fX8_sayThings Im' Jm') fun r2 I2 J2 => bnd (fX8_lacks I2 J2) fun r3 I3 J3 => if r3 = 0 then bnd (fX8_placesOf I3 J3) fun r5 I5 J5 => bnd (fX8_say (Int32.toInt64 r5) I5 J5) fun r6 I6 J6 => bnd (fX8_askOf I6 J6) fun r7 I7 J7 => bnd (fX8_say (Int32.toInt64 r7) I7 J7) fun r8 I8 J8 => BX8_digest_101 I8 J8 else BX8_digest_101 I3 J3) ∧ RM σ Im' ∧ Jm' 0 40 = h') ?_ ?_ (f0 := 128) (g0 := 128) (by omega) (by omega) (1237, Jc) (Im, pJ Jm 0 40 1237) ⟨hM, by show (pJ Jm 0 40 1237) 0 40 = _; rw [pJ_g, if_pos ⟨rfl, rfl⟩]⟩
    · rintro f g j ⟨h, Jc⟩ ⟨Im, Jm⟩ hj ⟨hM, hh⟩
      have hM : RM σ Im := hM
      obtain ⟨h', Jc', Im', Jm', b1, b2, b3, b4⟩ := people1 hG hC hj (LX7_digestOfPeople_5 f) (LX8_digest_9 g) h Jc Im Jm hM hh
      refine ⟨(h', Jc'), (Im', Jm'), ?_, ?_, b3, b4⟩
      · show HX7_digestOfPeople_5 _ _ _ _ _ = _
        unfold HX7_digestOfPeople_5
        rw [hC.2.2.2.1.1, if_neg (nI_ge hj (by omega)), b1]
      · show HX8_digest_9 _ _ Im Jm = _
        unfold HX8_digest_9
        rw [hM.g 0 5 rfl, if_neg (nI_ge hj (by omega)), b2]
    · rintro f g ⟨h, Jc⟩ ⟨Im, Jm⟩ ⟨hM, hh⟩
      have hM : RM σ Im := hM
      refine ⟨h, Jc, Im, Jm, ?_, ?_, hM, hh⟩
      · show HX7_digestOfPeople_5 _ _ _ _ _ = _
        unfold HX7_digestOfPeople_5
        rw [hC.2.2.2.1.1, if_pos (nI_le (by omega) (by omega))]
      · show HX8_digest_9 _ _ Im Jm = _
        unfold HX8_digest_9
        rw [hM.g 0 5 rfl, if_pos (nI_le (by omega) (by omega))]
  obtain ⟨h1, J1, I1, K1, p1, p2, p3, p4⟩ := ppl
  obtain ⟨h2, J2, I2, K2, q1, q2, q3, q4⟩ := streets hG hC h1 J1 I1 K1 p3 p4
  rw [p2, bnd_t q2, bnd_t (lacks_eq _ _)]
  unfold fX7_digest
  rw [bnd_t p1, bnd_t q1, bnd_t (hasSub_eq _ _)]
  rcases hG.has (by omega) q3 hC with ⟨z1, z2, z3⟩ | ⟨h8, hS, z2, z3⟩
  · rw [if_pos z2, if_pos z3, if_pos rfl, if_neg ne10]
    obtain ⟨h', Jc', Im', Jm', e1, e2, e3⟩ := ending hG hC h2 J2 I2 K2 q3 q4
    exact ⟨h', Ic, Jc', Im', Jm', e1, e2, σ, hG.mono, e3, hC⟩
  · rw [if_neg z2, if_neg z3, if_neg ne10, if_pos rfl]
    have pl : fX7_places Ic J2 = some (nI (msk (psb σ) (σ 0 3)), Ic, J2) := by
      unfold fX7_places BX7_places_16
      rw [bnd_t (hasSub_eq _ _), if_neg z3, if_neg ne10, bnd_t (possible_eq hG hS hC J2)]
    have as : fX7_ask Ic J2 = some ((if cntB (psb σ) (σ 0 3) = 0 then -1 else nI (bst σ (σ 0 5 - 1)).1), Ic, J2) := by
      unfold fX7_ask BX7_ask_20
      rw [bnd_t (hasSub_eq _ _), if_neg z3, if_neg ne10, bnd_t (possible_eq hG hS hC J2), bnd_t (witness_eq hS hC J2)]
    rw [bnd_t pl, bnd_t (mix_eq _ _ _ _), bnd_t as, bnd_t (mix_eq _ _ _ _), bnd_t (placesOf_eq hG hS q3 K2), bnd_t (say_eq _ _ _), bnd_t (askOf_eq hG hS q3 _), bnd_t (say_eq _ _ _)]
    obtain ⟨h', Jc', Im', Jm', e1, e2, e3⟩ := ending hG hC _ J2 I2 _ q3 (show (pJ (pJ K2 0 40 (31 * K2 0 40 + (nI (msk (psb σ) (σ 0 3))).toInt64)) 0 40 (31 * (pJ K2 0 40 (31 * K2 0 40 + (nI (msk (psb σ) (σ 0 3))).toInt64)) 0 40 + (if cntB (psb σ) (σ 0 3) = 0 then (-1 : Int32) else nI (bst σ (σ 0 5 - 1)).1).toInt64)) 0 40 = 31 * (31 * h2 + (nI (msk (psb σ) (σ 0 3))).toInt64) + (if cntB (psb σ) (σ 0 3) = 0 then (-1 : Int32) else nI (bst σ (σ 0 5 - 1)).1).toInt64 by rw [say_g, say_g, q4])
    exact ⟨h', Ic, Jc', Im', Jm', e1, e2, σ, hG.mono, e3, hC⟩
