/-! the class's measure of how far -/
theorem orr64 : ∀ m, m < 64 → ∀ k, k < 64 → nI m ||| nI k = nI (msk (fun j => bt m j || bt k j) 6) := by decide +kernel
theorem msk_orr {f g : Nat → Bool} {n : Nat} (hn : n ≤ 6) : nI (msk f n) ||| nI (msk g n) = nI (msk (fun j => f j || g j) n) := by
  rw [orr64 _ (msk64 hn) _ (msk64 hn), ← msk_ext (fun j => f j || g j) 6 hn]
  refine congrArg nI (msk_congr (fun j hj => ?_))
  rw [bt_msk, bt_msk]
  cases decide (j < n) <;> simp
theorem msk_0 : ∀ n : Nat, msk (fun _ => false) n = 0
  | 0 => rfl
  | n + 1 => by rw [msk_s, if_neg (by decide)]; exact msk_0 n
theorem bit_msk {n j : Nat} (hn : n ≤ 6) (hj : j < n) : (1 : Int32) <<< (nI j &&& 31) = nI (msk (fun i => decide (i = j)) n) := by
  rw [shl1 j (by omega)]
  have e := msk_t (f := fun _ => false) (j := j) rfl hj
  rw [msk_0, Nat.zero_add] at e
  rw [← e]
  exact congrArg nI (msk_congr (fun i _ => by by_cases h : i = j <;> simp [h]))
theorem fill_eq {e n : Nat} (hn : n < 100) (x : Int32) (I : aI) (J : aJ) : ∃ I' : aI, fJ7_fill_53178 e n x I J = some ((), I', J) ∧ ∀ k j, I' k j = if k = e ∧ j < n then x else I k j := by
  refine sl (fun f i (s : aI) => LJ7_fill_53178_5 f e n x (nI i) (nI n) s J) n (fun i s => ∀ k j, s k j = if k = e ∧ j < i then x else I k j) (fun y => ∃ I' : aI, y = some ((), I', J) ∧ ∀ k j, I' k j = if k = e ∧ j < n then x else I k j) ?_ ?_ (f0 := 128) (by omega) I (fun k j => by rw [if_neg (by omega)])
  · rintro f i s hi h
    refine ⟨pI s e i x, ?_, fun k j => ?_⟩
    · show HJ7_fill_53178_5 _ _ _ _ _ _ _ _ = _
      unfold HJ7_fill_53178_5
      rw [if_neg (nI_ge hi (by omega)), gd_t (inb_nI hi (by omega)), nI_clamp (by omega), nI_1]
    · rw [pI_g]
      by_cases w : k = e ∧ j = i
      · rw [if_pos w, if_pos ⟨w.1, by omega⟩]
      · rw [if_neg w, h k j]
        by_cases y : k = e ∧ j < i
        · rw [if_pos y, if_pos ⟨y.1, by omega⟩]
        · rw [if_neg y, if_neg (by omega)]
  · rintro f s h
    refine ⟨s, ?_, h⟩
    show HJ7_fill_53178_5 _ _ _ _ _ _ _ _ = _
    unfold HJ7_fill_53178_5
    rw [if_pos (nI_le (Nat.le_refl n) (by omega))]
theorem spread_eq {n : Nat} {nx : Nat → Nat → Bool} {F : Nat → Bool} (hn : n ≤ 6) {I : aI} (J : aJ) (h30 : I 3 0 = nI n) (h6 : ∀ a, a < n → I 6 a = nI (msk (nx a) n)) : fX6_spread (nI (msk F n)) I J = some (nI (msk (fun b => anyB n (fun p => F p && nx p b)) n), I, J) := by
  have e0 : fX6_spread (nI (msk F n)) I J = LX6_spread_4 128 (nI (msk F n)) (nI (msk (fun b => anyB 0 (fun p => F p && nx p b)) n)) (nI 0) I J := by
    rw [show msk (fun b => anyB 0 (fun p => F p && nx p b)) n = 0 from (msk_congr (fun _ _ => rfl)).trans (msk_0 n)]
    rfl
  rw [e0]
  refine cl (fun f i => LX6_spread_4 f (nI (msk F n)) (nI (msk (fun b => anyB i (fun p => F p && nx p b)) n)) (nI i) I J) n (fun f i hi => ?_) (fun f => ?_) (f0 := 128) (by omega)
  · show HX6_spread_4 _ _ _ _ _ _ = _
    unfold HX6_spread_4 BX6_spread_29
    rw [h30, if_neg (nI_ge hi (by omega)), bnd_t (hasMsk (by omega) hi I J), gd_t (inb_nI (show i < 6 by omega) (by decide)), nI_clamp (by omega), h6 i hi, msk_orr hn, nI_1]
    by_cases w : F i = true
    · rw [if_pos w, if_neg ne10, show msk (fun b => anyB (i + 1) (fun p => F p && nx p b)) n = msk (fun b => anyB i (fun p => F p && nx p b) || nx i b) n from msk_congr (fun b _ => by rw [anyB_s, w, Bool.true_and])]
    · have w' : F i = false := by simpa using w
      rw [if_neg w, if_pos rfl, show msk (fun b => anyB (i + 1) (fun p => F p && nx p b)) n = msk (fun b => anyB i (fun p => F p && nx p b)) n from msk_congr (fun b _ => by rw [anyB_s, w', Bool.false_and, Bool.or_false])]
  · show HX6_spread_4 _ _ _ _ _ _ = _
    unfold HX6_spread_4
    rw [h30, if_pos (nI_le (Nat.le_refl n) (by omega))]
theorem fresh47 {n m v : Nat} {F : Nat → Bool} (hn : n ≤ 6) (hv : v < n) (k25 : Int32 → Int32 → Int32 → aI → aJ → Option (RT Unit)) (x2 : Int32) {s : aI} (J : aJ) (h30 : s 3 0 = nI n) :
    ∃ s' : aI, LX6_measureSteps_47 k25 128 (nI v) x2 (nI m) (nI (msk F n)) 0 s J = k25 (nI v) (x2 ||| nI (msk F n)) (nI (m + 1)) s' J ∧ (∀ b, b < n → s' (9 + v) b = if F b = true then nI m else s (9 + v) b) ∧ ∀ q j, q ≠ 9 + v → s' q j = s q j := by
  refine sl (fun f i (z : aI) => LX6_measureSteps_47 k25 f (nI v) x2 (nI m) (nI (msk F n)) (nI i) z J) n (fun i z => (∀ b, b < n → z (9 + v) b = if b < i ∧ F b = true then nI m else s (9 + v) b) ∧ ∀ q j, q ≠ 9 + v → z q j = s q j)
    (fun y => ∃ s' : aI, y = k25 (nI v) (x2 ||| nI (msk F n)) (nI (m + 1)) s' J ∧ (∀ b, b < n → s' (9 + v) b = if F b = true then nI m else s (9 + v) b) ∧ ∀ q j, q ≠ 9 + v → s' q j = s q j) ?_ ?_ (f0 := 128) (by omega) s ⟨fun b hb => by rw [if_neg (fun w => absurd w.1 (Nat.not_lt_zero b))], fun _ _ _ => rfl⟩
  · rintro f i z hi ⟨e1, e2⟩
    have hin : inb (nI i) 6 = true := inb_nI (by omega) (by decide)
    have hinv : inb (nI v) 6 = true := inb_nI (by omega) (by decide)
    by_cases w : F i = true
    · refine ⟨pI z (9 + v) i (nI m), ?_, fun b hb => ?_, fun q j hq => by rw [pI_ro _ hq]; exact e2 q j hq⟩
      · show HX6_measureSteps_47 _ _ _ _ _ _ _ _ _ = _
        unfold HX6_measureSteps_47 BX6_measureSteps_76
        rw [e2 3 0 (by omega), h30, if_neg (nI_ge hi (by omega)), bnd_t (hasMsk (by omega) hi z J), if_pos w, if_neg ne10, gd_t hinv, gd_t hin, nI_clamp (show v < 2 ^ 31 by omega), nI_clamp (show i < 2 ^ 31 by omega), nI_1]
      · rw [pI_g]
        by_cases y : b = i
        · rw [if_pos ⟨rfl, y⟩, if_pos ⟨by omega, by rw [y]; exact w⟩]
        · rw [if_neg (fun x => y x.2), e1 b hb]
          by_cases x : b < i ∧ F b = true
          · rw [if_pos x, if_pos ⟨by omega, x.2⟩]
          · rw [if_neg x, if_neg (fun u => x ⟨by omega, u.2⟩)]
    · refine ⟨z, ?_, fun b hb => ?_, e2⟩
      · show HX6_measureSteps_47 _ _ _ _ _ _ _ _ _ = _
        unfold HX6_measureSteps_47 BX6_measureSteps_76
        rw [e2 3 0 (by omega), h30, if_neg (nI_ge hi (by omega)), bnd_t (hasMsk (by omega) hi z J), if_neg w, if_pos rfl, nI_1]
      · rw [e1 b hb]
        by_cases x : b < i ∧ F b = true
        · rw [if_pos x, if_pos ⟨by omega, x.2⟩]
        · rw [if_neg x, if_neg (fun u => x ⟨by
            have : b ≠ i := fun y => w (by rw [← y]; exact u.2)
            omega, u.2⟩)]
  · rintro f z ⟨e1, e2⟩
    refine ⟨z, ?_, fun b hb => ?_, e2⟩
    · show HX6_measureSteps_47 _ _ _ _ _ _ _ _ _ = _
      unfold HX6_measureSteps_47
      rw [e2 3 0 (by omega), h30, if_pos (nI_le (Nat.le_refl n) (by omega)), nI_1]
    · rw [e1 b hb]
      by_cases x : F b = true
      · rw [if_pos ⟨hb, x⟩, if_pos x]
      · rw [if_neg (fun u => x u.2), if_neg x]
theorem steps_eq {n r : Nat} {f : Nat → Nat → Nat} {s2 s3 : Nat → Nat} (hn : n ≤ 6) (hD : Di n f r s2 s3) (hsm : ∀ a, a < n → ∀ c, c < n → f a c ≤ n - 1 ∨ f a c = 99) {v : Nat} (hv : v < n) (I : aI) (J : aJ) (h30 : I 3 0 = nI n) (h6 : ∀ a, a < n → I 6 a = nI (msk (fun b => decide (f a b < 2)) n)) :
    ∃ I' : aI, fX6_measureSteps (nI v) I J = some ((), I', J) ∧ (∀ b, b < n → I' (9 + v) b = if f v b = 99 then -1 else nI (f v b)) ∧ ∀ q j, q ≠ 9 + v → I' q j = I q j := by
  have hinv : inb (nI v) 6 = true := inb_nI (by omega) (by decide)
  obtain ⟨I2, a1, a2⟩ := fill_eq (e := 8 + 1 + v) (n := 6) (by decide) (-1) I J
  have fresh : ∀ i, i + 1 < n → ∀ b, b < n → (anyB n (fun p => decide (f p v < i + 1) && decide (f p b < 2)) && !decide (f b v < i + 1)) = decide (f b v = i + 1) := by
    intro i hi b hb
    have hbv := hsm b hb v hv
    rw [Bool.eq_iff_iff, Bool.and_eq_true, anyB_iff]
    simp only [Bool.and_eq_true, decide_eq_true_eq, Bool.not_eq_true', decide_eq_false_iff_not]
    constructor
    · rintro ⟨⟨p, hp, h1, h2⟩, h3⟩
      have h4 := (hD.1 b hb p hp).2.2.1
      have h5 := hD.2.1 b hb v hv p hp (by omega)
      omega
    · intro h
      obtain ⟨k, hk, h1, h2⟩ := hD.2.2 b hb v hv (by omega) (by omega)
      have h4 := (hD.1 b hb k hk).2.2.1
      exact ⟨⟨k, hk, by omega, by omega⟩, by omega⟩
  have e0 : fX6_measureSteps (nI v) I J = LX6_measureSteps_25 128 (nI v) (nI (msk (fun b => decide (f b v < 0 + 1)) n)) (nI (0 + 1)) (pI I2 (9 + v) v 0) J := by
    unfold fX6_measureSteps
    rw [gd_t hinv, nI_clamp (show v < 2 ^ 31 by omega), bnd_t a1, bit_msk hn hv, show msk (fun i => decide (i = v)) n = msk (fun b => decide (f b v < 0 + 1)) n from msk_congr (fun b hb => by
      have := (hD.1 b hb v hv).2.1
      rw [decide_eq_decide]
      omega)]
    rfl
  rw [e0]
  refine sl (fun g i (z : aI) => LX6_measureSteps_25 g (nI v) (nI (msk (fun b => decide (f b v < i + 1)) n)) (nI (i + 1)) z J) (n - 1) (fun i z => (∀ b, b < n → z (9 + v) b = if f b v < i + 1 then nI (f b v) else -1) ∧ ∀ q j, q ≠ 9 + v → z q j = I q j)
    (fun y => ∃ I' : aI, y = some ((), I', J) ∧ (∀ b, b < n → I' (9 + v) b = if f v b = 99 then -1 else nI (f v b)) ∧ ∀ q j, q ≠ 9 + v → I' q j = I q j) ?_ ?_ (f0 := 128) (by omega) (pI I2 (9 + v) v 0) ⟨fun b hb => ?_, fun q j hq => by rw [pI_ro _ hq, a2, if_neg (fun w => hq (by omega))]⟩
  · rintro g i z hi ⟨e1, e2⟩
    obtain ⟨s', b1, b2, b3⟩ := fresh47 (m := i + 1) (F := fun b => decide (f b v = i + 1)) hn hv (LX6_measureSteps_25 g) (nI (msk (fun b => decide (f b v < i + 1)) n)) (s := z) J (by rw [e2 3 0 (by omega)]; exact h30)
    refine ⟨s', ?_, fun b hb => ?_, fun q j hq => by rw [b3 q j hq]; exact e2 q j hq⟩
    · show HX6_measureSteps_25 _ _ _ _ _ _ = _
      unfold HX6_measureSteps_25
      rw [e2 3 0 (by omega), h30, if_neg (nI_ge (by omega) (by omega)), bnd_t (spread_eq (nx := fun a b => decide (f a b < 2)) hn J (by rw [e2 3 0 (by omega)]; exact h30) (fun a ha => by rw [e2 6 a (by omega)]; exact h6 a ha)), msk_andc hn, show msk (fun b => anyB n (fun p => decide (f p v < i + 1) && decide (f p b < 2)) && !decide (f b v < i + 1)) n = msk (fun b => decide (f b v = i + 1)) n from msk_congr (fresh i (by omega)), b1, msk_orr hn, show msk (fun j => decide (f j v < i + 1) || decide (f j v = i + 1)) n = msk (fun b => decide (f b v < i + 1 + 1)) n from msk_congr (fun b _ => by
        rw [Bool.eq_iff_iff, Bool.or_eq_true]
        simp only [decide_eq_true_eq]
        omega)]
    · rw [b2 b hb, e1 b hb]
      by_cases w : f b v = i + 1
      · rw [if_pos (by simpa using w), if_pos (by omega), w]
      · rw [if_neg (by simpa using w)]
        by_cases y : f b v < i + 1
        · rw [if_pos y, if_pos (by omega)]
        · rw [if_neg y, if_neg (by omega)]
  · rintro g z ⟨e1, e2⟩
    refine ⟨z, ?_, fun b hb => ?_, e2⟩
    · show HX6_measureSteps_25 _ _ _ _ _ _ = _
      unfold HX6_measureSteps_25
      rw [e2 3 0 (by omega), h30, if_pos (nI_le (by omega) (by omega))]
    · have hs := (hD.1 v hv b hb).2.2.1
      have hl := hsm b hb v hv
      rw [e1 b hb, hs]
      by_cases w : f b v = 99
      · rw [if_pos w, if_neg (by omega)]
      · rw [if_neg w, if_pos (by omega)]
  · have h0 := (hD.1 b hb v hv).2.1
    rw [pI_g]
    by_cases w : b = v
    · have : f b v = 0 := h0.mpr w
      rw [if_pos ⟨rfl, w⟩, if_pos (by omega), this]
      rfl
    · have : f b v ≠ 0 := fun y => w (h0.mp y)
      rw [if_neg (fun y => w y.2), a2, if_pos ⟨by omega, by omega⟩, if_neg (by omega)]
