/-- a loop with a state that an invariant tells -/
theorem sl {S β : Type} (L : Nat → Nat → S → β) (N : Nat) (Inv : Nat → S → Prop) (Q : β → Prop) (hs : ∀ f i s, i < N → Inv i s → ∃ s', L (f + 1) i s = L f (i + 1) s' ∧ Inv (i + 1) s') (he : ∀ f s, Inv N s → Q (L (f + 1) N s)) {f0 : Nat} (hN : N < f0) (s0 : S) (h0 : Inv 0 s0) : Q (L f0 0 s0) := by
  have key : ∀ m i f s, i + m = N → m < f → Inv i s → Q (L f i s) := by
    intro m
    induction m with
    | zero =>
      intro i f s hi hf h
      obtain ⟨f, rfl⟩ : ∃ g, f = g + 1 := ⟨f - 1, by omega⟩
      have e : i = N := by omega
      subst e
      exact he f s h
    | succ m ih =>
      intro i f s hi hf h
      obtain ⟨f, rfl⟩ : ∃ g, f = g + 1 := ⟨f - 1, by omega⟩
      obtain ⟨s', h1, h2⟩ := hs f i s (by omega) h
      rw [h1]
      exact ih (i + 1) f s' (by omega) (by omega) h2
  exact key N 0 f0 s0 (by omega) (by omega) h0
def bN (b : Bool) : Int32 := if b = true then 1 else 0
theorem bN_0 (b : Bool) : bN b = 0 ↔ b = false := by cases b <;> decide
theorem bN_1 (b : Bool) : bN b = 1 ↔ b = true := by cases b <;> decide
theorem bN_ok (b : Bool) : decide (bN b = 0 ∨ bN b = 1) = true := by cases b <;> decide
theorem anyB_s (n : Nat) (f : Nat → Bool) : anyB (n + 1) f = (anyB n f || f n) := by
  unfold anyB
  rw [List.range_succ, List.any_append]
  simp
theorem allB_s (n : Nat) (f : Nat → Bool) : allB (n + 1) f = (allB n f && f n) := by
  unfold allB
  rw [List.range_succ, List.all_append]
  simp
theorem anyB_congr {n : Nat} {f g : Nat → Bool} (h : ∀ i, i < n → f i = g i) : anyB n f = anyB n g := by
  induction n with
  | zero => rfl
  | succ n ih => rw [anyB_s, anyB_s, ih (fun i hi => h i (by omega)), h n (by omega)]
theorem allB_congr {n : Nat} {f g : Nat → Bool} (h : ∀ i, i < n → f i = g i) : allB n f = allB n g := by
  induction n with
  | zero => rfl
  | succ n ih => rw [allB_s, allB_s, ih (fun i hi => h i (by omega)), h n (by omega)]
theorem isNextB {σ : sN} {I : aI} (hM : RM σ I) (J : aJ) {a b : Nat} (ha : a < 6) (hb : b < 6) (h99 : fr (σ 10) a b ≤ 99) : fX8_isNext (nI a) (nI b) I J = some (bN (nxt (σ 10) a b), I, J) := isNext8 hM J ha hb h99
theorem canCatch_eq {σ : sN} {I : aI} (hS : Sub σ) (hM : RM σ I) (J : aJ) {a f : Nat} (ha : a < σ 0 3) (hf : f < σ 0 3) (C : Nat → Nat → Bool) (hC : ∀ h, h < σ 0 3 → I 15 (6 * a + h) = bN (C a h)) : fX8_canCatch (nI a) (nI f) I J = some (bN (anyB (σ 0 3) (fun h => nxt (σ 10) f h && C a h)), I, J) := by
  have hn := hS.1.2
  have s9 := hS.2.2.2.2.2.2.2.2.1
  refine cl (fun q i => LX8_canCatch_5 q (nI a) (nI f) (bN (anyB i (fun h => nxt (σ 10) f h && C a h))) (nI i) I J) (σ 0 3) (fun q i hi => ?_) (fun q => ?_) (f0 := 128) (by omega)
  · show HX8_canCatch_5 _ _ _ _ _ _ _ = _
    unfold HX8_canCatch_5 BX8_canCatch_44 BX8_canCatch_48 BX8_canCatch_49
    obtain ⟨e1, e2, e3⟩ := i6 (a := a) (b := i) (by omega) (by omega)
    rw [hM.g 0 3 rfl, if_neg (nI_ge hi (by omega)), bnd_t (isNextB hM J (by omega) (by omega) (s9.le hf hi)), e1, gd_t e2, e3, hC i hi, nI_1, anyB_s]
    cases anyB i (fun h => nxt (σ 10) f h && C a h) <;> cases nxt (σ 10) f i <;> cases C a i <;> rfl
  · show HX8_canCatch_5 _ _ _ _ _ _ _ = _
    unfold HX8_canCatch_5
    rw [hM.g 0 3 rfl, if_pos (nI_le (by omega) (by omega)), gd_t (bN_ok _)]
theorem isSure_eq {σ : sN} {I : aI} (hS : Sub σ) (hM : RM σ I) (J : aJ) {v f : Nat} (hv : v < σ 0 3) (hf : f < σ 0 3) (C : Nat → Nat → Bool) (hC : ∀ a, a < σ 0 3 → ∀ h, h < σ 0 3 → I 15 (6 * a + h) = bN (C a h)) : fX8_isSure (nI v) (nI f) I J = some (bN (allB (σ 0 3) (fun a => !nxt (σ 10) v a || anyB (σ 0 3) (fun h => nxt (σ 10) f h && C a h))), I, J) := by
  have hn := hS.1.2
  have s9 := hS.2.2.2.2.2.2.2.2.1
  refine cl (fun q i => LX8_isSure_5 q (nI v) (nI f) (bN (allB i (fun a => !nxt (σ 10) v a || anyB (σ 0 3) (fun h => nxt (σ 10) f h && C a h)))) (nI i) I J) (σ 0 3) (fun q i hi => ?_) (fun q => ?_) (f0 := 128) (by omega)
  · show HX8_isSure_5 _ _ _ _ _ _ _ = _
    unfold HX8_isSure_5 BX8_isSure_38 BX8_isSure_42 BX8_isSure_43
    rw [hM.g 0 3 rfl, if_neg (nI_ge hi (by omega)), bnd_t (isNextB hM J (by omega) (by omega) (s9.le hv hi)), bnd_t (canCatch_eq hS hM J hi hf C (hC i hi)), nI_1, allB_s]
    cases allB i (fun a => !nxt (σ 10) v a || anyB (σ 0 3) (fun h => nxt (σ 10) f h && C a h)) <;> cases nxt (σ 10) v i <;> cases anyB (σ 0 3) (fun h => nxt (σ 10) f h && C i h) <;> rfl
  · show HX8_isSure_5 _ _ _ _ _ _ _ = _
    unfold HX8_isSure_5
    rw [hM.g 0 3 rfl, if_pos (nI_le (by omega) (by omega)), gd_t (bN_ok _)]
def Dc (n : Nat) (nx : Nat → Nat → Bool) (t a b : Nat) : Bool := if a < n ∧ b < n then cgt n nx t a b else decide (a = b)
theorem Dc_s {n : Nat} {nx : Nat → Nat → Bool} {t a b : Nat} (ha : a < n) (hb : b < n) : Dc n nx (t + 1) a b = (Dc n nx t a b || allB n (fun to => !nx a to || anyB n (fun h => nx b h && Dc n nx t to h))) := by
  unfold Dc
  rw [if_pos ⟨ha, hb⟩, if_pos ⟨ha, hb⟩]
  show (cgt n nx t a b || allB n _) = _
  congr 1
  refine allB_congr (fun to hto => ?_)
  congr 1
  refine anyB_congr (fun h hh => ?_)
  rw [if_pos ⟨hto, hh⟩]
theorem d6 {i : Nat} (hi : i < 36) : nI i / 6 = nI (i / 6) ∧ nI i - nI (i / 6) * 6 = nI (i % 6) := by
  refine ⟨pk_div (d := 6) (by omega) (by decide) (by decide), ?_⟩
  rw [show nI (i / 6) = nI i / 6 from (pk_div (d := 6) (by omega) (by decide) (by decide)).symm]
  exact pk_rem (d := 6) (by omega) (by decide) (by decide)
theorem catch66 {σ : sN} {I : aI} (hS : Sub σ) (hM : RM σ I) (J : aJ) (t : Nat) (k : Int32 → Int32 → aI → aJ → Option (RT Int32)) (x1 x2 : Int32) (h15 : ∀ j, j < 36 → I 15 j = bN (Dc (σ 0 3) (nxt (σ 10)) t (j / 6) (j % 6))) :
    ∃ I', LX8_catchOf_66 k 128 x1 x2 0 I J = k x1 (x2 + 1) I' J ∧ (∀ j, j < 36 → I' 15 j = bN (Dc (σ 0 3) (nxt (σ 10)) (t + 1) (j / 6) (j % 6))) ∧ ∀ q j, q ≠ 15 → q ≠ 16 → I' q j = I q j := by
  have hn := hS.1.2
  refine sl (fun f i (s : aI) => LX8_catchOf_66 k f x1 x2 (nI i) s J) 36 (fun i s => (∀ j, j < i → s 16 j = bN (Dc (σ 0 3) (nxt (σ 10)) (t + 1) (j / 6) (j % 6))) ∧ ∀ q j, q ≠ 16 → s q j = I q j)
    (fun r => ∃ I', r = k x1 (x2 + 1) I' J ∧ (∀ j, j < 36 → I' 15 j = bN (Dc (σ 0 3) (nxt (σ 10)) (t + 1) (j / 6) (j % 6))) ∧ ∀ q j, q ≠ 15 → q ≠ 16 → I' q j = I q j) ?_ ?_ (f0 := 128) (by decide) I ⟨fun j hj => absurd hj (Nat.not_lt_zero j), fun _ _ _ => rfl⟩
  · rintro f i s hi ⟨g1, g2⟩
    have hMs : RM σ s := hM.keep (fun q j hr => g2 q j (fun z => by subst z; simp [rs] at hr)) (g2 0 30 (by decide))
    have hin : inb (nI i) 36 = true := inb_nI hi (by decide)
    have c : (nI i).toNatClampNeg = i := nI_clamp (by omega)
    obtain ⟨e1, e2⟩ := d6 hi
    have h15' : ∀ j, j < 36 → s 15 j = bN (Dc (σ 0 3) (nxt (σ 10)) t (j / 6) (j % 6)) := fun j hj => by rw [g2 15 j (by decide)]; exact h15 j hj
    refine ⟨pI s 16 i (bN (Dc (σ 0 3) (nxt (σ 10)) (t + 1) (i / 6) (i % 6))), ?_, fun j hj => ?_, fun q j hq => by rw [pI_ro _ hq]; exact g2 q j hq⟩
    · show HX8_catchOf_66 _ _ _ _ _ _ _ = _
      unfold HX8_catchOf_66 BX8_catchOf_98 BX8_catchOf_99 BX8_catchOf_136 BX8_catchOf_140 BX8_catchOf_141
      rw [if_neg (show ¬ (36 : Int32) ≤ nI i from nI_ge (b := 36) hi (by decide)), hMs.g 0 3 rfl, e1, e2, c, gd_t hin, gd_t hin, gd_t hin, gd_t hin, h15' i hi, nI_1]
      have l1 : nI (σ 0 3) ≤ nI (i / 6) ↔ σ 0 3 ≤ i / 6 := nI_leI (by omega) (by omega)
      have l2 : nI (σ 0 3) ≤ nI (i % 6) ↔ σ 0 3 ≤ i % 6 := nI_leI (by omega) (by omega)
      simp only [l1, l2, bN_1]
      by_cases a1 : σ 0 3 ≤ i / 6
      · have d0 : ∀ u, Dc (σ 0 3) (nxt (σ 10)) u (i / 6) (i % 6) = decide (i / 6 = i % 6) := fun u => by unfold Dc; rw [if_neg (by omega)]
        rw [if_pos a1, d0, d0]
        cases decide (i / 6 = i % 6) <;> rfl
      · rw [if_neg a1]
        by_cases a2 : σ 0 3 ≤ i % 6
        · have d0 : ∀ u, Dc (σ 0 3) (nxt (σ 10)) u (i / 6) (i % 6) = decide (i / 6 = i % 6) := fun u => by unfold Dc; rw [if_neg (by omega)]
          rw [if_pos a2, d0, d0]
          cases decide (i / 6 = i % 6) <;> rfl
        · rw [if_neg a2, if_neg (show ¬ (1 : Int32) = 0 from ne10), Dc_s (by omega) (by omega), bnd_t (isSure_eq hS hMs J (by omega) (by omega) (Dc (σ 0 3) (nxt (σ 10)) t) (fun a ha h hh => by
            rw [h15' _ (by omega), show (6 * a + h) / 6 = a by omega, show (6 * a + h) % 6 = h by omega])), gd_t hin, gd_t hin]
          cases Dc (σ 0 3) (nxt (σ 10)) t (i / 6) (i % 6) <;> cases allB (σ 0 3) (fun to => !nxt (σ 10) (i / 6) to || anyB (σ 0 3) (fun h => nxt (σ 10) (i % 6) h && Dc (σ 0 3) (nxt (σ 10)) t to h)) <;> rfl
    · rw [pI_g]
      by_cases z : j = i
      · rw [if_pos ⟨rfl, z⟩, z]
      · rw [if_neg (fun w => z w.2)]; exact g1 j (by omega)
  · rintro f s ⟨g1, g2⟩
    obtain ⟨I', a1, b1⟩ := copy8 (e0 := 16) (e1 := 15) (n := 36) (by decide) (by decide) s J
    refine ⟨I', ?_, fun j hj => by rw [b1, if_pos ⟨rfl, hj⟩]; exact g1 j hj, fun q j h1 h2 => by rw [b1, if_neg (fun w => h1 w.1)]; exact g2 q j h2⟩
    show HX8_catchOf_66 _ _ _ _ _ _ _ = _
    unfold HX8_catchOf_66
    rw [if_pos (show (36 : Int32) ≤ nI 36 from by decide), bnd_t a1]
theorem catchOf_eq {σ : sN} {I : aI} (hS : Sub σ) (hM : RM σ I) (J : aJ) {f : Nat} (hf : f < σ 0 3) : ∃ I', fX8_catchOf (nI f) I J = some (ctI (σ 0 3) (σ 10) (σ 0 6) f, I', J) ∧ ∀ q j, q ≠ 15 → q ≠ 16 → I' q j = I q j := by
  have hn := hS.1.2
  have hv := hS.2.2.2.1
  have key : ∀ (m t g : Nat) (s : aI), t + m = 41 → m < g → (∀ j, j < 36 → s 15 j = bN (Dc (σ 0 3) (nxt (σ 10)) t (j / 6) (j % 6))) → (∀ q j, q ≠ 15 → q ≠ 16 → s q j = I q j) →
      ∃ I', LX8_catchOf_38 g (nI f) (nI t) s J = some (lst (fun t => cgt (σ 0 3) (nxt (σ 10)) t (σ 0 6) f) m t, I', J) ∧ ∀ q j, q ≠ 15 → q ≠ 16 → I' q j = I q j := by
    intro m
    induction m with
    | zero =>
      intro t g s ht hg h15 hk
      obtain ⟨g, rfl⟩ : ∃ z, g = z + 1 := ⟨g - 1, by omega⟩
      refine ⟨s, ?_, hk⟩
      show HX8_catchOf_38 _ _ _ _ _ = _
      unfold HX8_catchOf_38
      rw [if_pos (show (41 : Int32) ≤ nI t from nI_le (a := 41) (by omega) (by omega))]
      rfl
    | succ m ih =>
      intro t g s ht hg h15 hk
      obtain ⟨g, rfl⟩ : ∃ z, g = z + 1 := ⟨g - 1, by omega⟩
      have hMs : RM σ s := hM.keep (fun q j hr => hk q j (fun z => by subst z; simp [rs] at hr) (fun z => by subst z; simp [rs] at hr)) (hk 0 30 (by decide) (by decide))
      obtain ⟨e1, e2, e3⟩ := i6 (a := σ 0 6) (b := f) (by omega) (by omega)
      obtain ⟨I1, a1, a2, a3⟩ := catch66 hS hMs J t (LX8_catchOf_38 g) (nI f) (nI t) h15
      have hD : s 15 (6 * σ 0 6 + f) = bN (cgt (σ 0 3) (nxt (σ 10)) t (σ 0 6) f) := by
        rw [h15 _ (by omega), show (6 * σ 0 6 + f) / 6 = σ 0 6 by omega, show (6 * σ 0 6 + f) % 6 = f by omega]
        unfold Dc
        rw [if_pos ⟨hv, hf⟩]
      have hh : LX8_catchOf_38 (g + 1) (nI f) (nI t) s J = if cgt (σ 0 3) (nxt (σ 10)) t (σ 0 6) f = true then some (nI t, s, J) else LX8_catchOf_38 g (nI f) (nI (t + 1)) I1 J := by
        show HX8_catchOf_38 _ _ _ _ _ = _
        unfold HX8_catchOf_38
        rw [if_neg (show ¬ (41 : Int32) ≤ nI t from nI_ge (b := 41) (by omega) (by decide)), hMs.g 0 6 rfl, e1, gd_t e2, e3, hD, a1, nI_1]
        cases cgt (σ 0 3) (nxt (σ 10)) t (σ 0 6) f <;> rfl
      rw [hh]
      show ∃ I', _ = some ((if cgt (σ 0 3) (nxt (σ 10)) t (σ 0 6) f = true then nI t else lst (fun t => cgt (σ 0 3) (nxt (σ 10)) t (σ 0 6) f) m (t + 1)), I', J) ∧ _
      by_cases z : cgt (σ 0 3) (nxt (σ 10)) t (σ 0 6) f = true
      · rw [if_pos z, if_pos z]
        exact ⟨s, rfl, hk⟩
      · rw [if_neg z, if_neg z]
        exact ih (t + 1) g I1 (by omega) (by omega) a2 (fun q j h1 h2 => by rw [a3 q j h1 h2]; exact hk q j h1 h2)
  refine sl (fun q i (s : aI) => LX8_catchOf_2 q (nI f) (nI i) s J) 36 (fun i s => (∀ j, j < i → s 15 j = bN (decide (j / 6 = j % 6))) ∧ ∀ q j, q ≠ 15 → s q j = I q j)
    (fun r => ∃ I', r = some (ctI (σ 0 3) (σ 10) (σ 0 6) f, I', J) ∧ ∀ q j, q ≠ 15 → q ≠ 16 → I' q j = I q j) ?_ ?_ (f0 := 128) (by decide) I ⟨fun j hj => absurd hj (Nat.not_lt_zero j), fun _ _ _ => rfl⟩
  · rintro g i s hi ⟨g1, g2⟩
    obtain ⟨e1, e2⟩ := d6 hi
    refine ⟨pI s 15 i (bN (decide (i / 6 = i % 6))), ?_, fun j hj => ?_, fun q j hq => by rw [pI_ro _ hq]; exact g2 q j hq⟩
    · show HX8_catchOf_2 _ _ _ _ _ = _
      unfold HX8_catchOf_2 BX8_catchOf_29
      rw [if_neg (show ¬ (36 : Int32) ≤ nI i from nI_ge (b := 36) hi (by decide)), e1, e2, gd_t (inb_nI hi (by decide)), gd_t (inb_nI hi (by decide)), nI_clamp (by omega), nI_1]
      have l1 : nI (i / 6) = nI (i % 6) ↔ i / 6 = i % 6 := nI_eq (by omega) (by omega)
      simp only [l1]
      by_cases z : i / 6 = i % 6
      · rw [if_pos z]; simp [z, bN]
      · rw [if_neg z]; simp [z, bN]
    · rw [pI_g]
      by_cases z : j = i
      · rw [if_pos ⟨rfl, z⟩, z]
      · rw [if_neg (fun w => z w.2)]; exact g1 j (by omega)
  · rintro g s ⟨g1, g2⟩
    show ∃ I', HX8_catchOf_2 _ _ _ _ _ = _ ∧ _
    unfold HX8_catchOf_2
    rw [if_pos (show (36 : Int32) ≤ nI 36 from by decide)]
    refine key 41 0 128 s (by omega) (by omega) (fun j hj => ?_) (fun q j h1 h2 => g2 q j h1)
    rw [g1 j hj]
    congr 1
    unfold Dc
    split
    · show decide (j / 6 = j % 6) = (j / 6 == j % 6)
      rfl
    · rfl
theorem corner_eq {t : Nat} {σ : sN} {Ic Im : aI} (hG : Good t σ) (hM : RM σ Im) (hC : RC σ Ic) (Jc Jm : aJ) {a : Nat} (ha : a < σ 0 3) (x2 : Int32) : ∃ (r : Int32) (Im' : aI), fX7_corner (nI a) x2 Ic Jc = some (r, Ic, Jc) ∧ fX8_tellCorner (nI a) x2 Im Jm = some (r, Im', Jm) ∧ RM σ Im' := by
  have hp := hG.p
  obtain ⟨h8, hS⟩ := hG.sub (Or.inl (by omega))
  obtain ⟨s1, s2, s3, s4, s5, s6, s7, s8, s9, s10, s11⟩ := id hS
  have hE := hC.2.2.2.2.1
  have hin : inb (nI a) 6 = true := inb_nI (by omega) (by decide)
  have c : (nI a).toNatClampNeg = a := nI_clamp (by omega)
  have hvn : inb (nI (σ 0 6)) 6 = true := inb_nI (by omega) (by decide)
  have cv : (nI (σ 0 6)).toNatClampNeg = σ 0 6 := nI_clamp (by omega)
  have hT := hC.2.2.2.2.2.2.2
  unfold fX8_tellCorner fX7_corner
  rw [bnd_t (isC7 _ Ic Jc), hC.2.2.1.1, rg_t ((rg_n (by omega) _).mpr ⟨a, ha, rfl⟩), if_neg ne10, bnd_t (isWithin_eq _ _ _ _ _), gd_t hin, gd_t hin, gd_t hin, hE.1, gd_t hvn, gd_t hvn, c, cv]
  rcases ix2 x2 3 (by decide) with h2 | ⟨w, hw, rfl, h2⟩
  · have n0 : ¬ x2 = 0 := fun z => by subst z; exact absurd h2 (by decide)
    have n1 : ¬ x2 = 1 := fun z => by subst z; exact absurd h2 (by decide)
    have n2 : ¬ x2 = 2 := fun z => by subst z; exact absurd h2 (by decide)
    have n3 : ¬ x2 = 3 := fun z => by subst z; exact absurd h2 (by decide)
    rw [show rg x2 0 3 = 0 from h2, if_pos rfl, if_neg n0, if_neg n1, if_neg n2, if_neg n3]
    exact ⟨-102, Im, rfl, rfl, hM⟩
  rw [show rg (nI w) 0 3 = 1 from h2, if_neg ne10]
  rcases (show w = 0 ∨ w = 1 ∨ w = 2 ∨ w = 3 by omega) with rfl | rfl | rfl | rfl
  · rw [if_pos (show nI 0 = 0 from rfl), if_pos (show nI 0 = 0 from rfl), (hT a ha).1, reach_self hS ha, bnd_t (nextTo_eq hM Jm hp.1 ha (fun b hb => s9.le ha hb))]
    exact ⟨_, Im, rfl, rfl, hM⟩
  · rw [if_neg (show ¬ nI 1 = 0 by decide), if_neg (show ¬ nI 1 = 0 by decide), if_pos (show nI 1 = 1 from rfl), if_pos (show nI 1 = 1 from rfl), bnd_t (whoAt_eq (pl := σ 5) hp.2.2.1 (by omega) (fun j hj => by have := s7 j hj; omega) Jm (hM.g 0 5 rfl) (fun j hj => hM.g 5 j (by simp [rs]; omega))), bnd_t (whoLives_eq (pl := σ 5) hp.2.2.1 (by omega) (fun j hj => by have := s7 j hj; omega) Jc hC.2.2.2.1.1 (fun j hj => (hC.2.2.2.1.2 j (by omega)).1))]
    exact ⟨_, Im, rfl, rfl, hM⟩
  · rw [if_neg (show ¬ nI 2 = 0 by decide), if_neg (show ¬ nI 2 = 0 by decide), if_neg (show ¬ nI 2 = 1 by decide), if_neg (show ¬ nI 2 = 1 by decide), if_pos (show nI 2 = 2 from rfl), if_pos (show nI 2 = 2 from rfl), hM.g 0 6 rfl, bnd_t (farOf_eq hM Jm (by omega) (by omega) (s9.le ha s4)), show 8 + 1 + a = 9 + a from rfl, ((hT a ha).2.2 _ s4).1]
    exact ⟨_, Im, rfl, rfl, hM⟩
  · obtain ⟨I', a1, a2⟩ := catchOf_eq hS hM Jm ha
    rw [if_neg (show ¬ nI 3 = 0 by decide), if_neg (show ¬ nI 3 = 0 by decide), if_neg (show ¬ nI 3 = 1 by decide), if_neg (show ¬ nI 3 = 1 by decide), if_neg (show ¬ nI 3 = 2 by decide), if_neg (show ¬ nI 3 = 2 by decide), if_pos (show nI 3 = 3 from rfl), bnd_t a1, show 15 + 1 + σ 0 6 = 16 + σ 0 6 from rfl, ((hT _ s4).2.2 a ha).2]
    exact ⟨_, I', rfl, rfl, hM.keep (fun q j hr => a2 q j (fun z => by subst z; simp [rs] at hr) (fun z => by subst z; simp [rs] at hr)) (a2 0 30 (by decide) (by decide))⟩
theorem b_corner : ∀ (t : Nat) (Ic : aI) (Jc : aJ) (Im : aI) (Jm : aJ), t < 64 → Rel t Ic Jc Im Jm → ∀ x1 x2 : Int32, ∃ (r : Int32) (Ic' : aI) (Jc' : aJ) (Im' : aI) (Jm' : aJ), fX7_corner x1 x2 Ic Jc = some (r, Ic', Jc') ∧ fX8_corner x1 x2 Im Jm = some (r, Im', Jm') ∧ Rel (t + 1) Ic' Jc' Im' Jm' := by
  intro t Ic Jc Im Jm _ hR x1 x2
  obtain ⟨σ, hG, hM, hC⟩ := id hR
  have hR1 := Rel_skip _ _ _ _ _ hR
  have hp := hG.p
  rcases ix (p := σ 0 3) (by omega) x1 with h | ⟨a, ha, rfl, h⟩
  · unfold fX7_corner fX8_corner BX8_corner_19
    rw [bnd_t (isC7 x1 Ic Jc), bnd_t (isC8 x1 Im Jm), hC.2.2.1.1, hM.g 0 3 rfl, h, if_pos rfl, if_pos rfl]
    exact ⟨-101, Ic, Jc, Im, Jm, rfl, rfl, hR1⟩
  obtain ⟨r, Im', a1, a2, a3⟩ := corner_eq hG hM hC Jc Jm ha x2
  refine ⟨r, Ic, Jc, Im', Jm, a1, ?_, σ, hG.mono, a3, hC⟩
  unfold fX8_corner BX8_corner_19
  rw [bnd_t (isC8 _ Im Jm), hM.g 0 3 rfl, h, if_neg ne10, bnd_t a2]
