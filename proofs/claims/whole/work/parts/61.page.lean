/-! the page, letter by letter -/
def cLet (q : Nat → Nat) (x : Nat) : Bool := decide (48 ≤ q x ∧ q x < q 0)
def dLet (q : Nat → Nat) (x : Nat) : Bool := decide (48 ≤ q x ∧ q x ≤ 57)
def kdN (c : Nat) : Nat := if c = 112 then 0 else if c = 116 then 1 else if c = 99 then 2 else if c = 104 then 3 else if c = 100 then 4 else 5
def kdI (c : Nat) : Int32 := if c = 112 then 0 else if c = 116 then 1 else if c = 99 then 2 else if c = 104 then 3 else if c = 100 then 4 else -1
def okR (q : Nat → Nat) (x : Nat) : Bool := if (x - 3) % 3 = 0 then cLet q x else if (x - 3) % 3 = 1 then cLet q x && decide (q x ≠ q (x - 1)) else if q x = 59 then true else decide (q x = 44) && decide (x - 3 < 23)
def okP (q : Nat → Nat) (sm x : Nat) : Bool := if (x - sm - 1) % 5 = 0 then decide (kdN (q x) < 5) else if (x - sm - 1) % 5 = 1 then cLet q x else if (x - sm - 1) % 5 = 4 then decide (q x = 44) && decide (x - sm - 1 < 29) else dLet q x
def okL (q : Nat → Nat) (sm x : Nat) : Bool := if x = 0 then decide (50 ≤ q 0 ∧ q 0 ≤ 54) else if x = 1 then cLet q 1 else if x = 2 then decide (q 2 = 59) else if sm = 0 then okR q x else okP q sm x
def smS (q : Nat → Nat) (sm x : Nat) : Nat := if 3 ≤ x ∧ sm = 0 ∧ (x - 3) % 3 = 2 ∧ q x = 59 then x else sm
def smAt (q : Nat → Nat) : Nat → Nat
  | 0 => 0
  | x + 1 => smS q (smAt q x) x
def fl (q : Nat → Nat) : Nat → Nat → Nat
  | 0, x => x
  | m + 1, x => if okL q (smAt q x) x = true then fl q m (x + 1) else x
theorem fl_ge (q : Nat → Nat) : ∀ m x, x ≤ fl q m x ∧ fl q m x ≤ x + m
  | 0, x => ⟨Nat.le_refl _, Nat.le_refl _⟩
  | m + 1, x => by
    have := fl_ge q m (x + 1)
    show x ≤ (if okL q (smAt q x) x = true then fl q m (x + 1) else x) ∧ (if okL q (smAt q x) x = true then fl q m (x + 1) else x) ≤ _
    split <;> omega
theorem smAt_lt (q : Nat → Nat) : ∀ x, smAt q x ≠ 0 → 3 ≤ smAt q x ∧ smAt q x < x ∧ (smAt q x - 3) % 3 = 2
  | 0, h => absurd rfl h
  | x + 1, h => by
    have ih := smAt_lt q x
    show 3 ≤ smS q (smAt q x) x ∧ smS q (smAt q x) x < x + 1 ∧ (smS q (smAt q x) x - 3) % 3 = 2
    have h : smS q (smAt q x) x ≠ 0 := h
    unfold smS at h ⊢
    by_cases c : 3 ≤ x ∧ smAt q x = 0 ∧ (x - 3) % 3 = 2 ∧ q x = 59
    · rw [if_pos c]; omega
    · rw [if_neg c] at h ⊢
      have := ih h
      omega
theorem rg_i {x lo hi : Int32} {a b c : Int} {P : Prop} [Decidable P] (hx : x.toInt = a) (hl : lo.toInt = b) (hh : hi.toInt = c) (h : (b ≤ a ∧ a ≤ c) ↔ P) : rg x lo hi = bN (decide P) := by
  unfold rg
  have e : (lo ≤ x ∧ x ≤ hi) ↔ P := by rw [Int32.le_iff_toInt_le, Int32.le_iff_toInt_le, hx, hl, hh]; exact h
  by_cases p : P
  · rw [if_pos (e.mpr p)]; simp [p, bN]
  · rw [if_neg (fun z => p (e.mp z))]; simp [p, bN]
theorem ti_sub {a b : Nat} (ha : a < 1000) (hb : b < 1000) : (nI a - nI b).toInt = (a : Int) - b := pk_sub_toInt (by omega) (by omega)
theorem isCL8 {q : Nat → Nat} {x : Nat} {I : aI} (J : aJ) (h0 : I 1 0 = nI (q 0)) (hq0 : q 0 < 200) (hx : q x < 200) : fX8_isCornerLetter (nI (q x)) I J = some (bN (cLet q x), I, J) := by
  unfold fX8_isCornerLetter
  rw [tc0, h0, bnd_t (in_rg _ 48 (nI (q 0) - 1) 48 _ rfl (Int32.toInt_toInt64 _) _ _), rg_i (P := 48 ≤ q x ∧ q x < q 0) (nI_toInt (by omega)) (show (48 : Int32).toInt = 48 from rfl) (show (nI (q 0) - 1).toInt = (q 0 : Int) - 1 from ti_sub (b := 1) (by omega) (by omega)) (by omega), gd_t (bN_ok _)]
  rfl
theorem in57 {q : Nat → Nat} {x : Nat} (I : aI) (J : aJ) (hx : q x < 200) : fX8_in (nI (q x)).toInt64 48 57 I J = some (bN (dLet q x), I, J) := by
  rw [in_rg _ 48 57 48 57 rfl rfl, rg_i (P := 48 ≤ q x ∧ q x ≤ 57) (nI_toInt (by omega)) (show (48 : Int32).toInt = 48 from rfl) (show (57 : Int32).toInt = 57 from rfl) (by omega)]
  rfl
theorem kindBy_eq {c : Nat} (hc : c < 200) (I : aI) (J : aJ) : fX8_kindBy (nI c) I J = some (kdI c, I, J) := by
  unfold fX8_kindBy kdI
  have e : ∀ k, k < 200 → (nI c = nI k ↔ c = k) := fun k hk => nI_eq (by omega) (by omega)
  have e1 : nI c = 99 ↔ c = 99 := e 99 (by decide)
  have e2 : nI c = 100 ↔ c = 100 := e 100 (by decide)
  have e3 : nI c = 104 ↔ c = 104 := e 104 (by decide)
  have e4 : nI c = 112 ↔ c = 112 := e 112 (by decide)
  have e5 : nI c = 116 ↔ c = 116 := e 116 (by decide)
  simp only [e1, e2, e3, e4, e5]
  by_cases c1 : c = 99
  · subst c1; rfl
  by_cases c2 : c = 100
  · subst c2; rfl
  by_cases c3 : c = 104
  · subst c3; rfl
  by_cases c4 : c = 112
  · subst c4; rfl
  by_cases c5 : c = 116
  · subst c5; rfl
  simp [c1, c2, c3, c4, c5]
theorem kdI_m {c : Nat} : kdI c = -1 ↔ ¬ kdN c < 5 := by
  unfold kdI kdN
  split
  · decide
  split
  · decide
  split
  · decide
  split
  · decide
  split
  · decide
  · decide
theorem road8 {q : Nat → Nat} {x : Nat} {s : aI} (J : aJ) (hx3 : 3 ≤ x) (hx : x < 60) (hq : ∀ j, j ≤ x → q j < 200) (h1 : ∀ j, j ≤ x → s 1 j = nI (q j)) (h2 : s 0 2 = 0) :
    ∃ s', fX8_isRoadLetter (nI x) s J = some (bN (okR q x), s', J) ∧ s' 0 2 = nI (smS q 0 x) ∧ ∀ k j, ¬ (k = 0 ∧ j = 2) → s' k j = s k j := by
  have hin : inb (nI x) 60 = true := inb_nI hx (by decide)
  have c : (nI x).toNatClampNeg = x := nI_clamp (by omega)
  unfold fX8_isRoadLetter BX8_isRoadLetter_70 BX8_isRoadLetter_71 BX8_isRoadLetter_101 BX8_isRoadLetter_102 okR
  rw [gd_t hin, show nI x - 3 = nI (x - 3) from pk_sub (b := 3) hx3, show nI x - 1 = nI (x - 1) from pk_sub (b := 1) (by omega), show nI (x - 3) - nI (x - 3) / 3 * 3 = nI ((x - 3) % 3) from pk_rem (d := 3) (by omega) (by decide) (by decide), c, nI_clamp (show x - 1 < 2 ^ 31 by omega), h1 x (Nat.le_refl x), bnd_t (isCL8 J (h1 0 (by omega)) (hq 0 (by omega)) (hq x (Nat.le_refl x))), bnd_t (isCL8 J (h1 0 (by omega)) (hq 0 (by omega)) (hq x (Nat.le_refl x))), gd_t (inb_nI (show x - 1 < 60 by omega) (by decide)), h1 (x - 1) (by omega)]
  have hqx := hq x (Nat.le_refl x)
  have hqy := hq (x - 1) (by omega)
  have e0 : nI ((x - 3) % 3) = 0 ↔ (x - 3) % 3 = 0 := nI_eq (b := 0) (by omega) (by decide)
  have e1 : nI ((x - 3) % 3) = 1 ↔ (x - 3) % 3 = 1 := nI_eq (b := 1) (by omega) (by decide)
  have e2 : nI (q x) = nI (q (x - 1)) ↔ q x = q (x - 1) := nI_eq (by omega) (by omega)
  have e3 : nI (q x) = 59 ↔ q x = 59 := nI_eq (b := 59) (by omega) (by decide)
  have e4 : nI (q x) = 44 ↔ q x = 44 := nI_eq (b := 44) (by omega) (by decide)
  have e5 : (23 : Int32) ≤ nI (x - 3) ↔ 23 ≤ x - 3 := nI_leI (a := 23) (by decide) (by omega)
  simp only [e0, e1, e2, e3, e4, e5]
  have same : ∀ v, smS q 0 x = 0 → v = nI (smS q 0 x) → s 0 2 = v := fun v z w => by rw [w, z, h2]; rfl
  by_cases r0 : (x - 3) % 3 = 0
  · have z : smS q 0 x = 0 := by unfold smS; rw [if_neg (by omega)]
    rw [if_pos r0, if_pos r0, gd_t (bN_ok _)]
    exact ⟨s, rfl, same _ z rfl, fun _ _ _ => rfl⟩
  rw [if_neg r0, if_neg r0]
  by_cases r1 : (x - 3) % 3 = 1
  · have z : smS q 0 x = 0 := by unfold smS; rw [if_neg (by omega)]
    rw [if_pos r1, if_pos r1]
    refine ⟨s, ?_, same _ z rfl, fun _ _ _ => rfl⟩
    cases cLet q x
    · rfl
    · rw [if_neg (show ¬ bN true = 0 by decide)]
      by_cases w : q x = q (x - 1)
      · rw [if_pos w]; simp [w, bN, gd]
      · rw [if_neg w]; simp [w, bN, gd]
  rw [if_neg r1, if_neg r1]
  by_cases w : q x = 59
  · rw [if_pos w, if_pos w]
    refine ⟨pI s 0 2 (nI x), rfl, ?_, fun k j h => by rw [pI_g, if_neg h]⟩
    rw [pI_g, if_pos ⟨rfl, rfl⟩]
    unfold smS
    rw [if_pos ⟨hx3, rfl, by omega, w⟩]
  · have z : smS q 0 x = 0 := by unfold smS; rw [if_neg (fun y => w y.2.2.2)]
    rw [if_neg w, if_neg w]
    refine ⟨s, ?_, same _ z rfl, fun _ _ _ => rfl⟩
    by_cases w2 : q x = 44
    · rw [if_pos w2]
      by_cases w3 : 23 ≤ x - 3
      · rw [if_pos w3]; simp [w2, bN, gd]; omega
      · rw [if_neg w3]; simp [w2, bN, gd]; omega
    · rw [if_neg w2]; simp [w2, bN, gd]
theorem person8 {q : Nat → Nat} {sm x : Nat} {s : aI} (J : aJ) (h0 : 3 ≤ sm) (hsx : sm < x) (hx : x < 60) (hq : ∀ j, j ≤ x → q j < 200) (h1 : ∀ j, j ≤ x → s 1 j = nI (q j)) (h2 : s 0 2 = nI sm) : fX8_isPersonLetter (nI x) s J = some (bN (okP q sm x), s, J) := by
  have hin : inb (nI x) 60 = true := inb_nI hx (by decide)
  have c : (nI x).toNatClampNeg = x := nI_clamp (by omega)
  have hqx := hq x (Nat.le_refl x)
  have hm : (x - sm - 1) % 5 < 5 := Nat.mod_lt _ (by decide)
  unfold fX8_isPersonLetter BX8_isPersonLetter_65 BX8_isPersonLetter_88 BX8_isPersonLetter_89 okP
  rw [gd_t hin, h2, pk_sub (show sm ≤ x by omega), show nI (x - sm) - 1 = nI (x - sm - 1) from pk_sub (b := 1) (by omega), show nI (x - sm - 1) - nI (x - sm - 1) / 5 * 5 = nI ((x - sm - 1) % 5) from pk_rem (d := 5) (by omega) (by decide) (by decide), c, h1 x (Nat.le_refl x), bnd_t (kindBy_eq hqx s J), bnd_t (isCL8 J (h1 0 (by omega)) (hq 0 (by omega)) hqx), bnd_t (in57 s J hqx)]
  generalize (x - sm - 1) % 5 = r at *
  have e : ∀ k, k < 5 → (nI r = nI k ↔ r = k) := fun k hk => nI_eq (by omega) (by omega)
  have e0 : nI r = 0 ↔ r = 0 := e 0 (by decide)
  have e1 : nI r = 1 ↔ r = 1 := e 1 (by decide)
  have e2 : nI r = 2 ↔ r = 2 := e 2 (by decide)
  have e3 : nI r = 3 ↔ r = 3 := e 3 (by decide)
  have e4 : nI r = 4 ↔ r = 4 := e 4 (by decide)
  have e5 : nI (q x) = 44 ↔ q x = 44 := nI_eq (b := 44) (by omega) (by decide)
  have e6 : (29 : Int32) ≤ nI (x - sm - 1) ↔ 29 ≤ x - sm - 1 := nI_leI (a := 29) (by decide) (by omega)
  simp only [e0, e1, e2, e3, e4, e5, e6, kdI_m]
  by_cases r0 : r = 0
  · rw [if_pos r0, if_pos r0]
    by_cases w : kdN (q x) < 5
    · simp [w, bN, gd]
    · simp [w, bN, gd]
  rw [if_neg r0, if_neg r0]
  by_cases r1 : r = 1
  · rw [if_pos r1, if_pos r1, gd_t (bN_ok _)]
  rw [if_neg r1, if_neg r1]
  by_cases r2 : r = 2
  · rw [if_pos r2, if_neg (show ¬ r = 4 by omega), gd_t (bN_ok _)]
  rw [if_neg r2]
  by_cases r3 : r = 3
  · rw [if_pos r3, if_neg (show ¬ r = 4 by omega), gd_t (bN_ok _)]
  have r4 : r = 4 := by omega
  rw [if_neg r3, if_pos r4, if_pos r4]
  by_cases w2 : q x = 44
  · rw [if_pos w2]
    by_cases w3 : 29 ≤ x - sm - 1
    · rw [if_pos w3]; simp [w2, bN, gd]; omega
    · rw [if_neg w3]; simp [w2, bN, gd]; omega
  · rw [if_neg w2]; simp [w2, bN, gd]
theorem isGood8 {q : Nat → Nat} {x : Nat} {s : aI} (J : aJ) (hx : x < 60) (hq : ∀ j, j ≤ x → q j < 200) (h1 : ∀ j, j ≤ x → s 1 j = nI (q j)) (h2 : s 0 2 = nI (smAt q x)) :
    ∃ s', fX8_isGood (nI x) s J = some (bN (okL q (smAt q x) x), s', J) ∧ s' 0 2 = nI (smAt q (x + 1)) ∧ ∀ k j, ¬ (k = 0 ∧ j = 2) → s' k j = s k j := by
  have hs := smAt_lt q x
  unfold fX8_isGood BX8_isGood_62 BX8_isGood_83 okL
  by_cases x3 : 3 ≤ x
  · rw [if_pos (show (3 : Int32) ≤ nI x from nI_le (a := 3) x3 (by omega)), if_neg (show ¬ x = 0 by omega), if_neg (show ¬ x = 1 by omega), if_neg (show ¬ x = 2 by omega), h2]
    by_cases z : smAt q x = 0
    · obtain ⟨s', a1, a2, a3⟩ := road8 J x3 hx hq h1 (by rw [h2, z]; rfl)
      rw [if_pos (show nI (smAt q x) = 0 by rw [z]; rfl), if_pos z, bnd_t a1, gd_t (bN_ok _)]
      refine ⟨s', rfl, ?_, a3⟩
      rw [a2]
      show nI (smS q 0 x) = nI (smS q (smAt q x) x)
      rw [z]
    · have hz := hs z
      rw [if_neg (nI_ne0 (by omega) (by omega)), if_neg z, bnd_t (person8 J hz.1 hz.2.1 hx hq h1 h2), gd_t (bN_ok _)]
      refine ⟨s, rfl, ?_, fun _ _ _ => rfl⟩
      rw [h2]
      show nI (smAt q x) = nI (smS q (smAt q x) x)
      unfold smS
      rw [if_neg (fun y => z y.2.1)]
  · have keep : s 0 2 = nI (smAt q (x + 1)) := by
      rw [h2]
      show nI (smAt q x) = nI (smS q (smAt q x) x)
      unfold smS
      rw [if_neg (fun y => x3 y.1)]
    rw [if_neg (show ¬ (3 : Int32) ≤ nI x from nI_ge (b := 3) (by omega) (by decide))]
    rcases (show x = 0 ∨ x = 1 ∨ x = 2 by omega) with rfl | rfl | rfl
    · have hq0 := hq 0 (Nat.le_refl 0)
      rw [if_pos (show nI 0 = 0 from rfl), if_pos rfl, tc0, h1 0 (Nat.le_refl 0), bnd_t (in_rg _ 50 54 50 54 rfl rfl _ _), rg_i (P := 50 ≤ q 0 ∧ q 0 ≤ 54) (nI_toInt (by omega)) (show (50 : Int32).toInt = 50 from rfl) (show (54 : Int32).toInt = 54 from rfl) (by omega), gd_t (bN_ok _)]
      exact ⟨s, rfl, keep, fun _ _ _ => rfl⟩
    · rw [if_neg (show ¬ nI 1 = 0 by decide), if_pos (show nI 1 = 1 from rfl), if_neg (show ¬ 1 = 0 by decide), if_pos rfl, show (1 : Int32).toNatClampNeg = 1 from rfl, h1 1 (Nat.le_refl 1), bnd_t (isCL8 J (h1 0 (by omega)) (hq 0 (by omega)) (hq 1 (Nat.le_refl 1))), gd_t (bN_ok _)]
      exact ⟨s, rfl, keep, fun _ _ _ => rfl⟩
    · have hq2 := hq 2 (Nat.le_refl 2)
      have e : nI (q 2) = 59 ↔ q 2 = 59 := nI_eq (b := 59) (by omega) (by decide)
      rw [if_neg (show ¬ nI 2 = 0 by decide), if_neg (show ¬ nI 2 = 1 by decide), if_neg (show ¬ 2 = 0 by decide), if_neg (show ¬ 2 = 1 by decide), if_pos rfl, show (2 : Int32).toNatClampNeg = 2 from rfl, h1 2 (Nat.le_refl 2)]
      refine ⟨s, ?_, keep, fun _ _ _ => rfl⟩
      by_cases w : q 2 = 59
      · rw [if_pos (e.mpr w)]; simp [w, bN, gd]
      · rw [if_neg (fun y => w (e.mp y))]; simp [w, bN, gd]
theorem faultOf_eq {q : Nat → Nat} {N : Nat} (hN : N ≤ 60) (hq : ∀ j, j < N → q j < 200) {I : aI} (J : aJ) (h01 : I 0 1 = nI N) (h1 : ∀ j, j < N → I 1 j = nI (q j)) :
    ∃ I', fX8_faultOf I J = some (nI (fl q N 0), I', J) ∧ (fl q N 0 = N → I' 0 2 = nI (smAt q N)) ∧ ∀ k j, ¬ (k = 0 ∧ j = 2) → I' k j = I k j := by
  have key : ∀ (m x f : Nat) (s : aI), x + m = N → m < f → s 0 2 = nI (smAt q x) → (∀ k j, ¬ (k = 0 ∧ j = 2) → s k j = I k j) → ∃ I', LX8_faultOf_7 f (nI x) s J = some (nI (fl q m x), I', J) ∧ (fl q m x = N → I' 0 2 = nI (smAt q N)) ∧ ∀ k j, ¬ (k = 0 ∧ j = 2) → I' k j = I k j := by
    intro m
    induction m with
    | zero =>
      intro x f s hx hf h2 hk
      obtain ⟨f, rfl⟩ : ∃ z, f = z + 1 := ⟨f - 1, by omega⟩
      have e : x = N := by omega
      subst e
      refine ⟨s, ?_, fun _ => h2, hk⟩
      show HX8_faultOf_7 _ _ _ _ = _
      unfold HX8_faultOf_7 BX8_faultOf_29
      rw [hk 0 1 (by omega), h01, if_pos (nI_le (by omega) (by omega))]
      rfl
    | succ m ih =>
      intro x f s hx hf h2 hk
      obtain ⟨f, rfl⟩ : ∃ z, f = z + 1 := ⟨f - 1, by omega⟩
      obtain ⟨s', a1, a2, a3⟩ := isGood8 (x := x) J (by omega) (fun j hj => hq j (by omega)) (fun j hj => by rw [hk 1 j (by omega)]; exact h1 j (by omega)) h2
      show ∃ I', HX8_faultOf_7 _ _ _ _ = some (nI (if okL q (smAt q x) x = true then fl q m (x + 1) else x), I', J) ∧ ((if okL q (smAt q x) x = true then fl q m (x + 1) else x) = N → _) ∧ _
      unfold HX8_faultOf_7 BX8_faultOf_29
      rw [hk 0 1 (by omega), h01, if_neg (nI_ge (by omega) (by omega)), bnd_t a1, nI_1]
      by_cases w : okL q (smAt q x) x = true
      · rw [w, if_neg (show ¬ bN true = 0 by decide), if_pos rfl]
        exact ih (x + 1) f s' (by omega) (by omega) a2 (fun k j h => by rw [a3 k j h]; exact hk k j h)
      · rw [show okL q (smAt q x) x = false by simpa using w, if_pos (show bN false = 0 from rfl), if_neg (by decide)]
        exact ⟨s', rfl, fun z => by omega, fun k j h => by rw [a3 k j h]; exact hk k j h⟩
  exact key N 0 128 (pI I 0 2 0) (by omega) (by omega) (by rw [pI_g, if_pos ⟨rfl, rfl⟩]; rfl) (fun k j h => by rw [pI_g, if_neg h])
