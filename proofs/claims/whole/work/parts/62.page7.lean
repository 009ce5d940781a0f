theorem b8 : ∀ c, c < 127 → ((nI c).toInt8).toInt32 = nI c := by decide +kernel
theorem u16 : ∀ c, c < 127 → (Int32.toUInt32 (nI c) % 65536).toInt32 = nI c := by decide +kernel
theorem idx_eq {c : Nat} (hc : c < 127) (I : aI) (J : aJ) : fJ0_indexOf_0f7a4 (nI c) I J = some (kdI c, I, J) := by
  have h1 : fJ0_isLatin1_aae02 I J = some (1, I, J) := rfl
  have h2 : fJ0_length_8abf5 I J = some (5, I, J) := by
    have hcd : fJ0_coder_7d493 I J = some (0, I, J) := rfl
    unfold fJ0_length_8abf5
    rw [bnd_t hcd, show (5 : Int32) >>> ((0 : Int32) &&& 31) = 5 from by decide]
  have h3 : fJ1_canEncode_9a6ad (nI c) I J = some (1, I, J) := by
    unfold fJ1_canEncode_9a6ad BJ1_canEncode_9a6ad_16
    rw [if_neg (nI_pos (by omega)), if_neg (show ¬ (255 : Int32) < nI c from nI_nlt (a := 255) (by omega) (by decide))]
    rfl
  have st : ∀ (f j : Nat), j < 5 → LJ1_indexOfChar_4cfef_7 (f + 1) 5 (nI c) (nI j) I J = if ltF j = nI c then some (nI j, I, J) else LJ1_indexOfChar_4cfef_7 f 5 (nI c) (nI (j + 1)) I J := by
    intro f j hj
    show HJ1_indexOfChar_4cfef_7 _ _ _ _ _ _ = _
    unfold HJ1_indexOfChar_4cfef_7
    rw [if_neg (show ¬ (5 : Int32) ≤ nI j from nI_ge (b := 5) hj (by decide)), gd_t (inb_nI hj (by decide)), nI_clamp (by omega), nI_1]
  have h4 : fJ1_indexOfChar_4cfef (nI c) 0 5 I J = some (kdI c, I, J) := by
    unfold fJ1_indexOfChar_4cfef
    rw [b8 c hc]
    have e : ∀ k, k < 200 → (nI k = nI c ↔ c = k) := fun k hk => by rw [nI_eq (by omega) (by omega)]; exact eq_comm
    refine Eq.trans (st 127 0 (by decide)) ?_
    rw [st 126 1 (by decide), st 125 2 (by decide), st 124 3 (by decide), st 123 4 (by decide)]
    have z : LJ1_indexOfChar_4cfef_7 123 5 (nI c) (nI (4 + 1)) I J = some (-1, I, J) := rfl
    rw [z]
    have e1 : ltF 0 = nI c ↔ c = 112 := e 112 (by decide)
    have e2 : ltF 1 = nI c ↔ c = 116 := e 116 (by decide)
    have e3 : ltF 2 = nI c ↔ c = 99 := e 99 (by decide)
    have e4 : ltF 3 = nI c ↔ c = 104 := e 104 (by decide)
    have e5 : ltF 4 = nI c ↔ c = 100 := e 100 (by decide)
    simp only [e1, e2, e3, e4, e5]
    unfold kdI
    by_cases c1 : c = 112
    · rw [if_pos c1, if_pos c1]; rfl
    rw [if_neg c1, if_neg c1]
    by_cases c2 : c = 116
    · rw [if_pos c2, if_pos c2]; rfl
    rw [if_neg c2, if_neg c2]
    by_cases c3 : c = 99
    · rw [if_pos c3, if_pos c3]; rfl
    rw [if_neg c3, if_neg c3]
    by_cases c4 : c = 104
    · rw [if_pos c4, if_pos c4]; rfl
    rw [if_neg c4, if_neg c4]
    by_cases c5 : c = 100
    · rw [if_pos c5, if_pos c5]; rfl
    rw [if_neg c5, if_neg c5]
  have h5 : fJ1_indexOf_4cfef (nI c) 0 5 I J = some (kdI c, I, J) := by
    unfold fJ1_indexOf_4cfef
    rw [bnd_t h3, if_neg ne10, if_pos (show (if (0 : Int32) < 0 then (0 : Int32) else 0) < (if (5 : Int32) < 5 then (5 : Int32) else 5) by decide), show (if (0 : Int32) < 0 then (0 : Int32) else 0) = 0 from rfl, show (if (5 : Int32) < 5 then (5 : Int32) else 5) = 5 from rfl, bnd_t h4]
  unfold fJ0_indexOf_0f7a4 fJ0_indexOf_7cf53
  rw [bnd_t (show (bnd (fJ0_isLatin1_aae02 I J) fun r1 I1 J1 => if r1 = 0 then none else bnd (fJ0_length_8abf5 I1 J1) fun r3 I3 J3 => bnd (fJ1_indexOf_4cfef (nI c) 0 r3 I3 J3) fun r4 I4 J4 => some (r4, I4, J4)) = some (kdI c, I, J) by rw [bnd_t h1, if_neg ne10, bnd_t h2, bnd_t h5])]
def rdAt (q : Nat → Nat) (x : Nat) : Nat := if smAt q x = 0 then (x - 3) / 3 else (smAt q x - 3) / 3 + 1
def pcAt (q : Nat → Nat) (x : Nat) : Nat := if smAt q x = 0 then 0 else (x - smAt q x) / 5
def i14 (q : Nat → Nat) (x : Nat) : Int32 := if smAt q x = 0 then -1 else nI (smAt q x + 1)
/-- the class's page: its length, its letters -/
def Pg (q : Nat → Nat) (N : Nat) (s : aI) : Prop := s 1 1 = nI N ∧ ∀ j, j < N → s 2 j = nI (q j)
theorem digit7 {q : Nat → Nat} {N x : Nat} {s : aI} (hN : N ≤ 60) (hx : x < N) (h : Pg q N s) (J : aJ) : fX3_digitAt (nI x) s J = some (nI (q x) - 48, s, J) := by
  unfold fX3_digitAt BX3_digitAt_25
  rw [if_neg (nI_pos (by omega)), h.1, if_neg (nI_ge hx (by omega)), gd_t (inb_nI (show x < 60 by omega) (by decide)), nI_clamp (by omega), h.2 x hx]
theorem corner7 {q : Nat → Nat} {N x : Nat} {s : aI} (hN : N ≤ 60) (hx : x < N) (hq : ∀ j, j < N → q j < 127) (h0 : 50 ≤ q 0) (h : Pg q N s) (J : aJ) : fX3_isCornerAt (nI x) s J = some (bN (cLet q x), s, J) := by
  have hqx := hq x hx
  have hq0 := hq 0 (by omega)
  unfold fX3_isCornerAt
  rw [bnd_t (digit7 hN hx h J), bnd_t (show fX3_digitAt 0 s J = _ from digit7 (x := 0) hN (by omega) h J), bnd_t (isWithin_eq _ _ _ _ _), show nI (q 0) - 48 = nI (q 0 - 48) from pk_sub (b := 48) (by omega), rg_i (P := 48 ≤ q x ∧ q x < q 0) (show (nI (q x) - 48).toInt = (q x : Int) - 48 from ti_sub (b := 48) (by omega) (by omega)) (show (0 : Int32).toInt = 0 from rfl) (show (nI (q 0 - 48) - 1).toInt = ((q 0 - 48 : Nat) : Int) - 1 from ti_sub (b := 1) (by omega) (by omega)) (by omega), gd_t (bN_ok _)]
  rfl
theorem isDigit7 {q : Nat → Nat} {N x : Nat} {s : aI} (hN : N ≤ 60) (hx : x < N) (hq : ∀ j, j < N → q j < 127) (h : Pg q N s) (J : aJ) : fX3_isDigitAt (nI x) s J = some (bN (dLet q x), s, J) := by
  have hqx := hq x hx
  unfold fX3_isDigitAt
  rw [bnd_t (digit7 hN hx h J), bnd_t (isWithin_eq _ _ _ _ _), rg_i (P := 48 ≤ q x ∧ q x ≤ 57) (show (nI (q x) - 48).toInt = (q x : Int) - 48 from ti_sub (b := 48) (by omega) (by omega)) (show (0 : Int32).toInt = 0 from rfl) (show (9 : Int32).toInt = 9 from rfl) (by omega), gd_t (bN_ok _)]
  rfl
theorem kind7 {q : Nat → Nat} {N x : Nat} {s : aI} (hN : N ≤ 60) (hx : x < N) (hq : ∀ j, j < N → q j < 127) (h : Pg q N s) (J : aJ) : fX3_kindAt (nI x) s J = some (kdI (q x), s, J) := by
  unfold fX3_kindAt BX3_kindAt_28
  rw [if_neg (nI_pos (by omega)), h.1, if_neg (nI_ge hx (by omega)), gd_t (inb_nI (show x < 60 by omega) (by decide)), nI_clamp (by omega), h.2 x hx, u16 _ (hq x hx), bnd_t (idx_eq (hq x hx) s J)]
theorem road7p {q : Nat → Nat} {N x : Nat} {s : aI} (hN : N ≤ 60) (hx3 : 3 ≤ x) (hx : x < N) (hq : ∀ j, j < N → q j < 127) (h0 : 50 ≤ q 0) (h : Pg q N s) (J : aJ) (hsm : smAt q x = 0) (h2 : s 1 2 = nI (rdAt q x)) (h3 : s 1 3 = nI (pcAt q x)) (h4 : s 1 4 = i14 q x) :
    ∃ s', fX3_takesRoads (nI x) s J = some (bN (okR q x), s', J) ∧ (okR q x = true → s' 1 2 = nI (rdAt q (x + 1)) ∧ s' 1 3 = nI (pcAt q (x + 1)) ∧ s' 1 4 = i14 q (x + 1)) ∧ ∀ k j, ¬ (k = 1 ∧ 2 ≤ j ∧ j ≤ 4) → s' k j = s k j := by
  have hin : inb (nI x) 60 = true := inb_nI (by omega) (by decide)
  have c : (nI x).toNatClampNeg = x := nI_clamp (by omega)
  have hqx := hq x hx
  have hqy := hq (x - 1) (by omega)
  have erd : rdAt q x = (x - 3) / 3 := by unfold rdAt; rw [if_pos hsm]
  have epc : pcAt q x = 0 := by unfold pcAt; rw [if_pos hsm]
  have e14 : i14 q x = -1 := by unfold i14; rw [if_pos hsm]
  have nsm : smAt q (x + 1) = smS q 0 x := by show smS q (smAt q x) x = _; rw [hsm]
  have g2 : (pI s 1 2 (s 1 2 + 1)) 2 x = nI (q x) := by rw [pI_g, if_neg (by omega)]; exact h.2 x hx
  have g3 : (pI s 1 2 (s 1 2 + 1)) 1 2 = nI ((x - 3) / 3 + 1) := by rw [pI_g, if_pos ⟨rfl, rfl⟩, h2, erd, nI_1]
  unfold fX3_takesRoads BX3_takesRoads_50 BX3_takesRoads_51 BX3_takesRoads_106 BX3_takesRoads_107 okR
  rw [show nI x - 3 = nI (x - 3) from pk_sub (b := 3) hx3, show nI x - 1 = nI (x - 1) from pk_sub (b := 1) (by omega), show nI (x - 3) - nI (x - 3) / 3 * 3 = nI ((x - 3) % 3) from pk_rem (d := 3) (by omega) (by decide) (by decide), c, nI_clamp (show x - 1 < 2 ^ 31 by omega), g2, g3, bnd_t (corner7 hN hx hq h0 h J), bnd_t (corner7 hN hx hq h0 h J), gd_t hin, gd_t hin, gd_t (inb_nI (show x - 1 < 60 by omega) (by decide)), h.2 x hx, h.2 (x - 1) (by omega), nI_1]
  have e0 : nI ((x - 3) % 3) = 0 ↔ (x - 3) % 3 = 0 := nI_eq (b := 0) (by omega) (by decide)
  have e1 : nI ((x - 3) % 3) = 1 ↔ (x - 3) % 3 = 1 := nI_eq (b := 1) (by omega) (by decide)
  have e2 : nI (q x) = nI (q (x - 1)) ↔ q x = q (x - 1) := nI_eq (by omega) (by omega)
  have e3 : nI (q x) = 59 ↔ q x = 59 := nI_eq (b := 59) (by omega) (by decide)
  have e4 : nI (q x) = 44 ↔ q x = 44 := nI_eq (b := 44) (by omega) (by decide)
  have e5 : (8 : Int32) ≤ nI ((x - 3) / 3 + 1) ↔ 8 ≤ (x - 3) / 3 + 1 := nI_leI (a := 8) (by decide) (by omega)
  simp only [e0, e1, e2, e3, e4, e5]
  have same : smS q 0 x = 0 → (x - 3) % 3 ≠ 2 → s 1 2 = nI (rdAt q (x + 1)) ∧ s 1 3 = nI (pcAt q (x + 1)) ∧ s 1 4 = i14 q (x + 1) := by
    intro z w
    have z1 : smAt q (x + 1) = 0 := by rw [nsm, z]
    refine ⟨?_, ?_, ?_⟩
    · rw [h2, erd]; unfold rdAt; rw [if_pos z1]; exact congrArg nI (by omega)
    · rw [h3, epc]; unfold pcAt; rw [if_pos z1]
    · rw [h4, e14]; unfold i14; rw [if_pos z1]
  by_cases r0 : (x - 3) % 3 = 0
  · have z : smS q 0 x = 0 := by unfold smS; rw [if_neg (by omega)]
    rw [if_pos r0, if_pos r0, gd_t (bN_ok _)]
    exact ⟨s, rfl, fun _ => same z (by omega), fun _ _ _ => rfl⟩
  rw [if_neg r0, if_neg r0]
  by_cases r1 : (x - 3) % 3 = 1
  · have z : smS q 0 x = 0 := by unfold smS; rw [if_neg (by omega)]
    rw [if_pos r1, if_pos r1]
    refine ⟨s, ?_, fun _ => same z (by omega), fun _ _ _ => rfl⟩
    cases cLet q x
    · rfl
    · rw [if_neg (show ¬ bN true = 0 by decide)]
      by_cases w : q x = q (x - 1)
      · rw [if_pos w]; simp [w, bN, gd]
      · rw [if_neg w]; simp [w, bN, gd]
  rw [if_neg r1, if_neg r1]
  have r2 : (x - 3) % 3 = 2 := by omega
  have fr1 : ∀ k j, ¬ (k = 1 ∧ 2 ≤ j ∧ j ≤ 4) → (pI s 1 2 (s 1 2 + 1)) k j = s k j := fun k j hk => by rw [pI_g, if_neg (by omega)]
  by_cases w : q x = 59
  · rw [if_pos w, if_pos w]
    have z : smAt q (x + 1) = x := by rw [nsm]; unfold smS; rw [if_pos ⟨hx3, rfl, r2, w⟩]
    refine ⟨pI (pI s 1 2 (s 1 2 + 1)) 1 4 (nI (x + 1)), rfl, fun _ => ⟨?_, ?_, ?_⟩, fun k j hk => by rw [pI_g, if_neg (by omega)]; exact fr1 k j hk⟩
    · rw [pI_g, if_neg (by omega), g3]; unfold rdAt; rw [z, if_neg (by omega)]
    · rw [pI_g, if_neg (by omega), pI_g, if_neg (by omega), h3, epc]; unfold pcAt; rw [z, if_neg (by omega)]; exact congrArg nI (by omega)
    · rw [pI_g, if_pos ⟨rfl, rfl⟩]; unfold i14; rw [z, if_neg (by omega)]
  · have z : smS q 0 x = 0 := by unfold smS; rw [if_neg (fun y => w y.2.2.2)]
    have z1 : smAt q (x + 1) = 0 := by rw [nsm, z]
    rw [if_neg w, if_neg w]
    refine ⟨pI s 1 2 (s 1 2 + 1), ?_, fun _ => ⟨?_, ?_, ?_⟩, fr1⟩
    · by_cases w2 : q x = 44
      · rw [if_pos w2]
        by_cases w3 : 8 ≤ (x - 3) / 3 + 1
        · rw [if_pos w3]; simp [w2, bN, gd]; omega
        · rw [if_neg w3]; simp [w2, bN, gd]; omega
      · rw [if_neg w2]; simp [w2, bN, gd]
    · rw [g3]; unfold rdAt; rw [if_pos z1]; exact congrArg nI (by omega)
    · rw [pI_g, if_neg (by omega), h3, epc]; unfold pcAt; rw [if_pos z1]
    · rw [pI_g, if_neg (by omega), h4, e14]; unfold i14; rw [if_pos z1]
theorem person7p {q : Nat → Nat} {N x : Nat} {s : aI} (hN : N ≤ 60) (hx : x < N) (hq : ∀ j, j < N → q j < 127) (h0 : 50 ≤ q 0) (h : Pg q N s) (J : aJ) (hsm : smAt q x ≠ 0) (h2 : s 1 2 = nI (rdAt q x)) (h3 : s 1 3 = nI (pcAt q x)) (h4 : s 1 4 = i14 q x) :
    ∃ s', fX3_takesPeople (nI x) s J = some (bN (okP q (smAt q x) x), s', J) ∧ (s' 1 2 = nI (rdAt q (x + 1)) ∧ s' 1 3 = nI (pcAt q (x + 1)) ∧ s' 1 4 = i14 q (x + 1)) ∧ ∀ k j, ¬ (k = 1 ∧ 2 ≤ j ∧ j ≤ 4) → s' k j = s k j := by
  obtain ⟨m1, m2, m3⟩ := smAt_lt q x hsm
  have hin : inb (nI x) 60 = true := inb_nI (by omega) (by decide)
  have c : (nI x).toNatClampNeg = x := nI_clamp (by omega)
  have hqx := hq x hx
  have nsm : smAt q (x + 1) = smAt q x := by show smS q (smAt q x) x = _; unfold smS; rw [if_neg (fun y => hsm y.2.1)]
  have e14 : i14 q x = nI (smAt q x + 1) := by unfold i14; rw [if_neg hsm]
  have epc : pcAt q x = (x - smAt q x) / 5 := by unfold pcAt; rw [if_neg hsm]
  have n2 : rdAt q (x + 1) = rdAt q x := by unfold rdAt; rw [nsm, if_neg hsm, if_neg hsm]
  have n3 : pcAt q (x + 1) = (x + 1 - smAt q x) / 5 := by unfold pcAt; rw [nsm, if_neg hsm]
  have n4 : i14 q (x + 1) = i14 q x := by unfold i14; rw [nsm]
  have hm : (x - smAt q x - 1) % 5 < 5 := Nat.mod_lt _ (by decide)
  have hP : Pg q N (pI s 1 3 (s 1 3 + 1)) := ⟨by rw [pI_g, if_neg (by omega)]; exact h.1, fun j hj => by rw [pI_g, if_neg (by omega)]; exact h.2 j hj⟩
  have stay : (x - smAt q x - 1) % 5 ≠ 3 → s 1 2 = nI (rdAt q (x + 1)) ∧ s 1 3 = nI (pcAt q (x + 1)) ∧ s 1 4 = i14 q (x + 1) := fun w => ⟨by rw [h2, n2], by rw [h3, epc, n3]; exact congrArg nI (by omega), by rw [h4, n4]⟩
  have inc : (x - smAt q x - 1) % 5 = 3 → (pI s 1 3 (s 1 3 + 1)) 1 2 = nI (rdAt q (x + 1)) ∧ (pI s 1 3 (s 1 3 + 1)) 1 3 = nI (pcAt q (x + 1)) ∧ (pI s 1 3 (s 1 3 + 1)) 1 4 = i14 q (x + 1) := fun w => ⟨by rw [pI_g, if_neg (by omega), h2, n2], by rw [pI_g, if_pos ⟨rfl, rfl⟩, h3, epc, n3, nI_1]; exact congrArg nI (by omega), by rw [pI_g, if_neg (by omega), h4, n4]⟩
  unfold fX3_takesPeople BX3_takesPeople_54 BX3_takesPeople_107 BX3_takesPeople_108 okP
  rw [h4, e14, pk_sub (show smAt q x + 1 ≤ x by omega), show x - (smAt q x + 1) = x - smAt q x - 1 by omega, show nI (x - smAt q x - 1) - nI (x - smAt q x - 1) / 5 * 5 = nI ((x - smAt q x - 1) % 5) from pk_rem (d := 5) (by omega) (by decide) (by decide), c, h.2 x hx, bnd_t (kind7 hN hx hq h J), bnd_t (corner7 hN hx hq h0 h J), bnd_t (isDigit7 hN hx hq h J), bnd_t (isDigit7 hN hx hq hP J), gd_t hin]
  have e5 : nI (q x) = 44 ↔ q x = 44 := nI_eq (b := 44) (by omega) (by decide)
  have e6 : (6 : Int32) ≤ nI ((x - smAt q x) / 5) ↔ 6 ≤ (x - smAt q x) / 5 := nI_leI (a := 6) (by decide) (by omega)
  have e : ∀ k, k < 5 → (nI ((x - smAt q x - 1) % 5) = nI k ↔ (x - smAt q x - 1) % 5 = k) := fun k hk => nI_eq (by omega) (by omega)
  have e0 : nI ((x - smAt q x - 1) % 5) = 0 ↔ (x - smAt q x - 1) % 5 = 0 := e 0 (by decide)
  have e1 : nI ((x - smAt q x - 1) % 5) = 1 ↔ (x - smAt q x - 1) % 5 = 1 := e 1 (by decide)
  have e2 : nI ((x - smAt q x - 1) % 5) = 2 ↔ (x - smAt q x - 1) % 5 = 2 := e 2 (by decide)
  have e3 : nI ((x - smAt q x - 1) % 5) = 3 ↔ (x - smAt q x - 1) % 5 = 3 := e 3 (by decide)
  simp only [e0, e1, e2, e3, e5, kdI_m]
  by_cases r0 : (x - smAt q x - 1) % 5 = 0
  · rw [if_pos r0, if_pos r0]
    refine ⟨s, ?_, stay (by omega), fun _ _ _ => rfl⟩
    by_cases w : kdN (q x) < 5
    · simp [w, bN, gd]
    · simp [w, bN, gd]
  rw [if_neg r0, if_neg r0]
  by_cases r1 : (x - smAt q x - 1) % 5 = 1
  · rw [if_pos r1, if_pos r1, gd_t (bN_ok _)]
    exact ⟨s, rfl, stay (by omega), fun _ _ _ => rfl⟩
  rw [if_neg r1, if_neg r1]
  by_cases r2 : (x - smAt q x - 1) % 5 = 2
  · rw [if_pos r2, if_neg (by omega), gd_t (bN_ok _)]
    exact ⟨s, rfl, stay (by omega), fun _ _ _ => rfl⟩
  rw [if_neg r2]
  by_cases r3 : (x - smAt q x - 1) % 5 = 3
  · rw [if_pos r3, if_neg (by omega), gd_t (bN_ok _)]
    exact ⟨_, rfl, inc r3, fun k j hk => by rw [pI_g, if_neg (by omega)]⟩
  have r4 : (x - smAt q x - 1) % 5 = 4 := by omega
  rw [if_neg r3, if_pos r4, h3, epc]
  refine ⟨s, ?_, stay (by omega), fun _ _ _ => rfl⟩
  simp only [e6]
  by_cases w2 : q x = 44
  · rw [if_pos w2]
    by_cases w3 : 6 ≤ (x - smAt q x) / 5
    · rw [if_pos w3]; simp [w2, bN, gd]; omega
    · rw [if_neg w3]; simp [w2, bN, gd]; omega
  · rw [if_neg w2]; simp [w2, bN, gd]
theorem takes7 {q : Nat → Nat} {N x : Nat} {s : aI} (hN : N ≤ 60) (hx : x < N) (hq : ∀ j, j < N → q j < 127) (h0 : 1 ≤ x → 50 ≤ q 0) (h : Pg q N s) (J : aJ) (h2 : s 1 2 = nI (rdAt q x)) (h3 : s 1 3 = nI (pcAt q x)) (h4 : s 1 4 = i14 q x) :
    ∃ s', fX3_takes (nI x) s J = some (bN (okL q (smAt q x) x), s', J) ∧ (okL q (smAt q x) x = true → s' 1 2 = nI (rdAt q (x + 1)) ∧ s' 1 3 = nI (pcAt q (x + 1)) ∧ s' 1 4 = i14 q (x + 1)) ∧ ∀ k j, ¬ (k = 1 ∧ 2 ≤ j ∧ j ≤ 4) → s' k j = s k j := by
  unfold fX3_takes BX3_takes_32 okL
  by_cases x3 : 3 ≤ x
  · rw [if_pos (show (3 : Int32) ≤ nI x from nI_le (a := 3) x3 (by omega)), if_neg (show ¬ x = 0 by omega), if_neg (show ¬ x = 1 by omega), if_neg (show ¬ x = 2 by omega), h4]
    by_cases z : smAt q x = 0
    · obtain ⟨s', a1, a2, a3⟩ := road7p hN x3 hx hq (h0 (by omega)) h J z h2 h3 h4
      rw [if_pos (show i14 q x = -1 by unfold i14; rw [if_pos z]), if_pos z, bnd_t a1, gd_t (bN_ok _)]
      exact ⟨s', rfl, a2, a3⟩
    · obtain ⟨s', a1, a2, a3⟩ := person7p hN hx hq (h0 (by omega)) h J z h2 h3 h4
      have m := smAt_lt q x z
      rw [if_neg (show ¬ i14 q x = -1 by
        unfold i14
        rw [if_neg z]
        intro w
        have := nI_pos (n := smAt q x + 1) (by omega)
        rw [w] at this
        exact this (by decide)), if_neg z, bnd_t a1, gd_t (bN_ok _)]
      exact ⟨s', rfl, fun _ => a2, a3⟩
  · have z : smAt q x = 0 := by
      apply Decidable.byContradiction
      intro w
      have := smAt_lt q x w
      omega
    have z1 : smAt q (x + 1) = 0 := by show smS q (smAt q x) x = 0; unfold smS; rw [if_neg (fun y => x3 y.1)]; exact z
    have keep : s 1 2 = nI (rdAt q (x + 1)) ∧ s 1 3 = nI (pcAt q (x + 1)) ∧ s 1 4 = i14 q (x + 1) := by
      refine ⟨?_, ?_, ?_⟩
      · rw [h2]; unfold rdAt; rw [if_pos z, if_pos z1]; exact congrArg nI (by omega)
      · rw [h3]; unfold pcAt; rw [if_pos z, if_pos z1]
      · rw [h4]; unfold i14; rw [if_pos z, if_pos z1]
    rw [if_neg (show ¬ (3 : Int32) ≤ nI x from nI_ge (b := 3) (by omega) (by decide))]
    unfold fX3_takesHead BX3_takesHead_62
    rcases (show x = 0 ∨ x = 1 ∨ x = 2 by omega) with rfl | rfl | rfl
    · have hq0 := hq 0 hx
      have e : (bnd (fX3_digitAt 0 s J) fun r2 I2 J2 => bnd (fX7_isWithin r2 2 6 I2 J2) fun r3 I3 J3 => gd (decide (r3 = 0 ∨ r3 = 1)) (some (r3, I3, J3))) = some (bN (decide (50 ≤ q 0 ∧ q 0 ≤ 54)), s, J) := by
        rw [bnd_t (show fX3_digitAt 0 s J = _ from digit7 (x := 0) hN hx h J), bnd_t (isWithin_eq _ _ _ _ _), rg_i (P := 50 ≤ q 0 ∧ q 0 ≤ 54) (show (nI (q 0) - 48).toInt = (q 0 : Int) - 48 from ti_sub (b := 48) (by omega) (by omega)) (show (2 : Int32).toInt = 2 from rfl) (show (6 : Int32).toInt = 6 from rfl) (by omega), gd_t (bN_ok _)]
      rw [if_pos (show nI 0 = 0 from rfl), if_pos rfl, bnd_t e, gd_t (bN_ok _)]
      exact ⟨s, rfl, fun _ => keep, fun _ _ _ => rfl⟩
    · have e : (bnd (fX3_isCornerAt 1 s J) fun r6 I6 J6 => gd (decide (r6 = 0 ∨ r6 = 1)) (some (r6, I6, J6))) = some (bN (cLet q 1), s, J) := by
        rw [bnd_t (show fX3_isCornerAt 1 s J = _ from corner7 (x := 1) hN hx hq (h0 (by decide)) h J), gd_t (bN_ok _)]
      rw [if_neg (show ¬ nI 1 = 0 by decide), if_pos (show nI 1 = 1 from rfl), if_neg (show ¬ 1 = 0 by decide), if_pos rfl, bnd_t e, gd_t (bN_ok _)]
      exact ⟨s, rfl, fun _ => keep, fun _ _ _ => rfl⟩
    · have hq2 := hq 2 hx
      have l : nI (q 2) = 59 ↔ q 2 = 59 := nI_eq (b := 59) (by omega) (by decide)
      have e : (if nI 2 = 0 then bnd (fX3_digitAt 0 s J) fun r2 I2 J2 => bnd (fX7_isWithin r2 2 6 I2 J2) fun r3 I3 J3 => gd (decide (r3 = 0 ∨ r3 = 1)) (some (r3, I3, J3)) else if nI 2 = 1 then bnd (fX3_isCornerAt 1 s J) fun r6 I6 J6 => gd (decide (r6 = 0 ∨ r6 = 1)) (some (r6, I6, J6)) else gd (inb (nI 2) 60) (if s 2 (nI 2).toNatClampNeg = 59 then gd (decide ((1 : Int32) = 0 ∨ (1 : Int32) = 1)) (some ((1 : Int32), s, J)) else gd (decide ((0 : Int32) = 0 ∨ (0 : Int32) = 1)) (some ((0 : Int32), s, J)))) = some (bN (decide (q 2 = 59)), s, J) := by
        rw [if_neg (show ¬ nI 2 = 0 by decide), if_neg (show ¬ nI 2 = 1 by decide), gd_t (inb_nI (by decide) (by decide)), nI_clamp (by decide), h.2 2 hx]
        by_cases w : q 2 = 59
        · rw [if_pos (l.mpr w)]; simp [w, bN, gd]
        · rw [if_neg (fun y => w (l.mp y))]; simp [w, bN, gd]
      rw [bnd_t e, gd_t (bN_ok _), if_neg (show ¬ 2 = 0 by decide), if_neg (show ¬ 2 = 1 by decide), if_pos rfl]
      exact ⟨s, rfl, fun _ => keep, fun _ _ _ => rfl⟩
theorem firstFault_eq {q : Nat → Nat} {N : Nat} (hN : N ≤ 60) (hq : ∀ j, j < N → q j < 127) {I : aI} (J : aJ) (h : Pg q N I) :
    ∃ I', fX3_firstFault I J = some (nI (fl q N 0), I', J) ∧ (fl q N 0 = N → I' 1 2 = nI (rdAt q N) ∧ I' 1 3 = nI (pcAt q N) ∧ I' 1 4 = i14 q N) ∧ ∀ k j, ¬ (k = 1 ∧ 2 ≤ j ∧ j ≤ 4) → I' k j = I k j := by
  have key : ∀ (m x f : Nat) (s : aI), x + m = N → m < f → (1 ≤ x → 50 ≤ q 0) → s 1 2 = nI (rdAt q x) → s 1 3 = nI (pcAt q x) → s 1 4 = i14 q x → (∀ k j, ¬ (k = 1 ∧ 2 ≤ j ∧ j ≤ 4) → s k j = I k j) → ∃ I', LX3_firstFault_17 f (nI x) s J = some (nI (fl q m x), I', J) ∧ (fl q m x = N → I' 1 2 = nI (rdAt q N) ∧ I' 1 3 = nI (pcAt q N) ∧ I' 1 4 = i14 q N) ∧ ∀ k j, ¬ (k = 1 ∧ 2 ≤ j ∧ j ≤ 4) → I' k j = I k j := by
    intro m
    induction m with
    | zero =>
      intro x f s hx hf h0 h2 h3 h4 hk
      obtain ⟨f, rfl⟩ : ∃ z, f = z + 1 := ⟨f - 1, by omega⟩
      have e : x = N := by omega
      subst e
      refine ⟨s, ?_, fun _ => ⟨h2, h3, h4⟩, hk⟩
      show HX3_firstFault_17 _ _ _ _ = _
      unfold HX3_firstFault_17
      rw [hk 1 1 (by omega), h.1, if_pos (nI_le (by omega) (by omega))]
      rfl
    | succ m ih =>
      intro x f s hx hf h0 h2 h3 h4 hk
      obtain ⟨f, rfl⟩ : ∃ z, f = z + 1 := ⟨f - 1, by omega⟩
      have hs : Pg q N s := ⟨by rw [hk 1 1 (by omega)]; exact h.1, fun j hj => by rw [hk 2 j (by omega)]; exact h.2 j hj⟩
      obtain ⟨s', a1, a2, a3⟩ := takes7 (x := x) hN (by omega) hq h0 hs J h2 h3 h4
      show ∃ I', HX3_firstFault_17 _ _ _ _ = some (nI (if okL q (smAt q x) x = true then fl q m (x + 1) else x), I', J) ∧ ((if okL q (smAt q x) x = true then fl q m (x + 1) else x) = N → _) ∧ _
      unfold HX3_firstFault_17
      rw [hk 1 1 (by omega), h.1, if_neg (nI_ge (by omega) (by omega)), bnd_t a1, nI_1]
      by_cases w : okL q (smAt q x) x = true
      · obtain ⟨b1, b2, b3⟩ := a2 w
        have h0' : 1 ≤ x + 1 → 50 ≤ q 0 := by
          intro _
          by_cases y : x = 0
          · subst y
            unfold okL at w
            rw [if_pos rfl] at w
            have : 50 ≤ q 0 ∧ q 0 ≤ 54 := by simpa using w
            exact this.1
          · exact h0 (by omega)
        rw [w, if_neg (show ¬ bN true = 0 by decide), if_pos rfl]
        exact ih (x + 1) f s' (by omega) (by omega) h0' b1 b2 b3 (fun k j hh => by rw [a3 k j hh]; exact hk k j hh)
      · rw [show okL q (smAt q x) x = false by simpa using w, if_pos (show bN false = 0 from rfl), if_neg (by decide)]
        exact ⟨s', rfl, fun z => by omega, fun k j hh => by rw [a3 k j hh]; exact hk k j hh⟩
  exact key N 0 128 (pI (pI (pI I 1 2 0) 1 3 0) 1 4 (-1)) (by omega) (by omega) (fun z => absurd z (by decide)) (by rw [pI_g, if_neg (by omega), pI_g, if_neg (by omega), pI_g, if_pos ⟨rfl, rfl⟩]; rfl) (by rw [pI_g, if_neg (by omega), pI_g, if_pos ⟨rfl, rfl⟩]; rfl) (by rw [pI_g, if_pos ⟨rfl, rfl⟩]; rfl) (fun k j hh => by rw [pI_g, if_neg (by omega), pI_g, if_neg (by omega), pI_g, if_neg (by omega)])
theorem b_fault : ∀ (t : Nat) (Ic : aI) (Jc : aJ) (Im : aI) (Jm : aJ), t < 64 → Rel t Ic Jc Im Jm → ∃ (r : Int32) (Ic' : aI) (Jc' : aJ) (Im' : aI) (Jm' : aJ), fX7_fault Ic Jc = some (r, Ic', Jc') ∧ fX8_fault Im Jm = some (r, Im', Jm') ∧ Rel (t + 1) Ic' Jc' Im' Jm' := by
  intro t Ic Jc Im Jm ht hR
  obtain ⟨σ, hG, hM, hC⟩ := id hR
  have hp := hG.p
  have hN := hG.1.1
  have hq : ∀ j, j < σ 0 1 → σ 1 j < 127 := fun j hj => by have := hG.1.2 j hj; omega
  obtain ⟨I1, a1, a2, a3⟩ := firstFault_eq hN hq (I := Ic) Jc ⟨hC.1.1, fun j hj => hC.1.2 j (by omega)⟩
  obtain ⟨I2, b1, b2, b3⟩ := faultOf_eq hN (fun j hj => by have := hq j hj; omega) (I := Im) Jm (hM.g 0 1 rfl) (fun j hj => hM.g 1 j (by simp [rs]; omega))
  refine ⟨nI (fl (σ 1) (σ 0 1) 0), I1, Jc, I2, Jm, ?_, ?_, σ, hG.mono, hM.keep (fun k j hr => b3 k j (fun z => by obtain ⟨rfl, rfl⟩ := z; simp [rs] at hr)) (b3 0 30 (by omega)), hC.keep hp.1 (fun k j hr => a3 k j (fun z => by
    obtain ⟨rfl, z1, z2⟩ := z
    simp [rc] at hr
    omega))⟩
  · unfold fX7_fault; rw [bnd_t a1]
  · unfold fX8_fault; rw [bnd_t b1]
