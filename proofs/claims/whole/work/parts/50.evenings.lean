def lcg (s : Nat) : Nat := (1103515245 * s + 12345) % 2 ^ 31
theorem lcg_lt (s : Nat) : lcg s < 2 ^ 31 := Nat.mod_lt _ (by decide)
theorem lcg_eq {s : Nat} (hs : s < 2 ^ 31) : (1103515245 * lN s + 12345) &&& 2147483647 = lN (lcg s) := by
  have e1 : (1103515245 : Int64) * lN s + 12345 = lN (1103515245 * s + 12345) := by
    rw [show (1103515245 : Int64) = lN 1103515245 from rfl, show (12345 : Int64) = lN 12345 from rfl, lN_mul, lN_add]
  rw [e1]
  apply Int64.toBitVec_inj.mp
  apply BitVec.eq_of_toNat_eq
  rw [Int64.toBitVec_and, BitVec.toNat_and, show (2147483647 : Int64).toBitVec.toNat = 2 ^ 31 - 1 from rfl, Nat.and_two_pow_sub_one_eq_mod]
  show (BitVec.ofNat 64 _).toNat % 2 ^ 31 = (BitVec.ofNat 64 _).toNat
  rw [BitVec.toNat_ofNat, BitVec.toNat_ofNat]
  unfold lcg
  have hy : 1103515245 * s + 12345 < 2 ^ 63 := by omega
  generalize 1103515245 * s + 12345 = y at hy
  rw [Nat.mod_eq_of_lt (show y < 2 ^ 64 by omega), Nat.mod_eq_of_lt (show y % 2 ^ 31 < 2 ^ 64 by omega)]
def alg (s2 s3 : Nat → Nat) (k v : Nat) : Nat := if s2 k = v then s3 k else if s3 k = v then s2 k else v
theorem cnt_svA {p x h : Nat} {kd pl tm ct sv : Nat → Nat} (hP : Pq p kd pl tm ct sv) : cntB (fun j => decide (svA x h kd pl tm ct sv j = 1)) p = cntB (fun j => decide (sv j = 1)) p + cntB (nwA x h kd pl tm ct sv) p := by
  refine cnt_new _ _ _ p (fun j hj => ?_)
  obtain ⟨q1, q2, q3, q4, q5, q6⟩ := hP j hj
  refine ⟨fun z => ?_, fun z => ?_⟩
  · have z : sv j = 1 := by simpa using z
    have : svA x h kd pl tm ct sv j = sv j := by unfold svA; rw [if_neg (fun q => by omega)]
    unfold nwA
    rw [this]
    simp [z]
  · have z : sv j = 0 := by rcases q4 with q | q; exact q; simp [q] at z
    unfold nwA
    simp [z]
theorem drift_eq {n r p h : Nat} {s2 s3 kd pl tm sv0 : Nat → Nat} {x3 : Int32} (hn : n ≤ 6) (hr1 : 1 ≤ r) (hr : r ≤ 8) (hp : p ≤ 6) (hh : h ≤ 999) (hrd : ∀ j, j < r → s2 j < n ∧ s3 j < n) (N : Nat) (hN : N ≤ 60) (Ic Im : aI) (Jc Jm : aJ)
    (c31 : Ic 3 1 = nI r) (c4 : ∀ j, j < 8 → Ic 4 j = nI (s2 j) ∧ Ic 5 j = nI (s3 j)) (c22 : Ic 22 0 = nI p) (cp : ∀ j, j < p → Ic 23 j = nI (pl j) ∧ Ic 24 j = nI (kd j) ∧ Ic 25 j = nI (tm j))
    (m04 : Im 0 4 = nI r) (m05 : Im 0 5 = nI p) (m07 : Im 0 7 = nI h) (m2 : ∀ j, j < 8 → Im 2 j = nI (s2 j) ∧ Im 3 j = nI (s3 j)) (mp : ∀ j, j < p → Im 4 j = nI (kd j) ∧ Im 5 j = nI (pl j) ∧ Im 6 j = nI (tm j)) :
    ∀ (m i f s v tot : Nat) (ct sv : Nat → Nat) (I1 I2 : aI), i + m = N → m < f → s < 2 ^ 31 → v < n → Pq p kd pl tm ct sv → cntB (fun j => decide (sv j = 1)) p = cntB (fun j => decide (sv0 j = 1)) p + tot → Ev I1 36 v (h + i) sv ct p → (∀ k j, k ≠ 36 → k ≠ 37 → I1 k j = Ic k j) →
      I2 0 29 = nI s → (∀ j, j < p → I2 11 j = nI (ct j) ∧ I2 12 j = nI (sv j)) → (∀ k j, k ≠ 11 → k ≠ 12 → ¬ (k = 0 ∧ j = 29) → I2 k j = Im k j) →
      ∃ (I1' I2' : aI) (s' v' tot' : Nat) (sv' : Nat → Nat), LX7_drift_6 f (nI N) (lN s) (nI i) I1 Jc = some (nI s', I1', Jc) ∧ LX8_evenings_62 f (nI N) x3 (nI v) (nI tot) (nI (i + 1)) I2 Jm = some ((if x3 = 0 then nI tot' else if x3 = 1 then nI v' else nI s'), I2', Jm) ∧
        I1' 36 0 = nI v' ∧ I1' 36 2 = nI (msk (fun j => decide (sv' j = 1)) p) ∧ cntB (fun j => decide (sv' j = 1)) p = cntB (fun j => decide (sv0 j = 1)) p + tot' ∧ (∀ k j, k ≠ 36 → k ≠ 37 → I1' k j = Ic k j) ∧ (∀ k j, k ≠ 11 → k ≠ 12 → ¬ (k = 0 ∧ j = 29) → I2' k j = Im k j) := by
  intro m
  induction m with
  | zero =>
    intro i f s v tot ct sv I1 I2 hi hf hs hv hP hc hE h1 h29 h11 h2
    obtain ⟨f, rfl⟩ : ∃ g, f = g + 1 := ⟨f - 1, by omega⟩
    have e : i = N := by omega
    subst e
    refine ⟨I1, I2, s, v, tot, sv, ?_, ?_, hE.1, hE.2.2.1, hc, h1, h2⟩
    · show HX7_drift_6 _ _ _ _ _ _ = _
      unfold HX7_drift_6 BX7_drift_87
      rw [if_pos (nI_le (by omega) (by omega)), lN_i]
    · show HX8_evenings_62 _ _ _ _ _ _ _ _ = _
      unfold HX8_evenings_62 BX8_evenings_173
      rw [if_pos (nI_lt (by omega) (by omega)), h29]
      by_cases q0 : x3 = 0
      · rw [if_pos q0, if_pos q0]
      · rw [if_neg q0, if_neg q0]
        by_cases q1 : x3 = 1
        · rw [if_pos q1, if_pos q1]
        · rw [if_neg q1, if_neg q1]
  | succ m ih =>
    intro i f s v tot ct sv I1 I2 hi hf hs hv hP hc hE h1 h29 h11 h2
    obtain ⟨f, rfl⟩ : ∃ g, f = g + 1 := ⟨f - 1, by omega⟩
    have hd : lcg s / 65536 % r < r := Nat.mod_lt _ (by omega)
    obtain ⟨k, hk⟩ : ∃ k, k = lcg s / 65536 % r := ⟨_, rfl⟩
    rw [← hk] at hd
    have hl := lcg_lt s
    have hx := hrd k hd
    have ha : alg s2 s3 k v < n := by unfold alg; split; exact hx.2; split; exact hx.1; exact hv
    obtain ⟨i1, d1, d2, d3⟩ := pass_eq (e := 36) (x := alg s2 s3 k v) (by decide) hP hp (by omega) (by omega) I1 Jc hE (by rw [h1 22 0 (by decide) (by decide)]; exact c22) (fun j hj => by
      rw [h1 23 j (by decide) (by decide), h1 24 j (by decide) (by decide), h1 25 j (by decide) (by decide)]; exact cp j hj)
    have hkin : inb (nI k) 8 = true := inb_nI (by omega) (by decide)
    have hkc : (nI k).toNatClampNeg = k := nI_clamp (by omega)
    have ar : fX6_alongRoad (nI k) (nI v) I1 Jc = some (nI (alg s2 s3 k v), I1, Jc) := by
      unfold fX6_alongRoad BX6_alongRoad_37 alg
      rw [gd_t hkin, hkc, h1 4 k (by decide) (by decide), h1 5 k (by decide) (by decide), (c4 k (by omega)).1, (c4 k (by omega)).2]
      have x1 : nI (s2 k) = nI v ↔ s2 k = v := nI_eq (by omega) (by omega)
      have x2 : nI (s3 k) = nI v ↔ s3 k = v := nI_eq (by omega) (by omega)
      simp only [x1, x2]
      by_cases q1 : s2 k = v
      · rw [if_pos q1, if_pos q1]
      · rw [if_neg q1, if_neg q1]
        by_cases q2 : s3 k = v
        · rw [if_pos q2, if_pos q2]
        · rw [if_neg q2, if_neg q2]
    obtain ⟨I2a, hI2a⟩ : ∃ I2a, I2a = pI I2 0 29 (nI (lcg s)) := ⟨_, rfl⟩
    have dr : fX8_draw (I2 0 4) I2 Jm = some (nI k, I2a, Jm) := by
      unfold fX8_draw
      rw [h2 0 4 (by decide) (by decide) (by omega), m04, gd_t (by simp [nI_ne0 (show 0 < r by omega) (by omega)]), h29, nI_l hs, lcg_eq hs, lN_i, ← hI2a, show I2a 0 29 = nI (lcg s) by rw [hI2a, pI_g, if_pos ⟨rfl, rfl⟩]]
      rw [show (65536 : Int32) = nI 65536 from rfl, pk_div hl (by decide) (by decide), pk_rem (by omega) (by omega) (by omega), hk]
    have ra : ∀ k j, ¬ (k = 0 ∧ j = 29) → I2a k j = I2 k j := fun k j q => by rw [hI2a, pI_g, if_neg q]
    obtain ⟨i2, g1, g2⟩ := goThen_eq (x := alg s2 s3 k v) (h := h + i + 1) hP hp (by omega) (by omega) I2a Jm (by rw [ra 0 5 (by omega), h2 0 5 (by decide) (by decide) (by omega)]; exact m05) (fun j hj => by
      rw [ra 4 j (by omega), ra 5 j (by omega), ra 6 j (by omega), ra 11 j (by omega), ra 12 j (by omega), h2 4 j (by decide) (by decide) (by omega), h2 5 j (by decide) (by decide) (by omega), h2 6 j (by decide) (by decide) (by omega)]
      exact ⟨(mp j hj).1, (mp j hj).2.1, (mp j hj).2.2, (h11 j hj).1, (h11 j hj).2⟩)
    have hc' := cnt_svA (x := alg s2 s3 k v) (h := h + i + 1) hP
    obtain ⟨I1', I2', s', v', tot', sv', k1, k2, k3⟩ := ih (i + 1) f (lcg s) (alg s2 s3 k v) (tot + cntB (nwA (alg s2 s3 k v) (h + i + 1) kd pl tm ct sv) p) _ _ i1 i2 (by omega) (by omega) hl ha hP.next (by rw [hc', hc]; omega) d2 (fun k j q1 q2 => by rw [d3 k j q1 q2]; exact h1 k j q1 q2) (by rw [g2, if_neg (by omega), if_neg (by omega), hI2a, pI_g, if_pos ⟨rfl, rfl⟩]) (fun j hj => by
      rw [g2, if_pos ⟨rfl, hj⟩, g2, if_neg (by omega), if_pos ⟨rfl, hj⟩]; exact ⟨rfl, rfl⟩) (fun k j q1 q2 q3 => by
      rw [g2, if_neg (by omega), if_neg (by omega), ra k j q3]; exact h2 k j q1 q2 q3)
    refine ⟨I1', I2', s', v', tot', sv', ?_, ?_, k3⟩
    · show HX7_drift_6 _ _ _ _ _ _ = _
      unfold HX7_drift_6
      rw [if_neg (nI_ge (by omega) (by omega)), h1 3 1 (by decide) (by decide), c31, if_neg (nI_nle (by omega) (by omega)), nI_l (by omega), gd_t (by simp [pk_lEQ (b := 0) (show r < 2 ^ 63 by omega) (by decide), show (0 : Int64) = lN 0 from rfl]; omega), lcg_eq hs, show (65536 : Int64) = lN 65536 from rfl, pk_lDiv (by omega) (by decide) (by decide), pk_lRem (by omega) (by omega) (by omega), lN_i, ← hk, hE.1, bnd_t ar, bnd_t d1, nI_1]
      exact k1
    · show HX8_evenings_62 _ _ _ _ _ _ _ _ = _
      unfold HX8_evenings_62
      rw [if_neg (nI_nlt (by omega) (by omega)), bnd_t dr, gd_t hkin, hkc, ra 2 k (by omega), ra 3 k (by omega), h2 2 k (by decide) (by decide) (by omega), h2 3 k (by decide) (by decide) (by omega), (m2 k (by omega)).1, (m2 k (by omega)).2]
      have fin : BX8_evenings_124 (LX8_evenings_62 f) (nI N) x3 (nI tot) (nI (i + 1)) (nI (alg s2 s3 k v)) I2a Jm = some ((if x3 = 0 then nI tot' else if x3 = 1 then nI v' else nI s'), I2', Jm) := by
        unfold BX8_evenings_124
        rw [ra 0 7 (by omega), h2 0 7 (by decide) (by decide) (by omega), m07, nI_add, ← Nat.add_assoc, bnd_t g1, nI_add, nI_1]
        exact k2
      have x1 : nI (s2 k) = nI v ↔ s2 k = v := nI_eq (by omega) (by omega)
      have x2 : nI (s3 k) = nI v ↔ s3 k = v := nI_eq (by omega) (by omega)
      simp only [x1, x2]
      unfold alg at fin
      by_cases q1 : s2 k = v
      · rw [if_pos q1] at fin ⊢; exact fin
      · rw [if_neg q1] at fin ⊢
        by_cases q2 : s3 k = v
        · rw [if_pos q2] at fin ⊢; exact fin
        · rw [if_neg q2] at fin ⊢; exact fin
theorem b_evenings : ∀ (t : Nat) (Ic : aI) (Jc : aJ) (Im : aI) (Jm : aJ), t < 64 → Rel t Ic Jc Im Jm → ∀ x1 x2 x3 : Int32, ∃ (r : Int32) (Ic' : aI) (Jc' : aJ) (Im' : aI) (Jm' : aJ), fX7_evenings x1 x2 x3 Ic Jc = some (r, Ic', Jc') ∧ fX8_evenings x1 x2 x3 Im Jm = some (r, Im', Jm') ∧ Rel (t + 1) Ic' Jc' Im' Jm' := by
  intro t Ic Jc Im Jm _ hR x1 x2 x3
  obtain ⟨σ, hG, hM, hC⟩ := id hR
  have hR1 := Rel_skip _ _ _ _ _ hR
  have hp := hG.p
  unfold fX7_evenings fX8_evenings BX7_evenings_23 BX8_evenings_28
  rw [bnd_t (isWithin_eq _ _ _ _ _), bnd_t (in_rg x1 1 60 1 60 rfl rfl _ _)]
  by_cases hx1 : ¬ ((1 : Int32) ≤ x1 ∧ x1 ≤ 60)
  · rw [rg_f hx1, if_pos rfl, if_pos rfl]
    exact ⟨-102, Ic, Jc, Im, Jm, rfl, rfl, hR1⟩
  have hx1 := Decidable.of_not_not hx1
  rw [rg_t hx1, if_neg ne10, if_neg ne10]
  obtain ⟨N, hN1, hN2, rfl⟩ := (rg_c (lo := 1) (hi := 60) (by decide) x1 (by decide)).mp hx1
  by_cases hx2 : x2 < 0
  · rw [if_pos hx2, if_pos hx2]
    exact ⟨-102, Ic, Jc, Im, Jm, rfl, rfl, hR1⟩
  obtain ⟨s, hs, rfl⟩ := nI_of hx2
  rw [if_neg hx2, if_neg hx2, bnd_t (isWithin_eq _ _ _ _ _), bnd_t (in_rg x3 0 2 0 2 rfl rfl _ _)]
  rcases ix2 x3 2 (by decide) with h2 | ⟨w, hw, rfl, h2⟩
  · rw [show rg x3 0 2 = 0 from h2, if_pos rfl, if_pos rfl]
    exact ⟨-102, Ic, Jc, Im, Jm, rfl, rfl, hR1⟩
  rw [show rg (nI w) 0 2 = 1 from h2, if_neg ne10, if_neg ne10, bnd_t (hasSub_eq _ _), bnd_t (lacks_eq _ _)]
  rcases hG.has (by omega) hM hC with ⟨z1, z2, z3⟩ | ⟨h8, hS, z2, z3⟩
  · rw [if_pos z2, if_pos z3, if_pos rfl, if_neg ne10]
    exact ⟨-103, Ic, Jc, Im, Jm, rfl, rfl, hR1⟩
  rw [if_neg z2, if_neg z3, if_neg ne10, if_pos rfl]
  obtain ⟨s1, s2, s3, s4, s5, s6, s7, s8, s9, s10, s11⟩ := id hS
  obtain ⟨i1, d1, d2, f1, f2, f3, f4⟩ := copy0 (e0 := 36) (e1 := 32) (by decide) (by decide) (by decide) Ic Jc
  obtain ⟨m1, a1, b1⟩ := begin8 (pI Im 0 29 (nI s)) Jm
  have hE := hC.2.2.2.2.1
  obtain ⟨I1', I2', s', v', tot', sv', k1, k2, k3, k4, k5, k6, k7⟩ := drift_eq (x3 := nI w) (sv0 := σ 9) hp.1 s2.1 hp.2.1 hp.2.2.1 s5 (fun j hj => ⟨(s6 j hj).1, (s6 j hj).2.1⟩) N hN2 Ic Im Jc Jm hC.2.2.1.2.1 hC.2.2.1.2.2 hC.2.2.2.1.1 (kd := σ 4) (pl := σ 5) (tm := σ 6) (fun j hj => by
      obtain ⟨q1, q2, q3, q4⟩ := hC.2.2.2.1.2 j (by omega)
      exact ⟨q1, q2, q3⟩) (hM.g 0 4 rfl) (hM.g 0 5 rfl) (hM.g 0 7 rfl) (fun j hj => ⟨hM.g 2 j (by simpa [rs] using hj), hM.g 3 j (by simpa [rs] using hj)⟩) (fun j hj => by
      have j6 : j < 6 := by omega
      exact ⟨hM.g 4 j (by simpa [rs] using j6), hM.g 5 j (by simpa [rs] using j6), hM.g 6 j (by simpa [rs] using j6)⟩)
    N 0 128 s (σ 0 6) 0 (σ 8) (σ 9) i1 m1 (by omega) (by omega) hs s4 hS.pq (by omega)
    ⟨by rw [f1]; exact hE.1, by rw [f2]; exact hE.2.1, by rw [f3]; exact hE.2.2.1, fun j hj => by rw [f4 j hj]; exact hE.2.2.2 j hj⟩ d2
    (by rw [b1, if_neg (by omega), if_neg (by omega), pI_g, if_pos ⟨rfl, rfl⟩])
    (fun j hj => by
      have j6 : j < 6 := by omega
      rw [b1, if_pos ⟨rfl, j6⟩, b1, if_neg (by omega), if_pos ⟨rfl, j6⟩, pI_ro _ (by decide), pI_ro _ (by decide)]
      exact ⟨hM.g 8 j (by simpa [rs] using j6), hM.g 9 j (by simpa [rs] using j6)⟩)
    (fun k j q1 q2 q3 => by rw [b1, if_neg (by omega), if_neg (by omega), pI_g, if_neg q3])
  have hdr : fX7_drift (nI N) (nI s) i1 Jc = some (nI s', I1', Jc) := by
    unfold fX7_drift
    rw [nI_l hs]
    exact k1
  rw [bnd_t d1, bnd_t hdr, bnd_t a1, show m1 0 6 = nI (σ 0 6) by rw [b1, if_neg (by omega), if_neg (by omega), pI_g, if_neg (by omega)]; exact hM.g 0 6 rfl]
  have hRn : Rel (t + 1) I1' Jc I2' Jm := by
    refine ⟨σ, hG.mono, hM.keep (fun k j hr => ?_) (k7 0 30 (by decide) (by decide) (by omega)), hC.keep hp.1 (fun k j hr => ?_)⟩
    · exact k7 k j (fun q => by subst q; simp [rs] at hr) (fun q => by subst q; simp [rs] at hr) (fun q => by obtain ⟨rfl, rfl⟩ := q; simp [rs] at hr)
    · exact k6 k j (fun q => by subst q; simp [rc] at hr) (fun q => by subst q; simp [rc] at hr)
  have k2' : LX8_evenings_62 128 (nI N) (nI w) (nI (σ 0 6)) 0 1 m1 Jm = _ := k2
  rw [k2']
  unfold BX7_evenings_92
  rcases (show w = 0 ∨ w = 1 ∨ w = 2 by omega) with rfl | rfl | rfl
  · rw [if_neg (show ¬ nI 0 = 2 by decide), if_pos (show nI 0 = 0 from rfl), if_pos (show nI 0 = 0 from rfl), bnd_t (served_eq hp.2.2.1 Jc k4), bnd_t (served_eq hp.2.2.1 Jc (by rw [k6 32 2 (by decide) (by decide)]; exact hE.2.2.1)), pk_sub (by omega), k5, Nat.add_sub_cancel_left]
    exact ⟨_, _, _, _, _, rfl, rfl, hRn⟩
  · rw [if_neg (show ¬ nI 1 = 2 by decide), if_neg (show ¬ nI 1 = 0 by decide), if_neg (show ¬ nI 1 = 0 by decide), if_pos (show nI 1 = 1 from rfl), k3]
    exact ⟨_, _, _, _, _, rfl, rfl, hRn⟩
  · rw [if_pos (show nI 2 = 2 from rfl), if_neg (show ¬ nI 2 = 0 by decide), if_neg (show ¬ nI 2 = 1 by decide)]
    exact ⟨_, _, _, _, _, rfl, rfl, hRn⟩
