/-! suburb -/
def OkS (q : Nat → Nat) (N : Nat) : Prop := fl q N 0 = N ∧ smAt q N ≠ 0 ∧ smAt q N + 10 ≤ N ∧ (N - smAt q N) % 5 = 0
theorem isSub_0 (I : aI) (J : aJ) : BX3_isSuburb_40 I J = some (0, I, J) := by unfold BX3_isSuburb_40 BX3_isSuburb_41; exact gd_t (by decide)
theorem isSub7 {q : Nat → Nat} {N : Nat} (hN : N ≤ 60) (hq : ∀ j, j < N → q j < 127) {I : aI} (J : aJ) (h : Pg q N I) :
    ∃ I' : aI, ((OkS q N ∧ fX3_isSuburb I J = some (1, I', J) ∧ I' 1 2 = nI (rdAt q N) ∧ I' 1 3 = nI (pcAt q N) ∧ I' 1 4 = i14 q N) ∨ (¬ OkS q N ∧ fX3_isSuburb I J = some (0, I', J))) ∧ ∀ k j, ¬ (k = 1 ∧ 2 ≤ j ∧ j ≤ 4) → I' k j = I k j := by
  obtain ⟨I1, a1, a2, a3⟩ := firstFault_eq hN hq (I := I) J h
  have hle := (fl_ge q N 0).2
  have g11 : I1 1 1 = nI N := by rw [a3 1 1 (by omega)]; exact h.1
  refine ⟨I1, ?_, a3⟩
  unfold fX3_isSuburb
  rw [bnd_t a1, g11, isSub_0]
  by_cases w : fl q N 0 = N
  · obtain ⟨b1, b2, b3⟩ := a2 w
    rw [if_pos (by rw [w]), b2]
    by_cases z : smAt q N = 0
    · right
      refine ⟨fun y => y.2.1 z, ?_⟩
      rw [show pcAt q N = 0 by unfold pcAt; rw [if_pos z], if_pos (show nI 0 < 2 by decide)]
    · obtain ⟨m1, m2, m3⟩ := smAt_lt q N z
      have epc : pcAt q N = (N - smAt q N) / 5 := by unfold pcAt; rw [if_neg z]
      have e14 : i14 q N = nI (smAt q N + 1) := by unfold i14; rw [if_neg z]
      by_cases y : pcAt q N < 2
      · right
        refine ⟨fun x => by have := x.2.2.1; omega, ?_⟩
        rw [if_pos (show nI (pcAt q N) < 2 from nI_lt (b := 2) y (by decide))]
      · have ps : fX3_personStart (nI (pcAt q N)) I1 J = some (nI (smAt q N + 1 + 5 * pcAt q N), I1, J) := by
          unfold fX3_personStart
          rw [b3, e14, show (5 : Int32) * nI (pcAt q N) = nI (5 * pcAt q N) from pk_mul 5 _, nI_add]
        rw [if_neg (show ¬ nI (pcAt q N) < 2 from nI_nlt (b := 2) (by omega) (by omega)), bnd_t ps, show nI (smAt q N + 1 + 5 * pcAt q N) - 1 = nI (smAt q N + 1 + 5 * pcAt q N - 1) from pk_sub (b := 1) (by omega)]
        have l : nI N = nI (smAt q N + 1 + 5 * pcAt q N - 1) ↔ N = smAt q N + 1 + 5 * pcAt q N - 1 := nI_eq (by omega) (by omega)
        by_cases x : N = smAt q N + 1 + 5 * pcAt q N - 1
        · left
          refine ⟨⟨w, z, by omega, by omega⟩, ?_, b1, rfl, b3⟩
          rw [if_pos (l.mpr x)]
          unfold BX3_isSuburb_41
          exact gd_t (by decide)
        · right
          refine ⟨fun u => x (by have := u.2.2.2; omega), ?_⟩
          rw [if_neg (fun u => x (l.mp u)), isSub_0]
  · right
    refine ⟨fun y => w y.1, ?_⟩
    rw [if_neg (fun y => w ((nI_eq (by omega) (by omega)).mp y))]
theorem suburb8_no {σ : sN} {I : aI} (hM : RM σ I) (J : aJ) (hN : σ 0 1 ≤ 60) (hq : ∀ j, j < σ 0 1 → σ 1 j < 127) (hno : ¬ OkS (σ 1) (σ 0 1)) :
    ∃ I' : aI, fX8_suburb I J = some (-103, I', J) ∧ ∀ k j, ¬ (k = 0 ∧ j = 2) → I' k j = I k j := by
  obtain ⟨I1, b1, b2, b3⟩ := faultOf_eq hN (fun j hj => by have := hq j hj; omega) (I := I) J (hM.g 0 1 rfl) (fun j hj => hM.g 1 j (by simp [rs]; omega))
  have hle := (fl_ge (σ 1) (σ 0 1) 0).2
  have g01 : I1 0 1 = nI (σ 0 1) := by rw [b3 0 1 (by omega)]; exact hM.g 0 1 rfl
  refine ⟨I1, ?_, b3⟩
  unfold fX8_suburb BX8_suburb_46
  rw [bnd_t b1, g01]
  by_cases w : fl (σ 1) (σ 0 1) 0 = σ 0 1
  · have b2 := b2 w
    rw [w, if_neg (nI_nlt (Nat.le_refl _) (by omega)), b2]
    by_cases z : smAt (σ 1) (σ 0 1) = 0
    · rw [if_pos (show nI (smAt (σ 1) (σ 0 1)) = 0 by rw [z]; rfl)]
    · obtain ⟨m1, m2, m3⟩ := smAt_lt (σ 1) (σ 0 1) z
      rw [if_neg (nI_ne0 (by omega) (by omega)), show nI (smAt (σ 1) (σ 0 1)) + 10 = nI (smAt (σ 1) (σ 0 1) + 10) from nI_add _ 10]
      by_cases y : σ 0 1 < smAt (σ 1) (σ 0 1) + 10
      · rw [if_pos (nI_lt y (by omega))]
      · rw [if_neg (nI_nlt (by omega) (by omega)), pk_sub (show smAt (σ 1) (σ 0 1) ≤ σ 0 1 by omega), show nI (σ 0 1 - smAt (σ 1) (σ 0 1)) - nI (σ 0 1 - smAt (σ 1) (σ 0 1)) / 5 * 5 = nI ((σ 0 1 - smAt (σ 1) (σ 0 1)) % 5) from pk_rem (d := 5) (by omega) (by decide) (by decide), if_neg (fun x => by
          have x0 : (σ 0 1 - smAt (σ 1) (σ 0 1)) % 5 = 0 := (nI_eq (b := 0) (by omega) (by decide)).mp x
          exact hno ⟨w, z, by omega, x0⟩)]
  · rw [if_pos (nI_lt (by omega) (by omega))]
def fin7 (I : aI) : aI := pI (pI (pI (pI I 38 0 0) 0 11 0) 0 12 (((pI (pI I 38 0 0) 0 11 0) 0 12) + 1)) 1 1 0
theorem suburb7 {t : Nat} {σ : sN} {I I1 : aI} {sm n r p : Nat} {g : Nat → Nat} (hG : Good t σ) (hC : RC σ I) (J : aJ) (hK : Pk (σ 1) (σ 0 1) sm n r p) (hsm : sm = smAt (σ 1) (σ 0 1)) (hz : smAt (σ 1) (σ 0 1) ≠ 0) (hD : Dm n (adj r (sb2 σ r) (sb3 σ r)) (fr g))
    (c1 : fX3_isSuburb I J = some (1, I1, J)) (c2 : I1 1 2 = nI (rdAt (σ 1) (σ 0 1))) (c3 : I1 1 3 = nI (pcAt (σ 1) (σ 0 1))) (c4 : I1 1 4 = i14 (σ 1) (σ 0 1)) (c5 : ∀ k j, ¬ (k = 1 ∧ 2 ≤ j ∧ j ≤ 4) → I1 k j = I k j) :
    ∃ I' : aI, fX7_suburb I J = some (nI p, I', J) ∧ RC (sbS σ sm n r p g) I' := by
  have hK' := hK
  obtain ⟨⟨k1, k1a, k1b⟩, k2, ⟨r1, r2, r3, r4⟩, ⟨p1, p2, p3, p4, p5⟩, k5⟩ := hK
  obtain ⟨d1, d2, d3, d4, d5, d6, d7, d8⟩ := hC
  have hP1 : Pg (σ 1) (σ 0 1) I1 := ⟨by rw [c5 1 1 (by omega)]; exact d1.1, fun j hj => by rw [c5 2 j (by omega)]; exact d1.2 j (by omega)⟩
  have e2 : I1 1 2 = nI r := by
    rw [c2]
    unfold rdAt
    rw [if_neg hz, ← hsm]
    exact congrArg nI (by omega)
  have e3 : I1 1 3 = nI p := by
    rw [c3]
    unfold pcAt
    rw [if_neg hz, ← hsm]
    exact congrArg nI (by omega)
  have e4 : I1 1 4 = nI (sm + 1) := by
    rw [c4]
    unfold i14
    rw [if_neg hz, ← hsm]
  obtain ⟨I2, f1, f2, f3, f4, f5, f6, f7⟩ := build_eq (g := g) hK' (s2 := sb2 σ r) (s3 := sb3 σ r) (fun k hk => by unfold sb2; rw [if_pos hk]) (fun k hk => by unfold sb3; rw [if_pos hk]) hK'.roads hD (I := I1) J hP1 e2
  obtain ⟨I3, g1, g2, g3, g4, g5⟩ := settle_eq hK' (I := I2) J (hP1.keep f7) (by rw [f7 1 3 (by omega)]; exact e3) (by rw [f7 1 4 (by omega)]; exact e4)
  have hP3 : Pg (σ 1) (σ 0 1) I3 := ⟨by rw [g5 1 1 (by omega)]; exact (hP1.keep f7).1, fun j hj => by rw [g5 2 j (by omega)]; exact (hP1.keep f7).2 j hj⟩
  obtain ⟨I4, h1, h2, h3, h4, h5, h6⟩ := begin0 (e := 32) (nI (σ 1 1 - 48)) I3 J
  have o4 : ∀ k j, (k < 3 ∨ (26 < k ∧ k ≠ 32 ∧ k ≠ 33)) → ¬ (k = 1 ∧ 2 ≤ j ∧ j ≤ 4) → I4 k j = I k j := fun k j hk hn => by rw [h6 k j (by omega) (by omega), g5 k j (by omega), f7 k j (by omega), c5 k j hn]
  have t4 : ∀ k j, k < 22 → I4 k j = I2 k j := fun k j hk => by rw [h6 k j (by omega) (by omega), g5 k j (by omega)]
  have F1 : ∀ k j, k ≠ 38 → k ≠ 0 → k ≠ 1 → fin7 I4 k j = I4 k j := fun k j x1 x2 x3 => by unfold fin7; rw [pI_ro _ x3, pI_ro _ x2, pI_ro _ x2, pI_ro _ x1]
  have F2 : fin7 I4 38 0 = 0 := by unfold fin7; rw [pI_ro _ (by decide), pI_ro _ (by decide), pI_ro _ (by decide), pI_s]
  have F3 : fin7 I4 0 11 = 0 := by unfold fin7; rw [pI_ro _ (by decide), pI_c _ (by decide), pI_s]
  have F4 : fin7 I4 0 12 = I 0 12 + 1 := by
    unfold fin7
    rw [pI_ro _ (by decide), pI_s, pI_c _ (by decide), pI_ro _ (by decide), o4 0 12 (by omega) (by omega)]
  have F5 : fin7 I4 0 13 = I 0 13 := by
    unfold fin7
    rw [pI_ro _ (by decide), pI_c _ (by decide), pI_c _ (by decide), pI_ro _ (by decide), o4 0 13 (by omega) (by omega)]
  have F6 : fin7 I4 1 1 = 0 := by unfold fin7; rw [pI_s]
  have v22 : fin7 I4 22 0 = nI p := by rw [F1 22 0 (by decide) (by decide) (by decide), h6 22 0 (by decide) (by decide)]; exact g2
  refine ⟨fin7 I4, ?_, ⟨?_, fun j hj => ?_⟩, ⟨?_, ?_⟩, ⟨?_, ?_, fun j hj => ?_⟩, ⟨?_, fun j hj => ?_⟩, ?_, ⟨?_, fun j hj => ?_⟩, ⟨?_, fun z => ?_⟩, ?_⟩
  · unfold fX7_suburb
    rw [bnd_t c1, if_neg ne10, bnd_t f1, bnd_t g1, bnd_t (show fX3_digitAt 1 I3 J = _ from digit7 (x := 1) p2 (by omega) hP3 J), n48 k2.1, bnd_t h1]
    show some (fin7 I4 22 0, fin7 I4, J) = _
    rw [v22]
  · exact F6
  · show _ = nI (σ 1 j)
    rw [F1 2 j (by decide) (by decide) (by decide), o4 2 j (by omega) (by omega)]
    exact d1.2 j hj
  · show _ = nI (σ 0 8 + 1)
    rw [F4, d2.1, nI_1]
  · show _ = nI (σ 0 24)
    rw [F5]
    exact d2.2
  · show _ = nI n
    rw [F1 3 0 (by decide) (by decide) (by decide), t4 3 0 (by omega)]
    exact f2
  · show _ = nI r
    rw [F1 3 1 (by decide) (by decide) (by decide), t4 3 1 (by omega)]
    exact f3
  · show _ = nI (sb2 σ r j) ∧ _ = nI (sb3 σ r j)
    rw [F1 4 j (by decide) (by decide) (by decide), F1 5 j (by decide) (by decide) (by decide), t4 4 j (by omega), t4 5 j (by omega)]
    by_cases x : j < r
    · exact f4 j x
    · rw [(f5 j (by omega)).1, (f5 j (by omega)).2, c5 4 j (by omega), c5 5 j (by omega)]
      unfold sb2 sb3
      rw [if_neg x, if_neg x]
      exact d3.2.2 j hj
  · exact v22
  · show _ = nI (sbP σ sm p 5 j) ∧ _ = nI (sbP σ sm p 4 j) ∧ _ = nI (sbP σ sm p 6 j) ∧ _ = nI (sbP σ sm p 7 j)
    rw [F1 23 j (by decide) (by decide) (by decide), F1 24 j (by decide) (by decide) (by decide), F1 25 j (by decide) (by decide) (by decide), F1 26 j (by decide) (by decide) (by decide), h6 23 j (by decide) (by decide), h6 24 j (by decide) (by decide), h6 25 j (by decide) (by decide), h6 26 j (by decide) (by decide)]
    unfold sbP
    by_cases x : j < p
    · rw [if_pos x, if_pos x, if_pos x, if_pos x]
      exact g3 j x
    · obtain ⟨u1, u2, u3, u4⟩ := g4 j (by omega)
      rw [if_neg x, if_neg x, if_neg x, if_neg x, u1, u2, u3, u4, f7 23 j (by omega), f7 24 j (by omega), f7 25 j (by omega), f7 26 j (by omega), c5 23 j (by omega), c5 24 j (by omega), c5 25 j (by omega), c5 26 j (by omega)]
      exact d4.2 j hj
  · refine ⟨?_, ?_, ?_, fun j hj => ?_⟩
    · show _ = nI (σ 1 1 - 48)
      rw [F1 32 0 (by decide) (by decide) (by decide)]
      exact h2
    · rw [F1 32 1 (by decide) (by decide) (by decide)]
      exact h3
    · show _ = nI (msk (fun j => decide (sbP σ sm p 9 j = 1)) p)
      rw [F1 32 2 (by decide) (by decide) (by decide), h4, show msk (fun j => decide (sbP σ sm p 9 j = 1)) p = 0 from (msk_congr (g := fun _ => false) (fun j hj => by unfold sbP; rw [if_pos hj]; rfl)).trans (msk_0 p)]
      rfl
    · show _ = nI (if j < p then sbP σ sm p 8 j else 0)
      rw [F1 (32 + 1) j (by decide) (by decide) (by decide), h5 j hj]
      by_cases x : j < p
      · rw [if_pos x]
        unfold sbP
        rw [if_pos x]
        rfl
      · rw [if_neg x]
        rfl
  · exact F2
  · show _ = nI (σ 19 (2 * j)) ∧ _ = nI (σ 19 (2 * j + 1))
    rw [F1 39 j (by decide) (by decide) (by decide), F1 40 j (by decide) (by decide) (by decide), o4 39 j (by omega) (by omega), o4 40 j (by omega) (by omega)]
    exact d6.2 j hj
  · show _ = if σ 0 30 = σ 0 8 + 1 + 1 then 1 else 0
    have := hG.2.2.2.1.1
    rw [F3, if_neg (by omega)]
  · have z : σ 0 30 = σ 0 8 + 1 + 1 := z
    have := hG.2.2.2.1.1
    omega
  · show RCt (fin7 I4) n r (sb2 σ r) (sb3 σ r) g
    exact f6.keep k1b (fun k j x1 x2 => by rw [F1 k j (by omega) (by omega) (by omega), t4 k j (by omega)])
theorem sb_good {t : Nat} {σ : sN} {sm n r p : Nat} {g : Nat → Nat} (hG : Good t σ) (hK : Pk (σ 1) (σ 0 1) sm n r p) (hD : Dm n (adj r (sb2 σ r) (sb3 σ r)) (fr g)) : Good (t + 1) (sbS σ sm n r p g) := by
  have hrd := hK.roads
  obtain ⟨⟨k1, k1a, k1b⟩, k2, ⟨r1, r2, r3, r4⟩, ⟨p1, p2, p3, p4, p5⟩, k5⟩ := hK
  obtain ⟨a1, a2, a3, a4, a5⟩ := hG
  have s0 : ∀ k, sbS σ sm n r p g 0 k = sb0 σ n r p k := fun _ => rfl
  refine ⟨⟨Nat.zero_le _, fun j hj => absurd (show j < 0 from hj) (Nat.not_lt_zero j)⟩, ?_, a3, ⟨?_, a4.2⟩, Or.inr ⟨?_, ⟨k1a, k1b⟩, ⟨r2, r3⟩, ⟨p3, p4⟩, ?_, Nat.zero_le _, hrd, fun j hj => ?_, fun j hj => ?_, hD.di k1b hrd, ⟨Nat.zero_le _, fun j hj => absurd (show j < 0 from hj) (Nat.not_lt_zero j)⟩, fun z => ?_⟩⟩
  · show σ 0 8 + 1 ≤ t + 1
    omega
  · show σ 0 30 ≤ σ 0 8 + 1 + 1
    have := a4.1
    omega
  · show 1 ≤ σ 0 8 + 1
    omega
  · show σ 1 1 - 48 < n
    omega
  · have hj : j < p := hj
    show sbP σ sm p 5 j < n
    unfold sbP
    rw [if_pos hj]
    have := (p5 j hj).2.1
    show σ 1 (sm + 1 + 5 * j + 1) - 48 < n
    omega
  · have hj : j < p := hj
    show sbP σ sm p 4 j ≤ 4 ∧ sbP σ sm p 6 j ≤ 9 ∧ sbP σ sm p 7 j ≤ 9 ∧ (sbP σ sm p 9 j = 0 ∨ sbP σ sm p 9 j = 1) ∧ sbP σ sm p 8 j ≤ ndN (sbP σ sm p 4 j) ∧ (sbP σ sm p 9 j = 0 → sbP σ sm p 8 j < ndN (sbP σ sm p 4 j))
    obtain ⟨u1, u2, u3, u4⟩ := p5 j hj
    unfold sbP
    rw [if_pos hj, if_pos hj, if_pos hj, if_pos hj, if_pos hj]
    have nd := ndN_le (pv (σ 1) sm 4 j)
    refine ⟨?_, ?_, ?_, Or.inl rfl, Nat.zero_le _, fun _ => ?_⟩
    · show kdN (σ 1 (sm + 1 + 5 * j)) ≤ 4
      omega
    · show σ 1 (sm + 1 + 5 * j + 2) - 48 ≤ 9
      omega
    · show σ 1 (sm + 1 + 5 * j + 3) - 48 ≤ 9
      omega
    · show 0 < ndN (pv (σ 1) sm 4 j)
      omega
  · have z : σ 0 30 = σ 0 8 + 1 + 1 := z
    have := a4.1
    omega
theorem b_suburb : ∀ (t : Nat) (Ic : aI) (Jc : aJ) (Im : aI) (Jm : aJ), t < 64 → Rel t Ic Jc Im Jm → ∃ (r : Int32) (Ic' : aI) (Jc' : aJ) (Im' : aI) (Jm' : aJ), fX7_suburb Ic Jc = some (r, Ic', Jc') ∧ fX8_suburb Im Jm = some (r, Im', Jm') ∧ Rel (t + 1) Ic' Jc' Im' Jm' := by
  intro t Ic Jc Im Jm ht hR
  obtain ⟨σ, hG, hM, hC⟩ := id hR
  have hp := hG.p
  have hN := hG.1.1
  have hq : ∀ j, j < σ 0 1 → σ 1 j < 127 := fun j hj => by have := hG.1.2 j hj; omega
  obtain ⟨I1, a1, a2⟩ := isSub7 hN hq (I := Ic) Jc ⟨hC.1.1, fun j hj => hC.1.2 j (by omega)⟩
  rcases a1 with ⟨⟨o1, o2, o3, o4⟩, c1, c2, c3, c4⟩ | ⟨hno, c1⟩
  · obtain ⟨n, r, p, hK⟩ := page_k hN hq o1 o2 o3 o4
    obtain ⟨Im', g, b1, b2, b3⟩ := suburb8 hM Jm o1 hK
    obtain ⟨Ic', d1, d2⟩ := suburb7 hG hC Jc hK rfl o2 b2 c1 c2 c3 c4 a2
    exact ⟨nI p, Ic', Jc, Im', Jm, d1, b1, _, sb_good hG hK b2, b3, d2⟩
  · obtain ⟨I2, b1, b3⟩ := suburb8_no hM Jm hN hq hno
    refine ⟨-103, I1, Jc, I2, Jm, ?_, b1, σ, hG.mono, hM.keep (fun k j hr => b3 k j (fun z => by obtain ⟨rfl, rfl⟩ := z; simp [rs] at hr)) (b3 0 30 (by omega)), hC.keep hp.1 (fun k j hr => a2 k j (fun z => by
      obtain ⟨rfl, z1, z2⟩ := z
      simp [rc] at hr
      omega))⟩
    unfold fX7_suburb
    rw [bnd_t c1, if_pos rfl]
