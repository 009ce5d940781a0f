/-! the best round: every way in order, each with its worth (one more than the worth; 0: no way) -/
def uns (p : Nat) (ct sv : Nat → Nat) : Nat := smN (fun j => if sv j = 0 then ct j else 0) p
def vl (σ : sN) : Nat → Nat → (Nat → Nat) → (Nat → Nat) → Nat → Nat → Nat → Nat
  | 0, _, ct, sv, a, _, _ => 100 * a + uns (σ 0 5) ct sv + 1
  | m + 1, v, ct, sv, a, d, w => if w / 6 ^ m % 6 < σ 0 3 ∧ nxt (σ 10) v (w / 6 ^ m % 6) = true then vl σ m (w / 6 ^ m % 6) (ctA (w / 6 ^ m % 6) (σ 0 7 + d + 1) (σ 4) (σ 5) (σ 6) ct sv) (svA (w / 6 ^ m % 6) (σ 0 7 + d + 1) (σ 4) (σ 5) (σ 6) ct sv) (a + cntB (nwA (w / 6 ^ m % 6) (σ 0 7 + d + 1) (σ 4) (σ 5) (σ 6) ct sv) (σ 0 5)) (d + 1) w else 0
def upB (B : Nat × Nat) (w x : Nat) : Nat × Nat := if x ≤ B.2 then B else (w, x)
def fd (g : Nat → Nat × Nat → Nat × Nat) (s : Nat) : Nat → Nat × Nat → Nat × Nat
  | 0, B => B
  | c + 1, B => g (s + c) (fd g s c B)
theorem fd_add (g : Nat → Nat × Nat → Nat × Nat) (s a : Nat) (B : Nat × Nat) : ∀ b, fd g s (a + b) B = fd g (s + a) b (fd g s a B)
  | 0 => rfl
  | b + 1 => by
    show g (s + (a + b)) (fd g s (a + b) B) = g (s + a + b) (fd g (s + a) b (fd g s a B))
    rw [fd_add g s a B b, Nat.add_assoc]
theorem fd_congr {g g' : Nat → Nat × Nat → Nat × Nat} {s : Nat} {B : Nat × Nat} : ∀ c, (∀ i, i < c → ∀ B, g (s + i) B = g' (s + i) B) → fd g s c B = fd g' s c B
  | 0, _ => rfl
  | c + 1, h => by
    show g (s + c) (fd g s c B) = g' (s + c) (fd g' s c B)
    rw [fd_congr c (fun i hi => h i (by omega)), h c (by omega)]
theorem fd_id {g : Nat → Nat × Nat → Nat × Nat} {s : Nat} {B : Nat × Nat} : ∀ c, (∀ i, i < c → ∀ B, g (s + i) B = B) → fd g s c B = B
  | 0, _ => rfl
  | c + 1, h => by
    show g (s + c) (fd g s c B) = B
    rw [fd_id c (fun i hi => h i (by omega)), h c (by omega)]
theorem uns_le {p : Nat} {kd pl tm ct sv : Nat → Nat} (hP : Pq p kd pl tm ct sv) (hp : p ≤ 6) : uns p ct sv ≤ 18 := by
  have h : uns p ct sv ≤ p * 3 := smN_le p (fun j hj => by
    have h1 := (hP j hj).2.2.2.2.1
    have h2 := ndN_le (kd j)
    split <;> omega)
  omega
theorem figure_eq {w M d : Nat} (hM : M ≤ 5) (hd : d < M) (hw : w < 2 ^ 31) (I : aI) (J : aJ) : fX8_figure (nI w) (nI M) (nI d) I J = some (nI (w / 6 ^ (M - 1 - d) % 6), I, J) := by
  have key : ∀ (m x f : Nat), x + m = M → m < f → ∀ y, y < 2 ^ 31 → LX8_figure_7 f (nI M) (nI y) (nI x) I J = some (nI (y / 6 ^ m % 6), I, J) := by
    intro m
    induction m with
    | zero =>
      intro x f hx hf y hy
      obtain ⟨f, rfl⟩ : ∃ z, f = z + 1 := ⟨f - 1, by omega⟩
      show HX8_figure_7 _ _ _ _ _ _ = _
      unfold HX8_figure_7
      rw [if_pos (nI_le (by omega) (by omega)), show nI y - nI y / 6 * 6 = nI (y % 6) from pk_rem (d := 6) hy (by decide) (by decide), Nat.pow_zero, Nat.div_one]
    | succ m ih =>
      intro x f hx hf y hy
      obtain ⟨f, rfl⟩ : ∃ z, f = z + 1 := ⟨f - 1, by omega⟩
      have e := ih (x + 1) f (by omega) (by omega) (y / 6) (by omega)
      show HX8_figure_7 _ _ _ _ _ _ = _
      unfold HX8_figure_7
      rw [if_neg (nI_ge (by omega) (by omega)), show nI y / 6 = nI (y / 6) from pk_div (d := 6) hy (by decide) (by decide), nI_1, e, Nat.div_div_eq_div_mul, Nat.pow_succ, Nat.mul_comm 6]
  unfold fX8_figure
  rw [nI_1]
  exact key (M - 1 - d) (d + 1) 128 (by omega) (by omega) w hw
theorem worth15 {σ : sN} {I : aI} (hS : Sub σ) (hM : RM σ I) (J : aJ) {M w : Nat} (hM5 : M ≤ 5) (hw : w < 2 ^ 31) :
    ∀ (m d f v a : Nat) (ct sv : Nat → Nat) (s : aI), d + m = M → m < f → v < σ 0 3 → Pq (σ 0 5) (σ 4) (σ 5) (σ 6) ct sv → (∀ j, j < σ 0 5 → s 11 j = nI (ct j) ∧ s 12 j = nI (sv j)) → (∀ k j, k ≠ 11 → k ≠ 12 → s k j = I k j) →
      ∃ s', LX8_worthOf_15 f (nI w) (nI M) (nI v) (nI (100 * a)) (nI d) s J = some (nI (vl σ m v ct sv a d w) - 1, s', J) ∧ ∀ k j, k ≠ 11 → k ≠ 12 → s' k j = I k j := by
  obtain ⟨s1, s2, s3, s4, s5, s6, s7, s8, s9, s10, s11⟩ := id hS
  intro m
  induction m with
  | zero =>
    intro d f v a ct sv s hd hf hv hP h11 hk
    obtain ⟨f, rfl⟩ : ∃ z, f = z + 1 := ⟨f - 1, by omega⟩
    refine ⟨s, ?_, hk⟩
    show HX8_worthOf_15 _ _ _ _ _ _ _ _ = some (nI (100 * a + uns (σ 0 5) ct sv + 1) - 1, s, J)
    unfold HX8_worthOf_15
    rw [if_pos (nI_le (by omega) (by omega)), nI_pred]
    refine cl (fun f j => LX8_worthOf_86 f (nI (100 * a + smN (fun j => if sv j = 0 then ct j else 0) j)) (nI j) s J) (σ 0 5) (fun f j hj => ?_) (fun f => ?_) (f0 := 128) (by omega)
    · obtain ⟨q1, q2, q3, q4, q5, q6⟩ := hP j hj
      have e : nI (sv j) = 0 ↔ sv j = 0 := nI_eq (b := 0) (by omega) (by decide)
      show HX8_worthOf_86 _ _ _ _ _ = _
      unfold HX8_worthOf_86 BX8_worthOf_118
      rw [hk 0 5 (by decide) (by decide), hM.g 0 5 rfl, if_neg (nI_ge hj (by omega)), gd_t (inb_nI (show j < 6 by omega) (by decide)), nI_clamp (by omega), (h11 j hj).1, (h11 j hj).2, nI_1, nI_add, Int32.add_zero]
      simp only [smN]
      by_cases z : sv j = 0
      · rw [if_pos (e.mpr z), if_pos z, Nat.add_assoc]
      · rw [if_neg (fun y => z (e.mp y)), if_neg z]; rfl
    · show HX8_worthOf_86 _ _ _ _ _ = _
      unfold HX8_worthOf_86
      rw [hk 0 5 (by decide) (by decide), hM.g 0 5 rfl, if_pos (nI_le (by omega) (by omega))]
      rfl
  | succ m ih =>
    intro d f v a ct sv s hd hf hv hP h11 hk
    obtain ⟨f, rfl⟩ : ∃ z, f = z + 1 := ⟨f - 1, by omega⟩
    have hMs : RM σ s := hM.keep (fun k j hr => hk k j (fun z => by subst z; simp [rs] at hr) (fun z => by subst z; simp [rs] at hr)) (hk 0 30 (by decide) (by decide))
    have hfig := figure_eq (w := w) (M := M) (d := d) hM5 (by omega) hw s J
    rw [show M - 1 - d = m by omega] at hfig
    show ∃ s', HX8_worthOf_15 _ _ _ _ _ _ _ _ = some (nI (if w / 6 ^ m % 6 < σ 0 3 ∧ nxt (σ 10) v (w / 6 ^ m % 6) = true then vl σ m (w / 6 ^ m % 6) (ctA (w / 6 ^ m % 6) (σ 0 7 + d + 1) (σ 4) (σ 5) (σ 6) ct sv) (svA (w / 6 ^ m % 6) (σ 0 7 + d + 1) (σ 4) (σ 5) (σ 6) ct sv) (a + cntB (nwA (w / 6 ^ m % 6) (σ 0 7 + d + 1) (σ 4) (σ 5) (σ 6) ct sv) (σ 0 5)) (d + 1) w else 0) - 1, s', J) ∧ _
    have hx6 : w / 6 ^ m % 6 < 6 := Nat.mod_lt _ (by decide)
    generalize w / 6 ^ m % 6 = x at *
    unfold HX8_worthOf_15 BX8_worthOf_49
    rw [if_neg (nI_ge (by omega) (by omega)), bnd_t hfig, hMs.g 0 3 rfl]
    by_cases hx : x < σ 0 3
    · rw [if_neg (nI_ge hx (by omega)), bnd_t (isNextB hMs J (by omega) (by omega) (s9.le hv hx))]
      by_cases hn : nxt (σ 10) v x = true
      · obtain ⟨I2, g1, g2⟩ := goThen_eq (x := x) (h := σ 0 7 + d + 1) hP (by omega) (by omega) (by omega) s J (hMs.g 0 5 rfl) (fun j hj => ⟨hMs.g 4 j (by simp [rs]; omega), hMs.g 5 j (by simp [rs]; omega), hMs.g 6 j (by simp [rs]; omega), (h11 j hj).1, (h11 j hj).2⟩)
        obtain ⟨s', b1, b2⟩ := ih (d + 1) f x (a + cntB (nwA x (σ 0 7 + d + 1) (σ 4) (σ 5) (σ 6) ct sv) (σ 0 5)) _ _ I2 (by omega) (by omega) hx hP.next (fun j hj => by
          rw [g2, if_pos ⟨rfl, hj⟩, g2, if_neg (by omega), if_pos ⟨rfl, hj⟩]; exact ⟨rfl, rfl⟩) (fun k j k1 k2 => by rw [g2, if_neg (fun z => k1 z.1), if_neg (fun z => k2 z.1)]; exact hk k j k1 k2)
        rw [if_pos (show x < σ 0 3 ∧ nxt (σ 10) v x = true from ⟨hx, hn⟩), if_neg (show ¬ bN (nxt (σ 10) v x) = 0 by rw [hn]; decide), hMs.g 0 7 rfl, nI_add, nI_1, bnd_t g1, show (100 : Int32) * nI (cntB (nwA x (σ 0 7 + d + 1) (σ 4) (σ 5) (σ 6) ct sv) (σ 0 5)) = nI (100 * cntB (nwA x (σ 0 7 + d + 1) (σ 4) (σ 5) (σ 6) ct sv) (σ 0 5)) from pk_mul 100 _, nI_add, nI_1, ← Nat.mul_add]
        exact ⟨s', b1, b2⟩
      · rw [if_neg (show ¬ (x < σ 0 3 ∧ nxt (σ 10) v x = true) from fun z => hn z.2), if_pos (show bN (nxt (σ 10) v x) = 0 by rw [show nxt (σ 10) v x = false by simpa using hn]; rfl)]
        exact ⟨s, rfl, hk⟩
    · rw [if_neg (show ¬ (x < σ 0 3 ∧ nxt (σ 10) v x = true) from fun z => hx z.1), if_pos (nI_le (by omega) (by omega))]
      exact ⟨s, rfl, hk⟩
theorem vl_le {σ : sN} (hS : Sub σ) {sv0 : Nat → Nat} : ∀ (m d v a w : Nat) (ct sv : Nat → Nat), Pq (σ 0 5) (σ 4) (σ 5) (σ 6) ct sv → cntB (fun j => decide (sv j = 1)) (σ 0 5) = cntB (fun j => decide (sv0 j = 1)) (σ 0 5) + a → vl σ m v ct sv a d w ≤ 619
  | 0, d, v, a, w, ct, sv, hP, hc => by
    have h1 := uns_le hP hS.2.2.1.2
    have h2 := cntB_le (fun j => decide (sv j = 1)) (σ 0 5)
    have h3 := hS.2.2.1.2
    show 100 * a + uns (σ 0 5) ct sv + 1 ≤ 619
    omega
  | m + 1, d, v, a, w, ct, sv, hP, hc => by
    show (if w / 6 ^ m % 6 < σ 0 3 ∧ nxt (σ 10) v (w / 6 ^ m % 6) = true then vl σ m (w / 6 ^ m % 6) (ctA (w / 6 ^ m % 6) (σ 0 7 + d + 1) (σ 4) (σ 5) (σ 6) ct sv) (svA (w / 6 ^ m % 6) (σ 0 7 + d + 1) (σ 4) (σ 5) (σ 6) ct sv) (a + cntB (nwA (w / 6 ^ m % 6) (σ 0 7 + d + 1) (σ 4) (σ 5) (σ 6) ct sv) (σ 0 5)) (d + 1) w else 0) ≤ 619
    split
    · exact vl_le hS (sv0 := sv0) m (d + 1) _ _ w _ _ hP.next (by rw [cnt_svA hP, hc]; omega)
    · omega
def gW (σ : sN) (m v : Nat) (ct sv : Nat → Nat) (a d : Nat) (w : Nat) (B : Nat × Nat) : Nat × Nat := upB B w (vl σ m v ct sv a d w)
/-- the best round of M hours -/
def bR (σ : sN) (M : Nat) (k : Nat) : Nat × Nat := fd (gW σ M (σ 0 6) (σ 8) (σ 9) 0 0) 0 k (0, 0)
theorem bR_le {σ : sN} (hS : Sub σ) (M : Nat) : ∀ k, (bR σ M k).2 ≤ 619 ∧ ((bR σ M k).1 ≤ k)
  | 0 => ⟨Nat.zero_le _, Nat.le_refl _⟩
  | k + 1 => by
    have ih := bR_le hS M k
    have hv := vl_le hS (sv0 := σ 9) M 0 (σ 0 6) 0 (0 + k) (σ 8) (σ 9) hS.pq (by omega)
    show (upB (bR σ M k) (0 + k) (vl σ M (σ 0 6) (σ 8) (σ 9) 0 0 (0 + k))).2 ≤ 619 ∧ (upB (bR σ M k) (0 + k) (vl σ M (σ 0 6) (σ 8) (σ 9) 0 0 (0 + k))).1 ≤ k + 1
    unfold upB
    split
    · exact ⟨ih.1, by omega⟩
    · exact ⟨hv, by show 0 + k ≤ k + 1; omega⟩
theorem p1_le {a b : Nat} (ha : a < 1000) (hb : b < 1000) : nI a - 1 ≤ nI b - 1 ↔ a ≤ b := by
  rw [Int32.le_iff_toInt_le, show (nI a - 1).toInt = (a : Int) - 1 from ti_sub (b := 1) ha (by decide), show (nI b - 1).toInt = (b : Int) - 1 from ti_sub (b := 1) hb (by decide)]
  omega
theorem six5 {M : Nat} (h : M ≤ 5) : 6 ^ M ≤ 7776 ∧ 1 ≤ 6 ^ M := by
  rcases (show M = 0 ∨ M = 1 ∨ M = 2 ∨ M = 3 ∨ M = 4 ∨ M = 5 by omega) with rfl | rfl | rfl | rfl | rfl | rfl <;> decide
theorem roundOf_eq {σ : sN} {I : aI} (hS : Sub σ) (hM : RM σ I) (J : aJ) {M : Nat} (hM1 : 1 ≤ M) (hM5 : M ≤ 5) (x2 : Int32) (hx2 : x2 = 0 ∨ x2 = 1 ∨ ∃ k, k ≤ 4 ∧ x2 = nI (10 + k)) (hb : 1 ≤ (bR σ M (6 ^ M)).2) :
    ∃ I', fX8_roundOf (nI M) x2 I J = some ((if x2 = 0 then nI (((bR σ M (6 ^ M)).2 - 1) / 100) else if x2 = 1 then nI (((bR σ M (6 ^ M)).2 - 1) % 100) else if nI M ≤ x2 - 10 then -1 else nI ((bR σ M (6 ^ M)).1 / 6 ^ (M - 1 - (x2 - 10).toNatClampNeg) % 6)), I', J) ∧ ∀ k j, k ≠ 11 → k ≠ 12 → I' k j = I k j := by
  obtain ⟨p1, p2⟩ := six5 hM5
  have e0 : LX8_roundOf_5 8000 (nI M) x2 1 0 I J = LX8_roundOf_31 8000 (nI M) x2 (nI (6 ^ M)) 0 (-1) 0 I J := by
    refine cl (fun f d => LX8_roundOf_5 f (nI M) x2 (nI (6 ^ d)) (nI d) I J) M (fun f d hd => ?_) (fun f => ?_) (f0 := 8000) (by omega)
    · show HX8_roundOf_5 _ _ _ _ _ _ _ = _
      unfold HX8_roundOf_5
      rw [if_neg (nI_ge hd (by omega)), show nI (6 ^ d) * 6 = nI (6 ^ d * 6) from pk_mul _ 6, nI_1, Nat.pow_succ]
    · show HX8_roundOf_5 _ _ _ _ _ _ _ = _
      unfold HX8_roundOf_5
      rw [if_pos (nI_le (by omega) (by omega))]
  unfold fX8_roundOf
  rw [e0]
  refine sl (fun f w (s : aI) => LX8_roundOf_31 f (nI M) x2 (nI (6 ^ M)) (nI (bR σ M w).1) (nI (bR σ M w).2 - 1) (nI w) s J) (6 ^ M) (fun _ s => ∀ k j, k ≠ 11 → k ≠ 12 → s k j = I k j)
    (fun y => ∃ I', y = some ((if x2 = 0 then nI (((bR σ M (6 ^ M)).2 - 1) / 100) else if x2 = 1 then nI (((bR σ M (6 ^ M)).2 - 1) % 100) else if nI M ≤ x2 - 10 then -1 else nI ((bR σ M (6 ^ M)).1 / 6 ^ (M - 1 - (x2 - 10).toNatClampNeg) % 6)), I', J) ∧ ∀ k j, k ≠ 11 → k ≠ 12 → I' k j = I k j) ?_ ?_ (f0 := 8000) (by omega) I (fun _ _ _ _ => rfl)
  · rintro f w s hw hk
    have hMs : RM σ s := hM.keep (fun k j hr => hk k j (fun z => by subst z; simp [rs] at hr) (fun z => by subst z; simp [rs] at hr)) (hk 0 30 (by decide) (by decide))
    obtain ⟨sA, a1, a2⟩ := begin8 s J
    obtain ⟨sB, b1, b2⟩ := worth15 hS hMs J (w := w) hM5 (by omega) M 0 128 (σ 0 6) 0 (σ 8) (σ 9) sA (by omega) (by omega) hS.2.2.2.1 hS.pq (fun j hj => by
      have j6 : j < 6 := by have := hS.2.2.1.2; omega
      rw [a2, if_pos ⟨rfl, j6⟩, a2, if_neg (by omega), if_pos ⟨rfl, j6⟩]
      exact ⟨hMs.g 8 j (by simpa [rs] using j6), hMs.g 9 j (by simpa [rs] using j6)⟩) (fun k j k1 k2 => by rw [a2, if_neg (fun z => k1 z.1), if_neg (fun z => k2 z.1)])
    have wo : fX8_worthOf (nI w) (nI M) s J = some (nI (vl σ M (σ 0 6) (σ 8) (σ 9) 0 0 w) - 1, sB, J) := by
      unfold fX8_worthOf
      rw [bnd_t a1, show sA 0 6 = nI (σ 0 6) by rw [a2, if_neg (by omega), if_neg (by omega)]; exact hMs.g 0 6 rfl]
      exact b1
    have hv := vl_le hS (sv0 := σ 9) M 0 (σ 0 6) 0 w (σ 8) (σ 9) hS.pq (by omega)
    have hB := bR_le hS M w
    refine ⟨sB, ?_, fun k j k1 k2 => by rw [b2 k j k1 k2]; exact hk k j k1 k2⟩
    show HX8_roundOf_31 _ _ _ _ _ _ _ _ _ = _
    unfold HX8_roundOf_31 BX8_roundOf_60 BX8_roundOf_76
    rw [if_neg (nI_ge hw (by omega)), bnd_t wo, nI_1]
    have en : bR σ M (w + 1) = upB (bR σ M w) w (vl σ M (σ 0 6) (σ 8) (σ 9) 0 0 w) := by
      show upB (bR σ M w) (0 + w) (vl σ M (σ 0 6) (σ 8) (σ 9) 0 0 (0 + w)) = _
      rw [Nat.zero_add]
    rw [en]
    unfold upB
    by_cases z : vl σ M (σ 0 6) (σ 8) (σ 9) 0 0 w ≤ (bR σ M w).2
    · rw [if_pos ((p1_le (by omega) (by omega)).mpr z), if_pos ((p1_le (by omega) (by omega)).mpr z), if_pos z]
    · rw [if_neg (fun y => z ((p1_le (by omega) (by omega)).mp y)), if_neg (fun y => z ((p1_le (by omega) (by omega)).mp y)), if_neg z]
  · rintro f s hk
    have hB := bR_le hS M (6 ^ M)
    refine ⟨s, ?_, hk⟩
    show HX8_roundOf_31 _ _ _ _ _ _ _ _ _ = _
    unfold HX8_roundOf_31 BX8_roundOf_106 BX8_roundOf_129
    obtain ⟨b, hbb⟩ : ∃ b, (bR σ M (6 ^ M)).2 = b + 1 := ⟨(bR σ M (6 ^ M)).2 - 1, by omega⟩
    rw [if_pos (nI_le (by omega) (by omega)), hbb, nI_pred, Nat.add_sub_cancel, show nI b / 100 = nI (b / 100) from pk_div (d := 100) (by omega) (by decide) (by decide)]
    rcases hx2 with rfl | rfl | ⟨k, hk4, rfl⟩
    · rw [if_neg (by decide), if_pos rfl, if_pos rfl]
    · rw [if_neg (by decide), if_neg (by decide), if_neg (by decide), if_pos rfl, show nI b - nI (b / 100) * 100 = nI (b % 100) by
        rw [show nI (b / 100) = nI b / 100 from (pk_div (d := 100) (by omega) (by decide) (by decide)).symm]
        exact pk_rem (d := 100) (by omega) (by decide) (by decide)]
    · have q0 : ¬ nI (10 + k) = 0 := nI_ne0 (by omega) (by omega)
      have q1 : ¬ nI (10 + k) = 1 := fun z => by
        have := (nI_eq (b := 1) (by omega) (by decide)).mp z
        omega
      rw [if_pos (show (2 : Int32) ≤ nI (10 + k) from nI_le (a := 2) (by omega) (by omega)), if_neg q0, if_neg q1, show nI (10 + k) - 10 = nI k by
        rw [show (10 : Int32) = nI 10 from rfl, pk_sub (by omega), Nat.add_sub_cancel_left], nI_clamp (by omega)]
      by_cases z : M ≤ k
      · rw [if_pos (nI_le z (by omega)), if_pos (nI_le z (by omega))]
      · rw [if_neg (nI_ge (by omega) (by omega)), if_neg (nI_ge (by omega) (by omega)), bnd_t (figure_eq hM5 (by omega) (by omega) s J)]
