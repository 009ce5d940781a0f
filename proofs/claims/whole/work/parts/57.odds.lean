theorem smN_add (f g : Nat → Nat) : ∀ n, smN (fun i => f i + g i) n = smN f n + smN g n
  | 0 => rfl
  | n + 1 => by simp only [smN]; rw [smN_add f g n]; omega
theorem smN_0 : ∀ n, smN (fun _ => 0) n = 0
  | 0 => rfl
  | n + 1 => by simp only [smN]; rw [smN_0 n]
theorem smN_swap (F : Nat → Nat → Nat) (r : Nat) : ∀ n, smN (fun a => smN (fun k => F a k) r) n = smN (fun k => smN (fun a => F a k) n) r
  | 0 => (smN_0 r).symm
  | n + 1 => by
    show smN (fun a => smN (fun k => F a k) r) n + smN (fun k => F n k) r = smN (fun k => smN (fun a => F a k) n + F n k) r
    rw [smN_swap F r n, ← smN_add]
theorem smN_pick (v : Nat → Nat) (b : Nat) : ∀ n, smN (fun a => if a = b then v a else 0) n = if b < n then v b else 0
  | 0 => rfl
  | n + 1 => by
    show smN (fun a => if a = b then v a else 0) n + (if n = b then v n else 0) = _
    rw [smN_pick v b n]
    by_cases h : n = b
    · subst h; rw [if_neg (Nat.lt_irrefl n), if_pos rfl, if_pos (by omega)]; omega
    · rw [if_neg h]
      by_cases h2 : b < n
      · rw [if_pos h2, if_pos (by omega)]; omega
      · rw [if_neg h2, if_neg (by omega)]
theorem smN_le {f : Nat → Nat} {c : Nat} : ∀ n, (∀ i, i < n → f i ≤ c) → smN f n ≤ n * c
  | 0, _ => by simp [smN]
  | n + 1, h => by
    have := smN_le n (fun i hi => h i (by omega))
    have := h n (by omega)
    simp only [smN]
    rw [Nat.add_mul]
    omega
/-- a road's share; what comes by one road; where the chances are an hour on -/
def per (dg w : Nat → Nat) (a : Nat) : Nat := w a * (840 / dg a)
def cnw (dg w s2 s3 : Nat → Nat) (k b : Nat) : Nat := (if s3 k = b then per dg w (s2 k) else 0) + (if s2 k = b then per dg w (s3 k) else 0)
def stw (r : Nat) (dg w s2 s3 : Nat → Nat) (b : Nat) : Nat := (if dg b = 0 then w b * 840 else 0) + smN (fun k => cnw dg w s2 s3 k b) r
def Fw (dg w s2 s3 : Nat → Nat) (a k b : Nat) : Nat := if s2 k = a then (if s3 k = b then per dg w a else 0) else if s3 k = a then (if s2 k = b then per dg w a else 0) else 0
theorem Fw_sum {n r : Nat} {dg w s2 s3 : Nat → Nat} (hr : ∀ k, k < r → s2 k < n ∧ s3 k < n ∧ s2 k ≠ s3 k) {b : Nat} (hb : b < n) : smN (fun a => (if a = b then (if dg a = 0 then w a * 840 else 0) else 0) + smN (fun k => Fw dg w s2 s3 a k b) r) n = stw r dg w s2 s3 b := by
  rw [smN_add, smN_pick (fun a => if dg a = 0 then w a * 840 else 0) b n, if_pos hb, smN_swap]
  unfold stw
  congr 1
  refine smN_congr (fun k hk => ?_)
  obtain ⟨h1, h2, h3⟩ := hr k hk
  have e : ∀ a, Fw dg w s2 s3 a k b = (if a = s2 k then (if s3 k = b then per dg w a else 0) else 0) + (if a = s3 k then (if s2 k = b then per dg w a else 0) else 0) := by
    intro a
    unfold Fw
    by_cases q : s2 k = a
    · rw [if_pos q, if_pos q.symm, if_neg (show ¬ a = s3 k from fun z => h3 (by omega))]; rfl
    · rw [if_neg q, if_neg (show ¬ a = s2 k from fun z => q z.symm)]
      by_cases q2 : s3 k = a
      · rw [if_pos q2, if_pos q2.symm, Nat.zero_add]
      · rw [if_neg q2, if_neg (show ¬ a = s3 k from fun z => q2 z.symm)]
  rw [smN_congr (fun a _ => e a), smN_add, smN_pick (fun a => if s3 k = b then per dg w a else 0), smN_pick (fun a => if s2 k = b then per dg w a else 0), if_pos h1, if_pos h2]
  rfl
theorem per_le {dg w : Nat → Nat} {M a : Nat} (h : w a ≤ M) : per dg w a ≤ 840 * M := by
  unfold per
  have : 840 / dg a ≤ 840 := Nat.div_le_self _ _
  calc w a * (840 / dg a) ≤ M * 840 := Nat.mul_le_mul h this
    _ = 840 * M := Nat.mul_comm _ _
theorem stw_le {n r : Nat} {dg w s2 s3 : Nat → Nat} (hr8 : r ≤ 8) (hr : ∀ k, k < r → s2 k < n ∧ s3 k < n ∧ s2 k ≠ s3 k) {M : Nat} (hM : ∀ a, a < n → w a ≤ M) {b : Nat} (hb : b < n) : stw r dg w s2 s3 b ≤ 14280 * M := by
  have h1 : smN (fun k => cnw dg w s2 s3 k b) r ≤ r * (1680 * M) := smN_le r (fun k hk => by
    obtain ⟨q1, q2, q3⟩ := hr k hk
    have := per_le (dg := dg) (hM _ q1)
    have := per_le (dg := dg) (hM _ q2)
    unfold cnw
    split <;> split <;> omega)
  have h2 : r * (1680 * M) ≤ 8 * (1680 * M) := Nat.mul_le_mul_right _ hr8
  have := hM b hb
  unfold stw
  split <;> omega
theorem dgr_pos {s2 s3 : Nat → Nat} {a k : Nat} (h : s2 k = a ∨ s3 k = a) : ∀ n, k < n → 0 < dgr s2 s3 a n
  | 0, hk => absurd hk (Nat.not_lt_zero k)
  | n + 1, hk => by
    simp only [dgr]
    by_cases q : k = n
    · subst q; rw [if_pos h]; omega
    · have := dgr_pos h n (by omega)
      omega
theorem dgr_le (s2 s3 : Nat → Nat) (a : Nat) : ∀ n, dgr s2 s3 a n ≤ n
  | 0 => Nat.le_refl _
  | n + 1 => by
    have := dgr_le s2 s3 a n
    simp only [dgr]
    split <;> omega
theorem roadsAt_eq {n r a : Nat} {s2 s3 : Nat → Nat} (hn : n ≤ 6) (hr8 : r ≤ 8) (hr : ∀ k, k < r → s2 k < n ∧ s3 k < n) (ha : a < 6) {I : aI} (J : aJ) (h4 : I 0 4 = nI r) (h23 : ∀ k, k < r → I 2 k = nI (s2 k) ∧ I 3 k = nI (s3 k)) : fX8_roadsAt (nI a) I J = some (nI (dgr s2 s3 a r), I, J) := by
  refine cl (fun f k => LX8_roadsAt_4 f (nI a) (nI (dgr s2 s3 a k)) (nI k) I J) r (fun f k hk => ?_) (fun f => ?_) (f0 := 128) (by omega)
  · obtain ⟨h1, h2⟩ := hr k hk
    show HX8_roadsAt_4 _ _ _ _ _ _ = _
    unfold HX8_roadsAt_4 BX8_roadsAt_33 BX8_roadsAt_38
    have l1 : nI (s2 k) = nI a ↔ s2 k = a := nI_eq (by omega) (by omega)
    have l2 : nI (s3 k) = nI a ↔ s3 k = a := nI_eq (by omega) (by omega)
    rw [h4, if_neg (nI_ge hk (by omega)), gd_t (inb_nI (show k < 8 by omega) (by decide)), nI_clamp (by omega), (h23 k hk).1, (h23 k hk).2, nI_1, nI_1, Int32.add_zero]
    simp only [l1, l2, dgr]
    by_cases q1 : s2 k = a
    · rw [if_pos q1, if_pos (Or.inl q1)]
    · rw [if_neg q1]
      by_cases q2 : s3 k = a
      · rw [if_pos q2, if_pos (Or.inr q2)]
      · rw [if_neg q2, if_neg (by omega)]; rfl
  · show HX8_roadsAt_4 _ _ _ _ _ _ = _
    unfold HX8_roadsAt_4
    rw [h4, if_pos (nI_le (by omega) (by omega))]
theorem scatter_eq {n r : Nat} {dg w s2 s3 : Nat → Nat} (hn : n ≤ 6) (hr8 : r ≤ 8) (hr : ∀ k, k < r → s2 k < n ∧ s3 k < n) (hdg : ∀ a, a < n → dg a ≤ 8) {I : aI} (J : aJ) (h30 : I 3 0 = nI n) (h31 : I 3 1 = nI r) (h45 : ∀ k, k < 8 → I 4 k = nI (s2 k) ∧ I 5 k = nI (s3 k)) (h7 : ∀ a, a < n → I 7 a = nI (dg a)) (hw : ∀ a, a < n → J 61 a = lN (w a)) :
    ∃ J', fX5_scatter I J = some ((), I, J') ∧ (∀ a, a < n → J' 61 a = lN (stw r dg w s2 s3 a)) ∧ ∀ j, J' 60 j = J 60 j := by
  have pp : ∀ (s : aJ) a, a < n → s 61 a = lN (w a) → fX5_partPerRoad (nI a) I s = some (lN (per dg w a), I, s) := by
    intro s a ha hs
    have hd := hdg a ha
    unfold fX5_partPerRoad BX5_partPerRoad_28 per
    rw [gd_t (inb_nI (show a < 6 by omega) (by decide)), nI_clamp (by omega), h7 a ha]
    by_cases q : dg a = 0
    · rw [q, if_pos (show nI 0 ≤ 0 by decide), Nat.div_zero, Nat.mul_zero]
      rfl
    · rw [if_neg (nI_nle (by omega) (by omega)), nI_l (by omega), gd_t (by simp [pk_lEQ (b := 0) (show dg a < 2 ^ 63 by omega) (by decide), show (0 : Int64) = lN 0 from rfl]; omega), show (840 : Int64) = lN 840 from rfl, pk_lDiv (by decide) (by omega) (by omega), hs, lN_mul]
  refine sl (fun f i (s : aJ) => LX5_scatter_2 f (nI i) I s) n (fun i s => (∀ a, a < i → s 62 a = lN (if dg a = 0 then w a * 840 else 0)) ∧ ∀ q j, q ≠ 62 → s q j = J q j)
    (fun x => ∃ J', x = some ((), I, J') ∧ (∀ a, a < n → J' 61 a = lN (stw r dg w s2 s3 a)) ∧ ∀ j, J' 60 j = J 60 j) ?_ ?_ (f0 := 128) (by omega) J ⟨fun a ha => absurd ha (Nat.not_lt_zero a), fun _ _ _ => rfl⟩
  · rintro f i s hi ⟨g1, g2⟩
    have hd := hdg i hi
    refine ⟨pJ s 62 i (lN (if dg i = 0 then w i * 840 else 0)), ?_, fun a ha => ?_, fun q j hq => by rw [pJ_g, if_neg (fun z => hq z.1)]; exact g2 q j hq⟩
    · show HX5_scatter_2 _ _ _ _ = _
      unfold HX5_scatter_2 BX5_scatter_38
      rw [h30, if_neg (nI_ge hi (by omega)), gd_t (inb_nI (show i < 6 by omega) (by decide)), gd_t (inb_nI (show i < 6 by omega) (by decide)), gd_t (inb_nI (show i < 6 by omega) (by decide)), nI_clamp (by omega), h7 i hi, g2 61 i (by decide), hw i hi, nI_1, show (840 : Int64) = lN 840 from rfl, lN_mul]
      by_cases q : dg i = 0
      · rw [if_pos (show nI (dg i) = 0 by rw [q]; rfl), if_pos q]
      · rw [if_neg (nI_ne0 (by omega) (by omega)), if_neg q]; rfl
    · rw [pJ_g]
      by_cases z : a = i
      · rw [if_pos ⟨rfl, z⟩, z]
      · rw [if_neg (fun y => z y.2)]; exact g1 a (by omega)
  · rintro f s ⟨g1, g2⟩
    show ∃ J', HX5_scatter_2 _ _ _ _ = _ ∧ _
    unfold HX5_scatter_2
    rw [h30, if_pos (nI_le (by omega) (by omega))]
    refine sl (fun f k (z : aJ) => LX5_scatter_47 f (nI k) I z) r (fun k z => (∀ b, b < n → z 62 b = lN ((if dg b = 0 then w b * 840 else 0) + smN (fun k => cnw dg w s2 s3 k b) k)) ∧ ∀ q j, q ≠ 62 → z q j = J q j)
      (fun x => ∃ J', x = some ((), I, J') ∧ (∀ a, a < n → J' 61 a = lN (stw r dg w s2 s3 a)) ∧ ∀ j, J' 60 j = J 60 j) ?_ ?_ (f0 := 128) (by omega) s ⟨fun b hb => by rw [g1 b hb]; rfl, g2⟩
    · rintro f k z hk ⟨e1, e2⟩
      obtain ⟨q1, q2⟩ := hr k hk
      obtain ⟨c1, c2⟩ := h45 k (by omega)
      have w1 : z 61 (s2 k) = lN (w (s2 k)) := by rw [e2 61 _ (by decide)]; exact hw _ q1
      have w2 : (pJ z 62 (s3 k) (z 62 (s3 k) + lN (per dg w (s2 k)))) 61 (s3 k) = lN (w (s3 k)) := by rw [pJ_g, if_neg (by omega), e2 61 _ (by decide)]; exact hw _ q2
      refine ⟨pJ (pJ z 62 (s3 k) (z 62 (s3 k) + lN (per dg w (s2 k)))) 62 (s2 k) ((pJ z 62 (s3 k) (z 62 (s3 k) + lN (per dg w (s2 k)))) 62 (s2 k) + lN (per dg w (s3 k))), ?_, fun b hb => ?_, fun q j hq => by rw [pJ_g, if_neg (fun y => hq y.1), pJ_g, if_neg (fun y => hq y.1)]; exact e2 q j hq⟩
      · show HX5_scatter_47 _ _ _ _ = _
        unfold HX5_scatter_47
        rw [h31, if_neg (nI_ge hk (by omega)), gd_t (inb_nI (show k < 8 by omega) (by decide)), nI_clamp (show k < 2 ^ 31 by omega), c1, c2, gd_t (inb_nI (show s3 k < 6 by omega) (by decide)), bnd_t (pp z (s2 k) q1 w1), gd_t (inb_nI (show s2 k < 6 by omega) (by decide)), nI_clamp (show s3 k < 2 ^ 31 by omega), nI_clamp (show s2 k < 2 ^ 31 by omega), bnd_t (pp _ (s3 k) q2 w2), nI_1]
      · show _ = lN (_ + (smN (fun k => cnw dg w s2 s3 k b) k + cnw dg w s2 s3 k b))
        unfold cnw
        by_cases y2 : s2 k = b
        · rw [pJ_g, if_pos ⟨rfl, y2.symm⟩, pJ_g]
          by_cases y3 : s3 k = b
          · rw [if_pos ⟨rfl, by omega⟩, if_pos y3, if_pos y2, y3, e1 b hb, lN_add, lN_add]
            exact congrArg lN (by unfold cnw; omega)
          · rw [if_neg (fun y => y3 (by omega)), if_neg y3, if_pos y2, y2, e1 b hb, lN_add]
            exact congrArg lN (by unfold cnw; omega)
        · rw [pJ_g, if_neg (fun y => y2 y.2.symm), pJ_g]
          by_cases y3 : s3 k = b
          · rw [if_pos ⟨rfl, y3.symm⟩, if_pos y3, if_neg y2, y3, e1 b hb, lN_add]
            exact congrArg lN (by unfold cnw; omega)
          · rw [if_neg (fun y => y3 y.2.symm), if_neg y3, if_neg y2, e1 b hb]
            exact congrArg lN (by unfold cnw; omega)
    · rintro f z ⟨e1, e2⟩
      refine ⟨uJ z 61 (va_cpy (z 62) (z 61) 0 0 n), ?_, fun a ha => ?_, fun j => ?_⟩
      · show HX5_scatter_47 _ _ _ _ = _
        unfold HX5_scatter_47
        rw [h31, if_pos (nI_le (by omega) (by omega)), h30, nI_clamp (by omega), gd_t (by
          unfold cpb
          rw [nI_clamp (by omega)]
          simp [nI_pos (show n < 2 ^ 31 by omega)]
          exact hn)]
        rfl
      · unfold uJ va_cpy
        simp only [if_true, Nat.zero_le, Nat.zero_add, Nat.sub_zero, ha, true_and]
        exact e1 a ha
      · unfold uJ
        rw [if_neg (by decide)]
        exact e2 60 j (by decide)
