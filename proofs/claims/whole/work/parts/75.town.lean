/-! the class's town -/
theorem layRoad_eq {k a b : Nat} (hk : k < 8) (ha : a < 6) (hb : b < 6) (hne : a ≠ b) (I : aI) (J : aJ) :
    ∃ I' : aI, fX6_layRoad (nI k) (nI a) (nI b) I J = some ((), I', J) ∧ I' 4 k = nI a ∧ I' 5 k = nI b ∧ I' 6 a = (I 6 a ||| ((1 : Int32) <<< (nI b &&& 31))) ∧ I' 6 b = (I 6 b ||| ((1 : Int32) <<< (nI a &&& 31))) ∧ I' 7 a = I 7 a + 1 ∧ I' 7 b = I 7 b + 1 ∧
      (∀ j, j ≠ k → I' 4 j = I 4 j ∧ I' 5 j = I 5 j) ∧ (∀ j, j ≠ a → j ≠ b → I' 6 j = I 6 j ∧ I' 7 j = I 7 j) ∧ ∀ q j, (q < 4 ∨ 7 < q) → I' q j = I q j := by
  have hne' : b ≠ a := fun z => hne z.symm
  unfold fX6_layRoad
  rw [gd_t (inb_nI hk (by decide)), gd_t (inb_nI ha (by decide)), gd_t (inb_nI hb (by decide)), nI_clamp (show k < 2 ^ 31 by omega), nI_clamp (show a < 2 ^ 31 by omega), nI_clamp (show b < 2 ^ 31 by omega)]
  refine ⟨_, rfl, ?_, ?_, ?_, ?_, ?_, ?_, fun j hj => ⟨?_, ?_⟩, fun j h1 h2 => ⟨?_, ?_⟩, fun q j hq => ?_⟩
  · simp [pI_g]
  · simp [pI_g]
  · simp [pI_g, hne]
  · simp [pI_g, hne']
  · simp [pI_g, hne]
  · simp [pI_g, hne']
  · simp [pI_g, hj]
  · simp [pI_g, hj]
  · simp [pI_g, h1, h2]
  · simp [pI_g, h1, h2]
  · rw [pI_ro _ (show q ≠ 7 by omega), pI_ro _ (show q ≠ 7 by omega), pI_ro _ (show q ≠ 6 by omega), pI_ro _ (show q ≠ 6 by omega), pI_ro _ (show q ≠ 5 by omega), pI_ro _ (show q ≠ 4 by omega)]
theorem adj_s {r : Nat} {s2 s3 : Nat → Nat} {a b : Nat} : adj (r + 1) s2 s3 a b = (adj r s2 s3 a b || ((decide (s2 r = a) && decide (s3 r = b)) || (decide (s3 r = a) && decide (s2 r = b)))) := by
  unfold adj
  rw [anyB_s]
/-- with k roads laid: reach, how many roads at a corner -/
def Tk (n k : Nat) (s2 s3 : Nat → Nat) (z : aI) : Prop := ∀ a, a < n → z 6 a = nI (msk (fun b => decide (a = b) || adj k s2 s3 a b) n) ∧ z 7 a = nI (dgr s2 s3 a k)
theorem Tk.lay {n k : Nat} {s2 s3 : Nat → Nat} (hn : n ≤ 6) (hk : k < 8) (h2 : s2 k < n) (h3 : s3 k < n) (hne : s2 k ≠ s3 k) {z : aI} (J : aJ) (h : Tk n k s2 s3 z) :
    ∃ z' : aI, fX6_layRoad (nI k) (nI (s2 k)) (nI (s3 k)) z J = some ((), z', J) ∧ Tk n (k + 1) s2 s3 z' ∧ z' 4 k = nI (s2 k) ∧ z' 5 k = nI (s3 k) ∧ (∀ j, j ≠ k → z' 4 j = z 4 j ∧ z' 5 j = z 5 j) ∧ ∀ q j, (q < 4 ∨ 7 < q) → z' q j = z q j := by
  obtain ⟨z', a1, a2, a3, a4, a5, a6, a7, a8, a9, a10⟩ := layRoad_eq hk (show s2 k < 6 by omega) (show s3 k < 6 by omega) hne z J
  refine ⟨z', a1, fun a ha => ?_, a2, a3, a8, a10⟩
  obtain ⟨b1, b2⟩ := h a ha
  have dg : dgr s2 s3 a (k + 1) = dgr s2 s3 a k + (if s2 k = a ∨ s3 k = a then 1 else 0) := rfl
  by_cases w2 : a = s2 k
  · subst w2
    rw [a4, a6, b1, b2, msk_or hn h3, nI_1, dg, if_pos (Or.inl rfl)]
    refine ⟨congrArg nI (msk_congr (fun b hb => ?_)), rfl⟩
    rw [adj_s]
    by_cases y : b = s3 k
    · subst y
      rw [if_pos rfl]
      simp
    · rw [if_neg y]
      have y1 : ¬ s3 k = b := fun x => y x.symm
      have y2 : ¬ s3 k = s2 k := fun x => hne x.symm
      simp [y1, y2]
  · by_cases w3 : a = s3 k
    · subst w3
      rw [a5, a7, b1, b2, msk_or hn h2, nI_1, dg, if_pos (Or.inr rfl)]
      refine ⟨congrArg nI (msk_congr (fun b hb => ?_)), rfl⟩
      rw [adj_s]
      by_cases y : b = s2 k
      · subst y
        rw [if_pos rfl]
        simp
      · rw [if_neg y]
        have y1 : ¬ s2 k = b := fun x => y x.symm
        simp [y1, hne]
    · obtain ⟨c1, c2⟩ := a9 a w2 w3
      have y1 : ¬ s2 k = a := fun x => w2 x.symm
      have y2 : ¬ s3 k = a := fun x => w3 x.symm
      rw [c1, c2, b1, b2, dg, if_neg (fun x => x.elim y1 y2)]
      refine ⟨congrArg nI (msk_congr (fun b hb => ?_)), rfl⟩
      rw [adj_s]
      simp [y1, y2]
theorem nxt_adj {n r : Nat} {s2 s3 g : Nat → Nat} (hD : Di n (fr g) r s2 s3) {a b : Nat} (ha : a < n) (hb : b < n) : nxt g a b = (decide (a = b) || adj r s2 s3 a b) := by
  obtain ⟨h1, h2, h3, h4⟩ := hD.1 a ha b hb
  unfold nxt
  rw [Bool.eq_iff_iff, Bool.or_eq_true]
  simp only [decide_eq_true_eq]
  constructor
  · intro h
    by_cases z : fr g a b = 0
    · exact Or.inl (h2.mp z)
    · obtain ⟨-, k, hk, w⟩ := h4.mp (by omega)
      exact Or.inr (adj_iff.mpr ⟨k, hk, by omega⟩)
  · rintro (h | h)
    · have := h2.mpr h
      omega
    · by_cases z : a = b
      · have := h2.mpr z
        omega
      · obtain ⟨k, hk, w⟩ := adj_iff.mp h
        have := h4.mpr ⟨z, k, hk, by omega⟩
        omega
/-- what a build keeps -/
def Kb (z I : aI) : Prop := ∀ q j, (q < 3 ∨ 21 < q) → z q j = I q j
theorem Pg.keep {q : Nat → Nat} {N : Nat} {s I : aI} (h : Pg q N I) (hk : Kb s I) : Pg q N s := ⟨by rw [hk 1 1 (by omega)]; exact h.1, fun j hj => by rw [hk 2 j (by omega)]; exact h.2 j hj⟩
theorem build90 {n r : Nat} {s2 s3 g : Nat → Nat} (hn : n ≤ 6) (hn2 : 2 ≤ n) (hr : ∀ k, k < r → s2 k < n ∧ s3 k < n ∧ s2 k ≠ s3 k) (hD : Dm n (adj r s2 s3) (fr g)) {I s : aI} (J : aJ) (hk : Kb s I) (h30 : s 3 0 = nI n) (hT : Tk n r s2 s3 s) :
    ∃ I' : aI, LX6_build_90 128 0 s J = some ((), I', J) ∧ RCt I' n r s2 s3 g ∧ (∀ q j, (q < 6 ∨ 21 < q) → I' q j = s q j) := by
  have hDi := hD.di hn hr
  have h6 : ∀ a, a < n → s 6 a = nI (msk (nxt g a) n) := fun a ha => by
    rw [(hT a ha).1]
    exact congrArg nI (msk_congr (fun b hb => (nxt_adj hDi ha hb).symm))
  refine sl (fun f i (z : aI) => LX6_build_90 f (nI i) z J) n (fun i z => (∀ v, v < i → ∀ b, b < n → z (9 + v) b = if fr g v b = 99 then -1 else nI (fr g v b)) ∧ ∀ q j, (q < 9 ∨ 14 < q) → z q j = s q j)
    (fun y => ∃ I' : aI, y = some ((), I', J) ∧ RCt I' n r s2 s3 g ∧ (∀ q j, (q < 6 ∨ 21 < q) → I' q j = s q j)) ?_ ?_ (f0 := 128) (by omega) s ⟨fun v hv => absurd hv (Nat.not_lt_zero v), fun _ _ _ => rfl⟩
  · rintro f i z hi ⟨e1, e2⟩
    have z30 : z 3 0 = nI n := by rw [e2 3 0 (by omega)]; exact h30
    obtain ⟨z', a1, a2, a3⟩ := steps_eq (f := fr g) hn hDi (fun a ha c hc => hD.small hn ha hc) hi z J z30 (fun a ha => by rw [e2 6 a (by omega)]; exact h6 a ha)
    refine ⟨z', ?_, fun v hv b hb => ?_, fun q j hq => by rw [a3 q j (by omega)]; exact e2 q j hq⟩
    · show HX6_build_90 _ _ _ _ = _
      unfold HX6_build_90
      rw [z30, if_neg (nI_ge hi (by omega)), bnd_t a1, nI_1]
    · by_cases w : v = i
      · rw [w]; exact a2 b hb
      · rw [a3 (9 + v) b (by omega)]; exact e1 v (by omega) b hb
  · rintro f z ⟨e1, e2⟩
    have z30 : z 3 0 = nI n := by rw [e2 3 0 (by omega)]; exact h30
    obtain ⟨z', a1, a2, a3⟩ := catches_eq (nx := nxt g) hn z J z30 (fun a ha => by rw [e2 6 a (by omega)]; exact h6 a ha)
    refine ⟨z', ?_, fun a ha => ⟨?_, ?_, fun b hb => ⟨?_, ?_⟩⟩, fun q j hq => by rw [a3 q j (by omega)]; exact e2 q j (by omega)⟩
    · show HX6_build_90 _ _ _ _ = _
      unfold HX6_build_90
      rw [z30, if_pos (nI_le (Nat.le_refl n) (by omega)), bnd_t a1]
    · rw [a3 6 a (by omega), e2 6 a (by omega)]; exact h6 a ha
    · rw [a3 7 a (by omega), e2 7 a (by omega)]; exact (hT a ha).2
    · rw [a3 (9 + a) b (by omega)]; exact e1 a ha b hb
    · exact a2 a ha b hb
theorem build_eq {q : Nat → Nat} {N sm n r p : Nat} (hK : Pk q N sm n r p) {s2 s3 g : Nat → Nat} (h2 : ∀ k, k < r → s2 k = q (3 + 3 * k) - 48) (h3 : ∀ k, k < r → s3 k = q (4 + 3 * k) - 48) (hr : ∀ k, k < r → s2 k < n ∧ s3 k < n ∧ s2 k ≠ s3 k) (hD : Dm n (adj r s2 s3) (fr g)) {I : aI} (J : aJ) (hP : Pg q N I) (h12 : I 1 2 = nI r) :
    ∃ I' : aI, fX6_build I J = some ((), I', J) ∧ I' 3 0 = nI n ∧ I' 3 1 = nI r ∧ (∀ j, j < r → I' 4 j = nI (s2 j) ∧ I' 5 j = nI (s3 j)) ∧ (∀ j, r ≤ j → I' 4 j = I 4 j ∧ I' 5 j = I 5 j) ∧ RCt I' n r s2 s3 g ∧ Kb I' I := by
  obtain ⟨⟨k1, k1a, k1b⟩, k2, ⟨r1, r2, r3, r4⟩, ⟨p1, p2, p3, p4, p5⟩, k5⟩ := hK
  have lay : ∀ s : aI, Kb s I → s 3 0 = nI n → s 3 1 = nI r → Tk n 0 s2 s3 s → (∀ j, s 4 j = I 4 j ∧ s 5 j = I 5 j) → ∃ I' : aI, LX6_build_51 128 0 s J = some ((), I', J) ∧ I' 3 0 = nI n ∧ I' 3 1 = nI r ∧ (∀ j, j < r → I' 4 j = nI (s2 j) ∧ I' 5 j = nI (s3 j)) ∧ (∀ j, r ≤ j → I' 4 j = I 4 j ∧ I' 5 j = I 5 j) ∧ RCt I' n r s2 s3 g ∧ Kb I' I := by
    intro s hk h30 h31 hT h45
    refine sl (fun f i (z : aI) => LX6_build_51 f (nI i) z J) r (fun i z => Kb z I ∧ z 3 0 = nI n ∧ z 3 1 = nI r ∧ Tk n i s2 s3 z ∧ (∀ j, j < i → z 4 j = nI (s2 j) ∧ z 5 j = nI (s3 j)) ∧ (∀ j, i ≤ j → z 4 j = I 4 j ∧ z 5 j = I 5 j))
      (fun y => ∃ I' : aI, y = some ((), I', J) ∧ I' 3 0 = nI n ∧ I' 3 1 = nI r ∧ (∀ j, j < r → I' 4 j = nI (s2 j) ∧ I' 5 j = nI (s3 j)) ∧ (∀ j, r ≤ j → I' 4 j = I 4 j ∧ I' 5 j = I 5 j) ∧ RCt I' n r s2 s3 g ∧ Kb I' I) ?_ ?_ (f0 := 128) (by omega) s ⟨hk, h30, h31, hT, fun j hj => absurd hj (Nat.not_lt_zero j), fun j _ => h45 j⟩
    · rintro f i z hi ⟨e1, e2, e3, e4, e5, e6⟩
      obtain ⟨q1, q2, q3⟩ := hr i hi
      obtain ⟨u1, u2, u3⟩ := r4 i hi
      have hPz := hP.keep e1
      obtain ⟨z', a1, a2, a3, a4, a5, a6⟩ := e4.lay k1b (by omega) q1 q2 q3 J
      refine ⟨z', ?_, fun q' j hq => by rw [a6 q' j (by omega)]; exact e1 q' j hq, by rw [a6 3 0 (by omega)]; exact e2, by rw [a6 3 1 (by omega)]; exact e3, a2, fun j hj => ?_, fun j hj => ?_⟩
      · show HX6_build_51 _ _ _ _ = _
        unfold HX6_build_51
        have rs0 : fX3_roadStart (nI i) z J = some (nI (3 + 3 * i), z, J) := by unfold fX3_roadStart; rw [i33]
        rw [e3, if_neg (nI_ge hi (by omega)), bnd_t rs0, bnd_t (digit7 p2 (show 3 + 3 * i < N by omega) hPz J), show nI (3 + 3 * i) + 1 = nI (4 + 3 * i) by rw [nI_1]; exact congrArg nI (by omega), bnd_t (digit7 p2 (show 4 + 3 * i < N by omega) hPz J), n48 u1.1, n48 u2.1, ← h2 i hi, ← h3 i hi, bnd_t a1, nI_1]
      · by_cases w : j = i
        · rw [w]; exact ⟨a3, a4⟩
        · rw [(a5 j w).1, (a5 j w).2]; exact e5 j (by omega)
      · rw [(a5 j (by omega)).1, (a5 j (by omega)).2]; exact e6 j (by omega)
    · rintro f z ⟨e1, e2, e3, e4, e5, e6⟩
      obtain ⟨I', a1, a2, a3⟩ := build90 (g := g) k1b k1a hr hD (I := I) J e1 e2 e4
      refine ⟨I', ?_, by rw [a3 3 0 (by omega)]; exact e2, by rw [a3 3 1 (by omega)]; exact e3, fun j hj => by rw [a3 4 j (by omega), a3 5 j (by omega)]; exact e5 j hj, fun j hj => by rw [a3 4 j (by omega), a3 5 j (by omega)]; exact e6 j hj, a2, fun q' j hq => by rw [a3 q' j (by omega)]; exact e1 q' j hq⟩
      show HX6_build_51 _ _ _ _ = _
      unfold HX6_build_51
      rw [e3, if_pos (nI_le (Nat.le_refl r) (by omega))]
      exact a1
  have e0 : fX6_build I J = LX6_build_19 128 0 (pI (pI I 3 0 (nI n)) 3 1 (nI r)) J := by
    unfold fX6_build
    rw [bnd_t (show fX3_digitAt 0 I J = _ from digit7 (x := 0) p2 (by omega) hP J), n48 (show 48 ≤ q 0 by omega), show q 0 - 48 = n by omega, pI_ro _ (show (1 : Nat) ≠ 3 by decide), h12]
  rw [e0]
  refine sl (fun f i (z : aI) => LX6_build_19 f (nI i) z J) n (fun i z => (∀ a, a < i → z 6 a = nI (msk (fun b => decide (a = b) || adj 0 s2 s3 a b) n) ∧ z 7 a = nI (dgr s2 s3 a 0)) ∧ Kb z I ∧ z 3 0 = nI n ∧ z 3 1 = nI r ∧ ∀ j, z 4 j = I 4 j ∧ z 5 j = I 5 j)
    (fun y => ∃ I' : aI, y = some ((), I', J) ∧ I' 3 0 = nI n ∧ I' 3 1 = nI r ∧ (∀ j, j < r → I' 4 j = nI (s2 j) ∧ I' 5 j = nI (s3 j)) ∧ (∀ j, r ≤ j → I' 4 j = I 4 j ∧ I' 5 j = I 5 j) ∧ RCt I' n r s2 s3 g ∧ Kb I' I) ?_ ?_ (f0 := 128) (by omega) (pI (pI I 3 0 (nI n)) 3 1 (nI r)) ⟨fun a ha => absurd ha (Nat.not_lt_zero a), fun q' j hq => by rw [pI_ro _ (by omega), pI_ro _ (by omega)], by rw [pI_c _ (by decide), pI_s], by rw [pI_s], fun j => by rw [pI_ro _ (by decide), pI_ro _ (by decide), pI_ro _ (by decide), pI_ro _ (by decide)]; exact ⟨rfl, rfl⟩⟩
  · rintro f i z hi ⟨e1, e2, e3, e4, e5⟩
    refine ⟨pI (pI z 6 i ((1 : Int32) <<< (nI i &&& 31))) 7 i 0, ?_, fun a ha => ?_, fun q' j hq => by rw [pI_ro _ (by omega), pI_ro _ (by omega)]; exact e2 q' j hq, by rw [pI_ro _ (by decide), pI_ro _ (by decide)]; exact e3, by rw [pI_ro _ (by decide), pI_ro _ (by decide)]; exact e4, fun j => by rw [pI_ro _ (by decide), pI_ro _ (by decide), pI_ro _ (by decide), pI_ro _ (by decide)]; exact e5 j⟩
    · show HX6_build_19 _ _ _ _ = _
      unfold HX6_build_19
      rw [e3, if_neg (nI_ge hi (by omega)), gd_t (inb_nI (show i < 6 by omega) (by decide)), nI_clamp (by omega), nI_1]
    · by_cases w : a = i
      · subst w
        rw [pI_ro _ (show (6 : Nat) ≠ 7 by decide), pI_s, pI_s, bit_msk k1b hi]
        refine ⟨congrArg nI (msk_congr (fun b hb => ?_)), rfl⟩
        show decide (b = a) = (decide (a = b) || false)
        rw [Bool.or_false, decide_eq_decide]
        exact eq_comm
      · rw [pI_ro _ (show (6 : Nat) ≠ 7 by decide), pI_c _ w, pI_c _ w, pI_ro _ (show (7 : Nat) ≠ 6 by decide)]
        exact e1 a (by omega)
  · rintro f z ⟨e1, e2, e3, e4, e5⟩
    show ∃ I' : aI, HX6_build_19 _ _ _ _ = _ ∧ _
    unfold HX6_build_19
    rw [e3, if_pos (nI_le (Nat.le_refl n) (by omega))]
    exact lay z e2 e3 e4 e1 e5
theorem settle_eq {q : Nat → Nat} {N sm n r p : Nat} (hK : Pk q N sm n r p) {I : aI} (J : aJ) (hP : Pg q N I) (h13 : I 1 3 = nI p) (h14 : I 1 4 = nI (sm + 1)) :
    ∃ I' : aI, fX1_settle 22 I J = some ((), I', J) ∧ I' 22 0 = nI p ∧ (∀ j, j < p → I' 23 j = nI (pv q sm 5 j) ∧ I' 24 j = nI (pv q sm 4 j) ∧ I' 25 j = nI (pv q sm 6 j) ∧ I' 26 j = nI (pv q sm 7 j)) ∧ (∀ j, p ≤ j → I' 23 j = I 23 j ∧ I' 24 j = I 24 j ∧ I' 25 j = I 25 j ∧ I' 26 j = I 26 j) ∧ ∀ a j, (a < 22 ∨ 26 < a) → I' a j = I a j := by
  obtain ⟨k1, k2, ⟨r1, r2, r3, r4⟩, ⟨p1, p2, p3, p4, p5⟩, k5⟩ := hK
  have e0 : fX1_settle 22 I J = LX1_settle_10 128 22 0 (pI I 22 0 (nI p)) J := by unfold fX1_settle; rw [h13]
  rw [e0]
  refine sl (fun f i (z : aI) => LX1_settle_10 f 22 (nI i) z J) p (fun i z => z 22 0 = nI p ∧ (∀ j, j < i → z 23 j = nI (pv q sm 5 j) ∧ z 24 j = nI (pv q sm 4 j) ∧ z 25 j = nI (pv q sm 6 j) ∧ z 26 j = nI (pv q sm 7 j)) ∧ (∀ j, i ≤ j → z 23 j = I 23 j ∧ z 24 j = I 24 j ∧ z 25 j = I 25 j ∧ z 26 j = I 26 j) ∧ ∀ a j, (a < 22 ∨ 26 < a) → z a j = I a j)
    (fun y => ∃ I' : aI, y = some ((), I', J) ∧ I' 22 0 = nI p ∧ (∀ j, j < p → I' 23 j = nI (pv q sm 5 j) ∧ I' 24 j = nI (pv q sm 4 j) ∧ I' 25 j = nI (pv q sm 6 j) ∧ I' 26 j = nI (pv q sm 7 j)) ∧ (∀ j, p ≤ j → I' 23 j = I 23 j ∧ I' 24 j = I 24 j ∧ I' 25 j = I 25 j ∧ I' 26 j = I 26 j) ∧ ∀ a j, (a < 22 ∨ 26 < a) → I' a j = I a j) ?_ ?_ (f0 := 128) (by omega) (pI I 22 0 (nI p)) ⟨by rw [pI_s], fun j hj => absurd hj (Nat.not_lt_zero j), fun j _ => by rw [pI_ro _ (by decide), pI_ro _ (by decide), pI_ro _ (by decide), pI_ro _ (by decide)]; exact ⟨rfl, rfl, rfl, rfl⟩, fun a j ha => by rw [pI_ro _ (by omega)]⟩
  · rintro f i z hi ⟨e1, e2, e3, e4⟩
    obtain ⟨u1, u2, u3, u4⟩ := p5 i hi
    have hPz : Pg q N z := ⟨by rw [e4 1 1 (by omega)]; exact hP.1, fun j hj => by rw [e4 2 j (by omega)]; exact hP.2 j hj⟩
    have ps : fX3_personStart (nI i) z J = some (nI (sm + 1 + 5 * i), z, J) := by
      unfold fX3_personStart
      rw [e4 1 4 (by omega), h14, show (5 : Int32) * nI i = nI (5 * i) from pk_mul 5 i, nI_add]
    have pk1 : ∀ {s : aI} {a j : Nat} {x : Int32}, 22 < a → Pg q N s → Pg q N (pI s a j x) := fun h hs => ⟨by rw [pI_ro _ (by omega)]; exact hs.1, fun j hj => by rw [pI_ro _ (by omega)]; exact hs.2 j hj⟩
    have v4 : kdI (q (sm + 1 + 5 * i)) = nI (pv q sm 4 i) := kd_n u1
    have v5 : nI (q (sm + 1 + 5 * i + 1)) - 48 = nI (pv q sm 5 i) := n48 u2.1
    have v6 : nI (q (sm + 1 + 5 * i + 2)) - 48 = nI (pv q sm 6 i) := n48 u3.1
    have v7 : nI (q (sm + 1 + 5 * i + 3)) - 48 = nI (pv q sm 7 i) := n48 u4.1
    have P1 : Pg q N (pI z (22 + 2) i (nI (pv q sm 4 i))) := pk1 (by decide) hPz
    have P2 : Pg q N (pI (pI z (22 + 2) i (nI (pv q sm 4 i))) (22 + 1) i (nI (pv q sm 5 i))) := pk1 (by decide) P1
    have P3 : Pg q N (pI (pI (pI z (22 + 2) i (nI (pv q sm 4 i))) (22 + 1) i (nI (pv q sm 5 i))) (22 + 3) i (nI (pv q sm 6 i))) := pk1 (by decide) P2
    refine ⟨pI (pI (pI (pI z (22 + 2) i (nI (pv q sm 4 i))) (22 + 1) i (nI (pv q sm 5 i))) (22 + 3) i (nI (pv q sm 6 i))) (22 + 4) i (nI (pv q sm 7 i)), ?_, ?_, fun j hj => ?_, fun j hj => ?_, fun a j ha => ?_⟩
    · show HX1_settle_10 _ _ _ _ _ = _
      unfold HX1_settle_10
      rw [e1, if_neg (nI_ge hi (by omega)), bnd_t ps, bnd_t (kind7 p2 (show sm + 1 + 5 * i < N by omega) k5 hPz J), gd_t (inb_nI (show i < 6 by omega) (by decide)), nI_clamp (show i < 2 ^ 31 by omega), v4, show nI (sm + 1 + 5 * i) + 1 = nI (sm + 1 + 5 * i + 1) from nI_add _ 1, bnd_t (digit7 p2 (show sm + 1 + 5 * i + 1 < N by omega) P1 J), v5, show nI (sm + 1 + 5 * i) + 2 = nI (sm + 1 + 5 * i + 2) from nI_add _ 2, bnd_t (digit7 p2 (show sm + 1 + 5 * i + 2 < N by omega) P2 J), v6, show nI (sm + 1 + 5 * i) + 3 = nI (sm + 1 + 5 * i + 3) from nI_add _ 3, bnd_t (digit7 p2 (show sm + 1 + 5 * i + 3 < N by omega) P3 J), v7, nI_1]
    · rw [pI_ro _ (by decide), pI_ro _ (by decide), pI_ro _ (by decide), pI_ro _ (by decide)]; exact e1
    · by_cases w : j = i
      · subst w
        refine ⟨?_, ?_, ?_, ?_⟩
        · rw [pI_ro _ (by decide), pI_ro _ (by decide)]; exact pI_s _
        · rw [pI_ro _ (by decide), pI_ro _ (by decide), pI_ro _ (by decide)]; exact pI_s _
        · rw [pI_ro _ (by decide)]; exact pI_s _
        · exact pI_s _
      · rw [pI_c _ w, pI_c _ w, pI_c _ w, pI_c _ w, pI_c _ w, pI_c _ w, pI_c _ w, pI_c _ w, pI_c _ w, pI_c _ w, pI_c _ w, pI_c _ w, pI_c _ w, pI_c _ w, pI_c _ w, pI_c _ w]
        exact e2 j (by omega)
    · have w : j ≠ i := by omega
      rw [pI_c _ w, pI_c _ w, pI_c _ w, pI_c _ w, pI_c _ w, pI_c _ w, pI_c _ w, pI_c _ w, pI_c _ w, pI_c _ w, pI_c _ w, pI_c _ w, pI_c _ w, pI_c _ w, pI_c _ w, pI_c _ w]
      exact e3 j (by omega)
    · rw [pI_ro _ (by omega), pI_ro _ (by omega), pI_ro _ (by omega), pI_ro _ (by omega)]
      exact e4 a j ha
  · rintro f z ⟨e1, e2, e3, e4⟩
    refine ⟨z, ?_, e1, e2, e3, e4⟩
    show HX1_settle_10 _ _ _ _ _ = _
    unfold HX1_settle_10
    rw [e1, if_pos (nI_le (Nat.le_refl p) (by omega))]
theorem begin0 {e : Nat} (x : Int32) (I : aI) (J : aJ) : ∃ I' : aI, fX0_begin e x I J = some ((), I', J) ∧ I' e 0 = x ∧ I' e 1 = 0 ∧ I' e 2 = 0 ∧ (∀ j, j < 6 → I' (e + 1) j = 0) ∧ ∀ k j, k ≠ e → k ≠ e + 1 → I' k j = I k j := by
  obtain ⟨I', a1, a2⟩ := fill_eq (e := e + 1) (n := 6) (by decide) 0 (pI (pI (pI I e 0 x) e 1 0) e 2 0) J
  refine ⟨I', ?_, ?_, ?_, ?_, fun j hj => by rw [a2, if_pos ⟨rfl, hj⟩], fun k j h1 h2 => by rw [a2, if_neg (fun z => h2 z.1), pI_ro _ h1, pI_ro _ h1, pI_ro _ h1]⟩
  · unfold fX0_begin; rw [bnd_t a1]
  · rw [a2, if_neg (by omega), pI_c _ (by decide), pI_c _ (by decide), pI_s]
  · rw [a2, if_neg (by omega), pI_c _ (by decide), pI_s]
  · rw [a2, if_neg (by omega), pI_s]
