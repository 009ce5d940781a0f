/-! the reference's suburb -/
theorem n48 {x : Nat} (h : 48 ≤ x) : nI x - 48 = nI (x - 48) := pk_sub (b := 48) h
theorem i33 (k : Nat) : (3 : Int32) + 3 * nI k = nI (3 + 3 * k) := by
  rw [show (3 : Int32) * nI k = nI (3 * k) from pk_mul 3 k]
  exact nI_add 3 (3 * k)
theorem i43 (k : Nat) : (4 : Int32) + 3 * nI k = nI (4 + 3 * k) := by
  rw [show (3 : Int32) * nI k = nI (3 * k) from pk_mul 3 k]
  exact nI_add 4 (3 * k)
theorem i5k (sm k : Nat) : nI sm + 1 + 5 * nI k = nI (sm + 1 + 5 * k) := by
  rw [show (5 : Int32) * nI k = nI (5 * k) from pk_mul 5 k, nI_1, nI_add]
theorem pI_c (I : aI) {k j : Nat} {x : Int32} {a b : Nat} (h : b ≠ j) : pI I k j x a b = I a b := by rw [pI_g, if_neg (fun z => h z.2)]
theorem pI_s (I : aI) {k j : Nat} {x : Int32} : pI I k j x k j = x := by rw [pI_g, if_pos ⟨rfl, rfl⟩]
theorem ref104 {q : Nat → Nat} {N sm n r p : Nat} (hK : Pk q N sm n r p) {s : aI} (J : aJ) (h04 : s 0 4 = nI r) (h1 : ∀ j, j < N → s 1 j = nI (q j)) :
    ∃ s' : aI, LX8_suburb_104 128 0 s J = LX8_suburb_158 128 0 s' J ∧ ∀ a j, s' a j = if a = 2 ∧ j < r then nI (q (3 + 3 * j) - 48) else if a = 3 ∧ j < r then nI (q (4 + 3 * j) - 48) else s a j := by
  obtain ⟨k1, k2, ⟨r1, r2, r3, r4⟩, ⟨p1, p2, p3, p4, p5⟩, k5⟩ := hK
  refine sl (fun f i (z : aI) => LX8_suburb_104 f (nI i) z J) r (fun i z => ∀ a j, z a j = if a = 2 ∧ j < i then nI (q (3 + 3 * j) - 48) else if a = 3 ∧ j < i then nI (q (4 + 3 * j) - 48) else s a j) (fun y => ∃ s' : aI, y = LX8_suburb_158 128 0 s' J ∧ ∀ a j, s' a j = if a = 2 ∧ j < r then nI (q (3 + 3 * j) - 48) else if a = 3 ∧ j < r then nI (q (4 + 3 * j) - 48) else s a j) ?_ ?_ (f0 := 128) (by omega) s (fun a j => by rw [if_neg (by omega), if_neg (by omega)])
  · rintro f i z hi e
    obtain ⟨q1, q2, q3⟩ := r4 i hi
    have z1 : ∀ j, j < N → z 1 j = nI (q j) := fun j hj => by rw [e, if_neg (by omega), if_neg (by omega)]; exact h1 j hj
    refine ⟨pI (pI z 2 i (nI (q (3 + 3 * i) - 48))) 3 i (nI (q (4 + 3 * i) - 48)), ?_, fun a j => ?_⟩
    · show HX8_suburb_104 _ _ _ _ = _
      unfold HX8_suburb_104
      rw [show z 0 4 = nI r by rw [e, if_neg (by omega), if_neg (by omega)]; exact h04, if_neg (nI_ge hi (by omega)), i33, i43, gd_t (inb_nI (show 3 + 3 * i < 60 by omega) (by decide)), gd_t (inb_nI (show i < 8 by omega) (by decide)), gd_t (inb_nI (show 4 + 3 * i < 60 by omega) (by decide)), nI_clamp (show 3 + 3 * i < 2 ^ 31 by omega), nI_clamp (show 4 + 3 * i < 2 ^ 31 by omega), nI_clamp (show i < 2 ^ 31 by omega), pI_ro _ (show (1 : Nat) ≠ 2 by decide), z1 _ (show 3 + 3 * i < N by omega), z1 _ (show 4 + 3 * i < N by omega), n48 q1.1, n48 q2.1, nI_1]
    · rw [pI_g, pI_g, e a j]
      by_cases w3 : a = 3 ∧ j = i
      · rw [if_pos w3, if_neg (by omega), if_pos ⟨w3.1, by omega⟩, w3.2]
      · rw [if_neg w3]
        by_cases w2 : a = 2 ∧ j = i
        · rw [if_pos w2, if_pos ⟨w2.1, by omega⟩, w2.2]
        · rw [if_neg w2]
          by_cases x2 : a = 2 ∧ j < i
          · rw [if_pos x2, if_pos ⟨x2.1, by omega⟩]
          · rw [if_neg x2, if_neg (show ¬ (a = 2 ∧ j < i + 1) by omega)]
            by_cases x3 : a = 3 ∧ j < i
            · rw [if_pos x3, if_pos ⟨x3.1, by omega⟩]
            · rw [if_neg x3, if_neg (show ¬ (a = 3 ∧ j < i + 1) by omega)]
  · rintro f z e
    refine ⟨z, ?_, e⟩
    show HX8_suburb_104 _ _ _ _ = _
    unfold HX8_suburb_104
    rw [show z 0 4 = nI r by rw [e, if_neg (by omega), if_neg (by omega)]; exact h04, if_pos (nI_le (Nat.le_refl r) (by omega))]
def fin8 (I : aI) : aI := pI (pI (pI (pI I 0 7 0) 0 27 0) 0 8 (((pI (pI I 0 7 0) 0 27 0) 0 8) + 1)) 0 1 0
theorem ref158 {q : Nat → Nat} {N sm n r p : Nat} (hK : Pk q N sm n r p) {s : aI} (J : aJ) (h05 : s 0 5 = nI p) (h02 : s 0 2 = nI sm) (h1 : ∀ j, j < N → s 1 j = nI (q j)) :
    ∃ s' : aI, LX8_suburb_158 128 0 s J = (bnd (fX8_layFars s' J) fun (_ : Unit) (I11 : aI) (J11 : aJ) => some (fin8 I11 0 5, fin8 I11, J11)) ∧ ∀ a j, s' a j = if (4 ≤ a ∧ a ≤ 9) ∧ j < p then nI (pv q sm a j) else s a j := by
  obtain ⟨k1, k2, ⟨r1, r2, r3, r4⟩, ⟨p1, p2, p3, p4, p5⟩, k5⟩ := hK
  refine sl (fun f i (z : aI) => LX8_suburb_158 f (nI i) z J) p (fun i z => ∀ a j, z a j = if (4 ≤ a ∧ a ≤ 9) ∧ j < i then nI (pv q sm a j) else s a j) (fun y => ∃ s' : aI, y = (bnd (fX8_layFars s' J) fun (_ : Unit) (I11 : aI) (J11 : aJ) => some (fin8 I11 0 5, fin8 I11, J11)) ∧ ∀ a j, s' a j = if (4 ≤ a ∧ a ≤ 9) ∧ j < p then nI (pv q sm a j) else s a j) ?_ ?_ (f0 := 128) (by omega) s (fun a j => by rw [if_neg (by omega)])
  · rintro f i z hi e
    obtain ⟨u1, u2, u3, u4⟩ := p5 i hi
    have z1 : ∀ j, j < N → z 1 j = nI (q j) := fun j hj => by rw [e, if_neg (by omega)]; exact h1 j hj
    have kq := k5 (sm + 1 + 5 * i) (by omega)
    refine ⟨pI (pI (pI (pI (pI (pI z 4 i (nI (pv q sm 4 i))) 5 i (nI (pv q sm 5 i))) 6 i (nI (pv q sm 6 i))) 7 i (nI (pv q sm 7 i))) 8 i 0) 9 i 0, ?_, fun a j => ?_⟩
    · show HX8_suburb_158 _ _ _ _ = _
      unfold HX8_suburb_158
      rw [show z 0 5 = nI p by rw [e, if_neg (by omega)]; exact h05, if_neg (nI_ge hi (by omega)), show z 0 2 = nI sm by rw [e, if_neg (by omega)]; exact h02, i5k, gd_t (inb_nI (show sm + 1 + 5 * i < 60 by omega) (by decide)), nI_clamp (show sm + 1 + 5 * i < 2 ^ 31 by omega), z1 _ (show sm + 1 + 5 * i < N by omega), bnd_t (kindBy_eq (show q (sm + 1 + 5 * i) < 200 by omega) z J), gd_t (inb_nI (show i < 6 by omega) (by decide)),
        show nI (sm + 1 + 5 * i) + 1 = nI (sm + 1 + 5 * i + 1) from nI_add _ 1, show nI (sm + 1 + 5 * i) + 2 = nI (sm + 1 + 5 * i + 2) from nI_add _ 2, show nI (sm + 1 + 5 * i) + 3 = nI (sm + 1 + 5 * i + 3) from nI_add _ 3,
        gd_t (inb_nI (show sm + 1 + 5 * i + 1 < 60 by omega) (by decide)), gd_t (inb_nI (show sm + 1 + 5 * i + 2 < 60 by omega) (by decide)), gd_t (inb_nI (show sm + 1 + 5 * i + 3 < 60 by omega) (by decide)), nI_clamp (show i < 2 ^ 31 by omega), nI_clamp (show sm + 1 + 5 * i + 1 < 2 ^ 31 by omega), nI_clamp (show sm + 1 + 5 * i + 2 < 2 ^ 31 by omega), nI_clamp (show sm + 1 + 5 * i + 3 < 2 ^ 31 by omega), kd_n u1, nI_1 i]
      simp only [pI_ro _ (show (1 : Nat) ≠ 4 by decide), pI_ro _ (show (1 : Nat) ≠ 5 by decide), pI_ro _ (show (1 : Nat) ≠ 6 by decide)]
      rw [z1 _ (show sm + 1 + 5 * i + 1 < N by omega), z1 _ (show sm + 1 + 5 * i + 2 < N by omega), z1 _ (show sm + 1 + 5 * i + 3 < N by omega), n48 u2.1, n48 u3.1, n48 u4.1]
      rfl
    · by_cases y : (4 ≤ a ∧ a ≤ 9) ∧ j = i
      · obtain ⟨y1, y2⟩ := y
        subst y2
        rw [if_pos ⟨y1, by omega⟩]
        rcases (show a = 4 ∨ a = 5 ∨ a = 6 ∨ a = 7 ∨ a = 8 ∨ a = 9 by omega) with rfl | rfl | rfl | rfl | rfl | rfl
        · rw [pI_ro _ (by decide), pI_ro _ (by decide), pI_ro _ (by decide), pI_ro _ (by decide), pI_ro _ (by decide), pI_s]
        · rw [pI_ro _ (by decide), pI_ro _ (by decide), pI_ro _ (by decide), pI_ro _ (by decide), pI_s]
        · rw [pI_ro _ (by decide), pI_ro _ (by decide), pI_ro _ (by decide), pI_s]
        · rw [pI_ro _ (by decide), pI_ro _ (by decide), pI_s]
        · rw [pI_ro _ (by decide), pI_s]; rfl
        · rw [pI_s]; rfl
      · rw [pI_g, if_neg (by omega), pI_g, if_neg (by omega), pI_g, if_neg (by omega), pI_g, if_neg (by omega), pI_g, if_neg (by omega), pI_g, if_neg (by omega), e a j]
        by_cases x : (4 ≤ a ∧ a ≤ 9) ∧ j < i
        · rw [if_pos x, if_pos ⟨x.1, by omega⟩]
        · rw [if_neg x, if_neg (by omega)]
  · rintro f z e
    refine ⟨z, ?_, e⟩
    show HX8_suburb_158 _ _ _ _ = _
    unfold HX8_suburb_158
    rw [show z 0 5 = nI p by rw [e, if_neg (by omega)]; exact h05, if_pos (nI_le (Nat.le_refl p) (by omega))]
    rfl
def sb2 (σ : sN) (r : Nat) : Nat → Nat := fun j => if j < r then σ 1 (3 + 3 * j) - 48 else σ 2 j
def sb3 (σ : sN) (r : Nat) : Nat → Nat := fun j => if j < r then σ 1 (4 + 3 * j) - 48 else σ 3 j
def sbP (σ : sN) (sm p k : Nat) : Nat → Nat := fun j => if j < p then pv (σ 1) sm k j else σ k j
def sb0 (σ : sN) (n r p : Nat) : Nat → Nat := fun j => if j = 1 then 0 else if j = 3 then n else if j = 4 then r else if j = 5 then p else if j = 6 then σ 1 1 - 48 else if j = 7 then 0 else if j = 8 then σ 0 8 + 1 else if j = 27 then 0 else σ 0 j
def sbS (σ : sN) (sm n r p : Nat) (g : Nat → Nat) : sN := fun k => if k = 0 then sb0 σ n r p else if k = 2 then sb2 σ r else if k = 3 then sb3 σ r else if k = 10 then g else if 4 ≤ k ∧ k ≤ 9 then sbP σ sm p k else σ k
theorem Pk.roads {σ : sN} {N sm n r p : Nat} (hK : Pk (σ 1) N sm n r p) : ∀ k, k < r → sb2 σ r k < n ∧ sb3 σ r k < n ∧ sb2 σ r k ≠ sb3 σ r k := by
  intro k hk
  obtain ⟨k1, k2, ⟨r1, r2, r3, r4⟩, -, -⟩ := hK
  have := r4 k hk
  unfold sb2 sb3
  rw [if_pos hk, if_pos hk]
  omega
theorem suburb8 {σ : sN} {I : aI} {n r p : Nat} (hM : RM σ I) (J : aJ) (hfl : fl (σ 1) (σ 0 1) 0 = σ 0 1) (hK : Pk (σ 1) (σ 0 1) (smAt (σ 1) (σ 0 1)) n r p) :
    ∃ I' g, fX8_suburb I J = some (nI p, I', J) ∧ Dm n (adj r (sb2 σ r) (sb3 σ r)) (fr g) ∧ RM (sbS σ (smAt (σ 1) (σ 0 1)) n r p g) I' := by
  have hK' := hK
  have hrd := hK.roads
  obtain ⟨⟨k1, k1a, k1b⟩, k2, ⟨r1, r2, r3, r4⟩, ⟨p1, p2, p3, p4, p5⟩, k5⟩ := hK
  obtain ⟨I1, b1, b2, b3⟩ := faultOf_eq p2 (fun j hj => by have := k5 j hj; omega) (I := I) J (hM.g 0 1 rfl) (fun j hj => hM.g 1 j (by simp [rs]; omega))
  have b2 := b2 hfl
  generalize smAt (σ 1) (σ 0 1) = sm at *
  have g01 : I1 0 1 = nI (σ 0 1) := by rw [b3 0 1 (by omega)]; exact hM.g 0 1 rfl
  have g1 : ∀ j, j < σ 0 1 → I1 1 j = nI (σ 1 j) := fun j hj => by rw [b3 1 j (by omega)]; exact hM.g 1 j (by simp [rs]; omega)
  obtain ⟨S, hS⟩ : ∃ S : aI, S = pI (pI (pI (pI I1 0 3 (nI n)) 0 6 (nI (σ 1 1 - 48))) 0 4 (nI r)) 0 5 (nI p) := ⟨_, rfl⟩
  have e0 : fX8_suburb I J = LX8_suburb_104 128 0 S J := by
    unfold fX8_suburb
    rw [bnd_t b1, hfl, b2, g01, if_neg (nI_nlt (Nat.le_refl _) (by omega)), if_neg (nI_ne0 (by omega) (by omega)), show nI sm + 10 = nI (sm + 10) from nI_add sm 10, if_neg (nI_nlt (by omega) (by omega)), pk_sub (show sm ≤ σ 0 1 by omega), show nI (σ 0 1 - sm) - nI (σ 0 1 - sm) / 5 * 5 = nI ((σ 0 1 - sm) % 5) from pk_rem (d := 5) (by omega) (by decide) (by decide), if_pos (show nI ((σ 0 1 - sm) % 5) = 0 by rw [show (σ 0 1 - sm) % 5 = 0 by omega]; rfl), tc0, show (1 : Int32).toNatClampNeg = 1 from rfl]
    simp only [pI_ro _ (show (1 : Nat) ≠ 0 by decide), pI_c _ (show (2 : Nat) ≠ 3 by decide), pI_c _ (show (2 : Nat) ≠ 6 by decide), pI_c _ (show (2 : Nat) ≠ 4 by decide), pI_c _ (show (1 : Nat) ≠ 3 by decide), pI_c _ (show (1 : Nat) ≠ 6 by decide), pI_c _ (show (1 : Nat) ≠ 4 by decide)]
    rw [b2, g01, g1 0 (by omega), g1 1 (by omega), n48 (show 48 ≤ σ 1 0 by omega), n48 k2.1, pk_sub (show sm ≤ σ 0 1 by omega), show nI sm - 2 = nI (sm - 2) from pk_sub (b := 2) (by omega), show nI (sm - 2) / 3 = nI ((sm - 2) / 3) from pk_div (d := 3) (by omega) (by decide) (by decide), show nI (σ 0 1 - sm) / 5 = nI ((σ 0 1 - sm) / 5) from pk_div (d := 5) (by omega) (by decide) (by decide), show (sm - 2) / 3 = r by omega, show (σ 0 1 - sm) / 5 = p by omega, show σ 1 0 - 48 = n by omega, hS]
  have S0 : ∀ j, S 0 j = if j = 5 then nI p else if j = 4 then nI r else if j = 6 then nI (σ 1 1 - 48) else if j = 3 then nI n else I1 0 j := by
    intro j
    rw [hS, pI_g, pI_g, pI_g, pI_g]
    simp only [true_and]
  have Sr : ∀ k j, k ≠ 0 → S k j = I1 k j := fun k j hk => by rw [hS, pI_ro _ hk, pI_ro _ hk, pI_ro _ hk, pI_ro _ hk]
  obtain ⟨S1, c1, c2⟩ := ref104 hK' (s := S) J (by rw [S0, if_neg (by decide), if_pos rfl]) (fun j hj => by rw [Sr 1 j (by decide)]; exact g1 j hj)
  have c0 : ∀ j, S1 0 j = S 0 j := fun j => by rw [c2, if_neg (by omega), if_neg (by omega)]
  obtain ⟨S2, d1, d2⟩ := ref158 hK' (s := S1) J (by rw [c0, S0, if_pos rfl]) (by rw [c0, S0, if_neg (by decide), if_neg (by decide), if_neg (by decide), if_neg (by decide)]; exact b2) (fun j hj => by rw [c2, if_neg (by omega), if_neg (by omega), Sr 1 j (by decide)]; exact g1 j hj)
  have d0 : ∀ j, S2 0 j = S 0 j := fun j => by rw [d2, if_neg (by omega), c0]
  obtain ⟨I3, g, e1, e2, e3, e4⟩ := layFars_eq (n := n) (r := r) k1b r3 hrd S2 J (by rw [d0, S0, if_neg (by decide), if_pos rfl]) (fun k hk => by
    rw [d2, if_neg (by omega), c2, if_pos ⟨rfl, hk⟩, d2, if_neg (by omega), c2, if_neg (by omega), if_pos ⟨rfl, hk⟩]
    unfold sb2 sb3
    rw [if_pos hk, if_pos hk]
    exact ⟨rfl, rfl⟩)
  have f0 : ∀ j, fin8 I3 0 j = if j = 1 then 0 else if j = 8 then I3 0 8 + 1 else if j = 27 then 0 else if j = 7 then 0 else I3 0 j := by
    intro j
    unfold fin8
    rw [pI_c _ (show (8 : Nat) ≠ 27 by decide), pI_c _ (show (8 : Nat) ≠ 7 by decide), pI_g, pI_g, pI_g, pI_g]
    simp only [true_and]
  have fk : ∀ k j, k ≠ 0 → fin8 I3 k j = I3 k j := fun k j hk => by unfold fin8; rw [pI_ro _ hk, pI_ro _ hk, pI_ro _ hk, pI_ro _ hk]
  have t0 : ∀ j, I3 0 j = if j = 5 then nI p else if j = 4 then nI r else if j = 6 then nI (σ 1 1 - 48) else if j = 3 then nI n else I1 0 j := fun j => by rw [e4 0 j (by decide), d0, S0]
  refine ⟨fin8 I3, g, ?_, e3, fun k j hr => ?_, ?_⟩
  · rw [e0, c1, d1, bnd_t e1, f0 5, if_neg (by decide), if_neg (by decide), if_neg (by decide), if_neg (by decide), t0 5, if_pos rfl]
  · by_cases w0 : k = 0
    · subst w0
      show _ = nI (sb0 σ n r p j)
      rw [f0]
      unfold sb0
      by_cases j1 : j = 1
      · rw [if_pos j1, if_pos j1]; rfl
      rw [if_neg j1, if_neg j1]
      by_cases j8 : j = 8
      · subst j8
        rw [if_pos rfl, if_neg (by decide), if_neg (by decide), if_neg (by decide), if_neg (by decide), if_neg (by decide), if_pos rfl, t0, if_neg (by decide), if_neg (by decide), if_neg (by decide), if_neg (by decide), b3 0 8 (by omega), hM.g 0 8 rfl, nI_1]
      rw [if_neg j8, if_neg j8, t0]
      by_cases j27 : j = 27
      · subst j27; rfl
      rw [if_neg j27, if_neg j27]
      by_cases j7 : j = 7
      · subst j7; rfl
      rw [if_neg j7, if_neg j7]
      by_cases j5 : j = 5
      · subst j5; rfl
      rw [if_neg j5, if_neg j5]
      by_cases j4 : j = 4
      · subst j4; rfl
      rw [if_neg j4, if_neg j4]
      by_cases j6 : j = 6
      · subst j6; rfl
      rw [if_neg j6, if_neg j6]
      by_cases j3 : j = 3
      · subst j3; rfl
      rw [if_neg j3, if_neg j3, b3 0 j (fun z => by
        obtain ⟨-, rfl⟩ := z
        simp [rs] at hr)]
      exact hM.g 0 j hr
    · rw [fk k j w0]
      unfold sbS
      rw [if_neg w0]
      by_cases w10 : k = 10
      · subst w10
        rw [if_neg (by decide), if_neg (by decide), if_pos rfl]
        exact (e2 j (by simpa [rs] using hr)).1
      rw [e4 k j w10, d2]
      by_cases w4 : 4 ≤ k ∧ k ≤ 9
      · rw [if_neg (show ¬ k = 2 by omega), if_neg (show ¬ k = 3 by omega), if_neg w10, if_pos w4]
        unfold sbP
        by_cases x : j < p
        · rw [if_pos ⟨w4, x⟩, if_pos x]
        · rw [if_neg (fun y => x y.2), if_neg x, c2, if_neg (by omega), if_neg (by omega), Sr k j w0, b3 k j (by omega)]
          exact hM.g k j hr
      rw [if_neg (fun y => w4 y.1), c2]
      by_cases w2 : k = 2
      · subst w2
        rw [if_pos rfl]
        unfold sb2
        by_cases x : j < r
        · rw [if_pos ⟨rfl, x⟩, if_pos x]
        · rw [if_neg (fun y => x y.2), if_neg (by omega), if_neg x, Sr 2 j (by decide), b3 2 j (by omega)]
          exact hM.g 2 j hr
      rw [if_neg w2, if_neg (fun y => w2 y.1)]
      by_cases w3 : k = 3
      · subst w3
        rw [if_pos rfl]
        unfold sb3
        by_cases x : j < r
        · rw [if_pos ⟨rfl, x⟩, if_pos x]
        · rw [if_neg (fun y => x y.2), if_neg x, Sr 3 j (by decide), b3 3 j (by omega)]
          exact hM.g 3 j hr
      rw [if_neg w3, if_neg (fun y => w3 y.1), if_neg w10, if_neg w4, Sr k j w0, b3 k j (by omega)]
      exact hM.g k j hr
  · show _ = nI (sb0 σ n r p 30) - 1
    rw [f0, if_neg (by decide), if_neg (by decide), if_neg (by decide), if_neg (by decide), t0, if_neg (by decide), if_neg (by decide), if_neg (by decide), if_neg (by decide), b3 0 30 (by omega)]
    exact hM.2
