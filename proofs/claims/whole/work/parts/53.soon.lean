/-- a loop that may end early -/
theorem sle {S β : Type} (L : Nat → Nat → S → β) (N : Nat) (Inv : Nat → S → Prop) (Q : β → Prop) (hs : ∀ f i s, i < N → Inv i s → Q (L (f + 1) i s) ∨ ∃ s', L (f + 1) i s = L f (i + 1) s' ∧ Inv (i + 1) s') (he : ∀ f s, Inv N s → Q (L (f + 1) N s)) {f0 : Nat} (hN : N < f0) (s0 : S) (h0 : Inv 0 s0) : Q (L f0 0 s0) := by
  have key : ∀ m i f s, i + m = N → m < f → Inv i s → Q (L f i s) := by
    intro m
    induction m with
    | zero =>
      intro i f s hi hf h
      obtain ⟨f, rfl⟩ : ∃ g, f = g + 1 := ⟨f - 1, by omega⟩
      have e : i = N := by omega
      subst e
      exact he f s h
    | succ m ih =>
      intro i f s hi hf h
      obtain ⟨f, rfl⟩ : ∃ g, f = g + 1 := ⟨f - 1, by omega⟩
      rcases hs f i s (by omega) h with h1 | ⟨s', h1, h2⟩
      · exact h1
      · rw [h1]
        exact ih (i + 1) f s' (by omega) (by omega) h2
  exact key N 0 f0 s0 (by omega) (by omega) h0
def gst (kd tm h : Nat) (w : Bool) (c : Nat) : Nat := if w = true then (if tmO kd tm h = true then c + 1 else c) else if kd = 3 then 0 else c
/-- the count after t hours of the best way: there as soon as may be, and staying -/
def Gc (kd tm h d ct : Nat) : Nat → Nat
  | 0 => ct
  | t + 1 => gst kd tm (h + t + 1) (decide (d ≤ t + 1)) (Gc kd tm h d ct t)
theorem gst_le (kd tm h : Nat) (w : Bool) (c : Nat) : gst kd tm h w c ≤ c + 1 := by unfold gst; split; split; omega; omega; split; omega; omega
theorem Gc_le (kd tm h d ct : Nat) : ∀ t, Gc kd tm h d ct t ≤ ct + t
  | 0 => Nat.le_refl _
  | t + 1 => by
    have := Gc_le kd tm h d ct t
    have := gst_le kd tm (h + t + 1) (decide (d ≤ t + 1)) (Gc kd tm h d ct t)
    show gst _ _ _ _ _ ≤ _
    omega
theorem cAft {j h kd tm c : Nat} {w : Bool} (hj : j < 6) (hh : h < 2000) (hk : kd ≤ 4) (ht : tm ≤ 9) {I : aI} {J : aJ} (h24 : I 24 j = nI kd) (h25 : I 25 j = nI tm) : fX1_countedAfter 22 (nI j) (nI c) (bN w) (nI h) I J = some (nI (gst kd tm h w c), I, J) := by
  have e := cAfter (x := 0) (h := h) (kd := fun _ => kd) (pl := fun _ => if w = true then 0 else 1) (tm := fun _ => tm) (ct := fun _ => c) (sv := fun _ => 0) hj hh hk ht rfl (I := I) (J := J) h24 h25
  cases w
  · exact e
  · exact e
theorem needs7 {i k : Nat} (hi : i < 6) (hk : k ≤ 4) {I : aI} (J : aJ) (h24 : I 24 i = nI k) : fX1_needs 22 (nI i) I J = some (nI (ndN k), I, J) := by
  unfold fX1_needs
  rw [gd_t (inb_nI hi (by decide)), nI_clamp (by omega), show I (22 + 2) i = nI k from h24, gd_t (inb_nI (by omega) (by decide)), nI_clamp (by omega), ndF_eq hk]
/-- the person's own count of hours -/
def Gp (σ : sN) (i : Nat) : Nat → Nat := Gc (σ 4 i) (σ 6 i) (σ 0 7) (fr (σ 10) (σ 0 6) (σ 5 i)) (σ 8 i)
def snI (σ : sN) (i : Nat) : Int32 := if σ 9 i = 1 then 0 else lst (fun t => decide (ndN (σ 4 i) ≤ Gp σ i t)) 40 1
theorem Gp_99 {σ : sN} {i : Nat} (hd : fr (σ 10) (σ 0 6) (σ 5 i) = 99) : ∀ t, t ≤ 40 → Gp σ i t ≤ σ 8 i
  | 0, _ => Nat.le_refl _
  | t + 1, h => by
    have := Gp_99 hd t (by omega)
    show gst (σ 4 i) (σ 6 i) (σ 0 7 + t + 1) (decide (fr (σ 10) (σ 0 6) (σ 5 i) ≤ t + 1)) (Gp σ i t) ≤ _
    rw [hd]
    unfold gst
    rw [if_neg (by simp; omega)]
    split
    · omega
    · omega
theorem lst_none {P : Nat → Bool} : ∀ m t, (∀ u, t ≤ u → u < t + m → P u = false) → lst P m t = -1
  | 0, _, _ => rfl
  | m + 1, t, h => by
    show (if P t = true then nI t else lst P m (t + 1)) = -1
    rw [h t (Nat.le_refl _) (by omega), if_neg (by decide)]
    exact lst_none m (t + 1) (fun u h1 h2 => h u (by omega) (by omega))
theorem soonest_eq {σ : sN} {I : aI} (hS : Sub σ) (hC : RC σ I) (J : aJ) {i : Nat} (hi : i < σ 0 5) : fX7_soonest (nI i) I J = some (snI σ i, I, J) := by
  obtain ⟨s1, s2, s3, s4, s5, s6, s7, s8, s9, s10, s11⟩ := id hS
  have hl := s7 i hi
  obtain ⟨u1, u2, u3, u4, u5, u6⟩ := s8 i hi
  have ci := hC.2.2.2.1.2 i (by omega)
  have hE := hC.2.2.2.2.1
  have hT := ((hC.2.2.2.2.2.2.2 _ s4).2.2 _ hl).1
  have nd := ndN_le (σ 4 i)
  have h9 := (s9.1 _ s4 _ hl).1
  have c : (nI i).toNatClampNeg = i := nI_clamp (by omega)
  unfold fX7_soonest snI
  rw [bnd_t (isServed_eq (by omega) hi J hE.2.2.1)]
  by_cases q : σ 9 i = 1
  · rw [if_pos (show decide (σ 9 i = 1) = true by simpa using q), if_neg ne10, if_pos q]
  rw [if_neg (show ¬ decide (σ 9 i = 1) = true by simpa using q), if_pos rfl, if_neg q, hE.1, gd_t (inb_nI (show σ 0 6 < 6 by omega) (by decide)), gd_t (inb_nI (show i < 6 by omega) (by decide)), c, ci.1, gd_t (inb_nI (show σ 5 i < 6 by omega) (by decide)), nI_clamp (show σ 0 6 < 2 ^ 31 by omega), nI_clamp (show σ 5 i < 2 ^ 31 by omega), show 8 + 1 + σ 0 6 = 9 + σ 0 6 from rfl, hT, show I 33 i = nI (σ 8 i) by rw [hE.2.2.2 i (by omega), if_pos hi]]
  by_cases hd : fr (σ 10) (σ 0 6) (σ 5 i) = 99
  · rw [if_pos hd, if_pos rfl, lst_none 40 1 (fun u h1 h2 => by
      have := Gp_99 (i := i) hd u (by omega)
      have := u6 (by omega)
      simp; omega)]
  rw [if_neg hd, if_neg (by
    intro z
    have := nI_pos (n := fr (σ 10) (σ 0 6) (σ 5 i)) (by omega)
    rw [z] at this
    exact this (by decide))]
  have key : ∀ (m t f : Nat), t + m = 40 → m < f → LX7_soonest_59 f (nI i) (nI (fr (σ 10) (σ 0 6) (σ 5 i))) (nI (Gp σ i t)) (nI (t + 1)) I J = some (lst (fun t => decide (ndN (σ 4 i) ≤ Gp σ i t)) m (t + 1), I, J) := by
    intro m
    induction m with
    | zero =>
      intro t f ht hf
      obtain ⟨f, rfl⟩ : ∃ z, f = z + 1 := ⟨f - 1, by omega⟩
      show HX7_soonest_59 _ _ _ _ _ _ _ = _
      unfold HX7_soonest_59
      rw [if_pos (show (40 : Int32) < nI (t + 1) from nI_lt (a := 40) (by omega) (by omega))]
      rfl
    | succ m ih =>
      intro t f ht hf
      obtain ⟨f, rfl⟩ : ∃ z, f = z + 1 := ⟨f - 1, by omega⟩
      have hg : Gp σ i (t + 1) ≤ σ 8 i + (t + 1) := Gc_le _ _ _ _ _ _
      have ih := ih (t + 1) f (by omega) (by omega)
      have ca := cAft (j := i) (h := σ 0 7 + t + 1) (c := Gp σ i t) (w := decide (fr (σ 10) (σ 0 6) (σ 5 i) ≤ t + 1)) (by omega) (by omega) u1 u2 (I := I) (J := J) ci.2.1 ci.2.2.1
      have hh : ∀ w : Bool, w = decide (fr (σ 10) (σ 0 6) (σ 5 i) ≤ t + 1) → BX7_soonest_83 (LX7_soonest_59 f) (nI i) (nI (fr (σ 10) (σ 0 6) (σ 5 i))) (nI (t + 1)) (bN w) (nI (Gp σ i t)) (nI i) I J = some (lst (fun t => decide (ndN (σ 4 i) ≤ Gp σ i t)) (m + 1) (t + 1), I, J) := by
        intro w hw
        subst hw
        unfold BX7_soonest_83
        rw [hE.2.1, nI_add, show σ 0 7 + (t + 1) = σ 0 7 + t + 1 from rfl, bnd_t ca, bnd_t (needs7 (by omega) u1 J ci.2.1), show gst (σ 4 i) (σ 6 i) (σ 0 7 + t + 1) (decide (fr (σ 10) (σ 0 6) (σ 5 i) ≤ t + 1)) (Gp σ i t) = Gp σ i (t + 1) from rfl, nI_1]
        show _ = some ((if decide (ndN (σ 4 i) ≤ Gp σ i (t + 1)) = true then nI (t + 1) else lst (fun t => decide (ndN (σ 4 i) ≤ Gp σ i t)) m (t + 1 + 1)), I, J)
        by_cases z : ndN (σ 4 i) ≤ Gp σ i (t + 1)
        · rw [if_neg (nI_nlt z (by omega)), if_pos (by simpa using z)]
        · rw [if_pos (nI_lt (by omega) (by omega)), if_neg (by simpa using z)]
          exact ih
      show HX7_soonest_59 _ _ _ _ _ _ _ = _
      unfold HX7_soonest_59
      rw [if_neg (show ¬ (40 : Int32) < nI (t + 1) from nI_nlt (b := t + 1) (a := 40) (by omega) (by decide))]
      by_cases z : fr (σ 10) (σ 0 6) (σ 5 i) ≤ t + 1
      · rw [if_neg (nI_nlt z (by omega))]
        exact hh true (by simpa using z)
      · rw [if_pos (nI_lt (by omega) (by omega))]
        exact hh false (by simpa using z)
  exact key 40 0 128 (by omega) (by omega)
