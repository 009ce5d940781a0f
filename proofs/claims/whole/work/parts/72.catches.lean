/-! the class's measure of a follower's hours -/
theorem nI_m1 {u : Nat} (hu : u < 1000) : ¬ nI u = -1 := by
  intro z
  have := nI_pos (n := u) (by omega)
  rw [z] at this
  exact this (by decide)
theorem lst_val {P : Nat → Bool} : ∀ m t, (lst P m t = -1 ∧ ∀ u, t ≤ u → u < t + m → P u = false) ∨ ∃ u, t ≤ u ∧ u < t + m ∧ P u = true ∧ (∀ w, t ≤ w → w < u → P w = false) ∧ lst P m t = nI u
  | 0, t => Or.inl ⟨rfl, fun u h1 h2 => by omega⟩
  | m + 1, t => by
    show ((if P t = true then nI t else lst P m (t + 1)) = -1 ∧ _) ∨ ∃ u, _ ∧ _ ∧ _ ∧ _ ∧ (if P t = true then nI t else lst P m (t + 1)) = nI u
    by_cases h : P t = true
    · right
      exact ⟨t, Nat.le_refl t, by omega, h, fun w h1 h2 => by omega, by rw [if_pos h]⟩
    · have h' : P t = false := by simpa using h
      rw [if_neg h]
      rcases lst_val m (t + 1) with ⟨a, b⟩ | ⟨u, a, b, c, d, e⟩
      · left
        refine ⟨a, fun u h1 h2 => ?_⟩
        by_cases q : u = t
        · rw [q]; exact h'
        · exact b u (by omega) (by omega)
      · right
        refine ⟨u, by omega, by omega, c, fun w h1 h2 => ?_, e⟩
        by_cases q : w = t
        · rw [q]; exact h'
        · exact d w (by omega) h2
theorem lst_s {P : Nat → Bool} {m : Nat} (hm : m < 900) : lst P (m + 1) 0 = if lst P m 0 = -1 then (if P m = true then nI m else -1) else lst P m 0 := by
  rcases lst_val (P := P) m 0 with ⟨a, b⟩ | ⟨u, a, b, c, d, e⟩
  · rw [if_pos a]
    rcases lst_val (P := P) (m + 1) 0 with ⟨a', b'⟩ | ⟨u', a', b', c', d', e'⟩
    · rw [a', b' m (by omega) (by omega), if_neg (by decide)]
    · have : u' = m := by
        apply Decidable.byContradiction
        intro z
        rw [b u' (by omega) (by omega)] at c'
        exact absurd c' (by decide)
      subst this
      rw [e', if_pos c']
  · rw [e, if_neg (nI_m1 (by omega))]
    rcases lst_val (P := P) (m + 1) 0 with ⟨a', b'⟩ | ⟨u', a', b', c', d', e'⟩
    · rw [b' u (by omega) (by omega)] at c
      exact absurd c (by decide)
    · have h1 : ¬ u' < u := fun z => by rw [d u' (by omega) z] at c'; exact absurd c' (by decide)
      have h2 : ¬ u < u' := fun z => by rw [d' u (by omega) z] at c; exact absurd c (by decide)
      rw [e', show u' = u by omega]
theorem rest_iff {P : Nat → Bool} (hP : ∀ u w, u ≤ w → P u = true → P w = true) {m t : Nat} (hm : t + 1 ≤ m) (hm2 : m < 900) : (¬ lst P m 0 = -1 ∧ ¬ nI (t + 1) ≤ lst P m 0) ↔ P t = true := by
  rcases lst_val (P := P) m 0 with ⟨a, b⟩ | ⟨u, a, b, c, d, e⟩
  · rw [a, b t (by omega) (by omega)]
    exact ⟨fun h => absurd rfl h.1, fun h => absurd h (by decide)⟩
  · rw [e, nI_leI (by omega) (by omega)]
    constructor
    · rintro ⟨h1, h2⟩
      exact hP u t (by omega) c
    · intro h
      refine ⟨nI_m1 (by omega), fun z => ?_⟩
      rw [d t (by omega) (by omega)] at h
      exact absurd h (by decide)
theorem lst_stop {P : Nat → Bool} {t m : Nat} (hs : ∀ u, t ≤ u → P u = P t) (hm : t < m) : ∀ k, m + k < 900 → lst P (m + k) 0 = lst P m 0
  | 0, _ => rfl
  | k + 1, hk => by
    have ih := lst_stop hs hm k (by omega)
    show lst P (m + k + 1) 0 = _
    rw [lst_s (by omega), ih]
    by_cases z : lst P m 0 = -1
    · rw [if_pos z, z]
      have : P (m + k) = false := by
        rw [hs (m + k) (by omega)]
        rcases lst_val (P := P) m 0 with ⟨a, b⟩ | ⟨u, a, b, c, d, e⟩
        · exact b t (by omega) (by omega)
        · rw [e] at z; exact absurd z (nI_m1 (by omega))
      rw [this, if_neg (by decide)]
    · rw [if_neg z]
theorem allB_iff {n : Nat} {f : Nat → Bool} : allB n f = true ↔ ∀ i, i < n → f i = true := by
  induction n with
  | zero => exact ⟨fun _ i hi => absurd hi (Nat.not_lt_zero i), fun _ => rfl⟩
  | succ n ih =>
    rw [allB_s, Bool.and_eq_true, ih]
    constructor
    · rintro ⟨h1, h2⟩ i hi
      by_cases q : i = n
      · rw [q]; exact h2
      · exact h1 i (by omega)
    · intro h
      exact ⟨fun i hi => h i (by omega), h n (by omega)⟩
theorem cgt_mono {n : Nat} {nx : Nat → Nat → Bool} {v f : Nat} : ∀ u w, u ≤ w → cgt n nx u v f = true → cgt n nx w v f = true := by
  intro u w h
  induction h with
  | refl => exact id
  | step _ ih =>
    intro z
    show (cgt n nx _ v f || _) = true
    rw [ih z, Bool.true_or]
theorem cgt_stop {n : Nat} {nx : Nat → Nat → Bool} {t : Nat} (h : ∀ v, v < n → ∀ f, f < n → cgt n nx (t + 1) v f = cgt n nx t v f) : ∀ k v, v < n → ∀ f, f < n → cgt n nx (t + k) v f = cgt n nx t v f
  | 0, v, _, f, _ => rfl
  | k + 1, v, hv, f, hf => by
    rw [← h v hv f hf]
    show (cgt n nx (t + k) v f || allB n (fun to => !nx v to || anyB n (fun h => nx f h && cgt n nx (t + k) to h))) = (cgt n nx t v f || allB n (fun to => !nx v to || anyB n (fun h => nx f h && cgt n nx t to h)))
    rw [cgt_stop h k v hv f hf]
    congr 1
    refine allB_congr (fun to hto => ?_)
    congr 1
    refine anyB_congr (fun p hp => ?_)
    rw [cgt_stop h k to hto p hp]
theorem canAnswer_eq {n h to f : Nat} {nx C : Nat → Nat → Bool} (hn : n ≤ 6) (hto : to < n) (hf : f < n) {I : aI} (J : aJ) (h30 : I 3 0 = nI n) (h6 : I 6 f = nI (msk (nx f) n)) (hR : ∀ p, p < n → ((¬ I (16 + to) p = -1 ∧ ¬ nI h ≤ I (16 + to) p) ↔ C to p = true)) : fX6_canAnswer (nI to) (nI f) (nI h) I J = some (bN (anyB n (fun p => nx f p && C to p)), I, J) := by
  refine sle (fun g i (_ : Unit) => LX6_canAnswer_3 g (nI to) (nI f) (nI h) (nI i) I J) n (fun i _ => anyB i (fun p => nx f p && C to p) = false) (fun y => y = some (bN (anyB n (fun p => nx f p && C to p)), I, J)) ?_ ?_ (f0 := 128) (by omega) () rfl
  · rintro g i _ hi e
    have st : LX6_canAnswer_3 (g + 1) (nI to) (nI f) (nI h) (nI i) I J = if nx f i = true ∧ C to i = true then some (1, I, J) else LX6_canAnswer_3 g (nI to) (nI f) (nI h) (nI (i + 1)) I J := by
      show HX6_canAnswer_3 _ _ _ _ _ _ _ = _
      unfold HX6_canAnswer_3 BX6_canAnswer_51
      have hr := hR i hi
      rw [h30, if_neg (nI_ge hi (by omega)), gd_t (inb_nI (show to < 6 by omega) (by decide)), gd_t (inb_nI (show i < 6 by omega) (by decide)), gd_t (inb_nI (show f < 6 by omega) (by decide)), nI_clamp (show f < 2 ^ 31 by omega), nI_clamp (show to < 2 ^ 31 by omega), nI_clamp (show i < 2 ^ 31 by omega), h6, bnd_t (hasMsk (by omega) hi I J), nI_1, show 15 + 1 + to = 16 + to from rfl]
      by_cases w : nx f i = true
      · rw [if_pos w, if_neg ne10]
        by_cases y : C to i = true
        · have := hr.mpr y
          rw [if_neg this.1, if_neg this.2, if_pos ⟨w, y⟩]
        · have ny : ¬ (nx f i = true ∧ C to i = true) := fun x => y x.2
          by_cases z : I (16 + to) i = -1
          · rw [if_pos z, if_neg ny]
          · rw [if_neg z]
            by_cases z2 : nI h ≤ I (16 + to) i
            · rw [if_pos z2, if_neg ny]
            · exact absurd (hr.mp ⟨z, z2⟩) y
      · rw [if_neg w, if_pos rfl, if_neg (fun x => w x.1)]
    by_cases w : nx f i = true ∧ C to i = true
    · left
      rw [st, if_pos w, show anyB n (fun p => nx f p && C to p) = true from anyB_iff.mpr ⟨i, hi, by rw [w.1, w.2]; rfl⟩]
      rfl
    · right
      refine ⟨(), ?_, ?_⟩
      · rw [st, if_neg w]
      · rw [anyB_s, e, Bool.false_or, Bool.and_eq_false_iff]
        by_cases y : nx f i = true
        · right
          simpa [y] using w
        · left
          simpa using y
  · rintro g _ e
    show HX6_canAnswer_3 _ _ _ _ _ _ _ = _
    unfold HX6_canAnswer_3
    rw [h30, if_pos (nI_le (Nat.le_refl n) (by omega)), e]
    rfl
theorem isCaught_eq {n h v f : Nat} {nx C : Nat → Nat → Bool} (hn : n ≤ 6) (hv : v < n) (hf : f < n) {I : aI} (J : aJ) (h30 : I 3 0 = nI n) (h6 : ∀ a, a < n → I 6 a = nI (msk (nx a) n)) (hR : ∀ to, to < n → ∀ p, p < n → ((¬ I (16 + to) p = -1 ∧ ¬ nI h ≤ I (16 + to) p) ↔ C to p = true)) : fX6_isCaught (nI v) (nI f) (nI h) I J = some (bN (allB n (fun to => !nx v to || anyB n (fun p => nx f p && C to p))), I, J) := by
  refine sle (fun g i (_ : Unit) => LX6_isCaught_3 g (nI v) (nI f) (nI h) (nI i) I J) n (fun i _ => allB i (fun to => !nx v to || anyB n (fun p => nx f p && C to p)) = true) (fun y => y = some (bN (allB n (fun to => !nx v to || anyB n (fun p => nx f p && C to p))), I, J)) ?_ ?_ (f0 := 128) (by omega) () rfl
  · rintro g i _ hi e
    have st : LX6_isCaught_3 (g + 1) (nI v) (nI f) (nI h) (nI i) I J = if (!nx v i || anyB n (fun p => nx f p && C i p)) = true then LX6_isCaught_3 g (nI v) (nI f) (nI h) (nI (i + 1)) I J else some (0, I, J) := by
      show HX6_isCaught_3 _ _ _ _ _ _ _ = _
      unfold HX6_isCaught_3 BX6_isCaught_39
      rw [h30, if_neg (nI_ge hi (by omega)), gd_t (inb_nI (show v < 6 by omega) (by decide)), nI_clamp (show v < 2 ^ 31 by omega), h6 v hv, bnd_t (hasMsk (by omega) hi I J), bnd_t (canAnswer_eq (nx := nx) (C := C) hn hi hf J h30 (h6 f hf) (hR i hi)), nI_1]
      by_cases w : nx v i = true
      · rw [if_pos w, if_neg ne10, w]
        cases anyB n (fun p => nx f p && C i p) <;> rfl
      · have w' : nx v i = false := by simpa using w
        rw [if_neg w, if_pos rfl, w']
        rfl
    by_cases w : (!nx v i || anyB n (fun p => nx f p && C i p)) = true
    · right
      exact ⟨(), by rw [st, if_pos w], by rw [allB_s, e, w]; rfl⟩
    · left
      rw [st, if_neg w, show allB n (fun to => !nx v to || anyB n (fun p => nx f p && C to p)) = false from Bool.eq_false_iff.mpr (fun z => w (allB_iff.mp z i hi))]
      rfl
  · rintro g _ e
    show HX6_isCaught_3 _ _ _ _ _ _ _ = _
    unfold HX6_isCaught_3
    rw [h30, if_pos (nI_le (Nat.le_refl n) (by omega)), e]
    rfl
/-- the least hour below m -/
def Rr (n : Nat) (nx : Nat → Nat → Bool) (m v f : Nat) : Int32 := lst (fun t => cgt n nx t v f) m 0
def Kc (z I : aI) : Prop := ∀ q j, (q < 16 ∨ 21 < q) → z q j = I q j
theorem find15 {n t v : Nat} {nx : Nat → Nat → Bool} (hn : n ≤ 6) (ht : t < 100) (hv : v < n) (k4 : Int32 → Int32 → Int32 → aI → aJ → Option (RT Int32)) {I s : aI} (J : aJ) (h30 : I 3 0 = nI n) (h6 : ∀ a, a < n → I 6 a = nI (msk (nx a) n)) (b : Bool) (hk : Kc s I)
    (hr : ∀ a, a < n → ∀ c, c < n → s (16 + a) c = Rr n nx (if a < v then t + 2 else t + 1) a c) (hb : b = false → ∀ a, a < v → ∀ c, c < n → cgt n nx (t + 1) a c = cgt n nx t a c) :
    ∃ (b' : Bool) (s' : aI), LX6_findCatches_15 k4 128 (nI (t + 1)) (bN b) (nI v) 0 s J = k4 (nI (t + 1)) (bN b') (nI (v + 1)) s' J ∧ Kc s' I ∧ (∀ a, a < n → ∀ c, c < n → s' (16 + a) c = Rr n nx (if a < v + 1 then t + 2 else t + 1) a c) ∧ (b' = false → ∀ a, a < v + 1 → ∀ c, c < n → cgt n nx (t + 1) a c = cgt n nx t a c) := by
  refine sl (fun g i (z : Bool × aI) => LX6_findCatches_15 k4 g (nI (t + 1)) (bN z.1) (nI v) (nI i) z.2 J) n (fun i z => Kc z.2 I ∧ (∀ a, a < n → ∀ c, c < n → z.2 (16 + a) c = Rr n nx (if a < v ∨ (a = v ∧ c < i) then t + 2 else t + 1) a c) ∧ (z.1 = false → ∀ a, a < n → ∀ c, c < n → (a < v ∨ (a = v ∧ c < i)) → cgt n nx (t + 1) a c = cgt n nx t a c))
    (fun y => ∃ (b' : Bool) (s' : aI), y = k4 (nI (t + 1)) (bN b') (nI (v + 1)) s' J ∧ Kc s' I ∧ (∀ a, a < n → ∀ c, c < n → s' (16 + a) c = Rr n nx (if a < v + 1 then t + 2 else t + 1) a c) ∧ (b' = false → ∀ a, a < v + 1 → ∀ c, c < n → cgt n nx (t + 1) a c = cgt n nx t a c)) ?_ ?_ (f0 := 128) (by omega) (b, s) ⟨hk, fun a ha c hc => ?_, fun z a ha c hc w => hb z a (by omega) c hc⟩
  · rintro g i ⟨bb, z⟩ hi ⟨e1, e2, e3⟩
    dsimp only at e1 e2 e3
    have hin : inb (nI i) 6 = true := inb_nI (by omega) (by decide)
    have hinv : inb (nI v) 6 = true := inb_nI (by omega) (by decide)
    have h30z : z 3 0 = nI n := by rw [e1 3 0 (by omega)]; exact h30
    have hR : ∀ to, to < n → ∀ p, p < n → ((¬ z (16 + to) p = -1 ∧ ¬ nI (t + 1) ≤ z (16 + to) p) ↔ cgt n nx t to p = true) := by
      intro to hto p hp
      rw [show z (16 + to) p = _ from e2 to hto p hp]
      exact rest_iff (P := fun t => cgt n nx t to p) (fun u w => cgt_mono u w) (by split <;> omega) (by split <;> omega)
    have row : z (16 + v) i = Rr n nx (t + 1) v i := by rw [show z (16 + v) i = _ from e2 v hv i hi, if_neg (by omega)]
    have new : Rr n nx (t + 2) v i = if Rr n nx (t + 1) v i = -1 then (if cgt n nx (t + 1) v i = true then nI (t + 1) else -1) else Rr n nx (t + 1) v i := lst_s (P := fun t => cgt n nx t v i) (by omega)
    have cs : cgt n nx (t + 1) v i = (cgt n nx t v i || allB n (fun to => !nx v to || anyB n (fun p => nx i p && cgt n nx t to p))) := rfl
    have hri := hR v hv i hi
    rw [row] at hri
    have st : LX6_findCatches_15 k4 (g + 1) (nI (t + 1)) (bN bb) (nI v) (nI i) z J = if Rr n nx (t + 1) v i = -1 then (if cgt n nx (t + 1) v i = true then LX6_findCatches_15 k4 g (nI (t + 1)) (bN true) (nI v) (nI (i + 1)) (pI z (16 + v) i (nI (t + 1))) J else LX6_findCatches_15 k4 g (nI (t + 1)) (bN bb) (nI v) (nI (i + 1)) z J) else LX6_findCatches_15 k4 g (nI (t + 1)) (bN bb) (nI v) (nI (i + 1)) z J := by
      show HX6_findCatches_15 _ _ _ _ _ _ _ _ = _
      unfold HX6_findCatches_15 BX6_findCatches_60
      rw [h30z, if_neg (nI_ge hi (by omega)), gd_t hinv, gd_t hin, nI_clamp (show v < 2 ^ 31 by omega), nI_clamp (show i < 2 ^ 31 by omega), show 15 + 1 + v = 16 + v from rfl, row, bnd_t (isCaught_eq (nx := nx) (C := cgt n nx t) hn hv hi J h30z (fun a ha => by rw [e1 6 a (by omega)]; exact h6 a ha) hR), nI_1]
      by_cases w : Rr n nx (t + 1) v i = -1
      · rw [if_pos w, if_pos w]
        have c0 : cgt n nx t v i = false := by
          apply Bool.eq_false_iff.mpr
          intro y
          exact (hri.mpr y).1 w
        rw [cs, c0, Bool.false_or]
        cases allB n (fun to => !nx v to || anyB n (fun p => nx i p && cgt n nx t to p)) <;> rfl
      · rw [if_neg w, if_neg w]
    have keep : Rr n nx (t + 2) v i = Rr n nx (t + 1) v i → ∀ a, a < n → ∀ c, c < n → z (16 + a) c = Rr n nx (if a < v ∨ (a = v ∧ c < i + 1) then t + 2 else t + 1) a c := by
      intro y a ha c hc
      by_cases w : a = v ∧ c = i
      · obtain ⟨rfl, rfl⟩ := w
        rw [row, if_pos (by omega), y]
      · rw [show z (16 + a) c = _ from e2 a ha c hc]
        by_cases x : a < v ∨ (a = v ∧ c < i)
        · rw [if_pos x, if_pos (by omega)]
        · rw [if_neg x, if_neg (by omega)]
    have stay : (cgt n nx (t + 1) v i = cgt n nx t v i) → bb = false → ∀ a, a < n → ∀ c, c < n → (a < v ∨ (a = v ∧ c < i + 1)) → cgt n nx (t + 1) a c = cgt n nx t a c := by
      intro y yb a ha c hc x
      by_cases w : a = v ∧ c = i
      · obtain ⟨rfl, rfl⟩ := w; exact y
      · exact e3 yb a ha c hc (by omega)
    by_cases w : Rr n nx (t + 1) v i = -1
    · have c0 : cgt n nx t v i = false := by
        apply Bool.eq_false_iff.mpr
        intro y
        exact (hri.mpr y).1 w
      by_cases y : cgt n nx (t + 1) v i = true
      · refine ⟨(true, pI z (16 + v) i (nI (t + 1))), ?_, fun q j hq => ?_, fun a ha c hc => ?_, fun u => absurd (show true = false from u) (by decide)⟩
        · rw [st, if_pos w, if_pos y]
        · show pI z (16 + v) i (nI (t + 1)) q j = _
          rw [pI_ro _ (by omega)]
          exact e1 q j hq
        · show pI z (16 + v) i (nI (t + 1)) (16 + a) c = _
          rw [pI_g]
          by_cases x : a = v ∧ c = i
          · obtain ⟨rfl, rfl⟩ := x
            rw [if_pos ⟨rfl, rfl⟩, if_pos (by omega), new, if_pos w, if_pos y]
          · rw [if_neg (fun u => x ⟨by omega, u.2⟩), show z (16 + a) c = _ from e2 a ha c hc]
            by_cases x2 : a < v ∨ (a = v ∧ c < i)
            · rw [if_pos x2, if_pos (by omega)]
            · rw [if_neg x2, if_neg (by omega)]
      · refine ⟨(bb, z), ?_, e1, keep (by rw [new, if_pos w, if_neg y, w]), stay (by rw [c0]; simpa using y)⟩
        rw [st, if_pos w, if_neg y]
    · have c1 : cgt n nx t v i = true := by
        rcases lst_val (P := fun t => cgt n nx t v i) (t + 1) 0 with ⟨a, _⟩ | ⟨u, _, b1, c, _, _⟩
        · exact absurd a w
        · exact cgt_mono u t (by omega) c
      refine ⟨(bb, z), ?_, e1, keep (by rw [new, if_neg w]), stay (by rw [c1]; exact cgt_mono t (t + 1) (by omega) c1)⟩
      rw [st, if_neg w]
  · rintro g ⟨bb, z⟩ ⟨e1, e2, e3⟩
    dsimp only at e1 e2 e3
    refine ⟨bb, z, ?_, e1, fun a ha c hc => ?_, fun y a ha c hc => e3 y a (by omega) c hc (by omega)⟩
    · show HX6_findCatches_15 _ _ _ (bN bb) _ _ z _ = _
      unfold HX6_findCatches_15
      rw [show z 3 0 = nI n by rw [e1 3 0 (by omega)]; exact h30, if_pos (nI_le (Nat.le_refl n) (by omega)), nI_1]
    · rw [show z (16 + a) c = _ from e2 a ha c hc]
      by_cases x : a < v + 1
      · rw [if_pos x, if_pos (by omega)]
      · rw [if_neg x, if_neg (by omega)]
  · show s (16 + a) c = _
    rw [hr a ha c hc]
    by_cases x : a < v
    · rw [if_pos x, if_pos (by omega)]
    · rw [if_neg x, if_neg (by omega)]
theorem find_eq {n t : Nat} {nx : Nat → Nat → Bool} (hn : n ≤ 6) (ht : t < 100) {I s : aI} (J : aJ) (h30 : I 3 0 = nI n) (h6 : ∀ a, a < n → I 6 a = nI (msk (nx a) n)) (hk : Kc s I) (hr : ∀ a, a < n → ∀ c, c < n → s (16 + a) c = Rr n nx (t + 1) a c) :
    ∃ (b : Bool) (s' : aI), fX6_findCatches (nI (t + 1)) s J = some (bN b, s', J) ∧ Kc s' I ∧ (∀ a, a < n → ∀ c, c < n → s' (16 + a) c = Rr n nx (t + 2) a c) ∧ (b = false → ∀ a, a < n → ∀ c, c < n → cgt n nx (t + 1) a c = cgt n nx t a c) := by
  refine sl (fun g i (z : Bool × aI) => LX6_findCatches_4 g (nI (t + 1)) (bN z.1) (nI i) z.2 J) n (fun i z => Kc z.2 I ∧ (∀ a, a < n → ∀ c, c < n → z.2 (16 + a) c = Rr n nx (if a < i then t + 2 else t + 1) a c) ∧ (z.1 = false → ∀ a, a < i → ∀ c, c < n → cgt n nx (t + 1) a c = cgt n nx t a c))
    (fun y => ∃ (b : Bool) (s' : aI), y = some (bN b, s', J) ∧ Kc s' I ∧ (∀ a, a < n → ∀ c, c < n → s' (16 + a) c = Rr n nx (t + 2) a c) ∧ (b = false → ∀ a, a < n → ∀ c, c < n → cgt n nx (t + 1) a c = cgt n nx t a c)) ?_ ?_ (f0 := 128) (by omega) (false, s) ⟨hk, fun a ha c hc => by rw [if_neg (Nat.not_lt_zero a)]; exact hr a ha c hc, fun _ a ha => absurd ha (Nat.not_lt_zero a)⟩
  · rintro g i ⟨b, z⟩ hi ⟨e1, e2, e3⟩
    dsimp only at e1 e2 e3
    obtain ⟨b', s', a1, a2, a3, a4⟩ := find15 hn ht hi (LX6_findCatches_4 g) J h30 h6 b e1 e2 e3
    refine ⟨(b', s'), ?_, a2, a3, a4⟩
    show HX6_findCatches_4 _ _ (bN b) _ z _ = _
    unfold HX6_findCatches_4
    rw [show z 3 0 = nI n by rw [e1 3 0 (by omega)]; exact h30, if_neg (nI_ge hi (by omega))]
    exact a1
  · rintro g ⟨b, z⟩ ⟨e1, e2, e3⟩
    dsimp only at e1 e2 e3
    refine ⟨b, z, ?_, e1, fun a ha c hc => by rw [show z (16 + a) c = _ from e2 a ha c hc, if_pos ha], e3⟩
    show HX6_findCatches_4 _ _ (bN b) _ z _ = _
    unfold HX6_findCatches_4
    rw [show z 3 0 = nI n by rw [e1 3 0 (by omega)]; exact h30, if_pos (nI_le (Nat.le_refl n) (by omega)), gd_t (bN_ok _)]
theorem catches_eq {n : Nat} {nx : Nat → Nat → Bool} (hn : n ≤ 6) (I : aI) (J : aJ) (h30 : I 3 0 = nI n) (h6 : ∀ a, a < n → I 6 a = nI (msk (nx a) n)) :
    ∃ I' : aI, fX6_measureCatches I J = some ((), I', J) ∧ (∀ a, a < n → ∀ c, c < n → I' (16 + a) c = Rr n nx 41 a c) ∧ Kc I' I := by
  have main : ∀ s : aI, Kc s I → (∀ a, a < n → ∀ c, c < n → s (16 + a) c = Rr n nx 1 a c) → ∃ I' : aI, LX6_measureCatches_39 128 1 1 s J = some ((), I', J) ∧ (∀ a, a < n → ∀ c, c < n → I' (16 + a) c = Rr n nx 41 a c) ∧ Kc I' I := by
    intro s hk hr
    refine sle (fun g i (z : Bool × aI) => LX6_measureCatches_39 g (bN z.1) (nI (i + 1)) z.2 J) 40 (fun i z => Kc z.2 I ∧ ((z.1 = true ∧ ∀ a, a < n → ∀ c, c < n → z.2 (16 + a) c = Rr n nx (i + 1) a c) ∨ (z.1 = false ∧ ∀ a, a < n → ∀ c, c < n → z.2 (16 + a) c = Rr n nx 41 a c)))
      (fun y => ∃ I' : aI, y = some ((), I', J) ∧ (∀ a, a < n → ∀ c, c < n → I' (16 + a) c = Rr n nx 41 a c) ∧ Kc I' I) ?_ ?_ (f0 := 128) (by decide) (true, s) ⟨hk, Or.inl ⟨rfl, hr⟩⟩
    · rintro g i ⟨b, z⟩ hi ⟨e1, e2⟩
      dsimp only at e1 e2
      rcases e2 with ⟨y, e2⟩ | ⟨y, e2⟩
      · right
        have y : b = true := y
        subst y
        obtain ⟨b', s', a1, a2, a3, a4⟩ := find_eq (t := i) hn (by omega) J h30 h6 e1 e2
        refine ⟨(b', s'), ?_, a2, ?_⟩
        · show HX6_measureCatches_39 _ (bN true) _ z _ = _
          unfold HX6_measureCatches_39
          rw [if_neg (show ¬ (40 : Int32) < nI (i + 1) from nI_nlt (a := 40) (by omega) (by decide)), if_neg (show ¬ bN true = 0 by decide), bnd_t a1, nI_1]
        · by_cases x : b' = true
          · exact Or.inl ⟨x, a3⟩
          · have x : b' = false := by simpa using x
            refine Or.inr ⟨x, fun a ha c hc => ?_⟩
            show s' (16 + a) c = _
            rw [a3 a ha c hc]
            have := lst_stop (P := fun t => cgt n nx t a c) (t := i) (m := i + 2) (fun u hu => by
              obtain ⟨k, rfl⟩ : ∃ k, u = i + k := ⟨u - i, by omega⟩
              exact cgt_stop (a4 x) k a ha c hc) (by omega) (39 - i) (by omega)
            rw [show i + 2 + (39 - i) = 41 by omega] at this
            exact this.symm
      · left
        have y : b = false := y
        subst y
        refine ⟨z, ?_, e2, e1⟩
        show HX6_measureCatches_39 _ (bN false) _ z _ = _
        unfold HX6_measureCatches_39 BX6_measureCatches_61
        rw [if_neg (show ¬ (40 : Int32) < nI (i + 1) from nI_nlt (a := 40) (by omega) (by decide)), if_pos (show bN false = 0 from rfl)]
    · rintro g ⟨b, z⟩ ⟨e1, e2⟩
      dsimp only at e1 e2
      refine ⟨z, ?_, ?_, e1⟩
      · show HX6_measureCatches_39 _ (bN b) _ z _ = _
        unfold HX6_measureCatches_39 BX6_measureCatches_61
        rw [if_pos (show (40 : Int32) < nI (40 + 1) from by decide)]
      · rcases e2 with ⟨_, e2⟩ | ⟨_, e2⟩
        · exact e2
        · exact e2
  refine sl (fun g i (z : aI) => LX6_measureCatches_2 g (nI i) z J) n (fun i z => Kc z I ∧ ∀ a, a < i → ∀ c, c < n → z (16 + a) c = Rr n nx 1 a c)
    (fun y => ∃ I' : aI, y = some ((), I', J) ∧ (∀ a, a < n → ∀ c, c < n → I' (16 + a) c = Rr n nx 41 a c) ∧ Kc I' I) ?_ ?_ (f0 := 128) (by omega) I ⟨fun _ _ _ => rfl, fun a ha => absurd ha (Nat.not_lt_zero a)⟩
  · rintro g i z hi ⟨e1, e2⟩
    obtain ⟨I2, a1, a2⟩ := fill_eq (e := 15 + 1 + i) (n := 6) (by decide) (-1) z J
    refine ⟨pI I2 (16 + i) i 0, ?_, fun q j hq => ?_, fun a ha c hc => ?_⟩
    · show HX6_measureCatches_2 _ _ _ _ = _
      unfold HX6_measureCatches_2
      rw [show z 3 0 = nI n by rw [e1 3 0 (by omega)]; exact h30, if_neg (nI_ge hi (by omega)), gd_t (inb_nI (show i < 6 by omega) (by decide)), nI_clamp (show i < 2 ^ 31 by omega), bnd_t a1, nI_1]
    · rw [pI_ro _ (by omega), a2, if_neg (by omega)]
      exact e1 q j hq
    · rw [pI_g]
      by_cases x : a = i
      · subst x
        have er : Rr n nx 1 a c = if (a == c) = true then nI 0 else -1 := rfl
        rw [er]
        by_cases y : c = a
        · rw [if_pos ⟨rfl, y⟩, if_pos (by simp [y])]
          rfl
        · rw [if_neg (fun w => y w.2), a2, if_pos ⟨by omega, by omega⟩, if_neg (by simp; omega)]
      · rw [if_neg (fun w => x (by omega)), a2, if_neg (by omega)]
        exact e2 a (by omega) c hc
  · rintro g z ⟨e1, e2⟩
    show ∃ I' : aI, HX6_measureCatches_2 _ _ _ _ = _ ∧ _
    unfold HX6_measureCatches_2
    rw [show z 3 0 = nI n by rw [e1 3 0 (by omega)]; exact h30, if_pos (nI_le (Nat.le_refl n) (by omega))]
    exact main z e1 e2
