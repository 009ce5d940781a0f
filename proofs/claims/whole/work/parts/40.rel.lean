/-! what is owed of the two decompiled classes: a state of naturals σ (numbered as the reference's cells) that both hold -/
def OKs {α : Type} (x : Option α) (P : α → Prop) : Prop := ∃ a, x = some a ∧ P a
theorem ok_some {α : Type} {a : α} {P : α → Prop} (h : P a) : OKs (some a) P := ⟨a, rfl, h⟩
theorem ok_gd {α : Type} {b : Bool} {x : Option α} {P : α → Prop} (hb : b = true) (h : OKs x P) : OKs (gd b x) P := by rw [gd_t hb]; exact h
theorem ok_bnd {α β : Type} {x : Option (RT α)} {f : α → aI → aJ → Option β} {P : β → Prop} (h : OKs x (fun q => OKs (f q.1 q.2.1 q.2.2) P)) : OKs (bnd x f) P := by
  obtain ⟨a, rfl, h⟩ := h
  exact h
theorem ok_eq {α : Type} {x y : Option α} {P : α → Prop} (e : x = y) (h : OKs y P) : OKs x P := by rw [e]; exact h
theorem ok_if {α : Type} {c : Prop} [Decidable c] {x y : Option α} {P : α → Prop} (h1 : c → OKs x P) (h2 : ¬ c → OKs y P) : OKs (if c then x else y) P := by
  by_cases h : c
  · rw [if_pos h]; exact h1 h
  · rw [if_neg h]; exact h2 h
theorem ok_mono {α : Type} {x : Option α} {P Q : α → Prop} (h : OKs x P) (hPQ : ∀ a, P a → Q a) : OKs x Q := by
  obtain ⟨a, e, h⟩ := h
  exact ⟨a, e, hPQ a h⟩
theorem pI_g (I : aI) (k j : Nat) (x : Int32) (a b : Nat) : pI I k j x a b = if a = k ∧ b = j then x else I a b := by
  unfold pI uI upd
  by_cases h1 : a = k
  · subst h1
    by_cases h2 : b = j
    · subst h2; simp
    · simp [h2]
  · simp [h1]
theorem uI_g (I : aI) (k : Nat) (r : Nat → Int32) (a b : Nat) : uI I k r a b = if a = k then r b else I a b := by
  unfold uI
  by_cases h1 : a = k
  · subst h1; simp
  · simp [h1]
theorem pJ_g (I : aJ) (k j : Nat) (x : Int64) (a b : Nat) : pJ I k j x a b = if a = k ∧ b = j then x else I a b := by
  unfold pJ uJ vp_updL
  by_cases h1 : a = k
  · subst h1
    by_cases h2 : b = j
    · subst h2; simp
    · simp [h2]
  · simp [h1]
def rg (x lo hi : Int32) : Int32 := if lo ≤ x ∧ x ≤ hi then 1 else 0
theorem isWithin_eq (x lo hi : Int32) (I : aI) (J : aJ) : fX7_isWithin x lo hi I J = some (rg x lo hi, I, J) := by
  unfold fX7_isWithin BX7_isWithin_14 BX7_isWithin_15 rg gd
  by_cases h1 : x < lo
  · have h2 : ¬ (lo ≤ x ∧ x ≤ hi) := fun h => absurd h.1 (Int32.not_le.mpr h1)
    simp [h1, h2]
  · by_cases h3 : hi < x
    · have h2 : ¬ (lo ≤ x ∧ x ≤ hi) := fun h => absurd h.2 (Int32.not_le.mpr h3)
      simp [h1, h3, h2]
    · have h2 : lo ≤ x ∧ x ≤ hi := ⟨Int32.not_lt.mp h1, Int32.not_lt.mp h3⟩
      simp [h1, h3, h2]
theorem in_eq (x lo hi : Int64) (I : aI) (J : aJ) : fX8_in x lo hi I J = some (if lo ≤ x ∧ x ≤ hi then 1 else 0, I, J) := by
  unfold fX8_in BX8_in_17 BX8_in_18 gd
  have e1 : lg_cmp x lo < 0 ↔ ¬ lo ≤ x := by rw [← lg_cmp_ge]; exact Int32.not_le.symm
  have e2 : 0 < lg_cmp x hi ↔ ¬ x ≤ hi := by
    unfold lg_cmp
    by_cases h1 : x > hi
    · have : ¬ x ≤ hi := Int64.not_le.mpr h1
      simp [h1, this]
    · have : x ≤ hi := Int64.not_lt.mp h1
      by_cases h2 : x = hi
      · simp [h1, h2]
      · simp [h1, h2, this]
  by_cases h1 : lo ≤ x
  · by_cases h2 : x ≤ hi
    · simp [e1, e2, h1, h2]
    · simp [e1, e2, h1, h2]
  · simp [e1, h1]
theorem in_rg (x lo hi : Int32) (lo' hi' : Int64) (h1 : lo'.toInt = lo.toInt) (h2 : hi'.toInt = hi.toInt) (I : aI) (J : aJ) : fX8_in x.toInt64 lo' hi' I J = some (rg x lo hi, I, J) := by
  rw [in_eq]
  have e : (lo' ≤ x.toInt64 ∧ x.toInt64 ≤ hi') ↔ (lo ≤ x ∧ x ≤ hi) := by
    simp only [Int64.le_iff_toInt_le, Int32.le_iff_toInt_le, Int32.toInt_toInt64, h1, h2]
  unfold rg
  simp only [e]
theorem rg_01 (x lo hi : Int32) : rg x lo hi = 0 ∨ rg x lo hi = 1 := by unfold rg; split <;> simp
theorem rg_n {p : Nat} (hp : p < 1000) (x : Int32) : (0 ≤ x ∧ x ≤ nI p - 1) ↔ ∃ j, j < p ∧ x = nI j := by
  have e1 : (nI p - nI 1).toInt = (p : Int) - (1 : Nat) := pk_sub_toInt (by omega) (by decide)
  have e0 : (nI 1 : Int32) = 1 := rfl
  rw [e0] at e1
  constructor
  · rintro ⟨h1, h2⟩
    obtain ⟨j, hj, rfl⟩ := nI_of (Int32.not_lt.mpr h1)
    refine ⟨j, ?_, rfl⟩
    rw [Int32.le_iff_toInt_le, e1, nI_toInt hj] at h2
    omega
  · rintro ⟨j, hj, rfl⟩
    refine ⟨nI_pos' (by omega), ?_⟩
    rw [Int32.le_iff_toInt_le, e1, nI_toInt (by omega)]
    omega
theorem rg_c {lo hi : Nat} (hh : hi < 2 ^ 31) (x : Int32) (hl : lo ≤ hi) : (nI lo ≤ x ∧ x ≤ nI hi) ↔ ∃ j, lo ≤ j ∧ j ≤ hi ∧ x = nI j := by
  constructor
  · rintro ⟨h1, h2⟩
    have h0 : ¬ x < 0 := by
      rw [Int32.not_lt]
      exact Int32.le_trans (nI_pos' (by omega)) h1
    obtain ⟨j, hj, rfl⟩ := nI_of h0
    exact ⟨j, (nI_leI (by omega) hj).mp h1, (nI_leI hj hh).mp h2, rfl⟩
  · rintro ⟨j, h1, h2, rfl⟩
    exact ⟨(nI_leI (by omega) (by omega)).mpr h1, (nI_leI (by omega) hh).mpr h2⟩
abbrev sN : Type := Nat → Nat → Nat
def sup (σ : sN) (k j x : Nat) : sN := fun a b => if a = k ∧ b = j then x else σ a b
/-- the reference's slots that are told (the others are overwritten ahead of each use) -/
def rs (k j : Nat) : Bool := match k with
  | 0 => [1, 3, 4, 5, 6, 7, 8, 24, 27, 31, 32, 33].contains j
  | 1 => decide (j < 60)
  | 2 => decide (j < 8)
  | 3 => decide (j < 8)
  | 4 => decide (j < 6)
  | 5 => decide (j < 6)
  | 6 => decide (j < 6)
  | 7 => decide (j < 6)
  | 8 => decide (j < 6)
  | 9 => decide (j < 6)
  | 10 => decide (j < 36)
  | 19 => decide (j < 12)
  | 20 => decide (j < 6)
  | 21 => decide (j < 6)
  | 22 => decide (j < 6)
  | 23 => decide (j < 6)
  | 24 => decide (j < 6)
  | 25 => decide (j < 12)
  | _ => false
def RM (σ : sN) (I : aI) : Prop := (∀ k j, rs k j = true → I k j = nI (σ k j)) ∧ I 0 30 = nI (σ 0 30) - 1
/-- a set as bits -/
def msk (f : Nat → Bool) : Nat → Nat
  | 0 => 0
  | n + 1 => msk f n + (if f n then 2 ^ n else 0)
/-- how far b is from a (99: no way); roads that end at a corner -/
def fr (g : Nat → Nat) (a b : Nat) : Nat := g (6 * a + b)
def dgr (s2 s3 : Nat → Nat) (a : Nat) : Nat → Nat
  | 0 => 0
  | n + 1 => dgr s2 s3 a n + (if s2 n = a ∨ s3 n = a then 1 else 0)
def nxt (g : Nat → Nat) (a b : Nat) : Bool := decide (fr g a b < 2)
/-- all numbers below n -/
def allB (n : Nat) (f : Nat → Bool) : Bool := (List.range n).all f
def anyB (n : Nat) (f : Nat → Bool) : Bool := (List.range n).any f
/-- she can surely be with it in t hours: the van at v, she at f -/
def cgt (n : Nat) (nx : Nat → Nat → Bool) : Nat → Nat → Nat → Bool
  | 0, v, f => v == f
  | t + 1, v, f => cgt n nx t v f || allB n (fun to => !nx v to || anyB n (fun h => nx f h && cgt n nx t to h))
/-- the least t below m that has a property; none: -1 -/
def lst (P : Nat → Bool) : Nat → Nat → Int32
  | 0, _ => -1
  | m + 1, t => if P t then nI t else lst P m (t + 1)
def ctI (n : Nat) (g : Nat → Nat) (v f : Nat) : Int32 := lst (fun t => cgt n (nxt g) t v f) 41 0
def Ev (I : aI) (e v h : Nat) (sv ct : Nat → Nat) (p : Nat) : Prop := I e 0 = nI v ∧ I e 1 = nI h ∧ I e 2 = nI (msk (fun j => decide (sv j = 1)) p) ∧ ∀ j, j < 6 → I (e + 1) j = nI (if j < p then ct j else 0)
def RC (σ : sN) (I : aI) : Prop :=
  (I 1 1 = nI (σ 0 1) ∧ ∀ j, j < 60 → I 2 j = nI (σ 1 j)) ∧
  (I 0 12 = nI (σ 0 8) ∧ I 0 13 = nI (σ 0 24)) ∧
  (I 3 0 = nI (σ 0 3) ∧ I 3 1 = nI (σ 0 4) ∧ ∀ j, j < 8 → I 4 j = nI (σ 2 j) ∧ I 5 j = nI (σ 3 j)) ∧
  (I 22 0 = nI (σ 0 5) ∧ ∀ j, j < 6 → I 23 j = nI (σ 5 j) ∧ I 24 j = nI (σ 4 j) ∧ I 25 j = nI (σ 6 j) ∧ I 26 j = nI (σ 7 j)) ∧
  Ev I 32 (σ 0 6) (σ 0 7) (σ 9) (σ 8) (σ 0 5) ∧
  (I 38 0 = nI (σ 0 27) ∧ ∀ j, j < 6 → I 39 j = nI (σ 19 (2 * j)) ∧ I 40 j = nI (σ 19 (2 * j + 1))) ∧
  (I 0 11 = (if σ 0 30 = σ 0 8 + 1 then 1 else 0) ∧ (σ 0 30 = σ 0 8 + 1 → (I 27 0 = nI (σ 0 5) ∧ ∀ j, j < 6 → I 28 j = nI (σ 5 j) ∧ I 29 j = nI (σ 20 j) ∧ I 30 j = nI (σ 21 j) ∧ I 31 j = nI (σ 22 j)) ∧
    Ev I 34 (σ 0 31) (σ 0 32) (σ 24) (σ 23) (σ 0 5) ∧ (I 41 0 = nI (σ 0 33) ∧ ∀ j, j < 6 → I 42 j = nI (σ 25 (2 * j)) ∧ I 43 j = nI (σ 25 (2 * j + 1))))) ∧
  ((∀ a, a < σ 0 3 → I 6 a = nI (msk (nxt (σ 10) a) (σ 0 3)) ∧ I 7 a = nI (dgr (σ 2) (σ 3) a (σ 0 4)) ∧ ∀ b, b < σ 0 3 → I (9 + a) b = (if fr (σ 10) a b = 99 then -1 else nI (fr (σ 10) a b)) ∧ I (16 + a) b = ctI (σ 0 3) (σ 10) a b))
def ndN (k : Nat) : Nat := if k = 4 then 3 else if k = 1 ∨ k = 3 then 2 else 1
/-- people: kinds, hours, ears, counts, who is served; how far; what is seen -/
def Pe (p : Nat) (kd tm er ct sv : Nat → Nat) : Prop := ∀ j, j < p → kd j ≤ 4 ∧ tm j ≤ 9 ∧ er j ≤ 9 ∧ (sv j = 0 ∨ sv j = 1) ∧ ct j ≤ ndN (kd j) ∧ (sv j = 0 → ct j < ndN (kd j))
def Di (n : Nat) (f : Nat → Nat → Nat) (r : Nat) (a b : Nat → Nat) : Prop :=
  (∀ i, i < n → ∀ j, j < n → (f i j ≤ 5 ∨ f i j = 99) ∧ (f i j = 0 ↔ i = j) ∧ f i j = f j i ∧ (f i j = 1 ↔ i ≠ j ∧ ∃ k, k < r ∧ ((a k = i ∧ b k = j) ∨ (a k = j ∧ b k = i)))) ∧
  (∀ i, i < n → ∀ j, j < n → ∀ k, k < n → f i k < 2 → f i j ≤ f k j + 1 ∨ f k j = 99) ∧
  (∀ i, i < n → ∀ j, j < n → 0 < f i j → f i j ≠ 99 → ∃ k, k < n ∧ f i k = 1 ∧ f k j + 1 = f i j)
def Sn (p m : Nat) (s : Nat → Nat) : Prop := m ≤ 6 ∧ ∀ j, j < m → s (2 * j) < p
def Sub (σ : sN) : Prop :=
  (2 ≤ σ 0 3 ∧ σ 0 3 ≤ 6) ∧ (1 ≤ σ 0 4 ∧ σ 0 4 ≤ 8) ∧ (2 ≤ σ 0 5 ∧ σ 0 5 ≤ 6) ∧ σ 0 6 < σ 0 3 ∧ σ 0 7 ≤ 999 ∧
  (∀ j, j < σ 0 4 → σ 2 j < σ 0 3 ∧ σ 3 j < σ 0 3 ∧ σ 2 j ≠ σ 3 j) ∧ (∀ j, j < σ 0 5 → σ 5 j < σ 0 3) ∧
  Pe (σ 0 5) (σ 4) (σ 6) (σ 7) (σ 8) (σ 9) ∧ Di (σ 0 3) (fr (σ 10)) (σ 0 4) (σ 2) (σ 3) ∧ Sn (σ 0 5) (σ 0 27) (σ 19) ∧
  (σ 0 30 = σ 0 8 + 1 → σ 0 31 < σ 0 3 ∧ σ 0 32 ≤ 999 ∧ Pe (σ 0 5) (σ 20) (σ 21) (σ 22) (σ 23) (σ 24) ∧ Sn (σ 0 5) (σ 0 33) (σ 25))
def Good (t : Nat) (σ : sN) : Prop :=
  (σ 0 1 ≤ 60 ∧ ∀ j, j < σ 0 1 → 1 ≤ σ 1 j ∧ σ 1 j ≤ 126) ∧ σ 0 8 ≤ t ∧ σ 0 24 ≤ 20 ∧ (σ 0 30 ≤ σ 0 8 + 1 ∧ ∀ j, j < 6 → σ 19 (2 * j + 1) ≤ 1 ∧ σ 25 (2 * j + 1) ≤ 1) ∧
  ((σ 0 8 = 0 ∧ σ 0 3 = 0 ∧ σ 0 4 = 0 ∧ σ 0 5 = 0 ∧ σ 0 6 = 0 ∧ σ 0 7 = 0 ∧ σ 0 27 = 0 ∧ σ 0 30 = 0) ∨ (1 ≤ σ 0 8 ∧ Sub σ))
def Rel (t : Nat) (Ic : aI) (_ : aJ) (Im : aI) (_ : aJ) : Prop := ∃ σ : sN, Good t σ ∧ RM σ Im ∧ RC σ Ic
theorem Rel_skip (t : Nat) (Ic : aI) (Jc : aJ) (Im : aI) (Jm : aJ) (h : Rel t Ic Jc Im Jm) : Rel (t + 1) Ic Jc Im Jm := by
  obtain ⟨σ, ⟨h1, h2, h3⟩, hM, hC⟩ := h
  exact ⟨σ, ⟨h1, by omega, h3⟩, hM, hC⟩
theorem Rel_0 : Rel 0 (fun _ _ => 0) (fun _ _ => 0) I0m (fun _ _ => 0) := by
  refine ⟨fun _ _ => 0, ⟨⟨Nat.zero_le _, fun j hj => absurd hj (Nat.not_lt_zero j)⟩, Nat.zero_le _, Nat.zero_le _, ⟨Nat.zero_le _, fun _ _ => ⟨Nat.zero_le _, Nat.zero_le _⟩⟩, Or.inl ⟨rfl, rfl, rfl, rfl, rfl, rfl, rfl, rfl⟩⟩, ⟨fun k j h => ?_, ?_⟩, ?_⟩
  · unfold I0m
    rw [pI_g]
    by_cases hk : k = 0 ∧ j = 30
    · obtain ⟨rfl, rfl⟩ := hk
      exact absurd h (by decide)
    · rw [if_neg hk]; rfl
  · unfold I0m
    rw [pI_g]; rfl
  · refine ⟨⟨rfl, fun _ _ => rfl⟩, ⟨rfl, rfl⟩, ⟨rfl, rfl, fun _ _ => ⟨rfl, rfl⟩⟩, ⟨rfl, fun _ _ => ⟨rfl, rfl, rfl, rfl⟩⟩, ⟨rfl, rfl, rfl, fun j _ => by rw [if_neg (Nat.not_lt_zero j)]; rfl⟩, ⟨rfl, fun _ _ => ⟨rfl, rfl⟩⟩, ⟨rfl, fun h => absurd (show (0 : Nat) = 0 + 1 from h) (by decide)⟩, fun a ha => absurd ha (Nat.not_lt_zero a)⟩
