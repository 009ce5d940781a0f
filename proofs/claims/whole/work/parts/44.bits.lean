theorem msk_congr {f g : Nat → Bool} : ∀ {n : Nat}, (∀ i, i < n → f i = g i) → msk f n = msk g n
  | 0, _ => rfl
  | n + 1, h => by
    show msk f n + _ = msk g n + _
    rw [msk_congr (fun i hi => h i (by omega)), h n (by omega)]
theorem msk_lt (f : Nat → Bool) : ∀ n : Nat, msk f n < 2 ^ n
  | 0 => Nat.zero_lt_one
  | n + 1 => by
    have := msk_lt f n
    show msk f n + (if f n then 2 ^ n else 0) < 2 ^ (n + 1)
    rw [Nat.pow_succ]
    split <;> omega
theorem msk_t {f : Nat → Bool} {j : Nat} (hf : f j = false) : ∀ {n : Nat}, j < n → msk (fun i => if i = j then true else f i) n = msk f n + 2 ^ j
  | 0, h => absurd h (Nat.not_lt_zero _)
  | n + 1, h => by
    show msk (fun i => if i = j then true else f i) n + (if (if n = j then true else f n) then 2 ^ n else 0) = msk f n + (if f n then 2 ^ n else 0) + 2 ^ j
    by_cases hn : n = j
    · subst hn
      rw [msk_congr (g := f) (fun i hi => by rw [if_neg (by omega)]), hf]
      simp
    · rw [msk_t hf (show j < n by omega), if_neg hn]
      omega
theorem msk_f {f : Nat → Bool} {j : Nat} (hf : f j = true) : ∀ {n : Nat}, j < n → msk (fun i => if i = j then false else f i) n + 2 ^ j = msk f n
  | 0, h => absurd h (Nat.not_lt_zero _)
  | n + 1, h => by
    show msk (fun i => if i = j then false else f i) n + (if (if n = j then false else f n) then 2 ^ n else 0) + 2 ^ j = msk f n + (if f n then 2 ^ n else 0)
    by_cases hn : n = j
    · subst hn
      rw [msk_congr (g := f) (fun i hi => by rw [if_neg (by omega)]), hf]
      simp
    · rw [← msk_f hf (show j < n by omega), if_neg hn]
      omega
theorem msk_bit (f : Nat → Bool) (j : Nat) : ∀ n : Nat, msk f n / 2 ^ j % 2 = if j < n ∧ f j = true then 1 else 0
  | 0 => by
    show 0 / 2 ^ j % 2 = _
    rw [Nat.zero_div, if_neg (fun h => Nat.not_lt_zero _ h.1)]
  | n + 1 => by
    show (msk f n + (if f n then 2 ^ n else 0)) / 2 ^ j % 2 = _
    have ih := msk_bit f j n
    have hl := msk_lt f n
    rcases Nat.lt_trichotomy j n with h | h | h
    · have e : 2 ^ n = 2 ^ j * (2 * 2 ^ (n - j - 1)) := by
        rw [← Nat.mul_assoc, ← Nat.pow_succ, ← Nat.pow_add]
        congr 1
        omega
      have e2 : (if f n then 2 ^ n else 0) = 2 ^ j * (2 * (if f n then 2 ^ (n - j - 1) else 0)) := by
        by_cases hf : f n = true
        · simp only [hf, if_true]; exact e
        · simp [hf]
      rw [e2, Nat.add_mul_div_left _ _ (Nat.pow_pos (by decide))]
      have e3 : (msk f n / 2 ^ j + 2 * (if f n then 2 ^ (n - j - 1) else 0)) % 2 = msk f n / 2 ^ j % 2 := by omega
      rw [e3, ih]
      simp only [h, show j < n + 1 by omega, true_and]
    · subst h
      by_cases hf : f j = true
      · have : (msk f j + 2 ^ j) / 2 ^ j = 1 := by
          rw [Nat.add_div_right _ (Nat.pow_pos (by decide)), Nat.div_eq_of_lt hl]
        simp only [hf, if_true, this]
        simp
      · simp only [hf]
        simp [Nat.div_eq_of_lt hl]
    · have h2 : 2 ^ (n + 1) ≤ 2 ^ j := Nat.pow_le_pow_right (by decide) (by omega)
      have h3 : msk f n + (if f n then 2 ^ n else 0) < 2 ^ j := by
        rw [Nat.pow_succ] at h2
        split <;> omega
      rw [Nat.div_eq_of_lt h3, if_neg (fun hh => by omega)]
theorem s_l : ∀ n, n < 32 → ((nI n &&& 31).toBitVec.smod 32).toNat = n := by decide
theorem bitN {m j : Nat} (hm : m < 2 ^ 31) (hj : j < 32) : (nI m >>> (nI j &&& 31)) &&& 1 = nI (m / 2 ^ j % 2) := by
  rw [pk_shrN hm (nI j &&& 31) j (s_l j hj)]
  exact pk_andN (Nat.lt_of_le_of_lt (Nat.div_le_self _ _) (by omega)) (m := 1) 1 rfl
theorem hasBit_eq {m j : Nat} (hm : m < 2 ^ 31) (hj : j < 32) (I : aI) (J : aJ) : fX7_hasBit (nI m) (nI j) I J = some (nI (m / 2 ^ j % 2), I, J) := by
  unfold fX7_hasBit BX7_hasBit_13
  rw [bitN hm hj]
  have h : m / 2 ^ j % 2 = 0 ∨ m / 2 ^ j % 2 = 1 := by omega
  rcases h with h | h
  · rw [h, if_pos (show nI 0 = 0 from rfl)]; rfl
  · rw [h, if_neg (show ¬ nI 1 = 0 by decide)]; rfl
theorem hasMsk {f : Nat → Bool} {n j : Nat} (hn : n ≤ 8) (hj : j < n) (I : aI) (J : aJ) : fX7_hasBit (nI (msk f n)) (nI j) I J = some ((if f j = true then 1 else 0), I, J) := by
  have hl : msk f n < 2 ^ 8 := Nat.lt_of_lt_of_le (msk_lt f n) (Nat.pow_le_pow_right (by decide) hn)
  rw [hasBit_eq (by omega) (by omega), msk_bit]
  by_cases h : f j = true
  · rw [if_pos ⟨hj, h⟩, if_pos h]; rfl
  · rw [if_neg (fun hh => h hh.2), if_neg h]; rfl
theorem shl1 : ∀ j, j < 16 → (1 : Int32) <<< (nI j &&& 31) = nI (2 ^ j) := by decide
theorem or64 : ∀ m, m < 64 → ∀ j, j < 6 → nI m ||| nI (2 ^ j) = nI (if m / 2 ^ j % 2 = 1 then m else m + 2 ^ j) := by decide +kernel
theorem anc64 : ∀ m, m < 64 → ∀ j, j < 6 → nI m &&& (nI (2 ^ j) ^^^ (-1)) = nI (if m / 2 ^ j % 2 = 1 then m - 2 ^ j else m) := by decide +kernel
theorem msk64 {f : Nat → Bool} {n : Nat} (hn : n ≤ 6) : msk f n < 64 := Nat.lt_of_lt_of_le (msk_lt f n) (Nat.pow_le_pow_right (n := 2) (by decide) hn)
theorem msk_or {f : Nat → Bool} {n j : Nat} (hn : n ≤ 6) (hj : j < n) : nI (msk f n) ||| ((1 : Int32) <<< (nI j &&& 31)) = nI (msk (fun i => if i = j then true else f i) n) := by
  rw [shl1 j (by omega), or64 _ (msk64 hn) j (by omega)]
  by_cases h : f j = true
  · rw [if_pos (show msk f n / 2 ^ j % 2 = 1 by rw [msk_bit, if_pos ⟨hj, h⟩])]
    rw [msk_congr (f := fun i => if i = j then true else f i) (g := f) (fun i _ => by by_cases hi : i = j <;> simp [hi, h])]
  · have h' : f j = false := by simpa using h
    rw [if_neg (show ¬ msk f n / 2 ^ j % 2 = 1 by rw [msk_bit, if_neg (fun hh => h hh.2)]; decide), msk_t h' hj]
theorem msk_anc {f : Nat → Bool} {n j : Nat} (hn : n ≤ 6) (hj : j < n) : nI (msk f n) &&& (((1 : Int32) <<< (nI j &&& 31)) ^^^ (-1)) = nI (msk (fun i => if i = j then false else f i) n) := by
  rw [shl1 j (by omega), anc64 _ (msk64 hn) j (by omega)]
  by_cases h : f j = true
  · rw [if_pos (show msk f n / 2 ^ j % 2 = 1 by rw [msk_bit, if_pos ⟨hj, h⟩]), ← msk_f h hj, Nat.add_sub_cancel]
  · have h' : f j = false := by simpa using h
    rw [if_neg (show ¬ msk f n / 2 ^ j % 2 = 1 by rw [msk_bit, if_neg (fun hh => h hh.2)]; decide)]
    rw [msk_congr (f := fun i => if i = j then false else f i) (g := f) (fun i _ => by by_cases hi : i = j <;> simp [hi, h'])]
/-- how many have a property -/
def cntB (f : Nat → Bool) : Nat → Nat
  | 0 => 0
  | n + 1 => cntB f n + (if f n then 1 else 0)
def bcI (x : Int32) : Int32 := match fJ6_bitCount_0f7a4 x (fun _ _ => 0) (fun _ _ => 0) with
  | some q => q.1
  | none => 0
theorem bc_some (x : Int32) (I : aI) (J : aJ) : fJ6_bitCount_0f7a4 x I J = some (bcI x, I, J) := rfl
theorem bc64 : ∀ m, m < 64 → bcI (nI m) = nI (m % 2 + m / 2 % 2 + m / 4 % 2 + m / 8 % 2 + m / 16 % 2 + m / 32 % 2) := by decide +kernel
theorem msk_split {f : Nat → Bool} {n : Nat} (hn : n ≤ 6) : msk f n % 2 + msk f n / 2 % 2 + msk f n / 4 % 2 + msk f n / 8 % 2 + msk f n / 16 % 2 + msk f n / 32 % 2 = cntB f n := by
  have b := fun j => msk_bit f j n
  have b0 := b 0
  have b1 := b 1
  have b2 := b 2
  have b3 := b 3
  have b4 := b 4
  have b5 := b 5
  simp only [Nat.pow_zero, Nat.div_one] at b0
  rw [b0, show msk f n / 2 % 2 = _ from b1, show msk f n / 4 % 2 = _ from b2, show msk f n / 8 % 2 = _ from b3, show msk f n / 16 % 2 = _ from b4, show msk f n / 32 % 2 = _ from b5]
  match n, hn with
  | 0, _ => simp [cntB]
  | 1, _ => simp [cntB]
  | 2, _ => simp [cntB]
  | 3, _ => simp [cntB]
  | 4, _ => simp [cntB]
  | 5, _ => simp [cntB]
  | 6, _ => simp [cntB]
theorem bc_msk {f : Nat → Bool} {n : Nat} (hn : n ≤ 6) (I : aI) (J : aJ) : fJ6_bitCount_0f7a4 (nI (msk f n)) I J = some (nI (cntB f n), I, J) := by
  rw [bc_some, bc64 _ (msk64 hn), msk_split hn]
theorem cntB_le (f : Nat → Bool) : ∀ n, cntB f n ≤ n
  | 0 => Nat.le_refl _
  | n + 1 => by
    have := cntB_le f n
    show cntB f n + (if f n then 1 else 0) ≤ n + 1
    split <;> omega
theorem cntB_congr {f g : Nat → Bool} : ∀ {n : Nat}, (∀ i, i < n → f i = g i) → cntB f n = cntB g n
  | 0, _ => rfl
  | n + 1, h => by
    show cntB f n + _ = cntB g n + _
    rw [cntB_congr (fun i hi => h i (by omega)), h n (by omega)]
