/-- a class as the tables have it -/
def clsOK (ci : Nat) (C : String) (T : u_T) (N : Nat) (ty : Nat → FieldType) : Prop := ci < 9 ∧ vwCl[ci]? = some (C, T, N) ∧ (∀ w ∈ u_ws C T N, w ∈ GG) ∧ (∀ k, k < N → parseFieldDescriptor (T k).2.2.1 = some (ty k)) ∧ ∀ a, a < N → ∀ b, b < N → a ≠ b → (T a).2.1 ≠ (T b).2.1
def inb (i : Int32) (n : Nat) : Bool := decide (¬ i < 0) && decide (i.toNatClampNeg < n)
theorem inb_in {i : Int32} {n : Nat} (h : inb i n = true) : vp_in i n := by
  simp only [inb, Bool.and_eq_true, decide_eq_true_eq] at h
  intro hh
  rcases hh with hh | hh
  · exact h.1 hh
  · omega
theorem inb_nI {n N : Nat} (h : n < N) (hN : N < 2 ^ 31) : inb (nI n) N = true := by
  simp only [inb, Bool.and_eq_true, decide_eq_true_eq]
  exact ⟨nI_pos (by omega), by rw [nI_clamp (by omega)]; exact h⟩
theorem pI_row {Z : Sh} {V : VT} {I : aI} {J : aJ} {k : Nat} (r : Nat → Int32) (h : k < Z.1) {e : va_E} (he : e = ent Z V.2.1 V.2.2 k r (J k)) : (wld Z V I J).set k (V.2.2 k, e) = wld Z V (uI I k r) J := by
  subst he; exact wld_setI r h
theorem pJ_row {Z : Sh} {V : VT} {I : aI} {J : aJ} {k : Nat} (r : Nat → Int64) (h : k < Z.1) {e : va_E} (he : e = ent Z V.2.1 V.2.2 k (I k) r) : (wld Z V I J).set k (V.2.2 k, e) = wld Z V I (uJ J k r) := by
  subst he; exact wld_setJ r h
section GH
variable {M : MT} {Z : Sh} {V : VT} {cc : ByteArray} {nL : Nat} {own : String} {ret : Option FieldType} {d : Nat} {I : aI} {J : aJ} {pc : Nat} {lv lv' : List (Nat × Value)} {st : List Value}
theorem g_get (X : Cx M Z V cc nL own ret d) {x : Nat} (hd : decode cc pc = .ok (.getfield x, 3)) {k ci : Nat} (ho : okc Z k ci 0) {C : String} {T : u_T} {N : Nat} {ty : Nat → FieldType} (hc : clsOK ci C T N ty) (sl : Nat) (hsl : sl < N) (hw : Cond.fieldLink own x (T sl).1 (T sl).2.1 (T sl).2.2.1 ∈ GG) {v : Value} (hv : (flds ci V.2.2 k (I k) (J k))[sl]? = some v) (kk : Wg M Z V nL I J (pc + 3) lv (v :: st)) : Wg M Z V nL I J pc lv (.ref (V.2.2 k) :: st) := by
  obtain ⟨p, l, e, R, s, m, args, below, meth, c, Q⟩ := M
  obtain ⟨hx, hb, hml, hown, hts, hr, hlk, hR, hK, hF, hJ⟩ := X
  intro H locs ls hP hS hl
  exact va_get hx hb hts hc.2.2.1 hown hK hP k (by rw [wld_get ho.1, ent_o ho hc.1]) hc.2.1 sl hsl (hts _ hw) (fun _ h => h) hv hd (kk H locs ls hP hS hl)
theorem g_putI (X : Cx M Z V cc nL own ret d) {x : Nat} (hd : decode cc pc = .ok (.putfield x, 3)) {k ci : Nat} (ho : okc Z k ci 0) {C : String} {T : u_T} {N : Nat} {ty : Nat → FieldType} (hc : clsOK ci C T N ty) (sl : Nat) (hsl : sl < N) (hw : Cond.fieldLink own x (T sl).1 (T sl).2.1 (T sl).2.2.1 ∈ GG) {v : Int32} (hfi : (T sl).2.2.2 = false) (ft : FieldType) (hpd : parseFieldDescriptor (T sl).2.2.1 = some ft) (hn : narrow ft (.int v) = .int v) (hfit : fits ft (.int v) = true) (hlen : sl < (flds ci V.2.2 k (I k) (J k)).length)
    (hset : ∀ (i : Nat → Int32) (j : Nat → Int64), (flds ci V.2.2 k i j).set sl (.int v) = flds ci V.2.2 k (upd i sl v) j) (kk : Wg M Z V nL (pI I k sl v) J (pc + 3) lv st) : Wg M Z V nL I J pc lv (.int v :: .ref (V.2.2 k) :: st) := by
  obtain ⟨p, l, e, R, s, m, args, below, meth, c, Q⟩ := M
  obtain ⟨hx, hb, hml, hown, hts, hr, hlk, hR, hK, hF, hJ⟩ := X
  intro H locs ls hP hS hl
  refine va_put (ty := ft) hx hb hts hc.2.2.1 ty hc.2.2.2.1 hc.2.2.2.2 hown hK hP (wld_D hJ I J) hS k (by rw [wld_get ho.1, ent_o ho hc.1]) hc.2.1 sl hsl (hts _ hw) (fun _ h => h) hfi hpd hn hfit hlen hd (fun H1 locs1 hP1 _ hS1 => kk H1 locs1 ls ?_ hS1 hl)
  rw [pI_row (upd (I k) sl v) ho.1 (by rw [ent_o ho hc.1, hset])] at hP1
  exact hP1
theorem g_putJ (X : Cx M Z V cc nL own ret d) {x : Nat} (hd : decode cc pc = .ok (.putfield x, 3)) {k ci : Nat} (ho : okc Z k ci 0) {C : String} {T : u_T} {N : Nat} {ty : Nat → FieldType} (hc : clsOK ci C T N ty) (sl : Nat) (hsl : sl < N) (hw : Cond.fieldLink own x (T sl).1 (T sl).2.1 (T sl).2.2.1 ∈ GG) {v : Int64} (hfi : (T sl).2.2.2 = false) (ft : FieldType) (hpd : parseFieldDescriptor (T sl).2.2.1 = some ft) (hn : narrow ft (.long v) = .long v) (hfit : fits ft (.long v) = true) (hlen : sl < (flds ci V.2.2 k (I k) (J k)).length)
    (hset : ∀ (i : Nat → Int32) (j : Nat → Int64), (flds ci V.2.2 k i j).set sl (.long v) = flds ci V.2.2 k i (vp_updL j sl v)) (kk : Wg M Z V nL I (pJ J k sl v) (pc + 3) lv st) : Wg M Z V nL I J pc lv (.long v :: .ref (V.2.2 k) :: st) := by
  obtain ⟨p, l, e, R, s, m, args, below, meth, c, Q⟩ := M
  obtain ⟨hx, hb, hml, hown, hts, hr, hlk, hR, hK, hF, hJ⟩ := X
  intro H locs ls hP hS hl
  refine va_put (ty := ft) hx hb hts hc.2.2.1 ty hc.2.2.2.1 hc.2.2.2.2 hown hK hP (wld_D hJ I J) hS k (by rw [wld_get ho.1, ent_o ho hc.1]) hc.2.1 sl hsl (hts _ hw) (fun _ h => h) hfi hpd hn hfit hlen hd (fun H1 locs1 hP1 _ hS1 => kk H1 locs1 ls ?_ hS1 hl)
  rw [pJ_row (vp_updL (J k) sl v) ho.1 (by rw [ent_o ho hc.1, hset])] at hP1
  exact hP1
theorem g_iaload (X : Cx M Z V cc nL own ret d) (hd : decode cc pc = .ok (.iaload, 1)) {k n : Nat} (ho : okc Z k 9 n) {i : Int32} (hi : inb i n = true) (kk : Wg M Z V nL I J (pc + 1) lv (.int (I k i.toNatClampNeg) :: st)) : Wg M Z V nL I J pc lv (.int i :: .ref (V.2.2 k) :: st) := by
  obtain ⟨p, l, e, R, s, m, args, below, meth, c, Q⟩ := M
  obtain ⟨hx, hb, hml, hown, hts, hr, hlk, hR, hK, hF, hJ⟩ := X
  intro H locs ls hP hS hl
  exact va_iald hx hb hK hP k 0 (by rw [wld_get ho.1, ent_i ho]) rfl (inb_in hi) hd (kk H locs ls hP hS hl)
theorem g_laload (X : Cx M Z V cc nL own ret d) (hd : decode cc pc = .ok (.laload, 1)) {k n : Nat} (ho : okc Z k 10 n) {i : Int32} (hi : inb i n = true) (kk : Wg M Z V nL I J (pc + 1) lv (.long (J k i.toNatClampNeg) :: st)) : Wg M Z V nL I J pc lv (.int i :: .ref (V.2.2 k) :: st) := by
  obtain ⟨p, l, e, R, s, m, args, below, meth, c, Q⟩ := M
  obtain ⟨hx, hb, hml, hown, hts, hr, hlk, hR, hK, hF, hJ⟩ := X
  intro H locs ls hP hS hl
  exact va_lald hx hb hK hP k 1 (by rw [wld_get ho.1, ent_j ho]) rfl (inb_in hi) hd (kk H locs ls hP hS hl)
theorem g_baload (X : Cx M Z V cc nL own ret d) (hd : decode cc pc = .ok (.baload, 1)) {k n : Nat} (ho : okc Z k 11 n) {i : Int32} (hi : inb i n = true) (kk : Wg M Z V nL I J (pc + 1) lv (.int (I k i.toNatClampNeg) :: st)) : Wg M Z V nL I J pc lv (.int i :: .ref (V.2.2 k) :: st) := by
  obtain ⟨p, l, e, R, s, m, args, below, meth, c, Q⟩ := M
  obtain ⟨hx, hb, hml, hown, hts, hr, hlk, hR, hK, hF, hJ⟩ := X
  intro H locs ls hP hS hl
  exact va_zald hx hb hK hP k 2 (by rw [wld_get ho.1, ent_z ho]) rfl (inb_in hi) hd (kk H locs ls hP hS hl)
theorem g_aaloadE (X : Cx M Z V cc nL own ret d) (hd : decode cc pc = .ok (.aaload, 1)) {k n : Nat} (ho : okc Z k 12 n) {i : Int32} (hi : inb i n = true) (kk : Wg M Z V nL I J (pc + 1) lv (.ref (V.2.2 (k + 1 + 2 * i.toNatClampNeg)) :: st)) : Wg M Z V nL I J pc lv (.int i :: .ref (V.2.2 k) :: st) := by
  obtain ⟨p, l, e, R, s, m, args, below, meth, c, Q⟩ := M
  obtain ⟨hx, hb, hml, hown, hts, hr, hlk, hR, hK, hF, hJ⟩ := X
  intro H locs ls hP hS hl
  exact va_aldq (f := fun x => some (V.2.2 (k + 1 + 2 * x))) hx hb hK hP k 3 (by rw [wld_get ho.1, ent_e ho]) rfl (inb_in hi) hd (kk H locs ls hP hS hl)
theorem g_aaloadG (X : Cx M Z V cc nL own ret d) (hd : decode cc pc = .ok (.aaload, 1)) {k n : Nat} (ho : okc Z k 13 n) {i : Int32} (hi : inb i n = true) (kk : Wg M Z V nL I J (pc + 1) lv (.ref (V.2.2 (k + 1 + i.toNatClampNeg)) :: st)) : Wg M Z V nL I J pc lv (.int i :: .ref (V.2.2 k) :: st) := by
  obtain ⟨p, l, e, R, s, m, args, below, meth, c, Q⟩ := M
  obtain ⟨hx, hb, hml, hown, hts, hr, hlk, hR, hK, hF, hJ⟩ := X
  intro H locs ls hP hS hl
  have ha : (wld Z V I J)[k]? = some (V.2.2 k, .inl (V.2.1 4, n, .inr (.inr (.inr (.inr (fun x => some (V.2.2 (k + 1 + x)))))))) := by rw [wld_get ho.1, ent_g ho]
  have hin := inb_in hi
  have hlt : i.toNatClampNeg < n := Nat.not_le.mp fun q => hin (Or.inr q)
  exact W.aald (v := va_rf (some (V.2.2 (k + 1 + i.toNatClampNeg)))) (ty := .array .int) hx hb (hP k _ ha) ((hK.2 4 (V.2.1 4, .array .int) rfl).1 n (fun j => va_rf (some (V.2.2 (k + 1 + j))))) rfl (fun q => by cases q) (by show ¬ (i < 0 ∨ (arrV _ _ _).slots.size ≤ _); rw [arrV_size]; exact hin) (by show (arrV _ _ _).slots[_]? = _; rw [arrV_read _ _ hlt]) rfl rfl hd (kk H locs ls hP hS hl)
theorem g_iastore (X : Cx M Z V cc nL own ret d) (hd : decode cc pc = .ok (.iastore, 1)) {k n : Nat} (ho : okc Z k 9 n) {i v : Int32} (hi : inb i n = true) (kk : Wg M Z V nL (pI I k i.toNatClampNeg v) J (pc + 1) lv st) : Wg M Z V nL I J pc lv (.int v :: .int i :: .ref (V.2.2 k) :: st) := by
  obtain ⟨p, l, e, R, s, m, args, below, meth, c, Q⟩ := M
  obtain ⟨hx, hb, hml, hown, hts, hr, hlk, hR, hK, hF, hJ⟩ := X
  intro H locs ls hP hS hl
  refine va_iast hx hb hK hP (wld_D hJ I J) hS k 0 (by rw [wld_get ho.1, ent_i ho]) rfl (inb_in hi) hd (fun H1 locs1 hP1 _ hS1 => kk H1 locs1 ls ?_ hS1 hl)
  rw [pI_row (upd (I k) i.toNatClampNeg v) ho.1 (by rw [ent_i ho])] at hP1
  exact hP1
theorem g_lastore (X : Cx M Z V cc nL own ret d) (hd : decode cc pc = .ok (.lastore, 1)) {k n : Nat} (ho : okc Z k 10 n) {i : Int32} {v : Int64} (hi : inb i n = true) (kk : Wg M Z V nL I (pJ J k i.toNatClampNeg v) (pc + 1) lv st) : Wg M Z V nL I J pc lv (.long v :: .int i :: .ref (V.2.2 k) :: st) := by
  obtain ⟨p, l, e, R, s, m, args, below, meth, c, Q⟩ := M
  obtain ⟨hx, hb, hml, hown, hts, hr, hlk, hR, hK, hF, hJ⟩ := X
  intro H locs ls hP hS hl
  refine va_last hx hb hK hP (wld_D hJ I J) hS k 1 (by rw [wld_get ho.1, ent_j ho]) rfl (inb_in hi) hd (fun H1 locs1 hP1 _ hS1 => kk H1 locs1 ls ?_ hS1 hl)
  rw [pJ_row (vp_updL (J k) i.toNatClampNeg v) ho.1 (by rw [ent_j ho])] at hP1
  exact hP1
theorem g_bastore (X : Cx M Z V cc nL own ret d) (hd : decode cc pc = .ok (.bastore, 1)) {k n : Nat} (ho : okc Z k 11 n) {i v : Int32} (hi : inb i n = true) (kk : Wg M Z V nL (pI I k i.toNatClampNeg (vp_nar .boolean v)) J (pc + 1) lv st) : Wg M Z V nL I J pc lv (.int v :: .int i :: .ref (V.2.2 k) :: st) := by
  obtain ⟨p, l, e, R, s, m, args, below, meth, c, Q⟩ := M
  obtain ⟨hx, hb, hml, hown, hts, hr, hlk, hR, hK, hF, hJ⟩ := X
  intro H locs ls hP hS hl
  refine va_zast hx hb hK hP (wld_D hJ I J) hS k 2 (by rw [wld_get ho.1, ent_z ho]) rfl (inb_in hi) hd (fun H1 locs1 hP1 _ hS1 => kk H1 locs1 ls ?_ hS1 hl)
  rw [pI_row (upd (I k) i.toNatClampNeg (vp_nar .boolean v)) ho.1 (by rw [ent_z ho])] at hP1
  exact hP1
theorem g_alenI (X : Cx M Z V cc nL own ret d) (hd : decode cc pc = .ok (.arraylength, 1)) {k n : Nat} (ho : okc Z k 9 n) (kk : Wg M Z V nL I J (pc + 1) lv (.int (nI n) :: st)) : Wg M Z V nL I J pc lv (.ref (V.2.2 k) :: st) := by
  obtain ⟨p, l, e, R, s, m, args, below, meth, c, Q⟩ := M
  obtain ⟨hx, hb, hml, hown, hts, hr, hlk, hR, hK, hF, hJ⟩ := X
  intro H locs ls hP hS hl
  exact va_alen (x := (n, .inl (I k))) hx hb hK hP k 0 (by rw [wld_get ho.1, ent_i ho]) (ty := .int) rfl rfl hd (kk H locs ls hP hS hl)
theorem g_alenJ (X : Cx M Z V cc nL own ret d) (hd : decode cc pc = .ok (.arraylength, 1)) {k n : Nat} (ho : okc Z k 10 n) (kk : Wg M Z V nL I J (pc + 1) lv (.int (nI n) :: st)) : Wg M Z V nL I J pc lv (.ref (V.2.2 k) :: st) := by
  obtain ⟨p, l, e, R, s, m, args, below, meth, c, Q⟩ := M
  obtain ⟨hx, hb, hml, hown, hts, hr, hlk, hR, hK, hF, hJ⟩ := X
  intro H locs ls hP hS hl
  exact va_alen (x := (n, .inr (.inl (J k)))) hx hb hK hP k 1 (by rw [wld_get ho.1, ent_j ho]) (ty := .long) rfl rfl hd (kk H locs ls hP hS hl)
theorem g_ireturn (X : Cx M Z V cc nL own (some .int) d) (hd : decode cc pc = .ok (.ireturn, 1)) {r : Int32} (hQ : PI M Z V (r, I, J)) : Wg M Z V nL I J pc lv [.int r] := by
  obtain ⟨p, l, e, R, s, m, args, below, meth, c, Q⟩ := M
  obtain ⟨hx, hb, hml, hown, hts, hr, hlk, hR, hK, hF, hJ⟩ := X
  intro H locs ls hP hS hl
  have hQ : Q = _ := hQ
  subst hQ
  exact W.iret hx hb hr (fun t ht hW => ⟨⟨r, (), rfl, rfl, by show va_P V.1 vwCl (wld Z V I J) t.heap; rw [ht]; exact hP⟩, hS.F ht⟩) hS.2.2 hd hlk
theorem g_zreturn (X : Cx M Z V cc nL own (some .boolean) d) (hd : decode cc pc = .ok (.ireturn, 1)) {r : Int32} (hz : r = 0 ∨ r = 1) (hQ : PI M Z V (r, I, J)) : Wg M Z V nL I J pc lv [.int r] := by
  obtain ⟨p, l, e, R, s, m, args, below, meth, c, Q⟩ := M
  obtain ⟨hx, hb, hml, hown, hts, hr, hlk, hR, hK, hF, hJ⟩ := X
  intro H locs ls hP hS hl
  have hQ : Q = _ := hQ
  subst hQ
  exact W.zret hx hb hr (by rcases hz with rfl | rfl <;> rfl) (fun t ht hW => ⟨⟨r, (), rfl, rfl, by show va_P V.1 vwCl (wld Z V I J) t.heap; rw [ht]; exact hP⟩, hS.F ht⟩) hS.2.2 hd hlk
theorem g_lreturn (X : Cx M Z V cc nL own (some .long) d) (hd : decode cc pc = .ok (.lreturn, 1)) {r : Int64} (hQ : PL M Z V (r, I, J)) : Wg M Z V nL I J pc lv [.long r] := by
  obtain ⟨p, l, e, R, s, m, args, below, meth, c, Q⟩ := M
  obtain ⟨hx, hb, hml, hown, hts, hr, hlk, hR, hK, hF, hJ⟩ := X
  intro H locs ls hP hS hl
  have hQ : Q = _ := hQ
  subst hQ
  exact W.lret hx hb hr (fun t ht hW => ⟨⟨r, (), rfl, rfl, by show va_P V.1 vwCl (wld Z V I J) t.heap; rw [ht]; exact hP⟩, hS.F ht⟩) hS.2.2 hd hlk
theorem g_vreturn (X : Cx M Z V cc nL own none d) (hd : decode cc pc = .ok (.return_, 1)) (hQ : PV M Z V ((), I, J)) : Wg M Z V nL I J pc lv [] := by
  obtain ⟨p, l, e, R, s, m, args, below, meth, c, Q⟩ := M
  obtain ⟨hx, hb, hml, hown, hts, hr, hlk, hR, hK, hF, hJ⟩ := X
  intro H locs ls hP hS hl
  have hQ : Q = _ := hQ
  subst hQ
  exact W.vret hx hb hr (fun t ht hW => ⟨⟨(), rfl, trivial, by show va_P V.1 vwCl (wld Z V I J) t.heap; rw [ht]; exact hP⟩, hS.F ht⟩) hS.2.2 hd hlk
end GH
