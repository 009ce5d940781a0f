section GX
variable {M : MT} {Z : Sh} {V : VT} {cc : ByteArray} {nL : Nat} {own : String} {ret : Option FieldType} {d : Nat} {I I' : aI} {J J' : aJ} {pc : Nat} {lv lv' : List (Nat × Value)} {st st0 : List Value}
theorem kI {a : Array Value} {r : Int32} (kk : Wg M Z V nL I' J' (pc + 3) lv (.int r :: st)) : match M with | (p, l, e, R, s, m, args, below, meth, c, Q) => ∀ (H : Heap) (locs : List Loc) (ls : Array Slot), va_P V.1 vwCl (wld Z V I J) H → va_S (vAd Z V) s.heap H locs → lv_has ls nL lv → va_Run p l e R s m args below meth c H locs 0 0 0 0 (F0 m pc ls st0) st (QI Z V (r, I', J') a) (vAd Z V) → W p l e R s m args below meth c H locs 0 0 Q (F0 m pc ls st0) := k_I (q := (r, I', J')) kk
theorem kL {a : Array Value} {r : Int64} (kk : Wg M Z V nL I' J' (pc + 3) lv (.long r :: st)) : match M with | (p, l, e, R, s, m, args, below, meth, c, Q) => ∀ (H : Heap) (locs : List Loc) (ls : Array Slot), va_P V.1 vwCl (wld Z V I J) H → va_S (vAd Z V) s.heap H locs → lv_has ls nL lv → va_Run p l e R s m args below meth c H locs 0 0 0 0 (F0 m pc ls st0) st (QL Z V (r, I', J') a) (vAd Z V) → W p l e R s m args below meth c H locs 0 0 Q (F0 m pc ls st0) := k_L (q := (r, I', J')) kk
theorem kV {a : Array Value} {r : Unit} (kk : Wg M Z V nL I' J' (pc + 3) lv st) : match M with | (p, l, e, R, s, m, args, below, meth, c, Q) => ∀ (H : Heap) (locs : List Loc) (ls : Array Slot), va_P V.1 vwCl (wld Z V I J) H → va_S (vAd Z V) s.heap H locs → lv_has ls nL lv → va_Run p l e R s m args below meth c H locs 0 0 0 0 (F0 m pc ls st0) st (QV Z V (r, I', J') a) (vAd Z V) → W p l e R s m args below meth c H locs 0 0 Q (F0 m pc ls st0) := k_V (q := (r, I', J')) kk
theorem g_tin (X : Cx M Z V cc nL own ret d) {dflt lo hi : Int} {offs : Array Int} {len : Nat} (hd : decode cc pc = .ok (.tableswitch dflt lo hi offs, len)) {x v : Int32} (hx : x = v) (h1 : ¬ v.toInt < lo) (h2 : ¬ hi < v.toInt) {off : Int} (ho : offs[(v.toInt - lo).toNat]? = some off) {tgt : Nat} (ht : (pc : Int) + off = (tgt : Int)) (k : Wg M Z V nL I J tgt lv st) : Wg M Z V nL I J pc lv (.int x :: st) := by
  subst hx
  exact fun H locs ls hP hS hl => lv_tableIn X.1 X.2.1 hd h1 h2 ho ht (k H locs ls hP hS hl)
theorem g_tout (X : Cx M Z V cc nL own ret d) {dflt lo hi : Int} {offs : Array Int} {len : Nat} (hd : decode cc pc = .ok (.tableswitch dflt lo hi offs, len)) {x : Int32} (h : x.toInt < lo ∨ hi < x.toInt) {tgt : Nat} (ht : (pc : Int) + dflt = (tgt : Int)) (k : Wg M Z V nL I J tgt lv st) : Wg M Z V nL I J pc lv (.int x :: st) := fun H locs ls hP hS hl => lv_tableOut X.1 X.2.1 hd h ht (k H locs ls hP hS hl)
theorem g_look (X : Cx M Z V cc nL own ret d) {dflt : Int} {ps : Array (Int × Int)} {len : Nat} (hd : decode cc pc = .ok (.lookupswitch dflt ps, len)) (hp : (ps.toList.zip (ps.toList.drop 1)).all (fun (a, next) => a.1 < next.1) = true) {x : Int32} {off : Int} (ho : Op.lookupswitch.offset ps.toList dflt x.toInt = off) {tgt : Nat} (ht : (pc : Int) + off = (tgt : Int)) (k : Wg M Z V nL I J tgt lv st) : Wg M Z V nL I J pc lv (.int x :: st) := fun H locs ls hP hS hl => lv_lookup X.1 X.2.1 hd hp ho ht (k H locs ls hP hS hl)
theorem g_gneed (X : Cx M Z V cc nL own ret d) {x : Nat} (hd : decode cc pc = .ok (.getstatic x, 3)) (hw : Cond.fieldLink own x "ChimeVan$Folk" "NEEDS" "[I" ∈ GG) (kk : Wg M Z V nL I J (pc + 3) lv (.ref (V.2.2 100) :: st)) : Wg M Z V nL I J pc lv st := by
  obtain ⟨p, l, e, R, s, m, args, below, meth, c, Q⟩ := M
  obtain ⟨hx, hb, hml, hown, hts, hr, hlk, hR, hK, hF, hJ⟩ := X
  intro H locs ls hP hS hl
  exact va_gets hx hb hF.2.1.1 hS hown (hts _ hw) (fun _ h => h) hd (kk H locs ls hP hS hl)
theorem g_iald100 (X : Cx M Z V cc nL own ret d) (hd : decode cc pc = .ok (.iaload, 1)) {i : Int32} (hi : inb i 5 = true) (kk : Wg M Z V nL I J (pc + 1) lv (.int (ndF i.toNatClampNeg) :: st)) : Wg M Z V nL I J pc lv (.int i :: .ref (V.2.2 100) :: st) := by
  obtain ⟨p, l, e, R, s, m, args, below, meth, c, Q⟩ := M
  obtain ⟨hx, hb, hml, hown, hts, hr, hlk, hR, hK, hF, hJ⟩ := X
  intro H locs ls hP hS hl
  exact va_ti hx hb hF.2.1.2 hS (inb_in hi) rfl hd (kk H locs ls hP hS hl)
theorem g_gcomp (X : Cx M Z V cc nL own ret d) {x : Nat} (hd : decode cc pc = .ok (.getstatic x, 3)) (hw : Cond.fieldLink own x "java/lang/String" "COMPACT_STRINGS" "Z" ∈ GG) (kk : Wg M Z V nL I J (pc + 3) lv (.int 1 :: st)) : Wg M Z V nL I J pc lv st := by
  obtain ⟨p, l, e, R, s, m, args, below, meth, c, Q⟩ := M
  obtain ⟨hx, hb, hml, hown, hts, hr, hlk, hR, hK, hF, hJ⟩ := X
  intro H locs ls hP hS hl
  exact va_gets hx hb hF.2.2.1 hS hown (hts _ hw) (fun _ h => h) hd (kk H locs ls hP hS hl)
theorem g_gcoder (X : Cx M Z V cc nL own ret d) {x : Nat} (hd : decode cc pc = .ok (.getfield x, 3)) (hw : Cond.fieldLink own x "java/lang/String" "coder" "B" ∈ GG) (kk : Wg M Z V nL I J (pc + 3) lv (.int 0 :: st)) : Wg M Z V nL I J pc lv (.ref (V.2.2 101) :: st) := by
  obtain ⟨p, l, e, R, s, m, args, below, meth, c, Q⟩ := M
  obtain ⟨hx, hb, hml, hown, hts, hr, hlk, hR, hK, hF, hJ⟩ := X
  intro H locs ls hP hS hl
  exact vk_getf hx hb hF.2.2.2.2.2.1 hS hown (hts _ hw) (fun _ h => h) hd (kk H locs ls hP hS hl)
theorem g_gvalue (X : Cx M Z V cc nL own ret d) {x : Nat} (hd : decode cc pc = .ok (.getfield x, 3)) (hw : Cond.fieldLink own x "java/lang/String" "value" "[B" ∈ GG) (kk : Wg M Z V nL I J (pc + 3) lv (.ref (V.2.2 102) :: st)) : Wg M Z V nL I J pc lv (.ref (V.2.2 101) :: st) := by
  obtain ⟨p, l, e, R, s, m, args, below, meth, c, Q⟩ := M
  obtain ⟨hx, hb, hml, hown, hts, hr, hlk, hR, hK, hF, hJ⟩ := X
  intro H locs ls hP hS hl
  exact vk_getf hx hb hF.2.2.2.2.2.2.1 hS hown (hts _ hw) (fun _ h => h) hd (kk H locs ls hP hS hl)
theorem g_bald102 (X : Cx M Z V cc nL own ret d) (hd : decode cc pc = .ok (.baload, 1)) {i : Int32} (hi : inb i 5 = true) (kk : Wg M Z V nL I J (pc + 1) lv (.int (ltF i.toNatClampNeg) :: st)) : Wg M Z V nL I J pc lv (.int i :: .ref (V.2.2 102) :: st) := by
  obtain ⟨p, l, e, R, s, m, args, below, meth, c, Q⟩ := M
  obtain ⟨hx, hb, hml, hown, hts, hr, hlk, hR, hK, hF, hJ⟩ := X
  intro H locs ls hP hS hl
  exact va_tb hx hb hF.2.2.2.2.2.2.2 hS (inb_in hi) rfl hd (kk H locs ls hP hS hl)
theorem g_alen102 (X : Cx M Z V cc nL own ret d) (hd : decode cc pc = .ok (.arraylength, 1)) (kk : Wg M Z V nL I J (pc + 1) lv (.int 5 :: st)) : Wg M Z V nL I J pc lv (.ref (V.2.2 102) :: st) := by
  obtain ⟨p, l, e, R, s, m, args, below, meth, c, Q⟩ := M
  obtain ⟨hx, hb, hml, hown, hts, hr, hlk, hR, hK, hF, hJ⟩ := X
  intro H locs ls hP hS hl
  exact va_tlen hx hb hF.2.2.2.2.2.2.2 hS rfl hd (kk H locs ls hP hS hl)
theorem g_str (X : Cx M Z V cc nL "ChimeVan$Page" ret d) (hd : decode cc pc = .ok (.ldc 40, 2)) (kk : Wg M Z V nL I J (pc + 2) lv (.ref (V.2.2 101) :: st)) : Wg M Z V nL I J pc lv st := by
  obtain ⟨p, l, e, R, s, m, args, below, meth, c, Q⟩ := M
  obtain ⟨hx, hb, hml, hown, hts, hr, hlk, hR, hK, hF, hJ⟩ := X
  intro H locs ls hP hS hl
  exact va_ldcS hx hb hown hF.2.2.2.1 hd (kk H locs ls hP hS hl)
theorem rcv101 : ∀ (s : State) (H : Heap) (locs : List Loc), va_K V.1 vwCl (vTy V) s → Fx Z V s → va_P V.1 vwCl (wld Z V I J) H → va_S (vAd Z V) s.heap H locs → ∃ cellB : Cell, H[V.2.2 101]? = some cellB ∧ cellB.vm.isStatics = false ∧ s.vm.findClass "java/lang/String" = some cellB.cls := by
  intro s H locs _ hF _ hS
  obtain ⟨cell, h1, h2, h3, h4⟩ := hF.2.2.2.2.1
  exact ⟨cell, by rw [hS.2.1 _ (Array.getElem?_eq_some_iff.mp h1).1 h4]; exact h1, h2, h3⟩
end GX
theorem g_breturn {M : MT} {Z : Sh} {V : VT} {cc : ByteArray} {nL : Nat} {own : String} {d : Nat} {I : aI} {J : aJ} {pc : Nat} {lv : List (Nat × Value)} (X : Cx M Z V cc nL own (some .byte) d) (hd : decode cc pc = .ok (.ireturn, 1)) {r : Int32} (hz : r = 0 ∨ r = 1) (hQ : PI M Z V (r, I, J)) : Wg M Z V nL I J pc lv [.int r] := by
  obtain ⟨p, l, e, R, s, m, args, below, meth, c, Q⟩ := M
  obtain ⟨hx, hb, hml, hown, hts, hr, hlk, hR, hK, hF, hJ⟩ := X
  intro H locs ls hP hS hl
  have hQ : Q = _ := hQ
  subst hQ
  exact W.zret hx hb hr (by rcases hz with rfl | rfl <;> rfl) (fun t ht hW => ⟨⟨r, (), rfl, rfl, by show va_P V.1 vwCl (wld Z V I J) t.heap; rw [ht]; exact hP⟩, hS.F ht⟩) hS.2.2 hd hlk
theorem g_i2b {M : MT} {Z : Sh} {V : VT} {cc : ByteArray} {nL : Nat} {own : String} {ret : Option FieldType} {d : Nat} {I : aI} {J : aJ} {pc : Nat} {lv : List (Nat × Value)} {st : List Value} (X : Cx M Z V cc nL own ret d) {x : Int32} (hd : decode cc pc = .ok (.i2b, 1)) (k : Wg M Z V nL I J (pc + 1) lv (.int x.toInt8.toInt32 :: st)) : Wg M Z V nL I J pc lv (.int x :: st) := fun H locs ls hP hS hl => lv_i2b X.1 X.2.1 hd rfl (k H locs ls hP hS hl)
