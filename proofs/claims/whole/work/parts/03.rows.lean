/-! the ints and the longs of a world's cells, by the cell's number and the slot -/
abbrev aI : Type := Nat → Nat → Int32
abbrev aJ : Type := Nat → Nat → Int64
def uI (I : aI) (k : Nat) (r : Nat → Int32) : aI := fun a => if a = k then r else I a
def uJ (J : aJ) (k : Nat) (r : Nat → Int64) : aJ := fun a => if a = k then r else J a
def pI (I : aI) (k j : Nat) (x : Int32) : aI := uI I k (upd (I k) j x)
def pJ (J : aJ) (k j : Nat) (x : Int64) : aJ := uJ J k (vp_updL (J k) j x)
/-- the fields of an object of class c that is cell k -/
def flds (c : Nat) (ad : Nat → Nat) (k : Nat) (i : Nat → Int32) (j : Nat → Int64) : List Value := match c with
  | 0 => [.int (i 0), .int (i 1), .int (i 2), .ref (ad (k + 1))]
  | 1 => [.int (i 0), .ref (ad (k + 1)), .ref (ad (k + 2)), .ref (ad (k + 3)), .ref (ad (k + 4))]
  | 2 => [.int (i 0), .ref (ad (k + 1)), .ref (ad (k + 2))]
  | 3 => [.ref (ad (k + 1)), .int (i 1), .int (i 2), .int (i 3), .int (i 4)]
  | 4 => [.ref (ad (k + 1)), .int (i 1), .int (i 2), .ref (ad (k + 2)), .ref (ad (k + 3))]
  | 5 => [.long (j 0), .ref (ad (k + 1)), .ref (ad (k + 2))]
  | 6 => [.int (i 0), .int (i 1), .ref (ad (k + 1)), .ref (ad (k + 2)), .ref (ad (k + 3)), .ref (ad (k + 4)), .ref (ad (k + 5)), .ref (ad (k + 12))]
  | 7 => [.ref (ad (k + 1)), .ref (ad (k + 3)), .ref (ad (k + 22)), .ref (ad (k + 27)), .ref (ad (k + 32)), .ref (ad (k + 34)), .ref (ad (k + 36)), .ref (ad (k + 38)), .ref (ad (k + 41)), .ref (ad (k + 44)), .ref (ad (k + 60)), .int (i 11), .int (i 12), .int (i 13)]
  | _ => [.ref (ad (k + 1)), .int (i 1), .int (i 2), .int (i 3), .int (i 4), .int (i 5), .int (i 6), .int (i 7), .int (i 8), .ref (ad (k + 2)), .ref (ad (k + 3)), .ref (ad (k + 4)), .ref (ad (k + 5)), .ref (ad (k + 6)), .ref (ad (k + 7)), .ref (ad (k + 8)), .ref (ad (k + 9)), .ref (ad (k + 10)), .ref (ad (k + 11)), .ref (ad (k + 12)), .ref (ad (k + 13)), .ref (ad (k + 14)), .ref (ad (k + 15)), .ref (ad (k + 16)), .int (i 24), .ref (ad (k + 17)), .ref (ad (k + 18)), .int (i 27), .ref (ad (k + 19)), .int (i 29), .int (i 30), .int (i 31), .int (i 32), .int (i 33), .ref (ad (k + 20)), .ref (ad (k + 21)), .ref (ad (k + 22)), .ref (ad (k + 23)), .ref (ad (k + 24)), .ref (ad (k + 25)), .long (j 40)]
/-- a world's shape: how many cells; the kind of each (0 to 8: an object of that class; 9 int[], 10 long[], 11 boolean[], 12 Evening[], 13 int[][]); an array's length -/
abbrev Sh : Type := Nat × (Nat → Nat) × (Nat → Nat)
def ent (Z : Sh) (cy : Nat → ClassId) (ad : Nat → Nat) (k : Nat) (i : Nat → Int32) (j : Nat → Int64) : va_E :=
  if Z.2.1 k < 9 then .inr (Z.2.1 k, flds (Z.2.1 k) ad k i j)
  else if Z.2.1 k = 9 then .inl (cy 0, Z.2.2 k, .inl i)
  else if Z.2.1 k = 10 then .inl (cy 1, Z.2.2 k, .inr (.inl j))
  else if Z.2.1 k = 11 then .inl (cy 2, Z.2.2 k, .inl i)
  else if Z.2.1 k = 12 then .inl (cy 3, Z.2.2 k, .inr (.inr (.inr (.inr (fun x => some (ad (k + 1 + 2 * x)))))))
  else .inl (cy 4, Z.2.2 k, .inr (.inr (.inr (.inr (fun x => some (ad (k + 1 + x)))))))
abbrev VT : Type := va_G × (Nat → ClassId) × (Nat → Nat)
def wld (Z : Sh) (V : VT) (I : aI) (J : aJ) : va_W := (List.range Z.1).map (fun k => (V.2.2 k, ent Z V.2.1 V.2.2 k (I k) (J k)))
def vAd (Z : Sh) (V : VT) : Nat → Prop := fun q => ∃ k, k < Z.1 ∧ q = V.2.2 k
def vTy (V : VT) : List (ClassId × FieldType) := [(V.2.1 0, .int), (V.2.1 1, .long), (V.2.1 2, .boolean), (V.2.1 3, .object "ChimeVan$Evening"), (V.2.1 4, .array .int)]
/-- the tables' words that stay good over a call -/
def GG : List Cond := lw_tbl.filter goodWord
def rmD (d : Nat) : Room := { frames := d, cells := 0, slots := 0, locals := 40 * d }
theorem wld_get {Z : Sh} {V : VT} {I : aI} {J : aJ} {k : Nat} (h : k < Z.1) : (wld Z V I J)[k]? = some (V.2.2 k, ent Z V.2.1 V.2.2 k (I k) (J k)) := by
  simp [wld, List.getElem?_map, List.getElem?_range h]
theorem wld_setI {Z : Sh} {V : VT} {I : aI} {J : aJ} {k : Nat} (r : Nat → Int32) (h : k < Z.1) : (wld Z V I J).set k (V.2.2 k, ent Z V.2.1 V.2.2 k r (J k)) = wld Z V (uI I k r) J := by
  apply List.ext_getElem?
  intro a
  by_cases ha : a = k
  · subst ha
    rw [List.getElem?_set_self (by simp [wld, h]), wld_get h]
    simp [uI]
  · rw [List.getElem?_set_ne (Ne.symm ha)]
    by_cases hz : a < Z.1
    · rw [wld_get hz, wld_get hz]
      simp [uI, ha]
    · rw [List.getElem?_eq_none (by simp [wld]; omega), List.getElem?_eq_none (by simp [wld]; omega)]
theorem wld_setJ {Z : Sh} {V : VT} {I : aI} {J : aJ} {k : Nat} (r : Nat → Int64) (h : k < Z.1) : (wld Z V I J).set k (V.2.2 k, ent Z V.2.1 V.2.2 k (I k) r) = wld Z V I (uJ J k r) := by
  apply List.ext_getElem?
  intro a
  by_cases ha : a = k
  · subst ha
    rw [List.getElem?_set_self (by simp [wld, h]), wld_get h]
    simp [uJ]
  · rw [List.getElem?_set_ne (Ne.symm ha)]
    by_cases hz : a < Z.1
    · rw [wld_get hz, wld_get hz]
      simp [uJ, ha]
    · rw [List.getElem?_eq_none (by simp [wld]; omega), List.getElem?_eq_none (by simp [wld]; omega)]
/-- cell k is of kind c, and of length len -/
def okc (Z : Sh) (k c len : Nat) : Prop := k < Z.1 ∧ Z.2.1 k = c ∧ Z.2.2 k = len
theorem ent_o {Z : Sh} {cy : Nat → ClassId} {ad : Nat → Nat} {k c len : Nat} {i : Nat → Int32} {j : Nat → Int64} (h : okc Z k c len) (hc : c < 9) : ent Z cy ad k i j = .inr (c, flds c ad k i j) := by
  unfold ent; rw [h.2.1, if_pos hc]
theorem ent_i {Z : Sh} {cy : Nat → ClassId} {ad : Nat → Nat} {k len : Nat} {i : Nat → Int32} {j : Nat → Int64} (h : okc Z k 9 len) : ent Z cy ad k i j = .inl (cy 0, len, .inl i) := by
  unfold ent; rw [h.2.1, h.2.2]; rfl
theorem ent_j {Z : Sh} {cy : Nat → ClassId} {ad : Nat → Nat} {k len : Nat} {i : Nat → Int32} {j : Nat → Int64} (h : okc Z k 10 len) : ent Z cy ad k i j = .inl (cy 1, len, .inr (.inl j)) := by
  unfold ent; rw [h.2.1, h.2.2]; rfl
theorem ent_z {Z : Sh} {cy : Nat → ClassId} {ad : Nat → Nat} {k len : Nat} {i : Nat → Int32} {j : Nat → Int64} (h : okc Z k 11 len) : ent Z cy ad k i j = .inl (cy 2, len, .inl i) := by
  unfold ent; rw [h.2.1, h.2.2]; rfl
theorem ent_e {Z : Sh} {cy : Nat → ClassId} {ad : Nat → Nat} {k len : Nat} {i : Nat → Int32} {j : Nat → Int64} (h : okc Z k 12 len) : ent Z cy ad k i j = .inl (cy 3, len, .inr (.inr (.inr (.inr (fun x => some (ad (k + 1 + 2 * x))))))) := by
  unfold ent; rw [h.2.1, h.2.2]; rfl
theorem ent_g {Z : Sh} {cy : Nat → ClassId} {ad : Nat → Nat} {k len : Nat} {i : Nat → Int32} {j : Nat → Int64} (h : okc Z k 13 len) : ent Z cy ad k i j = .inl (cy 4, len, .inr (.inr (.inr (.inr (fun x => some (ad (k + 1 + x))))))) := by
  unfold ent; rw [h.2.1, h.2.2]; rfl
def Inj (Z : Sh) (V : VT) : Prop := ∀ i j, i < Z.1 → j < Z.1 → V.2.2 i = V.2.2 j → i = j
theorem wld_D {Z : Sh} {V : VT} (h : Inj Z V) (I : aI) (J : aJ) : va_D (vAd Z V) (wld Z V I J) := by
  have hl : ∀ (k : Nat) (q : Nat × va_E), (wld Z V I J)[k]? = some q → k < Z.1 ∧ q.1 = V.2.2 k := by
    intro k q hk
    by_cases hz : k < Z.1
    · rw [wld_get hz] at hk
      cases hk
      exact ⟨hz, rfl⟩
    · rw [List.getElem?_eq_none (by simp [wld]; omega)] at hk
      cases hk
  refine ⟨fun i j p q hi hj hpq => ?_, fun k q hk => ?_⟩
  · obtain ⟨a1, a2⟩ := hl i p hi
    obtain ⟨b1, b2⟩ := hl j q hj
    exact h i j a1 b1 (by rw [← a2, ← b2]; exact hpq)
  · obtain ⟨a1, a2⟩ := hl k q hk
    exact ⟨k, a1, a2⟩
def ndF (j : Nat) : Int32 := match j with
  | 0 => 1
  | 1 => 2
  | 2 => 1
  | 3 => 2
  | _ => 3
def ltF (j : Nat) : Int32 := match j with
  | 0 => 112
  | 1 => 116
  | 2 => 99
  | 3 => 104
  | _ => 100
def yIsWithin : MethodName := ⟨"ChimeVan", "isWithin", "(III)Z"⟩
def yHasBit : MethodName := ⟨"ChimeVan", "hasBit", "(II)Z"⟩
/-- what the start gives beside the tables' words: nest mates' links, the static row NEEDS (100), the text "ptchd" (101, its bytes 102) -/
def Fx (Z : Sh) (V : VT) (U : State) : Prop :=
  (va_Nw (.methodLinkNest "ChimeVan$Page" 59 yIsWithin "ChimeVan") U ∧ va_Nw (.methodLinkNest "ChimeVan$Town" 69 yHasBit "ChimeVan") U ∧ va_Nw (.methodLinkNest "ChimeVan$Evening" 37 yHasBit "ChimeVan") U ∧ va_Nw (.methodLinkNest "ChimeVan$RoundSearch" 54 yHasBit "ChimeVan") U) ∧
  (va_Z "ChimeVan$Folk" "NEEDS" "[I" (.ref (V.2.2 100)) (vAd Z V) U U.heap ∧ va_T .int (V.2.2 100) 5 (fun j => .int (ndF j)) (vAd Z V) U U.heap) ∧
  va_Z "java/lang/String" "COMPACT_STRINGS" "Z" (.int 1) (vAd Z V) U U.heap ∧ vk_R "ChimeVan$Page" 40 "ptchd" (V.2.2 101) U ∧
  va_O "java/lang/String" (V.2.2 101) (vAd Z V) U U.heap ∧ va_OF "java/lang/String" "coder" "B" (.int 0) (V.2.2 101) (vAd Z V) U U.heap ∧ va_OF "java/lang/String" "value" "[B" (.ref (V.2.2 102)) (V.2.2 101) (vAd Z V) U U.heap ∧ va_T .byte (V.2.2 102) 5 (fun j => .int (ltF j)) (vAd Z V) U U.heap
theorem Fx.go {Z : Sh} {V : VT} {s U : State} {H : Heap} (h : Fx Z V s) (hW : s.WarmedH U.vm) (hH : U.heap = H) (hq : ∀ a : Nat, a < s.heap.size → ¬ vAd Z V a → H[a]? = s.heap[a]?) : Fx Z V U := by
  subst hH
  obtain ⟨⟨a1, a2, a3, a4⟩, ⟨b1, b2⟩, c1, c2, c3, c4, c5, c6⟩ := h
  have hv := hW.alike
  exact ⟨⟨a1.warmM hW, a2.warmM hW, a3.warmM hW, a4.warmM hW⟩, ⟨(b1.moved hv).kept hq, (b2.moved hv).kept hq⟩, (c1.moved hv).kept hq, c2.warm hW, (c3.moved hv).kept hq, (c4.moved hv).kept hq, (c5.moved hv).kept hq, (c6.moved hv).kept hq⟩
theorem Fx.same {Z : Sh} {V : VT} {s U : State} (h : Fx Z V s) (hv : s.vm = U.vm) (hH : U.heap = s.heap) : Fx Z V U := by
  obtain ⟨⟨a1, a2, a3, a4⟩, ⟨b1, b2⟩, c1, c2, c3, c4, c5, c6⟩ := h
  have hl : s.vm.Alike U.vm := by rw [hv]; exact Vm.Alike.refl _
  have hq : ∀ a : Nat, a < s.heap.size → ¬ vAd Z V a → U.heap[a]? = s.heap[a]? := fun a _ _ => by rw [hH]
  exact ⟨⟨a1.same rfl hv, a2.same rfl hv, a3.same rfl hv, a4.same rfl hv⟩, ⟨(b1.moved hl).kept hq, (b2.moved hl).kept hq⟩, (c1.moved hl).kept hq, c2.same hv.symm, (c3.moved hl).kept hq, (c4.moved hl).kept hq, (c5.moved hl).kept hq, (c6.moved hl).kept hq⟩
/-- a method's start: the world -/
def cQ (Z : Sh) (V : VT) (I : aI) (J : aJ) (U : State) : Prop := va_P V.1 vwCl (wld Z V I J) U.heap ∧ va_K V.1 vwCl (vTy V) U ∧ Fx Z V U ∧ Inj Z V
theorem cQ.blind {Z : Sh} {V : VT} {I : aI} {J : aJ} {av : List Value} : FrameBlind (va_Pc av (cQ Z V I J)) := by
  intro a U g mk h
  obtain ⟨h1, h2, h3, h4, h5⟩ := h
  exact ⟨h1, h2, va_K.moved (u := U) (U := U.calling g mk a) (Vm.Alike.refl U.vm) h3, h4.same rfl rfl, h5⟩
abbrev RT (α : Type) : Type := α × aI × aJ
def QI (Z : Sh) (V : VT) (q : RT Int32) : Array Value → State → Outcome → State → Prop := va_Qi (fun r (_ : Unit) => r = q.1) (fun _ t => va_P V.1 vwCl (wld Z V q.2.1 q.2.2) t.heap) (vAd Z V)
def QL (Z : Sh) (V : VT) (q : RT Int64) : Array Value → State → Outcome → State → Prop := va_Ql (fun r (_ : Unit) => r = q.1) (fun _ t => va_P V.1 vwCl (wld Z V q.2.1 q.2.2) t.heap) (vAd Z V)
def QV (Z : Sh) (V : VT) (q : RT Unit) : Array Value → State → Outcome → State → Prop := va_Qv (fun (_ : Unit) => True) (fun _ t => va_P V.1 vwCl (wld Z V q.2.1 q.2.2) t.heap) (vAd Z V)
abbrev MT : Type := Program × Launch × Env × Room × State × MethodId × Array Value × List Frame × Method × Code × (State → Prop)
/-- the machine in a method of ours: its code cc of nL locals, class own, answer ret, d frames below -/
def Cx (M : MT) (Z : Sh) (V : VT) (cc : ByteArray) (nL : Nat) (own : String) (ret : Option FieldType) (d : Nat) : Prop := match M with
  | (p, _, _, R, s, m, args, _, meth, c, _) => p.tables.exec = Jvm.exec ∧ c.code = cc ∧ c.maxLocals = nL ∧ s.vm.findClass own = some m.cls ∧ (∀ w ∈ GG, w.before args s = true) ∧ meth.sig.returnType = ret ∧ meth.locks = false ∧ R = rmD d ∧ va_K V.1 vwCl (vTy V) s ∧ Fx Z V s ∧ Inj Z V
def PI (M : MT) (Z : Sh) (V : VT) (q : RT Int32) : Prop := match M with
  | (_, _, _, _, s, _, args, below, _, _, Q) => Q = MQ below (QI Z V q) args s 0 0 (vAd Z V)
def PL (M : MT) (Z : Sh) (V : VT) (q : RT Int64) : Prop := match M with
  | (_, _, _, _, s, _, args, below, _, _, Q) => Q = MQ below (QL Z V q) args s 0 0 (vAd Z V)
def PV (M : MT) (Z : Sh) (V : VT) (q : RT Unit) : Prop := match M with
  | (_, _, _, _, s, _, args, below, _, _, Q) => Q = MQ below (QV Z V q) args s 0 0 (vAd Z V)
/-- from here, with these locals and this stack and the world I, J, the machine comes to its end -/
def Wg (M : MT) (Z : Sh) (V : VT) (nL : Nat) (I : aI) (J : aJ) (pc : Nat) (lv : List (Nat × Value)) (st : List Value) : Prop := match M with
  | (p, l, e, R, s, m, args, below, meth, c, Q) => ∀ (H : Heap) (locs : List Loc) (ls : Array Slot), va_P V.1 vwCl (wld Z V I J) H → va_S (vAd Z V) s.heap H locs → lv_has ls nL lv → W p l e R s m args below meth c H locs 0 0 Q (F0 m pc ls st)
section GR
variable {M : MT} {Z : Sh} {V : VT} {cc : ByteArray} {nL : Nat} {own : String} {ret : Option FieldType} {d : Nat} {I : aI} {J : aJ} {pc : Nat} {lv lv' : List (Nat × Value)} {st : List Value}
theorem g_sub (ks : List Nat) (h : lv_pick lv ks = lv') (k : Wg M Z V nL I J pc lv' st) : Wg M Z V nL I J pc lv st := fun H locs ls hP hS hl => k H locs ls hP hS (lv_sub hl ks h)
theorem g_iconst (X : Cx M Z V cc nL own ret d) {n : Int} {v : Int32} (hd : decode cc pc = .ok (.iconst n, 1)) (hv : Int32.ofInt n = v) (k : Wg M Z V nL I J (pc + 1) lv (.int v :: st)) : Wg M Z V nL I J pc lv st := fun H locs ls hP hS hl => lv_iconst X.1 X.2.1 hd hv (k H locs ls hP hS hl)
theorem g_bipush (X : Cx M Z V cc nL own ret d) {n : Int} {v : Int32} (hd : decode cc pc = .ok (.bipush n, 2)) (hv : (Int8.ofInt n).toInt32 = v) (k : Wg M Z V nL I J (pc + 2) lv (.int v :: st)) : Wg M Z V nL I J pc lv st := fun H locs ls hP hS hl => lv_bipush X.1 X.2.1 hd hv (k H locs ls hP hS hl)
theorem g_sipush (X : Cx M Z V cc nL own ret d) {n : Int} {v : Int32} (hd : decode cc pc = .ok (.sipush n, 3)) (hv : (Int16.ofInt n).toInt32 = v) (k : Wg M Z V nL I J (pc + 3) lv (.int v :: st)) : Wg M Z V nL I J pc lv st := fun H locs ls hP hS hl => lv_sipush X.1 X.2.1 hd hv (k H locs ls hP hS hl)
theorem g_lconst (X : Cx M Z V cc nL own ret d) {n : Fin 2} {v : Int64} (hd : decode cc pc = .ok (.lconst n, 1)) (hv : Int64.ofNat (n : Nat) = v) (k : Wg M Z V nL I J (pc + 1) lv (.long v :: st)) : Wg M Z V nL I J pc lv st := fun H locs ls hP hS hl => lv_lconst X.1 X.2.1 hd hv (k H locs ls hP hS hl)
theorem g_ldc (X : Cx M Z V cc nL own ret d) {x : Nat} {v : Int32} (hd : decode cc pc = .ok (.ldc x, 2)) (hw : Cond.constant own x v ∈ GG) (k : Wg M Z V nL I J (pc + 2) lv (.int v :: st)) : Wg M Z V nL I J pc lv st := fun H locs ls hP hS hl => lv_ldc X.1 X.2.1 X.2.2.2.1 (X.2.2.2.2.1 _ hw) hd (k H locs ls hP hS hl)
theorem g_ldcw (X : Cx M Z V cc nL own ret d) {x : Nat} {v : Int32} (hd : decode cc pc = .ok (.ldc_w x, 3)) (hw : Cond.constant own x v ∈ GG) (k : Wg M Z V nL I J (pc + 3) lv (.int v :: st)) : Wg M Z V nL I J pc lv st := fun H locs ls hP hS hl => lv_ldcw X.1 X.2.1 X.2.2.2.1 (X.2.2.2.2.1 _ hw) hd (k H locs ls hP hS hl)
theorem g_ldc2 (X : Cx M Z V cc nL own ret d) {x : Nat} {v : Int64} (hd : decode cc pc = .ok (.ldc2_w x, 3)) (hw : Cond.constantLong own x v ∈ GG) (k : Wg M Z V nL I J (pc + 3) lv (.long v :: st)) : Wg M Z V nL I J pc lv st := fun H locs ls hP hS hl => lv_ldc2 X.1 X.2.1 X.2.2.2.1 (X.2.2.2.2.1 _ hw) hd (k H locs ls hP hS hl)
theorem g_iload_n (X : Cx M Z V cc nL own ret d) {n : Fin 4} {x : Int32} (hd : decode cc pc = .ok (.iload_n n, 1)) (q : Nat) (hq : lv[q]? = some ((n : Nat), .int x)) (k : Wg M Z V nL I J (pc + 1) lv (.int x :: st)) : Wg M Z V nL I J pc lv st := fun H locs ls hP hS hl => lv_iload_n X.1 X.2.1 hd rfl (lv_at hl q hq) (k H locs ls hP hS hl)
theorem g_iload (X : Cx M Z V cc nL own ret d) {n : Nat} {x : Int32} (hd : decode cc pc = .ok (.iload n, 2)) (q : Nat) (hq : lv[q]? = some (n, .int x)) (k : Wg M Z V nL I J (pc + 2) lv (.int x :: st)) : Wg M Z V nL I J pc lv st := fun H locs ls hP hS hl => lv_iload X.1 X.2.1 hd (lv_at hl q hq) (k H locs ls hP hS hl)
theorem g_lload_n (X : Cx M Z V cc nL own ret d) {n : Fin 4} {x : Int64} (hd : decode cc pc = .ok (.lload_n n, 1)) (q : Nat) (hq : lv[q]? = some ((n : Nat), .long x)) (k : Wg M Z V nL I J (pc + 1) lv (.long x :: st)) : Wg M Z V nL I J pc lv st := fun H locs ls hP hS hl => lv_lload_n X.1 X.2.1 hd rfl (lv_at hl q hq) (k H locs ls hP hS hl)
theorem g_lload (X : Cx M Z V cc nL own ret d) {n : Nat} {x : Int64} (hd : decode cc pc = .ok (.lload n, 2)) (q : Nat) (hq : lv[q]? = some (n, .long x)) (k : Wg M Z V nL I J (pc + 2) lv (.long x :: st)) : Wg M Z V nL I J pc lv st := fun H locs ls hP hS hl => lv_lload X.1 X.2.1 hd (lv_at hl q hq) (k H locs ls hP hS hl)
theorem g_aload_n (X : Cx M Z V cc nL own ret d) {n : Fin 4} {x : Nat} (hd : decode cc pc = .ok (.aload_n n, 1)) (q : Nat) (hq : lv[q]? = some ((n : Nat), .ref x)) (k : Wg M Z V nL I J (pc + 1) lv (.ref x :: st)) : Wg M Z V nL I J pc lv st := fun H locs ls hP hS hl => lv_aload_n X.1 X.2.1 hd rfl (lv_at hl q hq) (k H locs ls hP hS hl)
theorem g_aload (X : Cx M Z V cc nL own ret d) {n : Nat} {x : Nat} (hd : decode cc pc = .ok (.aload n, 2)) (q : Nat) (hq : lv[q]? = some (n, .ref x)) (k : Wg M Z V nL I J (pc + 2) lv (.ref x :: st)) : Wg M Z V nL I J pc lv st := fun H locs ls hP hS hl => lv_aload X.1 X.2.1 hd (lv_at hl q hq) (k H locs ls hP hS hl)
/-- the locals behind a store of one word, of two -/
def lvS1 (i : Nat) (v : Value) (lv : List (Nat × Value)) : List (Nat × Value) := (i, v) :: lv.filter (fun q => !(q.1 == i) && !(q.1 + 1 == i && q.2.category == 2))
def lvS2 (i : Nat) (v : Value) (lv : List (Nat × Value)) : List (Nat × Value) := (i, v) :: lv.filter (fun q => !(q.1 == i) && (!(q.1 == i + 1) && !(q.1 + 1 == i && q.2.category == 2)))
theorem g_istore_n (X : Cx M Z V cc nL own ret d) {n : Fin 4} {x : Int32} (hd : decode cc pc = .ok (.istore_n n, 1)) (hn : (n : Nat) < nL) (lv' : List (Nat × Value)) (hl' : lvS1 (n : Nat) (.int x) lv = lv') (k : Wg M Z V nL I J (pc + 1) lv' st) : Wg M Z V nL I J pc lv (.int x :: st) := fun H locs ls hP hS hl => lv_istore_n X.1 X.2.1 hd rfl hl hn hl' (fun ls hl => k H locs ls hP hS hl)
theorem g_istore (X : Cx M Z V cc nL own ret d) {n : Nat} {x : Int32} (hd : decode cc pc = .ok (.istore n, 2)) (hn : n < nL) (lv' : List (Nat × Value)) (hl' : lvS1 n (.int x) lv = lv') (k : Wg M Z V nL I J (pc + 2) lv' st) : Wg M Z V nL I J pc lv (.int x :: st) := fun H locs ls hP hS hl => lv_istore X.1 X.2.1 hd hl hn hl' (fun ls hl => k H locs ls hP hS hl)
theorem g_lstore_n (X : Cx M Z V cc nL own ret d) {n : Fin 4} {x : Int64} (hd : decode cc pc = .ok (.lstore_n n, 1)) (hn : (n : Nat) + 1 < nL) (lv' : List (Nat × Value)) (hl' : lvS2 (n : Nat) (.long x) lv = lv') (k : Wg M Z V nL I J (pc + 1) lv' st) : Wg M Z V nL I J pc lv (.long x :: st) := fun H locs ls hP hS hl => lv_lstore_n X.1 X.2.1 hd rfl hl hn hl' (fun ls hl => k H locs ls hP hS hl)
theorem g_lstore (X : Cx M Z V cc nL own ret d) {n : Nat} {x : Int64} (hd : decode cc pc = .ok (.lstore n, 2)) (hn : n + 1 < nL) (lv' : List (Nat × Value)) (hl' : lvS2 n (.long x) lv = lv') (k : Wg M Z V nL I J (pc + 2) lv' st) : Wg M Z V nL I J pc lv (.long x :: st) := fun H locs ls hP hS hl => lv_lstore X.1 X.2.1 hd hl hn hl' (fun ls hl => k H locs ls hP hS hl)
theorem g_astore_n (X : Cx M Z V cc nL own ret d) {n : Fin 4} {x : Nat} (hd : decode cc pc = .ok (.astore_n n, 1)) (hn : (n : Nat) < nL) (lv' : List (Nat × Value)) (hl' : lvS1 (n : Nat) (.ref x) lv = lv') (k : Wg M Z V nL I J (pc + 1) lv' st) : Wg M Z V nL I J pc lv (.ref x :: st) := fun H locs ls hP hS hl => lv_astore_n X.1 X.2.1 hd rfl hl hn hl' (fun ls hl => k H locs ls hP hS hl)
theorem g_astore (X : Cx M Z V cc nL own ret d) {n : Nat} {x : Nat} (hd : decode cc pc = .ok (.astore n, 2)) (hn : n < nL) (lv' : List (Nat × Value)) (hl' : lvS1 n (.ref x) lv = lv') (k : Wg M Z V nL I J (pc + 2) lv' st) : Wg M Z V nL I J pc lv (.ref x :: st) := fun H locs ls hP hS hl => lv_astore X.1 X.2.1 hd hl hn hl' (fun ls hl => k H locs ls hP hS hl)
theorem g_iinc (X : Cx M Z V cc nL own ret d) {i : Nat} {n : Int} {x : Int32} (hd : decode cc pc = .ok (.iinc i n, 3)) (q : Nat) (hq : lv[q]? = some (i, .int x)) (v : Int32) (hv : Int32.ofInt n = v) (hn : i < nL) (lv' : List (Nat × Value)) (hl' : lvS1 i (.int (x + v)) lv = lv') (k : Wg M Z V nL I J (pc + 3) lv' st) : Wg M Z V nL I J pc lv st := fun H locs ls hP hS hl => lv_iinc X.1 X.2.1 hd hl hq (by rw [hv]) hn hl' (fun ls hl => k H locs ls hP hS hl)
theorem g_iadd (X : Cx M Z V cc nL own ret d) {x y : Int32} (hd : decode cc pc = .ok (.iadd, 1)) (k : Wg M Z V nL I J (pc + 1) lv (.int (x + y) :: st)) : Wg M Z V nL I J pc lv (.int y :: .int x :: st) := fun H locs ls hP hS hl => lv_iadd X.1 X.2.1 hd (k H locs ls hP hS hl)
theorem g_isub (X : Cx M Z V cc nL own ret d) {x y : Int32} (hd : decode cc pc = .ok (.isub, 1)) (k : Wg M Z V nL I J (pc + 1) lv (.int (x - y) :: st)) : Wg M Z V nL I J pc lv (.int y :: .int x :: st) := fun H locs ls hP hS hl => lv_isub X.1 X.2.1 hd (k H locs ls hP hS hl)
theorem g_imul (X : Cx M Z V cc nL own ret d) {x y : Int32} (hd : decode cc pc = .ok (.imul, 1)) (k : Wg M Z V nL I J (pc + 1) lv (.int (x * y) :: st)) : Wg M Z V nL I J pc lv (.int y :: .int x :: st) := fun H locs ls hP hS hl => lv_imul X.1 X.2.1 hd (k H locs ls hP hS hl)
theorem g_iand (X : Cx M Z V cc nL own ret d) {x y : Int32} (hd : decode cc pc = .ok (.iand, 1)) (k : Wg M Z V nL I J (pc + 1) lv (.int (x &&& y) :: st)) : Wg M Z V nL I J pc lv (.int y :: .int x :: st) := fun H locs ls hP hS hl => lv_iand X.1 X.2.1 hd (k H locs ls hP hS hl)
theorem g_ior (X : Cx M Z V cc nL own ret d) {x y : Int32} (hd : decode cc pc = .ok (.ior, 1)) (k : Wg M Z V nL I J (pc + 1) lv (.int (x ||| y) :: st)) : Wg M Z V nL I J pc lv (.int y :: .int x :: st) := fun H locs ls hP hS hl => lv_ior X.1 X.2.1 hd (k H locs ls hP hS hl)
theorem g_ixor (X : Cx M Z V cc nL own ret d) {x y : Int32} (hd : decode cc pc = .ok (.ixor, 1)) (k : Wg M Z V nL I J (pc + 1) lv (.int (x ^^^ y) :: st)) : Wg M Z V nL I J pc lv (.int y :: .int x :: st) := fun H locs ls hP hS hl => lv_ixor X.1 X.2.1 hd (k H locs ls hP hS hl)
theorem g_idiv (X : Cx M Z V cc nL own ret d) {x y : Int32} (hd : decode cc pc = .ok (.idiv, 1)) (hne : ¬ y = 0) (k : Wg M Z V nL I J (pc + 1) lv (.int (x / y) :: st)) : Wg M Z V nL I J pc lv (.int y :: .int x :: st) := fun H locs ls hP hS hl => lv_idiv X.1 X.2.1 hd hne (k H locs ls hP hS hl)
theorem g_irem (X : Cx M Z V cc nL own ret d) {x y : Int32} (hd : decode cc pc = .ok (.irem, 1)) (hne : ¬ y = 0) (k : Wg M Z V nL I J (pc + 1) lv (.int (x - x / y * y) :: st)) : Wg M Z V nL I J pc lv (.int y :: .int x :: st) := fun H locs ls hP hS hl => lv_irem X.1 X.2.1 hd hne (k H locs ls hP hS hl)
theorem g_ishl (X : Cx M Z V cc nL own ret d) {x y : Int32} (hd : decode cc pc = .ok (.ishl, 1)) (k : Wg M Z V nL I J (pc + 1) lv (.int (x <<< (y &&& 31)) :: st)) : Wg M Z V nL I J pc lv (.int y :: .int x :: st) := fun H locs ls hP hS hl => lv_ishl X.1 X.2.1 hd (k H locs ls hP hS hl)
theorem g_ishr (X : Cx M Z V cc nL own ret d) {x y : Int32} (hd : decode cc pc = .ok (.ishr, 1)) (k : Wg M Z V nL I J (pc + 1) lv (.int (x >>> (y &&& 31)) :: st)) : Wg M Z V nL I J pc lv (.int y :: .int x :: st) := fun H locs ls hP hS hl => lv_ishr X.1 X.2.1 hd (k H locs ls hP hS hl)
theorem g_iushr (X : Cx M Z V cc nL own ret d) {x y : Int32} (hd : decode cc pc = .ok (.iushr, 1)) (k : Wg M Z V nL I J (pc + 1) lv (.int (x.toUInt32 >>> (y.toUInt32 &&& Int32.toUInt32 31)).toInt32 :: st)) : Wg M Z V nL I J pc lv (.int y :: .int x :: st) := fun H locs ls hP hS hl => lv_iushr X.1 X.2.1 hd rfl (k H locs ls hP hS hl)
theorem g_ladd (X : Cx M Z V cc nL own ret d) {x y : Int64} (hd : decode cc pc = .ok (.ladd, 1)) (k : Wg M Z V nL I J (pc + 1) lv (.long (x + y) :: st)) : Wg M Z V nL I J pc lv (.long y :: .long x :: st) := fun H locs ls hP hS hl => lv_ladd X.1 X.2.1 hd (k H locs ls hP hS hl)
theorem g_lsub (X : Cx M Z V cc nL own ret d) {x y : Int64} (hd : decode cc pc = .ok (.lsub, 1)) (k : Wg M Z V nL I J (pc + 1) lv (.long (x - y) :: st)) : Wg M Z V nL I J pc lv (.long y :: .long x :: st) := fun H locs ls hP hS hl => lv_lsub X.1 X.2.1 hd (k H locs ls hP hS hl)
theorem g_lmul (X : Cx M Z V cc nL own ret d) {x y : Int64} (hd : decode cc pc = .ok (.lmul, 1)) (k : Wg M Z V nL I J (pc + 1) lv (.long (x * y) :: st)) : Wg M Z V nL I J pc lv (.long y :: .long x :: st) := fun H locs ls hP hS hl => lv_lmul X.1 X.2.1 hd (k H locs ls hP hS hl)
theorem g_land (X : Cx M Z V cc nL own ret d) {x y : Int64} (hd : decode cc pc = .ok (.land, 1)) (k : Wg M Z V nL I J (pc + 1) lv (.long (x &&& y) :: st)) : Wg M Z V nL I J pc lv (.long y :: .long x :: st) := fun H locs ls hP hS hl => lv_land X.1 X.2.1 hd (k H locs ls hP hS hl)
theorem g_ldiv (X : Cx M Z V cc nL own ret d) {x y : Int64} (hd : decode cc pc = .ok (.ldiv, 1)) (hne : ¬ y = 0) (k : Wg M Z V nL I J (pc + 1) lv (.long (x / y) :: st)) : Wg M Z V nL I J pc lv (.long y :: .long x :: st) := fun H locs ls hP hS hl => lv_ldiv X.1 X.2.1 hd hne (k H locs ls hP hS hl)
theorem g_lrem (X : Cx M Z V cc nL own ret d) {x y : Int64} (hd : decode cc pc = .ok (.lrem, 1)) (hne : ¬ y = 0) (k : Wg M Z V nL I J (pc + 1) lv (.long (x - x / y * y) :: st)) : Wg M Z V nL I J pc lv (.long y :: .long x :: st) := fun H locs ls hP hS hl => lv_lrem X.1 X.2.1 hd hne (k H locs ls hP hS hl)
theorem g_i2l (X : Cx M Z V cc nL own ret d) {x : Int32} (hd : decode cc pc = .ok (.i2l, 1)) (k : Wg M Z V nL I J (pc + 1) lv (.long x.toInt64 :: st)) : Wg M Z V nL I J pc lv (.int x :: st) := fun H locs ls hP hS hl => lv_i2l X.1 X.2.1 hd rfl (k H locs ls hP hS hl)
theorem g_l2i (X : Cx M Z V cc nL own ret d) {x : Int64} (hd : decode cc pc = .ok (.l2i, 1)) (k : Wg M Z V nL I J (pc + 1) lv (.int x.toInt32 :: st)) : Wg M Z V nL I J pc lv (.long x :: st) := fun H locs ls hP hS hl => lv_l2i X.1 X.2.1 hd rfl (k H locs ls hP hS hl)
theorem g_i2c (X : Cx M Z V cc nL own ret d) {x : Int32} (hd : decode cc pc = .ok (.i2c, 1)) (k : Wg M Z V nL I J (pc + 1) lv (.int (x.toUInt32 % 65536).toInt32 :: st)) : Wg M Z V nL I J pc lv (.int x :: st) := fun H locs ls hP hS hl => lv_i2c X.1 X.2.1 hd rfl (k H locs ls hP hS hl)
theorem g_lcmp (X : Cx M Z V cc nL own ret d) {x y : Int64} (hd : decode cc pc = .ok (.lcmp, 1)) (k : Wg M Z V nL I J (pc + 1) lv (.int (lg_cmp x y) :: st)) : Wg M Z V nL I J pc lv (.long y :: .long x :: st) := fun H locs ls hP hS hl => W.lcmp X.1 X.2.1 hd (k H locs ls hP hS hl)
theorem g_dup (X : Cx M Z V cc nL own ret d) {v : Value} (hd : decode cc pc = .ok (.dup, 1)) (hc : v.category = 1) (k : Wg M Z V nL I J (pc + 1) lv (v :: v :: st)) : Wg M Z V nL I J pc lv (v :: st) := fun H locs ls hP hS hl => lv_dup X.1 X.2.1 hd hc (k H locs ls hP hS hl)
theorem g_pop (X : Cx M Z V cc nL own ret d) {v : Value} (hd : decode cc pc = .ok (.pop, 1)) (hc : v.category = 1) (k : Wg M Z V nL I J (pc + 1) lv st) : Wg M Z V nL I J pc lv (v :: st) := fun H locs ls hP hS hl => lv_pop X.1 X.2.1 hd hc (k H locs ls hP hS hl)
theorem g_dup_x1 (X : Cx M Z V cc nL own ret d) {v w : Value} (hd : decode cc pc = .ok (.dup_x1, 1)) (hc : v.category = 1) (hw : w.category = 1) (k : Wg M Z V nL I J (pc + 1) lv (v :: w :: v :: st)) : Wg M Z V nL I J pc lv (v :: w :: st) := fun H locs ls hP hS hl => lv_dup_x1 X.1 X.2.1 hd hc hw (k H locs ls hP hS hl)
theorem g_dup2 (X : Cx M Z V cc nL own ret d) {v w : Value} (hd : decode cc pc = .ok (.dup2, 1)) (hc : v.category = 1) (hw : w.category = 1) (k : Wg M Z V nL I J (pc + 1) lv (v :: w :: v :: w :: st)) : Wg M Z V nL I J pc lv (v :: w :: st) := fun H locs ls hP hS hl => lv_dup2_11 X.1 X.2.1 hd hc hw (k H locs ls hP hS hl)
theorem g_goto (X : Cx M Z V cc nL own ret d) {off : Int} {tgt : Nat} (hd : decode cc pc = .ok (.goto off, 3)) (ht : (pc : Int) + off = (tgt : Int)) (k : Wg M Z V nL I J tgt lv st) : Wg M Z V nL I J pc lv st := fun H locs ls hP hS hl => lv_goto X.1 X.2.1 hd ht (k H locs ls hP hS hl)
theorem g_if_eq (X : Cx M Z V cc nL own ret d) {x : Int32} {off : Int} {tgt : Nat} (hd : decode cc pc = .ok (.ifCond .eq off, 3)) (ht : (pc : Int) + off = (tgt : Int)) (kt : x = 0 → Wg M Z V nL I J tgt lv st) (kf : ¬ x = 0 → Wg M Z V nL I J (pc + 3) lv st) : Wg M Z V nL I J pc lv (.int x :: st) := fun H locs ls hP hS hl => lv_if_eq X.1 X.2.1 hd ht (fun h => kt h H locs ls hP hS hl) (fun h => kf h H locs ls hP hS hl)
theorem g_icmp_eq (X : Cx M Z V cc nL own ret d) {x y : Int32} {off : Int} {tgt : Nat} (hd : decode cc pc = .ok (.if_icmp .eq off, 3)) (ht : (pc : Int) + off = (tgt : Int)) (kt : x = y → Wg M Z V nL I J tgt lv st) (kf : ¬ x = y → Wg M Z V nL I J (pc + 3) lv st) : Wg M Z V nL I J pc lv (.int y :: .int x :: st) := fun H locs ls hP hS hl => lv_icmp_eq X.1 X.2.1 hd ht (fun h => kt h H locs ls hP hS hl) (fun h => kf h H locs ls hP hS hl)
theorem g_if_ne (X : Cx M Z V cc nL own ret d) {x : Int32} {off : Int} {tgt : Nat} (hd : decode cc pc = .ok (.ifCond .ne off, 3)) (ht : (pc : Int) + off = (tgt : Int)) (kt : ¬ x = 0 → Wg M Z V nL I J tgt lv st) (kf : x = 0 → Wg M Z V nL I J (pc + 3) lv st) : Wg M Z V nL I J pc lv (.int x :: st) := fun H locs ls hP hS hl => lv_if_ne X.1 X.2.1 hd ht (fun h => kt h H locs ls hP hS hl) (fun h => kf h H locs ls hP hS hl)
theorem g_icmp_ne (X : Cx M Z V cc nL own ret d) {x y : Int32} {off : Int} {tgt : Nat} (hd : decode cc pc = .ok (.if_icmp .ne off, 3)) (ht : (pc : Int) + off = (tgt : Int)) (kt : ¬ x = y → Wg M Z V nL I J tgt lv st) (kf : x = y → Wg M Z V nL I J (pc + 3) lv st) : Wg M Z V nL I J pc lv (.int y :: .int x :: st) := fun H locs ls hP hS hl => lv_icmp_ne X.1 X.2.1 hd ht (fun h => kt h H locs ls hP hS hl) (fun h => kf h H locs ls hP hS hl)
theorem g_if_lt (X : Cx M Z V cc nL own ret d) {x : Int32} {off : Int} {tgt : Nat} (hd : decode cc pc = .ok (.ifCond .lt off, 3)) (ht : (pc : Int) + off = (tgt : Int)) (kt : x < 0 → Wg M Z V nL I J tgt lv st) (kf : ¬ x < 0 → Wg M Z V nL I J (pc + 3) lv st) : Wg M Z V nL I J pc lv (.int x :: st) := fun H locs ls hP hS hl => lv_if_lt X.1 X.2.1 hd ht (fun h => kt h H locs ls hP hS hl) (fun h => kf h H locs ls hP hS hl)
theorem g_icmp_lt (X : Cx M Z V cc nL own ret d) {x y : Int32} {off : Int} {tgt : Nat} (hd : decode cc pc = .ok (.if_icmp .lt off, 3)) (ht : (pc : Int) + off = (tgt : Int)) (kt : x < y → Wg M Z V nL I J tgt lv st) (kf : ¬ x < y → Wg M Z V nL I J (pc + 3) lv st) : Wg M Z V nL I J pc lv (.int y :: .int x :: st) := fun H locs ls hP hS hl => lv_icmp_lt X.1 X.2.1 hd ht (fun h => kt h H locs ls hP hS hl) (fun h => kf h H locs ls hP hS hl)
theorem g_if_ge (X : Cx M Z V cc nL own ret d) {x : Int32} {off : Int} {tgt : Nat} (hd : decode cc pc = .ok (.ifCond .ge off, 3)) (ht : (pc : Int) + off = (tgt : Int)) (kt : 0 ≤ x → Wg M Z V nL I J tgt lv st) (kf : ¬ 0 ≤ x → Wg M Z V nL I J (pc + 3) lv st) : Wg M Z V nL I J pc lv (.int x :: st) := fun H locs ls hP hS hl => lv_if_ge X.1 X.2.1 hd ht (fun h => kt h H locs ls hP hS hl) (fun h => kf h H locs ls hP hS hl)
theorem g_icmp_ge (X : Cx M Z V cc nL own ret d) {x y : Int32} {off : Int} {tgt : Nat} (hd : decode cc pc = .ok (.if_icmp .ge off, 3)) (ht : (pc : Int) + off = (tgt : Int)) (kt : y ≤ x → Wg M Z V nL I J tgt lv st) (kf : ¬ y ≤ x → Wg M Z V nL I J (pc + 3) lv st) : Wg M Z V nL I J pc lv (.int y :: .int x :: st) := fun H locs ls hP hS hl => lv_icmp_ge X.1 X.2.1 hd ht (fun h => kt h H locs ls hP hS hl) (fun h => kf h H locs ls hP hS hl)
theorem g_if_gt (X : Cx M Z V cc nL own ret d) {x : Int32} {off : Int} {tgt : Nat} (hd : decode cc pc = .ok (.ifCond .gt off, 3)) (ht : (pc : Int) + off = (tgt : Int)) (kt : 0 < x → Wg M Z V nL I J tgt lv st) (kf : ¬ 0 < x → Wg M Z V nL I J (pc + 3) lv st) : Wg M Z V nL I J pc lv (.int x :: st) := fun H locs ls hP hS hl => lv_if_gt X.1 X.2.1 hd ht (fun h => kt h H locs ls hP hS hl) (fun h => kf h H locs ls hP hS hl)
theorem g_icmp_gt (X : Cx M Z V cc nL own ret d) {x y : Int32} {off : Int} {tgt : Nat} (hd : decode cc pc = .ok (.if_icmp .gt off, 3)) (ht : (pc : Int) + off = (tgt : Int)) (kt : y < x → Wg M Z V nL I J tgt lv st) (kf : ¬ y < x → Wg M Z V nL I J (pc + 3) lv st) : Wg M Z V nL I J pc lv (.int y :: .int x :: st) := fun H locs ls hP hS hl => lv_icmp_gt X.1 X.2.1 hd ht (fun h => kt h H locs ls hP hS hl) (fun h => kf h H locs ls hP hS hl)
theorem g_if_le (X : Cx M Z V cc nL own ret d) {x : Int32} {off : Int} {tgt : Nat} (hd : decode cc pc = .ok (.ifCond .le off, 3)) (ht : (pc : Int) + off = (tgt : Int)) (kt : x ≤ 0 → Wg M Z V nL I J tgt lv st) (kf : ¬ x ≤ 0 → Wg M Z V nL I J (pc + 3) lv st) : Wg M Z V nL I J pc lv (.int x :: st) := fun H locs ls hP hS hl => lv_if_le X.1 X.2.1 hd ht (fun h => kt h H locs ls hP hS hl) (fun h => kf h H locs ls hP hS hl)
theorem g_icmp_le (X : Cx M Z V cc nL own ret d) {x y : Int32} {off : Int} {tgt : Nat} (hd : decode cc pc = .ok (.if_icmp .le off, 3)) (ht : (pc : Int) + off = (tgt : Int)) (kt : x ≤ y → Wg M Z V nL I J tgt lv st) (kf : ¬ x ≤ y → Wg M Z V nL I J (pc + 3) lv st) : Wg M Z V nL I J pc lv (.int y :: .int x :: st) := fun H locs ls hP hS hl => lv_icmp_le X.1 X.2.1 hd ht (fun h => kt h H locs ls hP hS hl) (fun h => kf h H locs ls hP hS hl)
end GR
