theorem GG_ok {w : Cond} (h : w ∈ GG) : goodWord w = true := (List.mem_filter.mp h).2
theorem GG_in {w : Cond} (h : w ∈ lw_tbl) (hg : goodWord w = true) : w ∈ GG := List.mem_filter.mpr ⟨h, hg⟩
theorem GG_self {w : Cond} (h : w ∈ GG) : GoodIn GG (w :: GG) := by
  intro u hu
  rcases List.mem_cons.mp hu with rfl | hu
  · exact ⟨h, good_of_word (GG_ok h)⟩
  · exact ⟨hu, good_of_word (GG_ok hu)⟩
/-- the words of a call of an instance method; of a static one; the depth -/
def cwk (own : String) (x : Nat) (C : String) (y : MethodName) (b : ByteArray) (nl : Nat) (rt : Option FieldType) (n : Nat) : Prop :=
  Cond.methodLink own x y ∈ GG ∧ Cond.instanceMethod y ∈ GG ∧ Cond.selects C y y ∈ GG ∧ Cond.initialized C ∈ GG ∧ Cond.code y b nl rt ∈ GG ∧ (y.cls = C ∧ y.cls ≠ "java/lang/invoke/MethodHandle" ∧ y.cls ≠ "java/lang/invoke/VarHandle" ∧ (parseMethodDescriptor y.desc).map (fun d => d.parameters.length) = some n) ∧ nl ≤ 21
def swk (own : String) (x : Nat) (y : MethodName) (b : ByteArray) (nl : Nat) (rt : Option FieldType) (n : Nat) : Prop :=
  Cond.methodLink own x y ∈ GG ∧ Cond.static y ∈ GG ∧ Cond.initialized y.cls ∈ GG ∧ Cond.code y b nl rt ∈ GG ∧ (y.cls ≠ "java/lang/invoke/MethodHandle" ∧ y.cls ≠ "java/lang/invoke/VarHandle" ∧ (parseMethodDescriptor y.desc).map (fun d => d.parameters.length) = some n) ∧ nl ≤ 21
def nwk (y : MethodName) (b : ByteArray) (nl : Nat) (rt : Option FieldType) (n : Nat) : Prop :=
  Cond.static y ∈ GG ∧ Cond.initialized y.cls ∈ GG ∧ Cond.code y b nl rt ∈ GG ∧ (y.cls ≠ "java/lang/invoke/MethodHandle" ∧ y.cls ≠ "java/lang/invoke/VarHandle" ∧ (parseMethodDescriptor y.desc).map (fun d => d.parameters.length) = some n) ∧ nl ≤ 21
theorem rm_ok {d' d nl : Nat} (h : d' + 1 ≤ d) (hn : nl ≤ 21) : (rmD d').frames + 1 ≤ (rmD d).frames ∧ 8 + (nl + 11) + (rmD d').locals ≤ (rmD d).locals := by
  simp only [rmD]; omega
section GC
variable {M : MT} {Z : Sh} {V : VT} {cc : ByteArray} {nL : Nat} {own : String} {ret : Option FieldType} {d : Nat} {I : aI} {J : aJ} {pc : Nat} {lv lv' : List (Nat × Value)} {st st0 : List Value}
theorem g_callV (X : Cx M Z V cc nL own ret d) {x : Nat} (hd : decode cc pc = .ok (.invokevirtual x, 3)) {C : String} {y : MethodName} {b : ByteArray} {nl n : Nat} {rt : Option FieldType} (hw : cwk own x C y b nl rt n) {k : Nat} {As : List Value} (hrec : ∀ s H locs, va_K V.1 vwCl (vTy V) s → Fx Z V s → va_P V.1 vwCl (wld Z V I J) H → va_S (vAd Z V) s.heap H locs → ∃ cellB : Cell, H[V.2.2 k]? = some cellB ∧ cellB.vm.isStatics = false ∧ s.vm.findClass C = some cellB.cls) (hn : As.length = n) (hst : st0 = As.reverse ++ .ref (V.2.2 k) :: st) (hcat : (st.map fun v => v.category).sum ≤ 8) {d' : Nat} (hdd : d' + 1 ≤ d)
    {Qc : Array Value → State → Outcome → State → Prop} (hM : Met M.2.1 y (.code y b nl rt :: GG) (rmD d') (va_Pc (.ref (V.2.2 k) :: As) (cQ Z V I J)) Qc 0 0 (vAd Z V))
    (kk : match M with | (p, l, e, R, s, m, args, below, meth, c, Q) => ∀ (H : Heap) (locs : List Loc) (ls : Array Slot), va_P V.1 vwCl (wld Z V I J) H → va_S (vAd Z V) s.heap H locs → lv_has ls nL lv → va_Run p l e R s m args below meth c H locs 0 0 0 0 (F0 m pc ls st0) st (Qc (Value.ref (V.2.2 k) :: As).toArray) (vAd Z V) → W p l e R s m args below meth c H locs 0 0 Q (F0 m pc ls st0)) : Wg M Z V nL I J pc lv st0 := by
  obtain ⟨p, l, e, R, s, m, args, below, meth, c, Q⟩ := M
  obtain ⟨hx, hb, hml, hown, hts, hr, hlk, hR, hK, hF, hJ⟩ := X
  subst hR
  intro H locs ls hP hS hl
  refine kk H locs ls hP hS hl ?_
  obtain ⟨w1, w2, w3, w4, w5, w6, w7⟩ := hw
  have hT : GoodIn GG (wsV own x C y (.code y b nl rt :: GG)) := by
    intro u hu
    have hu : u ∈ ([.methodLink own x y, .instanceMethod y, .selects C y y, .initialized C] : List Cond) ++ (Cond.code y b nl rt :: GG) := hu
    rcases List.mem_append.mp hu with h | h
    · simp only [List.mem_cons, List.not_mem_nil, or_false] at h
      rcases h with rfl | rfl | rfl | rfl
      · exact ⟨w1, good_of_word (GG_ok w1)⟩
      · exact ⟨w2, good_of_word (GG_ok w2)⟩
      · exact ⟨w3, good_of_word (GG_ok w3)⟩
      · exact ⟨w4, good_of_word (GG_ok w4)⟩
    · exact GG_self w5 u h
  exact va_runV (As := As) (rest := st) ⟨hx, hb, hml, hown, hts⟩ hM (cwV n hts hT rfl rfl rfl w6 (rm_ok hdd w7)) ⟨cQ.blind, hrec s H locs hK hF hP hS, fun U hU hW => ⟨rfl, by rw [hU]; exact hP, va_K.moved hW.alike hK, hF.go hW hU hS.2.1, hJ⟩⟩ rfl hn hl.1 hst (lv_room hcat) hd ⟨Nat.zero_le _, Nat.zero_le _⟩
theorem g_callS (X : Cx M Z V cc nL own ret d) {x : Nat} (hd : decode cc pc = .ok (.invokestatic x, 3)) {y : MethodName} {b : ByteArray} {nl n : Nat} {rt : Option FieldType} (hw : swk own x y b nl rt n) {As : List Value} (hn : As.length = n) (hst : st0 = As.reverse ++ st) (hcat : (st.map fun v => v.category).sum ≤ 8) {d' : Nat} (hdd : d' + 1 ≤ d)
    {Qc : Array Value → State → Outcome → State → Prop} (hM : Met M.2.1 y (.code y b nl rt :: GG) (rmD d') (va_Pc As (cQ Z V I J)) Qc 0 0 (vAd Z V))
    (kk : match M with | (p, l, e, R, s, m, args, below, meth, c, Q) => ∀ (H : Heap) (locs : List Loc) (ls : Array Slot), va_P V.1 vwCl (wld Z V I J) H → va_S (vAd Z V) s.heap H locs → lv_has ls nL lv → va_Run p l e R s m args below meth c H locs 0 0 0 0 (F0 m pc ls st0) st (Qc As.toArray) (vAd Z V) → W p l e R s m args below meth c H locs 0 0 Q (F0 m pc ls st0)) : Wg M Z V nL I J pc lv st0 := by
  obtain ⟨p, l, e, R, s, m, args, below, meth, c, Q⟩ := M
  obtain ⟨hx, hb, hml, hown, hts, hr, hlk, hR, hK, hF, hJ⟩ := X
  subst hR
  intro H locs ls hP hS hl
  refine kk H locs ls hP hS hl ?_
  obtain ⟨w1, w2, w3, w5, w6, w7⟩ := hw
  have hT : GoodIn GG (va_wsS own x y (.code y b nl rt :: GG)) := by
    intro u hu
    have hu : u ∈ ([.methodLink own x y, .static y, .initialized y.cls] : List Cond) ++ (Cond.code y b nl rt :: GG) := hu
    rcases List.mem_append.mp hu with h | h
    · simp only [List.mem_cons, List.not_mem_nil, or_false] at h
      rcases h with rfl | rfl | rfl
      · exact ⟨w1, good_of_word (GG_ok w1)⟩
      · exact ⟨w2, good_of_word (GG_ok w2)⟩
      · exact ⟨w3, good_of_word (GG_ok w3)⟩
    · exact GG_self w5 u h
  exact va_runS (As := As) (rest := st) ⟨hx, hb, hml, hown, hts⟩ hM (va_cwS n hts hT rfl rfl rfl w6 (rm_ok hdd w7)) ⟨cQ.blind, fun U hU hW => ⟨rfl, by rw [hU]; exact hP, va_K.moved hW.alike hK, hF.go hW hU hS.2.1, hJ⟩⟩ rfl hn hl.1 hst (lv_room hcat) hd ⟨Nat.zero_le _, Nat.zero_le _⟩
theorem g_callN (X : Cx M Z V cc nL own ret d) {x : Nat} (hd : decode cc pc = .ok (.invokestatic x, 3)) {y : MethodName} {b : ByteArray} {nl n : Nat} {rt : Option FieldType} (hw : nwk y b nl rt n) {host : String} (hnw : ∀ U, Fx Z V U → va_Nw (.methodLinkNest own x y host) U) {As : List Value} (hn : As.length = n) (hst : st0 = As.reverse ++ st) (hcat : (st.map fun v => v.category).sum ≤ 8) {d' : Nat} (hdd : d' + 1 ≤ d)
    {Qc : Array Value → State → Outcome → State → Prop} (hM : Met M.2.1 y (.code y b nl rt :: GG) (rmD d') (va_Pc As (cQ Z V I J)) Qc 0 0 (vAd Z V))
    (kk : match M with | (p, l, e, R, s, m, args, below, meth, c, Q) => ∀ (H : Heap) (locs : List Loc) (ls : Array Slot), va_P V.1 vwCl (wld Z V I J) H → va_S (vAd Z V) s.heap H locs → lv_has ls nL lv → va_Run p l e R s m args below meth c H locs 0 0 0 0 (F0 m pc ls st0) st (Qc As.toArray) (vAd Z V) → W p l e R s m args below meth c H locs 0 0 Q (F0 m pc ls st0)) : Wg M Z V nL I J pc lv st0 := by
  obtain ⟨p, l, e, R, s, m, args, below, meth, c, Q⟩ := M
  obtain ⟨hx, hb, hml, hown, hts, hr, hlk, hR, hK, hF, hJ⟩ := X
  subst hR
  intro H locs ls hP hS hl
  refine kk H locs ls hP hS hl ?_
  obtain ⟨w2, w3, w5, w6, w7⟩ := hw
  exact va_runSN (As := As) (rest := st) (host := host) ⟨hx, hb, hml, hown, hts⟩ hM ⟨va_cnB n hts (GG_self w5) rfl rfl rfl (hnw s hF) (hts _ w3) w6 (rm_ok hdd w7), hts _ w2, trivial⟩ ⟨cQ.blind, fun U hU hW => ⟨rfl, by rw [hU]; exact hP, va_K.moved hW.alike hK, hF.go hW hU hS.2.1, hJ⟩⟩ rfl hn hl.1 hst (lv_room hcat) hd ⟨Nat.zero_le _, Nat.zero_le _⟩
/-- behind a call: an int, a long, nothing -/
theorem k_I {a : Array Value} {q : RT Int32} (kk : Wg M Z V nL q.2.1 q.2.2 (pc + 3) lv (.int q.1 :: st)) : match M with | (p, l, e, R, s, m, args, below, meth, c, Q) => ∀ (H : Heap) (locs : List Loc) (ls : Array Slot), va_P V.1 vwCl (wld Z V I J) H → va_S (vAd Z V) s.heap H locs → lv_has ls nL lv → va_Run p l e R s m args below meth c H locs 0 0 0 0 (F0 m pc ls st0) st (QI Z V q a) (vAd Z V) → W p l e R s m args below meth c H locs 0 0 Q (F0 m pc ls st0) := by
  obtain ⟨p, l, e, R, s, m, args, below, meth, c, Q⟩ := M
  intro H locs ls hP hS hl hr
  refine va_calli hr hS (fun _ _ h => h) (fun _ h => h) (fun r u t H1 locs1 ht _ hp hB _ _ hS1 => ?_)
  have hp : r = q.1 := hp
  subst hp
  exact kk H1 locs1 ls (by rw [← ht]; exact hB) hS1 hl
theorem k_L {a : Array Value} {q : RT Int64} (kk : Wg M Z V nL q.2.1 q.2.2 (pc + 3) lv (.long q.1 :: st)) : match M with | (p, l, e, R, s, m, args, below, meth, c, Q) => ∀ (H : Heap) (locs : List Loc) (ls : Array Slot), va_P V.1 vwCl (wld Z V I J) H → va_S (vAd Z V) s.heap H locs → lv_has ls nL lv → va_Run p l e R s m args below meth c H locs 0 0 0 0 (F0 m pc ls st0) st (QL Z V q a) (vAd Z V) → W p l e R s m args below meth c H locs 0 0 Q (F0 m pc ls st0) := by
  obtain ⟨p, l, e, R, s, m, args, below, meth, c, Q⟩ := M
  intro H locs ls hP hS hl hr
  refine va_calll hr hS (fun _ _ h => h) (fun _ h => h) (fun r u t H1 locs1 ht _ hp hB _ _ hS1 => ?_)
  have hp : r = q.1 := hp
  subst hp
  exact kk H1 locs1 ls (by rw [← ht]; exact hB) hS1 hl
theorem k_V {a : Array Value} {q : RT Unit} (kk : Wg M Z V nL q.2.1 q.2.2 (pc + 3) lv st) : match M with | (p, l, e, R, s, m, args, below, meth, c, Q) => ∀ (H : Heap) (locs : List Loc) (ls : Array Slot), va_P V.1 vwCl (wld Z V I J) H → va_S (vAd Z V) s.heap H locs → lv_has ls nL lv → va_Run p l e R s m args below meth c H locs 0 0 0 0 (F0 m pc ls st0) st (QV Z V q a) (vAd Z V) → W p l e R s m args below meth c H locs 0 0 Q (F0 m pc ls st0) := by
  obtain ⟨p, l, e, R, s, m, args, below, meth, c, Q⟩ := M
  intro H locs ls hP hS hl hr
  refine va_callv hr hS (fun _ _ h => h) (fun _ h => h) (fun u t H1 locs1 ht _ hp hB _ _ hS1 => ?_)
  exact kk H1 locs1 ls (by rw [← ht]; exact hB) hS1 hl
/-- the receiver is a cell of the world -/
theorem rcv {k ci : Nat} (ho : okc Z k ci 0) {C : String} {T : u_T} {N : Nat} {ty : Nat → FieldType} (hc : clsOK ci C T N ty) : ∀ (s : State) (H : Heap) (locs : List Loc), va_K V.1 vwCl (vTy V) s → Fx Z V s → va_P V.1 vwCl (wld Z V I J) H → va_S (vAd Z V) s.heap H locs → ∃ cellB : Cell, H[V.2.2 k]? = some cellB ∧ cellB.vm.isStatics = false ∧ s.vm.findClass C = some cellB.cls := by
  intro s H locs hK _ hP _
  exact va_recv hK hP hc.2.1 (by rw [wld_get ho.1, ent_o ho hc.1])
theorem g_mmax (X : Cx M Z V cc nL own ret d) {x : Nat} (hd : decode cc pc = .ok (.invokestatic x, 3)) {u v : Int32} (w1 : Cond.methodLink own x Lib.Math.max.name ∈ GG) (w2 : Cond.static Lib.Math.max.name ∈ GG) (w3 : Cond.initialized "java/lang/Math" ∈ GG) (w4 : Cond.code Lib.Math.max.name Lib.Math.max.code 2 (some .int) ∈ GG) (hcat : (st.map fun v => v.category).sum ≤ 8) (hdd : 1 ≤ d) (kk : Wg M Z V nL I J (pc + 3) lv (.int (if u < v then v else u) :: st)) : Wg M Z V nL I J pc lv (.int v :: .int u :: st) := by
  obtain ⟨p, l, e, R, s, m, args, below, meth, c, Q⟩ := M
  obtain ⟨hx, hb, hml, hown, hts, hr, hlk, hR, hK, hF, hJ⟩ := X
  subst hR
  intro H locs ls hP hS hl
  exact va_mmax hx hb (by rw [hml, hl.1]) hown (hts _ w1) (hts _ w2) (hts _ w3) (hts _ w4) hdd (by show _ ≤ 40 * d; omega) (Nat.zero_le _) (Nat.zero_le _) hd (kk H locs ls hP hS hl)
theorem g_mmin (X : Cx M Z V cc nL own ret d) {x : Nat} (hd : decode cc pc = .ok (.invokestatic x, 3)) {u v : Int32} (w1 : Cond.methodLink own x Lib.Math.min.name ∈ GG) (w2 : Cond.static Lib.Math.min.name ∈ GG) (w3 : Cond.initialized "java/lang/Math" ∈ GG) (w4 : Cond.code Lib.Math.min.name Lib.Math.min.code 2 (some .int) ∈ GG) (hcat : (st.map fun v => v.category).sum ≤ 8) (hdd : 1 ≤ d) (kk : Wg M Z V nL I J (pc + 3) lv (.int (if v < u then v else u) :: st)) : Wg M Z V nL I J pc lv (.int v :: .int u :: st) := by
  obtain ⟨p, l, e, R, s, m, args, below, meth, c, Q⟩ := M
  obtain ⟨hx, hb, hml, hown, hts, hr, hlk, hR, hK, hF, hJ⟩ := X
  subst hR
  intro H locs ls hP hS hl
  exact va_mmin hx hb (by rw [hml, hl.1]) hown (hts _ w1) (hts _ w2) (hts _ w3) (hts _ w4) hdd (by show _ ≤ 40 * d; omega) (Nat.zero_le _) (Nat.zero_le _) hd (kk H locs ls hP hS hl)
theorem g_mmaxl (X : Cx M Z V cc nL own ret d) {x : Nat} (hd : decode cc pc = .ok (.invokestatic x, 3)) {u v : Int64} (w1 : Cond.methodLink own x Lib.MathLoose.max_long.x ∈ GG) (w2 : Cond.static Lib.MathLoose.max_long.x ∈ GG) (w3 : Cond.initialized "java/lang/Math" ∈ GG) (w4 : Cond.code Lib.MathLoose.max_long.x Lib.MathLoose.max_long.code 4 (some .long) ∈ GG) (hcat : (st.map fun v => v.category).sum ≤ 8) (hdd : 1 ≤ d) (kk : Wg M Z V nL I J (pc + 3) lv (.long (if v < u then u else v) :: st)) : Wg M Z V nL I J pc lv (.long v :: .long u :: st) := by
  obtain ⟨p, l, e, R, s, m, args, below, meth, c, Q⟩ := M
  obtain ⟨hx, hb, hml, hown, hts, hr, hlk, hR, hK, hF, hJ⟩ := X
  subst hR
  intro H locs ls hP hS hl
  exact va_mmax_long hx hb (by rw [hml, hl.1]) hown (hts _ w1) (hts _ w2) (hts _ w3) (hts _ w4) hdd (by show _ ≤ 40 * d; omega) (Nat.zero_le _) (Nat.zero_le _) hd (kk H locs ls hP hS hl)
def cpb (sp dp n : Int32) (n0 n1 : Nat) : Bool := (decide (¬ sp < 0) && decide (¬ dp < 0)) && (decide (¬ n < 0) && (decide (sp.toNatClampNeg + n.toNatClampNeg ≤ n0) && decide (dp.toNatClampNeg + n.toNatClampNeg ≤ n1)))
theorem g_copyI (X : Cx M Z V cc nL own ret d) {x : Nat} (hd : decode cc pc = .ok (.invokestatic x, 3)) (w1 : Cond.methodLink own x arraycopyName ∈ GG) (w2 : Cond.native arraycopyName ∈ GG) (w3 : Cond.static arraycopyName ∈ GG) (w4 : Cond.initialized "java/lang/System" ∈ GG) {k0 k1 n0 n1 : Nat} (h0 : okc Z k0 9 n0) (h1 : okc Z k1 9 n1) {sp dp n : Int32} (hb : cpb sp dp n n0 n1 = true) (hdd : 1 ≤ d) (kk : Wg M Z V nL (uI I k1 (va_cpy (I k0) (I k1) sp.toNatClampNeg dp.toNatClampNeg n.toNatClampNeg)) J (pc + 3) lv []) : Wg M Z V nL I J pc lv [.int n, .int dp, .ref (V.2.2 k1), .int sp, .ref (V.2.2 k0)] := by
  obtain ⟨p, l, e, R, s, m, args, below, meth, c, Q⟩ := M
  obtain ⟨hx, hb2, hml, hown, hts, hr, hlk, hR, hK, hF, hJ⟩ := X
  subst hR
  simp only [cpb, Bool.and_eq_true, decide_eq_true_eq] at hb
  obtain ⟨⟨b1, b2⟩, b3, b4, b5⟩ := hb
  intro H locs ls hP hS hl
  refine va_copyi (ty := .int) hx hb2 (by rw [hml, hl.1]) hown (hts _ w1) (hts _ w2) (hts _ w3) (hts _ w4) hK hP (wld_D hJ I J) hS k0 k1 0 0 (by rw [wld_get h0.1, ent_i h0]) (by rw [wld_get h1.1, ent_i h1]) rfl rfl rfl b1 b2 b3 b4 b5 (fun _ _ => rfl) hdd (Nat.le_trans (Nat.le_of_ble_eq_true rfl : _ ≤ 40 * 1) (Nat.mul_le_mul_left 40 hdd)) hd (fun H1 locs1 hP1 _ hS1 => kk H1 locs1 ls ?_ hS1 hl)
  rw [pI_row (va_cpy (I k0) (I k1) sp.toNatClampNeg dp.toNatClampNeg n.toNatClampNeg) h1.1 (by rw [ent_i h1])] at hP1
  exact hP1
theorem g_copyJ (X : Cx M Z V cc nL own ret d) {x : Nat} (hd : decode cc pc = .ok (.invokestatic x, 3)) (w1 : Cond.methodLink own x arraycopyName ∈ GG) (w2 : Cond.native arraycopyName ∈ GG) (w3 : Cond.static arraycopyName ∈ GG) (w4 : Cond.initialized "java/lang/System" ∈ GG) {k0 k1 n0 n1 : Nat} (h0 : okc Z k0 10 n0) (h1 : okc Z k1 10 n1) {sp dp n : Int32} (hb : cpb sp dp n n0 n1 = true) (hdd : 1 ≤ d) (kk : Wg M Z V nL I (uJ J k1 (va_cpy (J k0) (J k1) sp.toNatClampNeg dp.toNatClampNeg n.toNatClampNeg)) (pc + 3) lv []) : Wg M Z V nL I J pc lv [.int n, .int dp, .ref (V.2.2 k1), .int sp, .ref (V.2.2 k0)] := by
  obtain ⟨p, l, e, R, s, m, args, below, meth, c, Q⟩ := M
  obtain ⟨hx, hb2, hml, hown, hts, hr, hlk, hR, hK, hF, hJ⟩ := X
  subst hR
  simp only [cpb, Bool.and_eq_true, decide_eq_true_eq] at hb
  obtain ⟨⟨b1, b2⟩, b3, b4, b5⟩ := hb
  intro H locs ls hP hS hl
  refine va_copyl (ty := .long) hx hb2 (by rw [hml, hl.1]) hown (hts _ w1) (hts _ w2) (hts _ w3) (hts _ w4) hK hP (wld_D hJ I J) hS k0 k1 1 1 (by rw [wld_get h0.1, ent_j h0]) (by rw [wld_get h1.1, ent_j h1]) rfl rfl rfl b1 b2 b3 b4 b5 (fun _ _ => rfl) hdd (Nat.le_trans (Nat.le_of_ble_eq_true rfl : _ ≤ 40 * 1) (Nat.mul_le_mul_left 40 hdd)) hd (fun H1 locs1 hP1 _ hS1 => kk H1 locs1 ls ?_ hS1 hl)
  rw [pJ_row (va_cpy (J k0) (J k1) sp.toNatClampNeg dp.toNatClampNeg n.toNatClampNeg) h1.1 (by rw [ent_j h1])] at hP1
  exact hP1
end GC
section GM
variable {l : Launch} {Z : Sh} {V : VT} {cc : ByteArray} {nL : Nat} {d : Nat} {I : aI} {J : aJ} {y : MethodName} {ret : Option FieldType}
theorem met_I (hy : plainName y.cls = true) {av : List Value} {lv0 : List (Nat × Value)} (hlv : lv_args 0 av = lv0) (hsz : (lg_sl av).length ≤ nL) {q : RT Int32} (body : ∀ M : MT, M.2.1 = l → Cx M Z V cc nL y.cls ret d → PI M Z V q → Wg M Z V nL I J 0 lv0 []) : Met l y (.code y cc nL ret :: GG) (rmD d) (va_Pc av (cQ Z V I J)) (QI Z V q) 0 0 (vAd Z V) := by
  refine Met.ofW (cc := cc) (maxL := nL) (ret := ret) hy rfl ?_
  intro p e s m args below meth c s₁ B hml hv
  obtain ⟨rfl, hP, hK, hF, hJ⟩ := hv
  have hts := atoms_spec (ws := .code y cc nL ret :: GG) B.pre
  have h := body (p, l, e, rmD d, s, m, av.toArray, below, meth, c, MQ below (QI Z V q) av.toArray s 0 0 (vAd Z V)) rfl ⟨B.exec, B.bytes, hml, findClass_of_methodNamed B.named, fun w hw => hts w (List.mem_cons_of_mem _ hw), B.returns, B.notSynchronized, rfl, hK, hF, hJ⟩ rfl
  rw [lg_entry_eq]
  exact h s.heap [] _ hP va_S.rf (by have := lv_entry av hsz; rwa [hlv] at this)
theorem met_L (hy : plainName y.cls = true) {av : List Value} {lv0 : List (Nat × Value)} (hlv : lv_args 0 av = lv0) (hsz : (lg_sl av).length ≤ nL) {q : RT Int64} (body : ∀ M : MT, M.2.1 = l → Cx M Z V cc nL y.cls ret d → PL M Z V q → Wg M Z V nL I J 0 lv0 []) : Met l y (.code y cc nL ret :: GG) (rmD d) (va_Pc av (cQ Z V I J)) (QL Z V q) 0 0 (vAd Z V) := by
  refine Met.ofW (cc := cc) (maxL := nL) (ret := ret) hy rfl ?_
  intro p e s m args below meth c s₁ B hml hv
  obtain ⟨rfl, hP, hK, hF, hJ⟩ := hv
  have hts := atoms_spec (ws := .code y cc nL ret :: GG) B.pre
  have h := body (p, l, e, rmD d, s, m, av.toArray, below, meth, c, MQ below (QL Z V q) av.toArray s 0 0 (vAd Z V)) rfl ⟨B.exec, B.bytes, hml, findClass_of_methodNamed B.named, fun w hw => hts w (List.mem_cons_of_mem _ hw), B.returns, B.notSynchronized, rfl, hK, hF, hJ⟩ rfl
  rw [lg_entry_eq]
  exact h s.heap [] _ hP va_S.rf (by have := lv_entry av hsz; rwa [hlv] at this)
theorem met_V (hy : plainName y.cls = true) {av : List Value} {lv0 : List (Nat × Value)} (hlv : lv_args 0 av = lv0) (hsz : (lg_sl av).length ≤ nL) {q : RT Unit} (body : ∀ M : MT, M.2.1 = l → Cx M Z V cc nL y.cls ret d → PV M Z V q → Wg M Z V nL I J 0 lv0 []) : Met l y (.code y cc nL ret :: GG) (rmD d) (va_Pc av (cQ Z V I J)) (QV Z V q) 0 0 (vAd Z V) := by
  refine Met.ofW (cc := cc) (maxL := nL) (ret := ret) hy rfl ?_
  intro p e s m args below meth c s₁ B hml hv
  obtain ⟨rfl, hP, hK, hF, hJ⟩ := hv
  have hts := atoms_spec (ws := .code y cc nL ret :: GG) B.pre
  have h := body (p, l, e, rmD d, s, m, av.toArray, below, meth, c, MQ below (QV Z V q) av.toArray s 0 0 (vAd Z V)) rfl ⟨B.exec, B.bytes, hml, findClass_of_methodNamed B.named, fun w hw => hts w (List.mem_cons_of_mem _ hw), B.returns, B.notSynchronized, rfl, hK, hF, hJ⟩ rfl
  rw [lg_entry_eq]
  exact h s.heap [] _ hP va_S.rf (by have := lv_entry av hsz; rwa [hlv] at this)
end GM
/-! what a walk's function says -/
def gd {α : Type} (b : Bool) (x : Option α) : Option α := if b = true then x else none
theorem gd_some {α : Type} {b : Bool} {x : Option α} {r : α} (h : gd b x = some r) : b = true ∧ x = some r := by
  unfold gd at h
  by_cases hb : b = true
  · rw [if_pos hb] at h; exact ⟨hb, h⟩
  · rw [if_neg hb] at h; cases h
theorem gd_t {α : Type} {b : Bool} {x : Option α} (h : b = true) : gd b x = x := by unfold gd; rw [if_pos h]
def bnd {α β : Type} (x : Option (RT α)) (f : α → aI → aJ → Option β) : Option β := match x with
  | none => none
  | some q => f q.1 q.2.1 q.2.2
theorem bnd_some {α β : Type} {x : Option (RT α)} {f : α → aI → aJ → Option β} {r : β} (h : bnd x f = some r) : ∃ (a : α) (I : aI) (J : aJ), x = some (a, I, J) ∧ f a I J = some r := by
  cases x with
  | none => cases h
  | some q => exact ⟨q.1, q.2.1, q.2.2, rfl, h⟩
theorem bnd_t {α β : Type} {x : Option (RT α)} {f : α → aI → aJ → Option β} {a : α} {I : aI} {J : aJ} (h : x = some (a, I, J)) : bnd x f = f a I J := by rw [h]; rfl
