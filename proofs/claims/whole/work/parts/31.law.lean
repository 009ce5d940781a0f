/-! the law's own walk: two worlds side by side, the class's (63 cells) and the reference's (26) -/
abbrev NT : Type := Program × Launch × Env × State × MethodId × Nat × List Frame × Method × Code × (State → Prop) × va_G × (Nat → ClassId) × (Nat → Nat) × (Nat → Nat) × Nat × (Nat → Int32)
def LC (N : NT) : Prop := match N with
  | (p, _, _, s, m, b, _, _, c, _, D, cy, adc, adm, L, xs) => p.tables.exec = Jvm.exec ∧ c.code = cL_law ∧ c.maxLocals = 4 ∧ s.vm.findClass RL = some m.cls ∧ (∀ w ∈ GG, w.before #[Value.ref b] s = true) ∧ va_X b L xs s s.heap ∧ b < s.heap.size ∧ va_K D vwCl (vTyc cy) s ∧ (Fx cS (D, cy, adc) s ∧ Inj cS (D, cy, adc)) ∧ (Fx mS (D, cy, adm) s ∧ Inj mS (D, cy, adm)) ∧ (∀ k, k < 63 → s.heap.size ≤ adc k) ∧ (∀ k, k < 26 → s.heap.size ≤ adm k) ∧ ∀ i, i < 63 → ∀ j, j < 26 → adc i ≠ adm j
def Lg (N : NT) (Ic : aI) (Jc : aJ) (Im : aI) (Jm : aJ) (i3 : Int32) (pc : Nat) (st : List Value) : Prop := match N with
  | (p, l, e, s, m, b, below, meth, c, Q, D, cy, adc, adm, _, _) => ∀ (H : Heap) (locs : List Loc) (ls : Array Slot), va_P D vwCl (wld cS (D, cy, adc) Ic Jc) H → va_P D vwCl (wld mS (D, cy, adm) Im Jm) H → va_S (fun q => s.heap.size ≤ q) s.heap H locs → lv_has ls 4 [(0, .ref b), (1, .ref (adc 0)), (2, .ref (adm 0)), (3, .int i3)] → W p l e room_1 s m #[Value.ref b] below meth c H locs 600000 7302250 Q (F0 m pc ls st)
def NadC (N : NT) : Nat → Nat := N.2.2.2.2.2.2.2.2.2.2.2.2.1
def NadM (N : NT) : Nat → Nat := N.2.2.2.2.2.2.2.2.2.2.2.2.2.1
def NL (N : NT) : Nat := N.2.2.2.2.2.2.2.2.2.2.2.2.2.2.1
def Nxs (N : NT) : Nat → Int32 := N.2.2.2.2.2.2.2.2.2.2.2.2.2.2.2
def NVc (N : NT) : VT := (N.2.2.2.2.2.2.2.2.2.2.1, N.2.2.2.2.2.2.2.2.2.2.2.1, NadC N)
def NVm (N : NT) : VT := (N.2.2.2.2.2.2.2.2.2.2.1, N.2.2.2.2.2.2.2.2.2.2.2.1, NadM N)
section LR
variable {N : NT} {Ic Im I' : aI} {Jc Jm J' : aJ} {i3 : Int32} {pc : Nat} {st : List Value}
theorem l_x (X : LC N) (hd : decode cL_law pc = .ok (.aload_n 1, 1)) (k : Lg N Ic Jc Im Jm i3 (pc + 1) (.ref (NadC N 0) :: st)) : Lg N Ic Jc Im Jm i3 pc st := fun H locs ls h1 h2 h3 hl => lv_aload_n X.1 X.2.1 hd rfl (lv_at hl 1 rfl) (k H locs ls h1 h2 h3 hl)
theorem l_m (X : LC N) (hd : decode cL_law pc = .ok (.aload_n 2, 1)) (k : Lg N Ic Jc Im Jm i3 (pc + 1) (.ref (NadM N 0) :: st)) : Lg N Ic Jc Im Jm i3 pc st := fun H locs ls h1 h2 h3 hl => lv_aload_n X.1 X.2.1 hd rfl (lv_at hl 2 rfl) (k H locs ls h1 h2 h3 hl)
theorem l_a (X : LC N) (j : Int) (v : Int32) (hv : Int32.ofInt j = v) (h0 : decode cL_law pc = .ok (.aload_n 0, 1)) (h1 : decode cL_law (pc + 1) = .ok (.iload_n 3, 1)) (h2 : decode cL_law (pc + 1 + 1) = .ok (.iconst j, 1)) (h3 : decode cL_law (pc + 1 + 1 + 1) = .ok (.iadd, 1)) (h4 : decode cL_law (pc + 1 + 1 + 1 + 1) = .ok (.iaload, 1)) (hin : vp_in (i3 + v) (NL N)) (k : Lg N Ic Jc Im Jm i3 (pc + 1 + 1 + 1 + 1 + 1) (.int (Nxs N (i3 + v).toNatClampNeg) :: st)) : Lg N Ic Jc Im Jm i3 pc st := by
  obtain ⟨p, l, e, s, m, b, below, meth, c, Q, D, cy, adc, adm, L, xs⟩ := N
  obtain ⟨hx, hb, hml, hown, hts, hX, hbl, hK, hFc, hFm, hAc, hAm, hdis⟩ := X
  intro H locs ls g1 g2 g3 hl
  refine lv_aload_n hx hb h0 rfl (lv_at hl 0 rfl) ?_
  refine lv_iload_n hx hb h1 rfl (lv_at hl 3 rfl) ?_
  refine lv_iconst hx hb h2 hv ?_
  refine lv_iadd hx hb h3 ?_
  exact va_sld hx hb hX hbl (Nat.not_le.mpr hbl) g3 hin h4 (k H locs ls g1 g2 g3 hl)
theorem l_if0 (X : LC N) {x : Int32} {off : Int} {tgt : Nat} (hd : decode cL_law pc = .ok (.ifCond .eq off, 3)) (ht : (pc : Int) + off = (tgt : Int)) (kt : x = 0 → Lg N Ic Jc Im Jm i3 tgt st) (kf : ¬ x = 0 → Lg N Ic Jc Im Jm i3 (pc + 3) st) : Lg N Ic Jc Im Jm i3 pc (.int x :: st) := fun H locs ls h1 h2 h3 hl => lv_if_eq X.1 X.2.1 hd ht (fun h => kt h H locs ls h1 h2 h3 hl) (fun h => kf h H locs ls h1 h2 h3 hl)
theorem l_ic (X : LC N) {n : Int} {v : Int32} (hd : decode cL_law pc = .ok (.iconst n, 1)) (hv : Int32.ofInt n = v) (k : Lg N Ic Jc Im Jm i3 (pc + 1) (.int v :: st)) : Lg N Ic Jc Im Jm i3 pc st := fun H locs ls h1 h2 h3 hl => lv_iconst X.1 X.2.1 hd hv (k H locs ls h1 h2 h3 hl)
theorem l_go (X : LC N) {off : Int} {tgt : Nat} (hd : decode cL_law pc = .ok (.goto off, 3)) (ht : (pc : Int) + off = (tgt : Int)) (k : Lg N Ic Jc Im Jm i3 tgt st) : Lg N Ic Jc Im Jm i3 pc st := fun H locs ls h1 h2 h3 hl => lv_goto X.1 X.2.1 hd ht (k H locs ls h1 h2 h3 hl)
theorem l_same (X : LC N) {x : Int32} {off : Int} {tgt : Nat} (hd : decode cL_law pc = .ok (.if_icmp .eq off, 3)) (ht : (pc : Int) + off = (tgt : Int)) (k : Lg N Ic Jc Im Jm i3 tgt st) : Lg N Ic Jc Im Jm i3 pc (.int x :: .int x :: st) := fun H locs ls h1 h2 h3 hl => lv_icmp_eq X.1 X.2.1 hd ht (fun _ => k H locs ls h1 h2 h3 hl) (fun h => absurd rfl h)
theorem l_sameL (X : LC N) {x : Int64} {off : Int} {tgt : Nat} (hd0 : decode cL_law pc = .ok (.lcmp, 1)) (hd : decode cL_law (pc + 1) = .ok (.ifCond .eq off, 3)) (ht : ((pc + 1 : Nat) : Int) + off = (tgt : Int)) (k : Lg N Ic Jc Im Jm i3 tgt st) : Lg N Ic Jc Im Jm i3 pc (.long x :: .long x :: st) := by
  intro H locs ls h1 h2 h3 hl
  refine W.lcmp X.1 X.2.1 hd0 ?_
  have h0 : lg_cmp x x = 0 := by
    unfold lg_cmp
    rw [if_neg (Int64.lt_irrefl), if_pos rfl]
  rw [h0]
  exact lv_if_eq X.1 X.2.1 hd ht (fun _ => k H locs ls h1 h2 h3 hl) (fun h => absurd rfl h)
theorem other_kept {Z2 : Sh} {D : va_G} {cy : Nat → ClassId} {ad : Nat → Nat} {I : aI} {J : aJ} {H H1 : Heap} {B : Nat → Prop} (h : va_P D vwCl (wld Z2 (D, cy, ad) I J) H) (hk : ∀ q : Nat, q < H.size → ¬ B q → H1[q]? = H[q]?) (hB : ∀ j, j < Z2.1 → ¬ B (ad j)) : va_P D vwCl (wld Z2 (D, cy, ad) I J) H1 := by
  refine h.kept (fun k q hq => ?_)
  by_cases hz : k < Z2.1
  · have hlt := (h k q hq).lt
    rw [wld_get hz] at hq
    cases hq
    exact hk _ hlt (hB k hz)
  · rw [List.getElem?_eq_none (by simp [wld]; omega)] at hq
    cases hq
theorem l_wordsV {own : String} {x : Nat} {C : String} {y : MethodName} {b : ByteArray} {nl n : Nat} {rt : Option FieldType} (hw : cwk own x C y b nl rt n) : GoodIn GG (wsV own x C y (.code y b nl rt :: GG)) := by
  obtain ⟨w1, w2, w3, w4, w5, w6, w7⟩ := hw
  intro u hu
  have hu : u ∈ ([.methodLink own x y, .instanceMethod y, .selects C y y, .initialized C] : List Cond) ++ (Cond.code y b nl rt :: GG) := hu
  rcases List.mem_append.mp hu with h | h
  · simp only [List.mem_cons, List.not_mem_nil, or_false] at h
    rcases h with rfl | rfl | rfl | rfl
    · exact ⟨w1, good_of_word (GG_ok w1)⟩
    · exact ⟨w2, good_of_word (GG_ok w2)⟩
    · exact ⟨w3, good_of_word (GG_ok w3)⟩
    · exact ⟨w4, good_of_word (GG_ok w4)⟩
  · exact GG_self w5 u h
theorem rm_law {d' nl : Nat} (h : d' ≤ 100) (hn : nl ≤ 21) : (rmD d').frames + 1 ≤ room_1.frames ∧ 8 + (nl + 11) + (rmD d').locals ≤ room_1.locals := by
  simp only [rmD, room_1]; omega
theorem l_callC (X : LC N) {x : Nat} (hd : decode cL_law pc = .ok (.invokevirtual x, 3)) {y : MethodName} {bb : ByteArray} {nl n : Nat} {rt : Option FieldType} (hw : cwk RL x RX7 y bb nl rt n) {As st0 : List Value} (hn : As.length = n) (hst : st0 = As.reverse ++ .ref (NadC N 0) :: st) (hcat : (st.map fun v => v.category).sum ≤ 8) {d' : Nat} (hd' : d' ≤ 100) {r : Int32} (hM : Met N.2.1 y (.code y bb nl rt :: GG) (rmD d') (va_Pc (.ref (NadC N 0) :: As) (cQ cS (NVc N) Ic Jc)) (QI cS (NVc N) (r, I', J')) 0 0 (vAd cS (NVc N))) (kk : Lg N I' J' Im Jm i3 (pc + 3) (.int r :: st)) : Lg N Ic Jc Im Jm i3 pc st0 := by
  obtain ⟨p, l, e, s, m, b, below, meth, c, Q, D, cy, adc, adm, L, xs⟩ := N
  obtain ⟨hx, hb, hml, hown, hts, hX, hbl, hK, hFc, hFm, hAc, hAm, hdis⟩ := X
  intro H locs ls g1 g2 g3 hl
  have hw7 := hw.2.2.2.2.2
  have hB : ∀ j, j < mS.1 → ¬ vAd cS (D, cy, adc) (adm j) := fun j hj ⟨i, hi, he⟩ => hdis i hi j hj he.symm
  have hAA : ∀ q, vAd cS (D, cy, adc) q → s.heap.size ≤ q := fun q ⟨k, hk, he⟩ => by rw [he]; exact hAc k hk
  refine va_calli (va_runV (As := As) (rest := st) ⟨hx, hb, hml, hown, hts⟩ hM (cwV n hts (l_wordsV hw) rfl rfl rfl hw7.1 (rm_law hd' hw7.2)) ⟨cQ.blind, va_recv hK g1 cl7.2.1 (by rw [wld_get okC_0.1, ent_o okC_0 cl7.1]; rfl), fun U hU hW => ⟨rfl, by rw [hU]; exact g1, va_K.moved hW.alike hK, hFc.1.go hW hU (fun a h1 h2 => g3.2.1 a h1 (fun h => by omega)), hFc.2⟩⟩ rfl hn hl.1 hst (lv_room hcat) hd ⟨Nat.le_of_ble_eq_true rfl, Nat.le_of_ble_eq_true rfl⟩) g3 (fun q _ h => hAA q h) hAA (fun r' u t H1 locs1 ht hvm hp hBt hz hk hS1 => ?_)
  have hp : r' = r := hp
  subst hp
  exact kk H1 locs1 ls (by rw [← ht]; exact hBt) (other_kept g2 hk hB) hS1 hl
theorem l_callM (X : LC N) {x : Nat} (hd : decode cL_law pc = .ok (.invokevirtual x, 3)) {y : MethodName} {bb : ByteArray} {nl n : Nat} {rt : Option FieldType} (hw : cwk RL x RX8 y bb nl rt n) {As st0 : List Value} (hn : As.length = n) (hst : st0 = As.reverse ++ .ref (NadM N 0) :: st) (hcat : (st.map fun v => v.category).sum ≤ 8) {d' : Nat} (hd' : d' ≤ 100) {r : Int32} (hM : Met N.2.1 y (.code y bb nl rt :: GG) (rmD d') (va_Pc (.ref (NadM N 0) :: As) (cQ mS (NVm N) Im Jm)) (QI mS (NVm N) (r, I', J')) 0 0 (vAd mS (NVm N))) (kk : Lg N Ic Jc I' J' i3 (pc + 3) (.int r :: st)) : Lg N Ic Jc Im Jm i3 pc st0 := by
  obtain ⟨p, l, e, s, m, b, below, meth, c, Q, D, cy, adc, adm, L, xs⟩ := N
  obtain ⟨hx, hb, hml, hown, hts, hX, hbl, hK, hFc, hFm, hAc, hAm, hdis⟩ := X
  intro H locs ls g1 g2 g3 hl
  have hw7 := hw.2.2.2.2.2
  have hB : ∀ j, j < cS.1 → ¬ vAd mS (D, cy, adm) (adc j) := fun j hj ⟨i, hi, he⟩ => hdis j hj i hi he
  have hAA : ∀ q, vAd mS (D, cy, adm) q → s.heap.size ≤ q := fun q ⟨k, hk, he⟩ => by rw [he]; exact hAm k hk
  refine va_calli (va_runV (As := As) (rest := st) ⟨hx, hb, hml, hown, hts⟩ hM (cwV n hts (l_wordsV hw) rfl rfl rfl hw7.1 (rm_law hd' hw7.2)) ⟨cQ.blind, va_recv hK g2 cl8.2.1 (by rw [wld_get okM_0.1, ent_o okM_0 cl8.1]; rfl), fun U hU hW => ⟨rfl, by rw [hU]; exact g2, va_K.moved hW.alike hK, hFm.1.go hW hU (fun a h1 h2 => g3.2.1 a h1 (fun h => by omega)), hFm.2⟩⟩ rfl hn hl.1 hst (lv_room hcat) hd ⟨Nat.le_of_ble_eq_true rfl, Nat.le_of_ble_eq_true rfl⟩) g3 (fun q _ h => hAA q h) hAA (fun r' u t H1 locs1 ht hvm hp hBt hz hk hS1 => ?_)
  have hp : r' = r := hp
  subst hp
  exact kk H1 locs1 ls (other_kept g1 hk hB) (by rw [← ht]; exact hBt) hS1 hl
theorem l_callCL (X : LC N) {x : Nat} (hd : decode cL_law pc = .ok (.invokevirtual x, 3)) {y : MethodName} {bb : ByteArray} {nl n : Nat} {rt : Option FieldType} (hw : cwk RL x RX7 y bb nl rt n) {As st0 : List Value} (hn : As.length = n) (hst : st0 = As.reverse ++ .ref (NadC N 0) :: st) (hcat : (st.map fun v => v.category).sum ≤ 8) {d' : Nat} (hd' : d' ≤ 100) {r : Int64} (hM : Met N.2.1 y (.code y bb nl rt :: GG) (rmD d') (va_Pc (.ref (NadC N 0) :: As) (cQ cS (NVc N) Ic Jc)) (QL cS (NVc N) (r, I', J')) 0 0 (vAd cS (NVc N))) (kk : Lg N I' J' Im Jm i3 (pc + 3) (.long r :: st)) : Lg N Ic Jc Im Jm i3 pc st0 := by
  obtain ⟨p, l, e, s, m, b, below, meth, c, Q, D, cy, adc, adm, L, xs⟩ := N
  obtain ⟨hx, hb, hml, hown, hts, hX, hbl, hK, hFc, hFm, hAc, hAm, hdis⟩ := X
  intro H locs ls g1 g2 g3 hl
  have hw7 := hw.2.2.2.2.2
  have hB : ∀ j, j < mS.1 → ¬ vAd cS (D, cy, adc) (adm j) := fun j hj ⟨i, hi, he⟩ => hdis i hi j hj he.symm
  have hAA : ∀ q, vAd cS (D, cy, adc) q → s.heap.size ≤ q := fun q ⟨k, hk, he⟩ => by rw [he]; exact hAc k hk
  refine va_calll (va_runV (As := As) (rest := st) ⟨hx, hb, hml, hown, hts⟩ hM (cwV n hts (l_wordsV hw) rfl rfl rfl hw7.1 (rm_law hd' hw7.2)) ⟨cQ.blind, va_recv hK g1 cl7.2.1 (by rw [wld_get okC_0.1, ent_o okC_0 cl7.1]; rfl), fun U hU hW => ⟨rfl, by rw [hU]; exact g1, va_K.moved hW.alike hK, hFc.1.go hW hU (fun a h1 h2 => g3.2.1 a h1 (fun h => by omega)), hFc.2⟩⟩ rfl hn hl.1 hst (lv_room hcat) hd ⟨Nat.le_of_ble_eq_true rfl, Nat.le_of_ble_eq_true rfl⟩) g3 (fun q _ h => hAA q h) hAA (fun r' u t H1 locs1 ht hvm hp hBt hz hk hS1 => ?_)
  have hp : r' = r := hp
  subst hp
  exact kk H1 locs1 ls (by rw [← ht]; exact hBt) (other_kept g2 hk hB) hS1 hl
theorem l_callML (X : LC N) {x : Nat} (hd : decode cL_law pc = .ok (.invokevirtual x, 3)) {y : MethodName} {bb : ByteArray} {nl n : Nat} {rt : Option FieldType} (hw : cwk RL x RX8 y bb nl rt n) {As st0 : List Value} (hn : As.length = n) (hst : st0 = As.reverse ++ .ref (NadM N 0) :: st) (hcat : (st.map fun v => v.category).sum ≤ 8) {d' : Nat} (hd' : d' ≤ 100) {r : Int64} (hM : Met N.2.1 y (.code y bb nl rt :: GG) (rmD d') (va_Pc (.ref (NadM N 0) :: As) (cQ mS (NVm N) Im Jm)) (QL mS (NVm N) (r, I', J')) 0 0 (vAd mS (NVm N))) (kk : Lg N Ic Jc I' J' i3 (pc + 3) (.long r :: st)) : Lg N Ic Jc Im Jm i3 pc st0 := by
  obtain ⟨p, l, e, s, m, b, below, meth, c, Q, D, cy, adc, adm, L, xs⟩ := N
  obtain ⟨hx, hb, hml, hown, hts, hX, hbl, hK, hFc, hFm, hAc, hAm, hdis⟩ := X
  intro H locs ls g1 g2 g3 hl
  have hw7 := hw.2.2.2.2.2
  have hB : ∀ j, j < cS.1 → ¬ vAd mS (D, cy, adm) (adc j) := fun j hj ⟨i, hi, he⟩ => hdis j hj i hi he
  have hAA : ∀ q, vAd mS (D, cy, adm) q → s.heap.size ≤ q := fun q ⟨k, hk, he⟩ => by rw [he]; exact hAm k hk
  refine va_calll (va_runV (As := As) (rest := st) ⟨hx, hb, hml, hown, hts⟩ hM (cwV n hts (l_wordsV hw) rfl rfl rfl hw7.1 (rm_law hd' hw7.2)) ⟨cQ.blind, va_recv hK g2 cl8.2.1 (by rw [wld_get okM_0.1, ent_o okM_0 cl8.1]; rfl), fun U hU hW => ⟨rfl, by rw [hU]; exact g2, va_K.moved hW.alike hK, hFm.1.go hW hU (fun a h1 h2 => g3.2.1 a h1 (fun h => by omega)), hFm.2⟩⟩ rfl hn hl.1 hst (lv_room hcat) hd ⟨Nat.le_of_ble_eq_true rfl, Nat.le_of_ble_eq_true rfl⟩) g3 (fun q _ h => hAA q h) hAA (fun r' u t H1 locs1 ht hvm hp hBt hz hk hS1 => ?_)
  have hp : r' = r := hp
  subst hp
  exact kk H1 locs1 ls (other_kept g1 hk hB) (by rw [← ht]; exact hBt) hS1 hl
end LR
theorem lc_letter {N : NT} (X : LC N) {Ic Im Ic' Im' : aI} {Jc Jm Jc' Jm' : aJ} {i3 : Int32} (h1 : vp_in (i3 + 1) (NL N)) {r : Int32} (hc : fX7_letter (Nxs N (i3 + 1).toNatClampNeg) Ic Jc = some (r, Ic', Jc')) (hm : fX8_letter (Nxs N (i3 + 1).toNatClampNeg) Im Jm = some (r, Im', Jm')) (kk : Lg N Ic' Jc' Im' Jm' i3 736 []) : Lg N Ic Jc Im Jm i3 140 [] := by
  refine l_x X dL_law_140 ?_
  refine l_a X 1 1 rfl dL_law_141 dL_law_142 dL_law_143 dL_law_144 dL_law_145 h1 ?_
  refine l_callC X dL_law_146 cw_L_13 (As := [.int (Nxs N (i3 + 1).toNatClampNeg)]) rfl rfl (Nat.le_of_ble_eq_true rfl) (d' := 1) (by decide) (cX7_letter_ok N.2.1 (NVc N) (Nxs N (i3 + 1).toNatClampNeg) Ic Jc hc) ?_
  refine l_m X dL_law_149 ?_
  refine l_a X 1 1 rfl dL_law_150 dL_law_151 dL_law_152 dL_law_153 dL_law_154 h1 ?_
  refine l_callM X dL_law_155 cw_L_17 (As := [.int (Nxs N (i3 + 1).toNatClampNeg)]) rfl rfl (Nat.le_of_ble_eq_true rfl) (d' := 1) (by decide) (cX8_letter_ok N.2.1 (NVm N) (Nxs N (i3 + 1).toNatClampNeg) Im Jm hm) ?_
  refine l_same X dL_law_158 (tgt := 736) (by decide) ?_
  exact kk
theorem lc_blank {N : NT} (X : LC N) {Ic Im Ic' Im' : aI} {Jc Jm Jc' Jm' : aJ} {i3 : Int32}  {r : Int32} (hc : fX7_blank  Ic Jc = some (r, Ic', Jc')) (hm : fX8_blank  Im Jm = some (r, Im', Jm')) (kk : Lg N Ic' Jc' Im' Jm' i3 736 []) : Lg N Ic Jc Im Jm i3 163 [] := by
  refine l_x X dL_law_163 ?_
  refine l_callC X dL_law_164 cw_L_18 (As := []) rfl rfl (Nat.le_of_ble_eq_true rfl) (d' := 0) (by decide) (cX7_blank_ok N.2.1 (NVc N)  Ic Jc hc) ?_
  refine l_m X dL_law_167 ?_
  refine l_callM X dL_law_168 cw_L_22 (As := []) rfl rfl (Nat.le_of_ble_eq_true rfl) (d' := 0) (by decide) (cX8_blank_ok N.2.1 (NVm N)  Im Jm hm) ?_
  refine l_same X dL_law_171 (tgt := 736) (by decide) ?_
  exact kk
theorem lc_fault {N : NT} (X : LC N) {Ic Im Ic' Im' : aI} {Jc Jm Jc' Jm' : aJ} {i3 : Int32}  {r : Int32} (hc : fX7_fault  Ic Jc = some (r, Ic', Jc')) (hm : fX8_fault  Im Jm = some (r, Im', Jm')) (kk : Lg N Ic' Jc' Im' Jm' i3 736 []) : Lg N Ic Jc Im Jm i3 176 [] := by
  refine l_x X dL_law_176 ?_
  refine l_callC X dL_law_177 cw_L_23 (As := []) rfl rfl (Nat.le_of_ble_eq_true rfl) (d' := 8) (by decide) (cX7_fault_ok N.2.1 (NVc N)  Ic Jc hc) ?_
  refine l_m X dL_law_180 ?_
  refine l_callM X dL_law_181 cw_L_26 (As := []) rfl rfl (Nat.le_of_ble_eq_true rfl) (d' := 5) (by decide) (cX8_fault_ok N.2.1 (NVm N)  Im Jm hm) ?_
  refine l_same X dL_law_184 (tgt := 736) (by decide) ?_
  exact kk
theorem lc_suburb {N : NT} (X : LC N) {Ic Im Ic' Im' : aI} {Jc Jm Jc' Jm' : aJ} {i3 : Int32}  {r : Int32} (hc : fX7_suburb  Ic Jc = some (r, Ic', Jc')) (hm : fX8_suburb  Im Jm = some (r, Im', Jm')) (kk : Lg N Ic' Jc' Im' Jm' i3 736 []) : Lg N Ic Jc Im Jm i3 189 [] := by
  refine l_x X dL_law_189 ?_
  refine l_callC X dL_law_190 cw_L_27 (As := []) rfl rfl (Nat.le_of_ble_eq_true rfl) (d' := 9) (by decide) (cX7_suburb_ok N.2.1 (NVc N)  Ic Jc hc) ?_
  refine l_m X dL_law_193 ?_
  refine l_callM X dL_law_194 cw_L_30 (As := []) rfl rfl (Nat.le_of_ble_eq_true rfl) (d' := 5) (by decide) (cX8_suburb_ok N.2.1 (NVm N)  Im Jm hm) ?_
  refine l_same X dL_law_197 (tgt := 736) (by decide) ?_
  exact kk
theorem lc_person {N : NT} (X : LC N) {Ic Im Ic' Im' : aI} {Jc Jm Jc' Jm' : aJ} {i3 : Int32} (h1 : vp_in (i3 + 1) (NL N)) (h2 : vp_in (i3 + 2) (NL N)) {r : Int32} (hc : fX7_person (Nxs N (i3 + 1).toNatClampNeg) (Nxs N (i3 + 2).toNatClampNeg) Ic Jc = some (r, Ic', Jc')) (hm : fX8_person (Nxs N (i3 + 1).toNatClampNeg) (Nxs N (i3 + 2).toNatClampNeg) Im Jm = some (r, Im', Jm')) (kk : Lg N Ic' Jc' Im' Jm' i3 736 []) : Lg N Ic Jc Im Jm i3 202 [] := by
  refine l_x X dL_law_202 ?_
  refine l_a X 1 1 rfl dL_law_203 dL_law_204 dL_law_205 dL_law_206 dL_law_207 h1 ?_
  refine l_a X 2 2 rfl dL_law_208 dL_law_209 dL_law_210 dL_law_211 dL_law_212 h2 ?_
  refine l_callC X dL_law_213 cw_L_31 (As := [.int (Nxs N (i3 + 1).toNatClampNeg), .int (Nxs N (i3 + 2).toNatClampNeg)]) rfl rfl (Nat.le_of_ble_eq_true rfl) (d' := 3) (by decide) (cX7_person_ok N.2.1 (NVc N) (Nxs N (i3 + 1).toNatClampNeg) (Nxs N (i3 + 2).toNatClampNeg) Ic Jc hc) ?_
  refine l_m X dL_law_216 ?_
  refine l_a X 1 1 rfl dL_law_217 dL_law_218 dL_law_219 dL_law_220 dL_law_221 h1 ?_
  refine l_a X 2 2 rfl dL_law_222 dL_law_223 dL_law_224 dL_law_225 dL_law_226 h2 ?_
  refine l_callM X dL_law_227 cw_L_35 (As := [.int (Nxs N (i3 + 1).toNatClampNeg), .int (Nxs N (i3 + 2).toNatClampNeg)]) rfl rfl (Nat.le_of_ble_eq_true rfl) (d' := 3) (by decide) (cX8_person_ok N.2.1 (NVm N) (Nxs N (i3 + 1).toNatClampNeg) (Nxs N (i3 + 2).toNatClampNeg) Im Jm hm) ?_
  refine l_same X dL_law_230 (tgt := 736) (by decide) ?_
  exact kk
theorem lc_as {N : NT} (X : LC N) {Ic Im Ic' Im' : aI} {Jc Jm Jc' Jm' : aJ} {i3 : Int32} (h1 : vp_in (i3 + 1) (NL N)) (h2 : vp_in (i3 + 2) (NL N)) {r : Int32} (hc : fX7_as (Nxs N (i3 + 1).toNatClampNeg) (Nxs N (i3 + 2).toNatClampNeg) Ic Jc = some (r, Ic', Jc')) (hm : fX8_as (Nxs N (i3 + 1).toNatClampNeg) (Nxs N (i3 + 2).toNatClampNeg) Im Jm = some (r, Im', Jm')) (kk : Lg N Ic' Jc' Im' Jm' i3 736 []) : Lg N Ic Jc Im Jm i3 235 [] := by
  refine l_x X dL_law_235 ?_
  refine l_a X 1 1 rfl dL_law_236 dL_law_237 dL_law_238 dL_law_239 dL_law_240 h1 ?_
  refine l_a X 2 2 rfl dL_law_241 dL_law_242 dL_law_243 dL_law_244 dL_law_245 h2 ?_
  refine l_callC X dL_law_246 cw_L_36 (As := [.int (Nxs N (i3 + 1).toNatClampNeg), .int (Nxs N (i3 + 2).toNatClampNeg)]) rfl rfl (Nat.le_of_ble_eq_true rfl) (d' := 2) (by decide) (cX7_as_ok N.2.1 (NVc N) (Nxs N (i3 + 1).toNatClampNeg) (Nxs N (i3 + 2).toNatClampNeg) Ic Jc hc) ?_
  refine l_m X dL_law_249 ?_
  refine l_a X 1 1 rfl dL_law_250 dL_law_251 dL_law_252 dL_law_253 dL_law_254 h1 ?_
  refine l_a X 2 2 rfl dL_law_255 dL_law_256 dL_law_257 dL_law_258 dL_law_259 h2 ?_
  refine l_callM X dL_law_260 cw_L_39 (As := [.int (Nxs N (i3 + 1).toNatClampNeg), .int (Nxs N (i3 + 2).toNatClampNeg)]) rfl rfl (Nat.le_of_ble_eq_true rfl) (d' := 2) (by decide) (cX8_as_ok N.2.1 (NVm N) (Nxs N (i3 + 1).toNatClampNeg) (Nxs N (i3 + 2).toNatClampNeg) Im Jm hm) ?_
  refine l_same X dL_law_263 (tgt := 736) (by decide) ?_
  exact kk
theorem lc_road {N : NT} (X : LC N) {Ic Im Ic' Im' : aI} {Jc Jm Jc' Jm' : aJ} {i3 : Int32} (h1 : vp_in (i3 + 1) (NL N)) (h2 : vp_in (i3 + 2) (NL N)) {r : Int32} (hc : fX7_road (Nxs N (i3 + 1).toNatClampNeg) (Nxs N (i3 + 2).toNatClampNeg) Ic Jc = some (r, Ic', Jc')) (hm : fX8_road (Nxs N (i3 + 1).toNatClampNeg) (Nxs N (i3 + 2).toNatClampNeg) Im Jm = some (r, Im', Jm')) (kk : Lg N Ic' Jc' Im' Jm' i3 736 []) : Lg N Ic Jc Im Jm i3 268 [] := by
  refine l_x X dL_law_268 ?_
  refine l_a X 1 1 rfl dL_law_269 dL_law_270 dL_law_271 dL_law_272 dL_law_273 h1 ?_
  refine l_a X 2 2 rfl dL_law_274 dL_law_275 dL_law_276 dL_law_277 dL_law_278 h2 ?_
  refine l_callC X dL_law_279 cw_L_40 (As := [.int (Nxs N (i3 + 1).toNatClampNeg), .int (Nxs N (i3 + 2).toNatClampNeg)]) rfl rfl (Nat.le_of_ble_eq_true rfl) (d' := 1) (by decide) (cX7_road_ok N.2.1 (NVc N) (Nxs N (i3 + 1).toNatClampNeg) (Nxs N (i3 + 2).toNatClampNeg) Ic Jc hc) ?_
  refine l_m X dL_law_282 ?_
  refine l_a X 1 1 rfl dL_law_283 dL_law_284 dL_law_285 dL_law_286 dL_law_287 h1 ?_
  refine l_a X 2 2 rfl dL_law_288 dL_law_289 dL_law_290 dL_law_291 dL_law_292 h2 ?_
  refine l_callM X dL_law_293 cw_L_43 (As := [.int (Nxs N (i3 + 1).toNatClampNeg), .int (Nxs N (i3 + 2).toNatClampNeg)]) rfl rfl (Nat.le_of_ble_eq_true rfl) (d' := 1) (by decide) (cX8_road_ok N.2.1 (NVm N) (Nxs N (i3 + 1).toNatClampNeg) (Nxs N (i3 + 2).toNatClampNeg) Im Jm hm) ?_
  refine l_same X dL_law_296 (tgt := 736) (by decide) ?_
  exact kk
theorem lc_corner {N : NT} (X : LC N) {Ic Im Ic' Im' : aI} {Jc Jm Jc' Jm' : aJ} {i3 : Int32} (h1 : vp_in (i3 + 1) (NL N)) (h2 : vp_in (i3 + 2) (NL N)) {r : Int32} (hc : fX7_corner (Nxs N (i3 + 1).toNatClampNeg) (Nxs N (i3 + 2).toNatClampNeg) Ic Jc = some (r, Ic', Jc')) (hm : fX8_corner (Nxs N (i3 + 1).toNatClampNeg) (Nxs N (i3 + 2).toNatClampNeg) Im Jm = some (r, Im', Jm')) (kk : Lg N Ic' Jc' Im' Jm' i3 736 []) : Lg N Ic Jc Im Jm i3 301 [] := by
  refine l_x X dL_law_301 ?_
  refine l_a X 1 1 rfl dL_law_302 dL_law_303 dL_law_304 dL_law_305 dL_law_306 h1 ?_
  refine l_a X 2 2 rfl dL_law_307 dL_law_308 dL_law_309 dL_law_310 dL_law_311 h2 ?_
  refine l_callC X dL_law_312 cw_L_44 (As := [.int (Nxs N (i3 + 1).toNatClampNeg), .int (Nxs N (i3 + 2).toNatClampNeg)]) rfl rfl (Nat.le_of_ble_eq_true rfl) (d' := 2) (by decide) (cX7_corner_ok N.2.1 (NVc N) (Nxs N (i3 + 1).toNatClampNeg) (Nxs N (i3 + 2).toNatClampNeg) Ic Jc hc) ?_
  refine l_m X dL_law_315 ?_
  refine l_a X 1 1 rfl dL_law_316 dL_law_317 dL_law_318 dL_law_319 dL_law_320 h1 ?_
  refine l_a X 2 2 rfl dL_law_321 dL_law_322 dL_law_323 dL_law_324 dL_law_325 h2 ?_
  refine l_callM X dL_law_326 cw_L_47 (As := [.int (Nxs N (i3 + 1).toNatClampNeg), .int (Nxs N (i3 + 2).toNatClampNeg)]) rfl rfl (Nat.le_of_ble_eq_true rfl) (d' := 5) (by decide) (cX8_corner_ok N.2.1 (NVm N) (Nxs N (i3 + 1).toNatClampNeg) (Nxs N (i3 + 2).toNatClampNeg) Im Jm hm) ?_
  refine l_same X dL_law_329 (tgt := 736) (by decide) ?_
  exact kk
theorem lc_far {N : NT} (X : LC N) {Ic Im Ic' Im' : aI} {Jc Jm Jc' Jm' : aJ} {i3 : Int32} (h1 : vp_in (i3 + 1) (NL N)) (h2 : vp_in (i3 + 2) (NL N)) {r : Int32} (hc : fX7_far (Nxs N (i3 + 1).toNatClampNeg) (Nxs N (i3 + 2).toNatClampNeg) Ic Jc = some (r, Ic', Jc')) (hm : fX8_far (Nxs N (i3 + 1).toNatClampNeg) (Nxs N (i3 + 2).toNatClampNeg) Im Jm = some (r, Im', Jm')) (kk : Lg N Ic' Jc' Im' Jm' i3 736 []) : Lg N Ic Jc Im Jm i3 334 [] := by
  refine l_x X dL_law_334 ?_
  refine l_a X 1 1 rfl dL_law_335 dL_law_336 dL_law_337 dL_law_338 dL_law_339 h1 ?_
  refine l_a X 2 2 rfl dL_law_340 dL_law_341 dL_law_342 dL_law_343 dL_law_344 h2 ?_
  refine l_callC X dL_law_345 cw_L_48 (As := [.int (Nxs N (i3 + 1).toNatClampNeg), .int (Nxs N (i3 + 2).toNatClampNeg)]) rfl rfl (Nat.le_of_ble_eq_true rfl) (d' := 2) (by decide) (cX7_far_ok N.2.1 (NVc N) (Nxs N (i3 + 1).toNatClampNeg) (Nxs N (i3 + 2).toNatClampNeg) Ic Jc hc) ?_
  refine l_m X dL_law_348 ?_
  refine l_a X 1 1 rfl dL_law_349 dL_law_350 dL_law_351 dL_law_352 dL_law_353 h1 ?_
  refine l_a X 2 2 rfl dL_law_354 dL_law_355 dL_law_356 dL_law_357 dL_law_358 h2 ?_
  refine l_callM X dL_law_359 cw_L_51 (As := [.int (Nxs N (i3 + 1).toNatClampNeg), .int (Nxs N (i3 + 2).toNatClampNeg)]) rfl rfl (Nat.le_of_ble_eq_true rfl) (d' := 2) (by decide) (cX8_far_ok N.2.1 (NVm N) (Nxs N (i3 + 1).toNatClampNeg) (Nxs N (i3 + 2).toNatClampNeg) Im Jm hm) ?_
  refine l_same X dL_law_362 (tgt := 736) (by decide) ?_
  exact kk
theorem lc_go {N : NT} (X : LC N) {Ic Im Ic' Im' : aI} {Jc Jm Jc' Jm' : aJ} {i3 : Int32} (h1 : vp_in (i3 + 1) (NL N)) {r : Int32} (hc : fX7_go (Nxs N (i3 + 1).toNatClampNeg) Ic Jc = some (r, Ic', Jc')) (hm : fX8_go (Nxs N (i3 + 1).toNatClampNeg) Im Jm = some (r, Im', Jm')) (kk : Lg N Ic' Jc' Im' Jm' i3 736 []) : Lg N Ic Jc Im Jm i3 367 [] := by
  refine l_x X dL_law_367 ?_
  refine l_a X 1 1 rfl dL_law_368 dL_law_369 dL_law_370 dL_law_371 dL_law_372 h1 ?_
  refine l_callC X dL_law_373 cw_L_52 (As := [.int (Nxs N (i3 + 1).toNatClampNeg)]) rfl rfl (Nat.le_of_ble_eq_true rfl) (d' := 3) (by decide) (cX7_go_ok N.2.1 (NVc N) (Nxs N (i3 + 1).toNatClampNeg) Ic Jc hc) ?_
  refine l_m X dL_law_376 ?_
  refine l_a X 1 1 rfl dL_law_377 dL_law_378 dL_law_379 dL_law_380 dL_law_381 h1 ?_
  refine l_callM X dL_law_382 cw_L_55 (As := [.int (Nxs N (i3 + 1).toNatClampNeg)]) rfl rfl (Nat.le_of_ble_eq_true rfl) (d' := 2) (by decide) (cX8_go_ok N.2.1 (NVm N) (Nxs N (i3 + 1).toNatClampNeg) Im Jm hm) ?_
  refine l_same X dL_law_385 (tgt := 736) (by decide) ?_
  exact kk
theorem lc_stand {N : NT} (X : LC N) {Ic Im Ic' Im' : aI} {Jc Jm Jc' Jm' : aJ} {i3 : Int32} (h1 : vp_in (i3 + 1) (NL N)) {r : Int32} (hc : fX7_stand (Nxs N (i3 + 1).toNatClampNeg) Ic Jc = some (r, Ic', Jc')) (hm : fX8_stand (Nxs N (i3 + 1).toNatClampNeg) Im Jm = some (r, Im', Jm')) (kk : Lg N Ic' Jc' Im' Jm' i3 736 []) : Lg N Ic Jc Im Jm i3 390 [] := by
  refine l_x X dL_law_390 ?_
  refine l_a X 1 1 rfl dL_law_391 dL_law_392 dL_law_393 dL_law_394 dL_law_395 h1 ?_
  refine l_callC X dL_law_396 cw_L_56 (As := [.int (Nxs N (i3 + 1).toNatClampNeg)]) rfl rfl (Nat.le_of_ble_eq_true rfl) (d' := 2) (by decide) (cX7_stand_ok N.2.1 (NVc N) (Nxs N (i3 + 1).toNatClampNeg) Ic Jc hc) ?_
  refine l_m X dL_law_399 ?_
  refine l_a X 1 1 rfl dL_law_400 dL_law_401 dL_law_402 dL_law_403 dL_law_404 h1 ?_
  refine l_callM X dL_law_405 cw_L_59 (As := [.int (Nxs N (i3 + 1).toNatClampNeg)]) rfl rfl (Nat.le_of_ble_eq_true rfl) (d' := 2) (by decide) (cX8_stand_ok N.2.1 (NVm N) (Nxs N (i3 + 1).toNatClampNeg) Im Jm hm) ?_
  refine l_same X dL_law_408 (tgt := 736) (by decide) ?_
  exact kk
theorem lc_call {N : NT} (X : LC N) {Ic Im Ic' Im' : aI} {Jc Jm Jc' Jm' : aJ} {i3 : Int32} (h1 : vp_in (i3 + 1) (NL N)) (h2 : vp_in (i3 + 2) (NL N)) (h3 : vp_in (i3 + 3) (NL N)) (h4 : vp_in (i3 + 4) (NL N)) {r : Int32} (hc : fX7_call (Nxs N (i3 + 1).toNatClampNeg) (Nxs N (i3 + 2).toNatClampNeg) (Nxs N (i3 + 3).toNatClampNeg) (Nxs N (i3 + 4).toNatClampNeg) Ic Jc = some (r, Ic', Jc')) (hm : fX8_call (Nxs N (i3 + 1).toNatClampNeg) (Nxs N (i3 + 2).toNatClampNeg) (Nxs N (i3 + 3).toNatClampNeg) (Nxs N (i3 + 4).toNatClampNeg) Im Jm = some (r, Im', Jm')) (kk : Lg N Ic' Jc' Im' Jm' i3 736 []) : Lg N Ic Jc Im Jm i3 413 [] := by
  refine l_x X dL_law_413 ?_
  refine l_a X 1 1 rfl dL_law_414 dL_law_415 dL_law_416 dL_law_417 dL_law_418 h1 ?_
  refine l_a X 2 2 rfl dL_law_419 dL_law_420 dL_law_421 dL_law_422 dL_law_423 h2 ?_
  refine l_a X 3 3 rfl dL_law_424 dL_law_425 dL_law_426 dL_law_427 dL_law_428 h3 ?_
  refine l_a X 4 4 rfl dL_law_429 dL_law_430 dL_law_431 dL_law_432 dL_law_433 h4 ?_
  refine l_callC X dL_law_434 cw_L_60 (As := [.int (Nxs N (i3 + 1).toNatClampNeg), .int (Nxs N (i3 + 2).toNatClampNeg), .int (Nxs N (i3 + 3).toNatClampNeg), .int (Nxs N (i3 + 4).toNatClampNeg)]) rfl rfl (Nat.le_of_ble_eq_true rfl) (d' := 2) (by decide) (cX7_call_ok N.2.1 (NVc N) (Nxs N (i3 + 1).toNatClampNeg) (Nxs N (i3 + 2).toNatClampNeg) (Nxs N (i3 + 3).toNatClampNeg) (Nxs N (i3 + 4).toNatClampNeg) Ic Jc hc) ?_
  refine l_m X dL_law_437 ?_
  refine l_a X 1 1 rfl dL_law_438 dL_law_439 dL_law_440 dL_law_441 dL_law_442 h1 ?_
  refine l_a X 2 2 rfl dL_law_443 dL_law_444 dL_law_445 dL_law_446 dL_law_447 h2 ?_
  refine l_a X 3 3 rfl dL_law_448 dL_law_449 dL_law_450 dL_law_451 dL_law_452 h3 ?_
  refine l_a X 4 4 rfl dL_law_453 dL_law_454 dL_law_455 dL_law_456 dL_law_457 h4 ?_
  refine l_callM X dL_law_458 cw_L_64 (As := [.int (Nxs N (i3 + 1).toNatClampNeg), .int (Nxs N (i3 + 2).toNatClampNeg), .int (Nxs N (i3 + 3).toNatClampNeg), .int (Nxs N (i3 + 4).toNatClampNeg)]) rfl rfl (Nat.le_of_ble_eq_true rfl) (d' := 2) (by decide) (cX8_call_ok N.2.1 (NVm N) (Nxs N (i3 + 1).toNatClampNeg) (Nxs N (i3 + 2).toNatClampNeg) (Nxs N (i3 + 3).toNatClampNeg) (Nxs N (i3 + 4).toNatClampNeg) Im Jm hm) ?_
  refine l_same X dL_law_461 (tgt := 736) (by decide) ?_
  exact kk
theorem lc_round {N : NT} (X : LC N) {Ic Im Ic' Im' : aI} {Jc Jm Jc' Jm' : aJ} {i3 : Int32} (h1 : vp_in (i3 + 1) (NL N)) (h2 : vp_in (i3 + 2) (NL N)) {r : Int32} (hc : fX7_round (Nxs N (i3 + 1).toNatClampNeg) (Nxs N (i3 + 2).toNatClampNeg) Ic Jc = some (r, Ic', Jc')) (hm : fX8_round (Nxs N (i3 + 1).toNatClampNeg) (Nxs N (i3 + 2).toNatClampNeg) Im Jm = some (r, Im', Jm')) (kk : Lg N Ic' Jc' Im' Jm' i3 736 []) : Lg N Ic Jc Im Jm i3 466 [] := by
  refine l_x X dL_law_466 ?_
  refine l_a X 1 1 rfl dL_law_467 dL_law_468 dL_law_469 dL_law_470 dL_law_471 h1 ?_
  refine l_a X 2 2 rfl dL_law_472 dL_law_473 dL_law_474 dL_law_475 dL_law_476 h2 ?_
  refine l_callC X dL_law_477 cw_L_65 (As := [.int (Nxs N (i3 + 1).toNatClampNeg), .int (Nxs N (i3 + 2).toNatClampNeg)]) rfl rfl (Nat.le_of_ble_eq_true rfl) (d' := 13) (by decide) (cX7_round_ok N.2.1 (NVc N) (Nxs N (i3 + 1).toNatClampNeg) (Nxs N (i3 + 2).toNatClampNeg) Ic Jc hc) ?_
  refine l_m X dL_law_480 ?_
  refine l_a X 1 1 rfl dL_law_481 dL_law_482 dL_law_483 dL_law_484 dL_law_485 h1 ?_
  refine l_a X 2 2 rfl dL_law_486 dL_law_487 dL_law_488 dL_law_489 dL_law_490 h2 ?_
  refine l_callM X dL_law_491 cw_L_68 (As := [.int (Nxs N (i3 + 1).toNatClampNeg), .int (Nxs N (i3 + 2).toNatClampNeg)]) rfl rfl (Nat.le_of_ble_eq_true rfl) (d' := 4) (by decide) (cX8_round_ok N.2.1 (NVm N) (Nxs N (i3 + 1).toNatClampNeg) (Nxs N (i3 + 2).toNatClampNeg) Im Jm hm) ?_
  refine l_same X dL_law_494 (tgt := 736) (by decide) ?_
  exact kk
theorem lc_odds {N : NT} (X : LC N) {Ic Im Ic' Im' : aI} {Jc Jm Jc' Jm' : aJ} {i3 : Int32} (h1 : vp_in (i3 + 1) (NL N)) (h2 : vp_in (i3 + 2) (NL N)) (h3 : vp_in (i3 + 3) (NL N)) {r : Int32} (hc : fX7_odds (Nxs N (i3 + 1).toNatClampNeg) (Nxs N (i3 + 2).toNatClampNeg) (Nxs N (i3 + 3).toNatClampNeg) Ic Jc = some (r, Ic', Jc')) (hm : fX8_odds (Nxs N (i3 + 1).toNatClampNeg) (Nxs N (i3 + 2).toNatClampNeg) (Nxs N (i3 + 3).toNatClampNeg) Im Jm = some (r, Im', Jm')) (kk : Lg N Ic' Jc' Im' Jm' i3 736 []) : Lg N Ic Jc Im Jm i3 499 [] := by
  refine l_x X dL_law_499 ?_
  refine l_a X 1 1 rfl dL_law_500 dL_law_501 dL_law_502 dL_law_503 dL_law_504 h1 ?_
  refine l_a X 2 2 rfl dL_law_505 dL_law_506 dL_law_507 dL_law_508 dL_law_509 h2 ?_
  refine l_a X 3 3 rfl dL_law_510 dL_law_511 dL_law_512 dL_law_513 dL_law_514 h3 ?_
  refine l_callC X dL_law_515 cw_L_69 (As := [.int (Nxs N (i3 + 1).toNatClampNeg), .int (Nxs N (i3 + 2).toNatClampNeg), .int (Nxs N (i3 + 3).toNatClampNeg)]) rfl rfl (Nat.le_of_ble_eq_true rfl) (d' := 3) (by decide) (cX7_odds_ok N.2.1 (NVc N) (Nxs N (i3 + 1).toNatClampNeg) (Nxs N (i3 + 2).toNatClampNeg) (Nxs N (i3 + 3).toNatClampNeg) Ic Jc hc) ?_
  refine l_m X dL_law_518 ?_
  refine l_a X 1 1 rfl dL_law_519 dL_law_520 dL_law_521 dL_law_522 dL_law_523 h1 ?_
  refine l_a X 2 2 rfl dL_law_524 dL_law_525 dL_law_526 dL_law_527 dL_law_528 h2 ?_
  refine l_a X 3 3 rfl dL_law_529 dL_law_530 dL_law_531 dL_law_532 dL_law_533 h3 ?_
  refine l_callM X dL_law_534 cw_L_73 (As := [.int (Nxs N (i3 + 1).toNatClampNeg), .int (Nxs N (i3 + 2).toNatClampNeg), .int (Nxs N (i3 + 3).toNatClampNeg)]) rfl rfl (Nat.le_of_ble_eq_true rfl) (d' := 3) (by decide) (cX8_odds_ok N.2.1 (NVm N) (Nxs N (i3 + 1).toNatClampNeg) (Nxs N (i3 + 2).toNatClampNeg) (Nxs N (i3 + 3).toNatClampNeg) Im Jm hm) ?_
  refine l_same X dL_law_537 (tgt := 736) (by decide) ?_
  exact kk
theorem lc_see0 {N : NT} (X : LC N) {Ic Im Ic' Im' : aI} {Jc Jm Jc' Jm' : aJ} {i3 : Int32} (h1 : vp_in (i3 + 1) (NL N)) (h2 : vp_in (i3 + 2) (NL N)) (hz : (Nxs N (i3 + 2).toNatClampNeg) = 0) {r : Int32} (hc : fX7_see (Nxs N (i3 + 1).toNatClampNeg) 0 Ic Jc = some (r, Ic', Jc')) (hm : fX8_see (Nxs N (i3 + 1).toNatClampNeg) 0 Im Jm = some (r, Im', Jm')) (kk : Lg N Ic' Jc' Im' Jm' i3 736 []) : Lg N Ic Jc Im Jm i3 542 [] := by
  refine l_x X dL_law_542 ?_
  refine l_a X 1 1 rfl dL_law_543 dL_law_544 dL_law_545 dL_law_546 dL_law_547 h1 ?_
  refine l_a X 2 2 rfl dL_law_548 dL_law_549 dL_law_550 dL_law_551 dL_law_552 h2 ?_
  refine l_if0 X dL_law_553 (tgt := 560) (by decide) (fun _ => ?_) (fun h => absurd hz h)
  refine l_ic X dL_law_560 (v := 0) rfl ?_
  refine l_callC X dL_law_561 cw_L_74 (As := [.int (Nxs N (i3 + 1).toNatClampNeg), .int 0]) rfl rfl (Nat.le_of_ble_eq_true rfl) (d' := 2) (by decide) (cX7_see_ok N.2.1 (NVc N) (Nxs N (i3 + 1).toNatClampNeg) 0 Ic Jc hc) ?_
  refine l_m X dL_law_564 ?_
  refine l_a X 1 1 rfl dL_law_565 dL_law_566 dL_law_567 dL_law_568 dL_law_569 h1 ?_
  refine l_a X 2 2 rfl dL_law_570 dL_law_571 dL_law_572 dL_law_573 dL_law_574 h2 ?_
  refine l_if0 X dL_law_575 (tgt := 582) (by decide) (fun _ => ?_) (fun h => absurd hz h)
  refine l_ic X dL_law_582 (v := 0) rfl ?_
  refine l_callM X dL_law_583 cw_L_78 (As := [.int (Nxs N (i3 + 1).toNatClampNeg), .int 0]) rfl rfl (Nat.le_of_ble_eq_true rfl) (d' := 2) (by decide) (cX8_see_ok N.2.1 (NVm N) (Nxs N (i3 + 1).toNatClampNeg) 0 Im Jm hm) ?_
  refine l_same X dL_law_586 (tgt := 736) (by decide) ?_
  exact kk
theorem lc_see1 {N : NT} (X : LC N) {Ic Im Ic' Im' : aI} {Jc Jm Jc' Jm' : aJ} {i3 : Int32} (h1 : vp_in (i3 + 1) (NL N)) (h2 : vp_in (i3 + 2) (NL N)) (hz : ¬ (Nxs N (i3 + 2).toNatClampNeg) = 0) {r : Int32} (hc : fX7_see (Nxs N (i3 + 1).toNatClampNeg) 1 Ic Jc = some (r, Ic', Jc')) (hm : fX8_see (Nxs N (i3 + 1).toNatClampNeg) 1 Im Jm = some (r, Im', Jm')) (kk : Lg N Ic' Jc' Im' Jm' i3 736 []) : Lg N Ic Jc Im Jm i3 542 [] := by
  refine l_x X dL_law_542 ?_
  refine l_a X 1 1 rfl dL_law_543 dL_law_544 dL_law_545 dL_law_546 dL_law_547 h1 ?_
  refine l_a X 2 2 rfl dL_law_548 dL_law_549 dL_law_550 dL_law_551 dL_law_552 h2 ?_
  refine l_if0 X dL_law_553 (tgt := 560) (by decide) (fun h => absurd h hz) (fun _ => ?_)
  refine l_ic X dL_law_556 (v := 1) rfl ?_
  refine l_go X dL_law_557 (tgt := 561) (by decide) ?_
  refine l_callC X dL_law_561 cw_L_74 (As := [.int (Nxs N (i3 + 1).toNatClampNeg), .int 1]) rfl rfl (Nat.le_of_ble_eq_true rfl) (d' := 2) (by decide) (cX7_see_ok N.2.1 (NVc N) (Nxs N (i3 + 1).toNatClampNeg) 1 Ic Jc hc) ?_
  refine l_m X dL_law_564 ?_
  refine l_a X 1 1 rfl dL_law_565 dL_law_566 dL_law_567 dL_law_568 dL_law_569 h1 ?_
  refine l_a X 2 2 rfl dL_law_570 dL_law_571 dL_law_572 dL_law_573 dL_law_574 h2 ?_
  refine l_if0 X dL_law_575 (tgt := 582) (by decide) (fun h => absurd h hz) (fun _ => ?_)
  refine l_ic X dL_law_578 (v := 1) rfl ?_
  refine l_go X dL_law_579 (tgt := 583) (by decide) ?_
  refine l_callM X dL_law_583 cw_L_78 (As := [.int (Nxs N (i3 + 1).toNatClampNeg), .int 1]) rfl rfl (Nat.le_of_ble_eq_true rfl) (d' := 2) (by decide) (cX8_see_ok N.2.1 (NVm N) (Nxs N (i3 + 1).toNatClampNeg) 1 Im Jm hm) ?_
  refine l_same X dL_law_586 (tgt := 736) (by decide) ?_
  exact kk
theorem lc_forget {N : NT} (X : LC N) {Ic Im Ic' Im' : aI} {Jc Jm Jc' Jm' : aJ} {i3 : Int32}  {r : Int32} (hc : fX7_forget  Ic Jc = some (r, Ic', Jc')) (hm : fX8_forget  Im Jm = some (r, Im', Jm')) (kk : Lg N Ic' Jc' Im' Jm' i3 736 []) : Lg N Ic Jc Im Jm i3 591 [] := by
  refine l_x X dL_law_591 ?_
  refine l_callC X dL_law_592 cw_L_79 (As := []) rfl rfl (Nat.le_of_ble_eq_true rfl) (d' := 0) (by decide) (cX7_forget_ok N.2.1 (NVc N)  Ic Jc hc) ?_
  refine l_m X dL_law_595 ?_
  refine l_callM X dL_law_596 cw_L_82 (As := []) rfl rfl (Nat.le_of_ble_eq_true rfl) (d' := 0) (by decide) (cX8_forget_ok N.2.1 (NVm N)  Im Jm hm) ?_
  refine l_same X dL_law_599 (tgt := 736) (by decide) ?_
  exact kk
theorem lc_places {N : NT} (X : LC N) {Ic Im Ic' Im' : aI} {Jc Jm Jc' Jm' : aJ} {i3 : Int32}  {r : Int32} (hc : fX7_places  Ic Jc = some (r, Ic', Jc')) (hm : fX8_places  Im Jm = some (r, Im', Jm')) (kk : Lg N Ic' Jc' Im' Jm' i3 736 []) : Lg N Ic Jc Im Jm i3 604 [] := by
  refine l_x X dL_law_604 ?_
  refine l_callC X dL_law_605 cw_L_83 (As := []) rfl rfl (Nat.le_of_ble_eq_true rfl) (d' := 2) (by decide) (cX7_places_ok N.2.1 (NVc N)  Ic Jc hc) ?_
  refine l_m X dL_law_608 ?_
  refine l_callM X dL_law_609 cw_L_86 (As := []) rfl rfl (Nat.le_of_ble_eq_true rfl) (d' := 2) (by decide) (cX8_places_ok N.2.1 (NVm N)  Im Jm hm) ?_
  refine l_same X dL_law_612 (tgt := 736) (by decide) ?_
  exact kk
theorem lc_ask {N : NT} (X : LC N) {Ic Im Ic' Im' : aI} {Jc Jm Jc' Jm' : aJ} {i3 : Int32}  {r : Int32} (hc : fX7_ask  Ic Jc = some (r, Ic', Jc')) (hm : fX8_ask  Im Jm = some (r, Im', Jm')) (kk : Lg N Ic' Jc' Im' Jm' i3 736 []) : Lg N Ic Jc Im Jm i3 617 [] := by
  refine l_x X dL_law_617 ?_
  refine l_callC X dL_law_618 cw_L_87 (As := []) rfl rfl (Nat.le_of_ble_eq_true rfl) (d' := 2) (by decide) (cX7_ask_ok N.2.1 (NVc N)  Ic Jc hc) ?_
  refine l_m X dL_law_621 ?_
  refine l_callM X dL_law_622 cw_L_90 (As := []) rfl rfl (Nat.le_of_ble_eq_true rfl) (d' := 3) (by decide) (cX8_ask_ok N.2.1 (NVm N)  Im Jm hm) ?_
  refine l_same X dL_law_625 (tgt := 736) (by decide) ?_
  exact kk
theorem lc_evenings {N : NT} (X : LC N) {Ic Im Ic' Im' : aI} {Jc Jm Jc' Jm' : aJ} {i3 : Int32} (h1 : vp_in (i3 + 1) (NL N)) (h2 : vp_in (i3 + 2) (NL N)) (h3 : vp_in (i3 + 3) (NL N)) {r : Int32} (hc : fX7_evenings (Nxs N (i3 + 1).toNatClampNeg) (Nxs N (i3 + 2).toNatClampNeg) (Nxs N (i3 + 3).toNatClampNeg) Ic Jc = some (r, Ic', Jc')) (hm : fX8_evenings (Nxs N (i3 + 1).toNatClampNeg) (Nxs N (i3 + 2).toNatClampNeg) (Nxs N (i3 + 3).toNatClampNeg) Im Jm = some (r, Im', Jm')) (kk : Lg N Ic' Jc' Im' Jm' i3 736 []) : Lg N Ic Jc Im Jm i3 630 [] := by
  refine l_x X dL_law_630 ?_
  refine l_a X 1 1 rfl dL_law_631 dL_law_632 dL_law_633 dL_law_634 dL_law_635 h1 ?_
  refine l_a X 2 2 rfl dL_law_636 dL_law_637 dL_law_638 dL_law_639 dL_law_640 h2 ?_
  refine l_a X 3 3 rfl dL_law_641 dL_law_642 dL_law_643 dL_law_644 dL_law_645 h3 ?_
  refine l_callC X dL_law_646 cw_L_91 (As := [.int (Nxs N (i3 + 1).toNatClampNeg), .int (Nxs N (i3 + 2).toNatClampNeg), .int (Nxs N (i3 + 3).toNatClampNeg)]) rfl rfl (Nat.le_of_ble_eq_true rfl) (d' := 4) (by decide) (cX7_evenings_ok N.2.1 (NVc N) (Nxs N (i3 + 1).toNatClampNeg) (Nxs N (i3 + 2).toNatClampNeg) (Nxs N (i3 + 3).toNatClampNeg) Ic Jc hc) ?_
  refine l_m X dL_law_649 ?_
  refine l_a X 1 1 rfl dL_law_650 dL_law_651 dL_law_652 dL_law_653 dL_law_654 h1 ?_
  refine l_a X 2 2 rfl dL_law_655 dL_law_656 dL_law_657 dL_law_658 dL_law_659 h2 ?_
  refine l_a X 3 3 rfl dL_law_660 dL_law_661 dL_law_662 dL_law_663 dL_law_664 h3 ?_
  refine l_callM X dL_law_665 cw_L_94 (As := [.int (Nxs N (i3 + 1).toNatClampNeg), .int (Nxs N (i3 + 2).toNatClampNeg), .int (Nxs N (i3 + 3).toNatClampNeg)]) rfl rfl (Nat.le_of_ble_eq_true rfl) (d' := 2) (by decide) (cX8_evenings_ok N.2.1 (NVm N) (Nxs N (i3 + 1).toNatClampNeg) (Nxs N (i3 + 2).toNatClampNeg) (Nxs N (i3 + 3).toNatClampNeg) Im Jm hm) ?_
  refine l_same X dL_law_668 (tgt := 736) (by decide) ?_
  exact kk
theorem lc_image {N : NT} (X : LC N) {Ic Im Ic' Im' : aI} {Jc Jm Jc' Jm' : aJ} {i3 : Int32}  {r : Int32} (hc : fX7_image  Ic Jc = some (r, Ic', Jc')) (hm : fX8_image  Im Jm = some (r, Im', Jm')) (kk : Lg N Ic' Jc' Im' Jm' i3 736 []) : Lg N Ic Jc Im Jm i3 673 [] := by
  refine l_x X dL_law_673 ?_
  refine l_callC X dL_law_674 cw_L_95 (As := []) rfl rfl (Nat.le_of_ble_eq_true rfl) (d' := 2) (by decide) (cX7_image_ok N.2.1 (NVc N)  Ic Jc hc) ?_
  refine l_m X dL_law_677 ?_
  refine l_callM X dL_law_678 cw_L_98 (As := []) rfl rfl (Nat.le_of_ble_eq_true rfl) (d' := 1) (by decide) (cX8_image_ok N.2.1 (NVm N)  Im Jm hm) ?_
  refine l_same X dL_law_681 (tgt := 736) (by decide) ?_
  exact kk
theorem lc_restore {N : NT} (X : LC N) {Ic Im Ic' Im' : aI} {Jc Jm Jc' Jm' : aJ} {i3 : Int32}  {r : Int32} (hc : fX7_restore  Ic Jc = some (r, Ic', Jc')) (hm : fX8_restore  Im Jm = some (r, Im', Jm')) (kk : Lg N Ic' Jc' Im' Jm' i3 736 []) : Lg N Ic Jc Im Jm i3 686 [] := by
  refine l_x X dL_law_686 ?_
  refine l_callC X dL_law_687 cw_L_99 (As := []) rfl rfl (Nat.le_of_ble_eq_true rfl) (d' := 2) (by decide) (cX7_restore_ok N.2.1 (NVc N)  Ic Jc hc) ?_
  refine l_m X dL_law_690 ?_
  refine l_callM X dL_law_691 cw_L_102 (As := []) rfl rfl (Nat.le_of_ble_eq_true rfl) (d' := 1) (by decide) (cX8_restore_ok N.2.1 (NVm N)  Im Jm hm) ?_
  refine l_same X dL_law_694 (tgt := 736) (by decide) ?_
  exact kk
theorem lc_count {N : NT} (X : LC N) {Ic Im Ic' Im' : aI} {Jc Jm Jc' Jm' : aJ} {i3 : Int32} (h1 : vp_in (i3 + 1) (NL N)) {r : Int32} (hc : fX7_count (Nxs N (i3 + 1).toNatClampNeg) Ic Jc = some (r, Ic', Jc')) (hm : fX8_count (Nxs N (i3 + 1).toNatClampNeg) Im Jm = some (r, Im', Jm')) (kk : Lg N Ic' Jc' Im' Jm' i3 736 []) : Lg N Ic Jc Im Jm i3 699 [] := by
  refine l_x X dL_law_699 ?_
  refine l_a X 1 1 rfl dL_law_700 dL_law_701 dL_law_702 dL_law_703 dL_law_704 h1 ?_
  refine l_callC X dL_law_705 cw_L_103 (As := [.int (Nxs N (i3 + 1).toNatClampNeg)]) rfl rfl (Nat.le_of_ble_eq_true rfl) (d' := 3) (by decide) (cX7_count_ok N.2.1 (NVc N) (Nxs N (i3 + 1).toNatClampNeg) Ic Jc hc) ?_
  refine l_m X dL_law_708 ?_
  refine l_a X 1 1 rfl dL_law_709 dL_law_710 dL_law_711 dL_law_712 dL_law_713 h1 ?_
  refine l_callM X dL_law_714 cw_L_106 (As := [.int (Nxs N (i3 + 1).toNatClampNeg)]) rfl rfl (Nat.le_of_ble_eq_true rfl) (d' := 3) (by decide) (cX8_count_ok N.2.1 (NVm N) (Nxs N (i3 + 1).toNatClampNeg) Im Jm hm) ?_
  refine l_same X dL_law_717 (tgt := 736) (by decide) ?_
  exact kk
theorem lc_digest {N : NT} (X : LC N) {Ic Im Ic' Im' : aI} {Jc Jm Jc' Jm' : aJ} {i3 : Int32}  {r : Int64} (hc : fX7_digest  Ic Jc = some (r, Ic', Jc')) (hm : fX8_digest  Im Jm = some (r, Im', Jm')) (kk : Lg N Ic' Jc' Im' Jm' i3 736 []) : Lg N Ic Jc Im Jm i3 722 [] := by
  refine l_x X dL_law_722 ?_
  refine l_callCL X dL_law_723 cw_L_107 (As := []) rfl rfl (Nat.le_of_ble_eq_true rfl) (d' := 5) (by decide) (cX7_digest_ok N.2.1 (NVc N)  Ic Jc hc) ?_
  refine l_m X dL_law_726 ?_
  refine l_callML X dL_law_727 cw_L_111 (As := []) rfl rfl (Nat.le_of_ble_eq_true rfl) (d' := 6) (by decide) (cX8_digest_ok N.2.1 (NVm N)  Im Jm hm) ?_
  refine l_sameL X dL_law_730 dL_law_731 (tgt := 736) (by decide) ?_
  exact kk
/-- what is owed of the two: each call, from related states, answers alike and leaves related states -/
def StepOK (Rel : Nat → aI → aJ → aI → aJ → Prop) : Prop :=
  (∀ (t : Nat) (Ic : aI) (Jc : aJ) (Im : aI) (Jm : aJ), t < 64 → Rel t Ic Jc Im Jm → ∀ x1 : Int32, ∃ (r : Int32) (Ic' : aI) (Jc' : aJ) (Im' : aI) (Jm' : aJ), fX7_letter x1 Ic Jc = some (r, Ic', Jc') ∧ fX8_letter x1 Im Jm = some (r, Im', Jm') ∧ Rel (t + 1) Ic' Jc' Im' Jm') ∧
  (∀ (t : Nat) (Ic : aI) (Jc : aJ) (Im : aI) (Jm : aJ), t < 64 → Rel t Ic Jc Im Jm → ∃ (r : Int32) (Ic' : aI) (Jc' : aJ) (Im' : aI) (Jm' : aJ), fX7_blank  Ic Jc = some (r, Ic', Jc') ∧ fX8_blank  Im Jm = some (r, Im', Jm') ∧ Rel (t + 1) Ic' Jc' Im' Jm') ∧
  (∀ (t : Nat) (Ic : aI) (Jc : aJ) (Im : aI) (Jm : aJ), t < 64 → Rel t Ic Jc Im Jm → ∃ (r : Int32) (Ic' : aI) (Jc' : aJ) (Im' : aI) (Jm' : aJ), fX7_fault  Ic Jc = some (r, Ic', Jc') ∧ fX8_fault  Im Jm = some (r, Im', Jm') ∧ Rel (t + 1) Ic' Jc' Im' Jm') ∧
  (∀ (t : Nat) (Ic : aI) (Jc : aJ) (Im : aI) (Jm : aJ), t < 64 → Rel t Ic Jc Im Jm → ∃ (r : Int32) (Ic' : aI) (Jc' : aJ) (Im' : aI) (Jm' : aJ), fX7_suburb  Ic Jc = some (r, Ic', Jc') ∧ fX8_suburb  Im Jm = some (r, Im', Jm') ∧ Rel (t + 1) Ic' Jc' Im' Jm') ∧
  (∀ (t : Nat) (Ic : aI) (Jc : aJ) (Im : aI) (Jm : aJ), t < 64 → Rel t Ic Jc Im Jm → ∀ x1 x2 : Int32, ∃ (r : Int32) (Ic' : aI) (Jc' : aJ) (Im' : aI) (Jm' : aJ), fX7_person x1 x2 Ic Jc = some (r, Ic', Jc') ∧ fX8_person x1 x2 Im Jm = some (r, Im', Jm') ∧ Rel (t + 1) Ic' Jc' Im' Jm') ∧
  (∀ (t : Nat) (Ic : aI) (Jc : aJ) (Im : aI) (Jm : aJ), t < 64 → Rel t Ic Jc Im Jm → ∀ x1 x2 : Int32, ∃ (r : Int32) (Ic' : aI) (Jc' : aJ) (Im' : aI) (Jm' : aJ), fX7_as x1 x2 Ic Jc = some (r, Ic', Jc') ∧ fX8_as x1 x2 Im Jm = some (r, Im', Jm') ∧ Rel (t + 1) Ic' Jc' Im' Jm') ∧
  (∀ (t : Nat) (Ic : aI) (Jc : aJ) (Im : aI) (Jm : aJ), t < 64 → Rel t Ic Jc Im Jm → ∀ x1 x2 : Int32, ∃ (r : Int32) (Ic' : aI) (Jc' : aJ) (Im' : aI) (Jm' : aJ), fX7_road x1 x2 Ic Jc = some (r, Ic', Jc') ∧ fX8_road x1 x2 Im Jm = some (r, Im', Jm') ∧ Rel (t + 1) Ic' Jc' Im' Jm') ∧
  (∀ (t : Nat) (Ic : aI) (Jc : aJ) (Im : aI) (Jm : aJ), t < 64 → Rel t Ic Jc Im Jm → ∀ x1 x2 : Int32, ∃ (r : Int32) (Ic' : aI) (Jc' : aJ) (Im' : aI) (Jm' : aJ), fX7_corner x1 x2 Ic Jc = some (r, Ic', Jc') ∧ fX8_corner x1 x2 Im Jm = some (r, Im', Jm') ∧ Rel (t + 1) Ic' Jc' Im' Jm') ∧
  (∀ (t : Nat) (Ic : aI) (Jc : aJ) (Im : aI) (Jm : aJ), t < 64 → Rel t Ic Jc Im Jm → ∀ x1 x2 : Int32, ∃ (r : Int32) (Ic' : aI) (Jc' : aJ) (Im' : aI) (Jm' : aJ), fX7_far x1 x2 Ic Jc = some (r, Ic', Jc') ∧ fX8_far x1 x2 Im Jm = some (r, Im', Jm') ∧ Rel (t + 1) Ic' Jc' Im' Jm') ∧
  (∀ (t : Nat) (Ic : aI) (Jc : aJ) (Im : aI) (Jm : aJ), t < 64 → Rel t Ic Jc Im Jm → ∀ x1 : Int32, ∃ (r : Int32) (Ic' : aI) (Jc' : aJ) (Im' : aI) (Jm' : aJ), fX7_go x1 Ic Jc = some (r, Ic', Jc') ∧ fX8_go x1 Im Jm = some (r, Im', Jm') ∧ Rel (t + 1) Ic' Jc' Im' Jm') ∧
  (∀ (t : Nat) (Ic : aI) (Jc : aJ) (Im : aI) (Jm : aJ), t < 64 → Rel t Ic Jc Im Jm → ∀ x1 : Int32, ∃ (r : Int32) (Ic' : aI) (Jc' : aJ) (Im' : aI) (Jm' : aJ), fX7_stand x1 Ic Jc = some (r, Ic', Jc') ∧ fX8_stand x1 Im Jm = some (r, Im', Jm') ∧ Rel (t + 1) Ic' Jc' Im' Jm') ∧
  (∀ (t : Nat) (Ic : aI) (Jc : aJ) (Im : aI) (Jm : aJ), t < 64 → Rel t Ic Jc Im Jm → ∀ x1 x2 x3 x4 : Int32, ∃ (r : Int32) (Ic' : aI) (Jc' : aJ) (Im' : aI) (Jm' : aJ), fX7_call x1 x2 x3 x4 Ic Jc = some (r, Ic', Jc') ∧ fX8_call x1 x2 x3 x4 Im Jm = some (r, Im', Jm') ∧ Rel (t + 1) Ic' Jc' Im' Jm') ∧
  (∀ (t : Nat) (Ic : aI) (Jc : aJ) (Im : aI) (Jm : aJ), t < 64 → Rel t Ic Jc Im Jm → ∀ x1 x2 : Int32, ∃ (r : Int32) (Ic' : aI) (Jc' : aJ) (Im' : aI) (Jm' : aJ), fX7_round x1 x2 Ic Jc = some (r, Ic', Jc') ∧ fX8_round x1 x2 Im Jm = some (r, Im', Jm') ∧ Rel (t + 1) Ic' Jc' Im' Jm') ∧
  (∀ (t : Nat) (Ic : aI) (Jc : aJ) (Im : aI) (Jm : aJ), t < 64 → Rel t Ic Jc Im Jm → ∀ x1 x2 x3 : Int32, ∃ (r : Int32) (Ic' : aI) (Jc' : aJ) (Im' : aI) (Jm' : aJ), fX7_odds x1 x2 x3 Ic Jc = some (r, Ic', Jc') ∧ fX8_odds x1 x2 x3 Im Jm = some (r, Im', Jm') ∧ Rel (t + 1) Ic' Jc' Im' Jm') ∧
  (∀ (t : Nat) (Ic : aI) (Jc : aJ) (Im : aI) (Jm : aJ), t < 64 → Rel t Ic Jc Im Jm → ∀ x1 x2 : Int32, (x2 = 0 ∨ x2 = 1) → ∃ (r : Int32) (Ic' : aI) (Jc' : aJ) (Im' : aI) (Jm' : aJ), fX7_see x1 x2 Ic Jc = some (r, Ic', Jc') ∧ fX8_see x1 x2 Im Jm = some (r, Im', Jm') ∧ Rel (t + 1) Ic' Jc' Im' Jm') ∧
  (∀ (t : Nat) (Ic : aI) (Jc : aJ) (Im : aI) (Jm : aJ), t < 64 → Rel t Ic Jc Im Jm → ∃ (r : Int32) (Ic' : aI) (Jc' : aJ) (Im' : aI) (Jm' : aJ), fX7_forget  Ic Jc = some (r, Ic', Jc') ∧ fX8_forget  Im Jm = some (r, Im', Jm') ∧ Rel (t + 1) Ic' Jc' Im' Jm') ∧
  (∀ (t : Nat) (Ic : aI) (Jc : aJ) (Im : aI) (Jm : aJ), t < 64 → Rel t Ic Jc Im Jm → ∃ (r : Int32) (Ic' : aI) (Jc' : aJ) (Im' : aI) (Jm' : aJ), fX7_places  Ic Jc = some (r, Ic', Jc') ∧ fX8_places  Im Jm = some (r, Im', Jm') ∧ Rel (t + 1) Ic' Jc' Im' Jm') ∧
  (∀ (t : Nat) (Ic : aI) (Jc : aJ) (Im : aI) (Jm : aJ), t < 64 → Rel t Ic Jc Im Jm → ∃ (r : Int32) (Ic' : aI) (Jc' : aJ) (Im' : aI) (Jm' : aJ), fX7_ask  Ic Jc = some (r, Ic', Jc') ∧ fX8_ask  Im Jm = some (r, Im', Jm') ∧ Rel (t + 1) Ic' Jc' Im' Jm') ∧
  (∀ (t : Nat) (Ic : aI) (Jc : aJ) (Im : aI) (Jm : aJ), t < 64 → Rel t Ic Jc Im Jm → ∀ x1 x2 x3 : Int32, ∃ (r : Int32) (Ic' : aI) (Jc' : aJ) (Im' : aI) (Jm' : aJ), fX7_evenings x1 x2 x3 Ic Jc = some (r, Ic', Jc') ∧ fX8_evenings x1 x2 x3 Im Jm = some (r, Im', Jm') ∧ Rel (t + 1) Ic' Jc' Im' Jm') ∧
  (∀ (t : Nat) (Ic : aI) (Jc : aJ) (Im : aI) (Jm : aJ), t < 64 → Rel t Ic Jc Im Jm → ∃ (r : Int32) (Ic' : aI) (Jc' : aJ) (Im' : aI) (Jm' : aJ), fX7_image  Ic Jc = some (r, Ic', Jc') ∧ fX8_image  Im Jm = some (r, Im', Jm') ∧ Rel (t + 1) Ic' Jc' Im' Jm') ∧
  (∀ (t : Nat) (Ic : aI) (Jc : aJ) (Im : aI) (Jm : aJ), t < 64 → Rel t Ic Jc Im Jm → ∃ (r : Int32) (Ic' : aI) (Jc' : aJ) (Im' : aI) (Jm' : aJ), fX7_restore  Ic Jc = some (r, Ic', Jc') ∧ fX8_restore  Im Jm = some (r, Im', Jm') ∧ Rel (t + 1) Ic' Jc' Im' Jm') ∧
  (∀ (t : Nat) (Ic : aI) (Jc : aJ) (Im : aI) (Jm : aJ), t < 64 → Rel t Ic Jc Im Jm → ∀ x1 : Int32, ∃ (r : Int32) (Ic' : aI) (Jc' : aJ) (Im' : aI) (Jm' : aJ), fX7_count x1 Ic Jc = some (r, Ic', Jc') ∧ fX8_count x1 Im Jm = some (r, Im', Jm') ∧ Rel (t + 1) Ic' Jc' Im' Jm') ∧
  (∀ (t : Nat) (Ic : aI) (Jc : aJ) (Im : aI) (Jm : aJ), t < 64 → Rel t Ic Jc Im Jm → ∃ (r : Int64) (Ic' : aI) (Jc' : aJ) (Im' : aI) (Jm' : aJ), fX7_digest  Ic Jc = some (r, Ic', Jc') ∧ fX8_digest  Im Jm = some (r, Im', Jm') ∧ Rel (t + 1) Ic' Jc' Im' Jm')
section LS
variable {N : NT} {Ic Im : aI} {Jc Jm : aJ} {i3 : Int32} {pc : Nat} {st : List Value}
theorem l_tin (X : LC N) {dflt lo hi : Int} {offs : Array Int} {len : Nat} (hd : decode cL_law pc = .ok (.tableswitch dflt lo hi offs, len)) {x v : Int32} (hx : x = v) (h1 : ¬ v.toInt < lo) (h2 : ¬ hi < v.toInt) {off : Int} (ho : offs[(v.toInt - lo).toNat]? = some off) {tgt : Nat} (ht : (pc : Int) + off = (tgt : Int)) (k : Lg N Ic Jc Im Jm i3 tgt st) : Lg N Ic Jc Im Jm i3 pc (.int x :: st) := by
  subst hx
  exact fun H locs ls g1 g2 g3 hl => lv_tableIn X.1 X.2.1 hd h1 h2 ho ht (k H locs ls g1 g2 g3 hl)
theorem l_tout (X : LC N) {dflt lo hi : Int} {offs : Array Int} {len : Nat} (hd : decode cL_law pc = .ok (.tableswitch dflt lo hi offs, len)) {x : Int32} (h : x.toInt < lo ∨ hi < x.toInt) {tgt : Nat} (ht : (pc : Int) + dflt = (tgt : Int)) (k : Lg N Ic Jc Im Jm i3 tgt st) : Lg N Ic Jc Im Jm i3 pc (.int x :: st) := fun H locs ls g1 g2 g3 hl => lv_tableOut X.1 X.2.1 hd h ht (k H locs ls g1 g2 g3 hl)
theorem l_head (X : LC N) (hin : vp_in i3 (NL N)) (h0 : decode cL_law pc = .ok (.aload_n 0, 1)) (h1 : decode cL_law (pc + 1) = .ok (.iload_n 3, 1)) (h2 : decode cL_law (pc + 1 + 1) = .ok (.iaload, 1)) (h3 : decode cL_law (pc + 1 + 1 + 1) = .ok (.bipush 31, 2)) (h4 : decode cL_law (pc + 1 + 1 + 1 + 2) = .ok (.iand, 1)) (k : Lg N Ic Jc Im Jm i3 (pc + 1 + 1 + 1 + 2 + 1) (.int (Nxs N i3.toNatClampNeg &&& 31) :: st)) : Lg N Ic Jc Im Jm i3 pc st := by
  obtain ⟨p, l, e, s, m, b, below, meth, c, Q, D, cy, adc, adm, L, xs⟩ := N
  obtain ⟨hx, hb, hml, hown, hts, hX, hbl, hK, hFc, hFm, hAc, hAm, hdis⟩ := X
  intro H locs ls g1 g2 g3 hl
  refine lv_aload_n hx hb h0 rfl (lv_at hl 0 rfl) ?_
  refine lv_iload_n hx hb h1 rfl (lv_at hl 3 rfl) ?_
  refine va_sld hx hb hX hbl (Nat.not_le.mpr hbl) g3 hin h2 ?_
  refine lv_bipush hx hb h3 (v := 31) rfl ?_
  exact lv_iand hx hb h4 (k H locs ls g1 g2 g3 hl)
end LS
set_option maxRecDepth 4000 in
theorem law_disp {N : NT} (X : LC N) {Rel : Nat → aI → aJ → aI → aJ → Prop} (hs : StepOK Rel) {t : Nat} (ht : t < 64) {Ic Im : aI} {Jc Jm : aJ} (hR : Rel t Ic Jc Im Jm) (hskip : ∀ Ic Jc Im Jm, Rel t Ic Jc Im Jm → Rel (t + 1) Ic Jc Im Jm) {i3 : Int32} (h0 : vp_in i3 (NL N)) (h1 : vp_in (i3 + 1) (NL N)) (h2 : vp_in (i3 + 2) (NL N)) (h3 : vp_in (i3 + 3) (NL N)) (h4 : vp_in (i3 + 4) (NL N)) (kk : ∀ Ic' Jc' Im' Jm', Rel (t + 1) Ic' Jc' Im' Jm' → Lg N Ic' Jc' Im' Jm' i3 736 []) : Lg N Ic Jc Im Jm i3 26 [] := by
  have key : ∀ x : Int32, Lg N Ic Jc Im Jm i3 32 [.int x] := by
    intro x
    by_cases hx0 : x = 0
    · refine l_tin X dL_law_32 hx0 (by decide) (by decide) rfl (tgt := 140) (by decide) ?_
      obtain ⟨r, Ic', Jc', Im', Jm', hc, hm, hR'⟩ := hs.1 t Ic Jc Im Jm ht hR (Nxs N (i3 + 1).toNatClampNeg)
      exact lc_letter X h1 hc hm (kk _ _ _ _ hR')
    by_cases hx1 : x = 1
    · refine l_tin X dL_law_32 hx1 (by decide) (by decide) rfl (tgt := 163) (by decide) ?_
      obtain ⟨r, Ic', Jc', Im', Jm', hc, hm, hR'⟩ := hs.2.1 t Ic Jc Im Jm ht hR 
      exact lc_blank X  hc hm (kk _ _ _ _ hR')
    by_cases hx2 : x = 2
    · refine l_tin X dL_law_32 hx2 (by decide) (by decide) rfl (tgt := 176) (by decide) ?_
      obtain ⟨r, Ic', Jc', Im', Jm', hc, hm, hR'⟩ := hs.2.2.1 t Ic Jc Im Jm ht hR 
      exact lc_fault X  hc hm (kk _ _ _ _ hR')
    by_cases hx3 : x = 3
    · refine l_tin X dL_law_32 hx3 (by decide) (by decide) rfl (tgt := 189) (by decide) ?_
      obtain ⟨r, Ic', Jc', Im', Jm', hc, hm, hR'⟩ := hs.2.2.2.1 t Ic Jc Im Jm ht hR 
      exact lc_suburb X  hc hm (kk _ _ _ _ hR')
    by_cases hx4 : x = 4
    · refine l_tin X dL_law_32 hx4 (by decide) (by decide) rfl (tgt := 202) (by decide) ?_
      obtain ⟨r, Ic', Jc', Im', Jm', hc, hm, hR'⟩ := hs.2.2.2.2.1 t Ic Jc Im Jm ht hR (Nxs N (i3 + 1).toNatClampNeg) (Nxs N (i3 + 2).toNatClampNeg)
      exact lc_person X h1 h2 hc hm (kk _ _ _ _ hR')
    by_cases hx5 : x = 5
    · refine l_tin X dL_law_32 hx5 (by decide) (by decide) rfl (tgt := 235) (by decide) ?_
      obtain ⟨r, Ic', Jc', Im', Jm', hc, hm, hR'⟩ := hs.2.2.2.2.2.1 t Ic Jc Im Jm ht hR (Nxs N (i3 + 1).toNatClampNeg) (Nxs N (i3 + 2).toNatClampNeg)
      exact lc_as X h1 h2 hc hm (kk _ _ _ _ hR')
    by_cases hx6 : x = 6
    · refine l_tin X dL_law_32 hx6 (by decide) (by decide) rfl (tgt := 268) (by decide) ?_
      obtain ⟨r, Ic', Jc', Im', Jm', hc, hm, hR'⟩ := hs.2.2.2.2.2.2.1 t Ic Jc Im Jm ht hR (Nxs N (i3 + 1).toNatClampNeg) (Nxs N (i3 + 2).toNatClampNeg)
      exact lc_road X h1 h2 hc hm (kk _ _ _ _ hR')
    by_cases hx7 : x = 7
    · refine l_tin X dL_law_32 hx7 (by decide) (by decide) rfl (tgt := 301) (by decide) ?_
      obtain ⟨r, Ic', Jc', Im', Jm', hc, hm, hR'⟩ := hs.2.2.2.2.2.2.2.1 t Ic Jc Im Jm ht hR (Nxs N (i3 + 1).toNatClampNeg) (Nxs N (i3 + 2).toNatClampNeg)
      exact lc_corner X h1 h2 hc hm (kk _ _ _ _ hR')
    by_cases hx8 : x = 8
    · refine l_tin X dL_law_32 hx8 (by decide) (by decide) rfl (tgt := 334) (by decide) ?_
      obtain ⟨r, Ic', Jc', Im', Jm', hc, hm, hR'⟩ := hs.2.2.2.2.2.2.2.2.1 t Ic Jc Im Jm ht hR (Nxs N (i3 + 1).toNatClampNeg) (Nxs N (i3 + 2).toNatClampNeg)
      exact lc_far X h1 h2 hc hm (kk _ _ _ _ hR')
    by_cases hx9 : x = 9
    · refine l_tin X dL_law_32 hx9 (by decide) (by decide) rfl (tgt := 367) (by decide) ?_
      obtain ⟨r, Ic', Jc', Im', Jm', hc, hm, hR'⟩ := hs.2.2.2.2.2.2.2.2.2.1 t Ic Jc Im Jm ht hR (Nxs N (i3 + 1).toNatClampNeg)
      exact lc_go X h1 hc hm (kk _ _ _ _ hR')
    by_cases hx10 : x = 10
    · refine l_tin X dL_law_32 hx10 (by decide) (by decide) rfl (tgt := 390) (by decide) ?_
      obtain ⟨r, Ic', Jc', Im', Jm', hc, hm, hR'⟩ := hs.2.2.2.2.2.2.2.2.2.2.1 t Ic Jc Im Jm ht hR (Nxs N (i3 + 1).toNatClampNeg)
      exact lc_stand X h1 hc hm (kk _ _ _ _ hR')
    by_cases hx11 : x = 11
    · refine l_tin X dL_law_32 hx11 (by decide) (by decide) rfl (tgt := 413) (by decide) ?_
      obtain ⟨r, Ic', Jc', Im', Jm', hc, hm, hR'⟩ := hs.2.2.2.2.2.2.2.2.2.2.2.1 t Ic Jc Im Jm ht hR (Nxs N (i3 + 1).toNatClampNeg) (Nxs N (i3 + 2).toNatClampNeg) (Nxs N (i3 + 3).toNatClampNeg) (Nxs N (i3 + 4).toNatClampNeg)
      exact lc_call X h1 h2 h3 h4 hc hm (kk _ _ _ _ hR')
    by_cases hx12 : x = 12
    · refine l_tin X dL_law_32 hx12 (by decide) (by decide) rfl (tgt := 466) (by decide) ?_
      obtain ⟨r, Ic', Jc', Im', Jm', hc, hm, hR'⟩ := hs.2.2.2.2.2.2.2.2.2.2.2.2.1 t Ic Jc Im Jm ht hR (Nxs N (i3 + 1).toNatClampNeg) (Nxs N (i3 + 2).toNatClampNeg)
      exact lc_round X h1 h2 hc hm (kk _ _ _ _ hR')
    by_cases hx13 : x = 13
    · refine l_tin X dL_law_32 hx13 (by decide) (by decide) rfl (tgt := 499) (by decide) ?_
      obtain ⟨r, Ic', Jc', Im', Jm', hc, hm, hR'⟩ := hs.2.2.2.2.2.2.2.2.2.2.2.2.2.1 t Ic Jc Im Jm ht hR (Nxs N (i3 + 1).toNatClampNeg) (Nxs N (i3 + 2).toNatClampNeg) (Nxs N (i3 + 3).toNatClampNeg)
      exact lc_odds X h1 h2 h3 hc hm (kk _ _ _ _ hR')
    by_cases hx14 : x = 14
    · refine l_tin X dL_law_32 hx14 (by decide) (by decide) rfl (tgt := 542) (by decide) ?_
      by_cases hz : (Nxs N (i3 + 2).toNatClampNeg) = 0
      · obtain ⟨r, Ic', Jc', Im', Jm', hc, hm, hR'⟩ := hs.2.2.2.2.2.2.2.2.2.2.2.2.2.2.1 t Ic Jc Im Jm ht hR (Nxs N (i3 + 1).toNatClampNeg) 0 (Or.inl rfl)
        exact lc_see0 X h1 h2 hz hc hm (kk _ _ _ _ hR')
      · obtain ⟨r, Ic', Jc', Im', Jm', hc, hm, hR'⟩ := hs.2.2.2.2.2.2.2.2.2.2.2.2.2.2.1 t Ic Jc Im Jm ht hR (Nxs N (i3 + 1).toNatClampNeg) 1 (Or.inr rfl)
        exact lc_see1 X h1 h2 hz hc hm (kk _ _ _ _ hR')
    by_cases hx15 : x = 15
    · refine l_tin X dL_law_32 hx15 (by decide) (by decide) rfl (tgt := 591) (by decide) ?_
      obtain ⟨r, Ic', Jc', Im', Jm', hc, hm, hR'⟩ := hs.2.2.2.2.2.2.2.2.2.2.2.2.2.2.2.1 t Ic Jc Im Jm ht hR 
      exact lc_forget X  hc hm (kk _ _ _ _ hR')
    by_cases hx16 : x = 16
    · refine l_tin X dL_law_32 hx16 (by decide) (by decide) rfl (tgt := 604) (by decide) ?_
      obtain ⟨r, Ic', Jc', Im', Jm', hc, hm, hR'⟩ := hs.2.2.2.2.2.2.2.2.2.2.2.2.2.2.2.2.1 t Ic Jc Im Jm ht hR 
      exact lc_places X  hc hm (kk _ _ _ _ hR')
    by_cases hx17 : x = 17
    · refine l_tin X dL_law_32 hx17 (by decide) (by decide) rfl (tgt := 617) (by decide) ?_
      obtain ⟨r, Ic', Jc', Im', Jm', hc, hm, hR'⟩ := hs.2.2.2.2.2.2.2.2.2.2.2.2.2.2.2.2.2.1 t Ic Jc Im Jm ht hR 
      exact lc_ask X  hc hm (kk _ _ _ _ hR')
    by_cases hx18 : x = 18
    · refine l_tin X dL_law_32 hx18 (by decide) (by decide) rfl (tgt := 630) (by decide) ?_
      obtain ⟨r, Ic', Jc', Im', Jm', hc, hm, hR'⟩ := hs.2.2.2.2.2.2.2.2.2.2.2.2.2.2.2.2.2.2.1 t Ic Jc Im Jm ht hR (Nxs N (i3 + 1).toNatClampNeg) (Nxs N (i3 + 2).toNatClampNeg) (Nxs N (i3 + 3).toNatClampNeg)
      exact lc_evenings X h1 h2 h3 hc hm (kk _ _ _ _ hR')
    by_cases hx19 : x = 19
    · refine l_tin X dL_law_32 hx19 (by decide) (by decide) rfl (tgt := 673) (by decide) ?_
      obtain ⟨r, Ic', Jc', Im', Jm', hc, hm, hR'⟩ := hs.2.2.2.2.2.2.2.2.2.2.2.2.2.2.2.2.2.2.2.1 t Ic Jc Im Jm ht hR 
      exact lc_image X  hc hm (kk _ _ _ _ hR')
    by_cases hx20 : x = 20
    · refine l_tin X dL_law_32 hx20 (by decide) (by decide) rfl (tgt := 686) (by decide) ?_
      obtain ⟨r, Ic', Jc', Im', Jm', hc, hm, hR'⟩ := hs.2.2.2.2.2.2.2.2.2.2.2.2.2.2.2.2.2.2.2.2.1 t Ic Jc Im Jm ht hR 
      exact lc_restore X  hc hm (kk _ _ _ _ hR')
    by_cases hx21 : x = 21
    · refine l_tin X dL_law_32 hx21 (by decide) (by decide) rfl (tgt := 699) (by decide) ?_
      obtain ⟨r, Ic', Jc', Im', Jm', hc, hm, hR'⟩ := hs.2.2.2.2.2.2.2.2.2.2.2.2.2.2.2.2.2.2.2.2.2.1 t Ic Jc Im Jm ht hR (Nxs N (i3 + 1).toNatClampNeg)
      exact lc_count X h1 hc hm (kk _ _ _ _ hR')
    by_cases hx22 : x = 22
    · refine l_tin X dL_law_32 hx22 (by decide) (by decide) rfl (tgt := 722) (by decide) ?_
      obtain ⟨r, Ic', Jc', Im', Jm', hc, hm, hR'⟩ := hs.2.2.2.2.2.2.2.2.2.2.2.2.2.2.2.2.2.2.2.2.2.2 t Ic Jc Im Jm ht hR 
      exact lc_digest X  hc hm (kk _ _ _ _ hR')
    refine l_tout X dL_law_32 (by have a0 := lv_neT (a := 0) hx0 rfl; have a1 := lv_neT (a := 1) hx1 rfl; have a2 := lv_neT (a := 2) hx2 rfl; have a3 := lv_neT (a := 3) hx3 rfl; have a4 := lv_neT (a := 4) hx4 rfl; have a5 := lv_neT (a := 5) hx5 rfl; have a6 := lv_neT (a := 6) hx6 rfl; have a7 := lv_neT (a := 7) hx7 rfl; have a8 := lv_neT (a := 8) hx8 rfl; have a9 := lv_neT (a := 9) hx9 rfl; have a10 := lv_neT (a := 10) hx10 rfl; have a11 := lv_neT (a := 11) hx11 rfl; have a12 := lv_neT (a := 12) hx12 rfl; have a13 := lv_neT (a := 13) hx13 rfl; have a14 := lv_neT (a := 14) hx14 rfl; have a15 := lv_neT (a := 15) hx15 rfl; have a16 := lv_neT (a := 16) hx16 rfl; have a17 := lv_neT (a := 17) hx17 rfl; have a18 := lv_neT (a := 18) hx18 rfl; have a19 := lv_neT (a := 19) hx19 rfl; have a20 := lv_neT (a := 20) hx20 rfl; have a21 := lv_neT (a := 21) hx21 rfl; have a22 := lv_neT (a := 22) hx22 rfl; omega) (tgt := 736) (by decide) ?_
    exact kk _ _ _ _ (hskip _ _ _ _ hR)
  exact l_head X h0 dL_law_26 dL_law_27 dL_law_28 dL_law_29 dL_law_31 (key _)
