/-! new int[6][6], out of the model's own words -/
def muR (comp : ClassId) : Cell := { cls := comp, slots := Array.replicate 6 (.int 0), vm := .none }
def muO (cA : ClassId) (h : Nat) : Nat → Cell
  | 0 => { cls := cA, slots := Array.replicate 6 .null, vm := .none }
  | i + 1 => (muO cA h i).setSlot i (.ref (h + 1 + i))
def muS (U : State) (cA comp : ClassId) : Nat → State
  | 0 => U.pushCell (muO cA U.heap.size 0)
  | i + 1 => ((muS U cA comp i).pushCell (muR comp)).setCell U.heap.size (muO cA U.heap.size (i + 1))
theorem muO_facts (cA : ClassId) (h : Nat) : ∀ i, (muO cA h i).cls = cA ∧ (muO cA h i).vm = .none ∧ (muO cA h i).slots.size = 6
  | 0 => ⟨rfl, rfl, Array.size_replicate⟩
  | i + 1 => by
    obtain ⟨h1, h2, h3⟩ := muO_facts cA h i
    exact ⟨h1, h2, by show ((muO cA h i).slots.setIfInBounds i _).size = 6; rw [Array.size_setIfInBounds]; exact h3⟩
theorem muS_facts (U : State) (cA comp : ClassId) : ∀ i, (muS U cA comp i).vm = U.vm ∧ (muS U cA comp i).heap.size = U.heap.size + 1 + i ∧ (muS U cA comp i).slotsUsed = U.slotsUsed + 6 + 6 * i ∧ (muS U cA comp i).heap[U.heap.size]? = some (muO cA U.heap.size i) ∧ (∀ x : Nat, x < U.heap.size → (muS U cA comp i).heap[x]? = U.heap[x]?) ∧ ∀ j, j < i → (muS U cA comp i).heap[U.heap.size + 1 + j]? = some (muR comp)
  | 0 => by
    refine ⟨rfl, ?_, ?_, ?_, fun x hx => ?_, fun j hj => absurd hj (Nat.not_lt_zero j)⟩
    · show (U.heap.push _).size = _
      rw [Array.size_push]
    · show U.slotsUsed + (muO cA U.heap.size 0).slots.size = _
      rw [(muO_facts cA U.heap.size 0).2.2]
    · show (U.heap.push _)[U.heap.size]? = _
      rw [Array.getElem?_push, if_pos rfl]
    · show (U.heap.push _)[x]? = _
      rw [Array.getElem?_push, if_neg (by omega)]
  | i + 1 => by
    obtain ⟨h1, h2, h3, h4, h5, h6⟩ := muS_facts U cA comp i
    refine ⟨h1, ?_, ?_, ?_, fun x hx => ?_, fun j hj => ?_⟩
    · show (((muS U cA comp i).heap.push _).setIfInBounds _ _).size = _
      rw [Array.size_setIfInBounds, Array.size_push, h2]
      omega
    · show (muS U cA comp i).slotsUsed + (muR comp).slots.size = _
      rw [h3, show (muR comp).slots.size = 6 from Array.size_replicate]
      omega
    · show (((muS U cA comp i).heap.push _).setIfInBounds _ _)[U.heap.size]? = _
      rw [Array.getElem?_setIfInBounds, if_pos rfl, if_pos (by rw [Array.size_push, h2]; omega)]
    · show (((muS U cA comp i).heap.push _).setIfInBounds _ _)[x]? = _
      rw [Array.getElem?_setIfInBounds, if_neg (by omega), Array.getElem?_push, if_neg (by omega)]
      exact h5 x hx
    · show (((muS U cA comp i).heap.push _).setIfInBounds _ _)[U.heap.size + 1 + j]? = _
      rw [Array.getElem?_setIfInBounds, if_neg (by omega), Array.getElem?_push]
      by_cases w : j = i
      · rw [if_pos (by omega)]
      · rw [if_neg (by omega)]
        exact h6 j (by omega)
theorem muS_top (U : State) (f : JFrame) (cA comp : ClassId) : ∀ i, muS (U.setTop f) cA comp i = (muS U cA comp i).setTop f
  | 0 => rfl
  | i + 1 => by
    show ((muS (U.setTop f) cA comp i).pushCell (muR comp)).setCell _ _ = _
    rw [muS_top U f cA comp i]
    rfl
theorem muS_topJ (U : State) (cA comp : ClassId) : ∀ i, (muS U cA comp i).topJava? = U.topJava?
  | 0 => rfl
  | i + 1 => by
    rw [← muS_topJ U cA comp i]
    rfl
theorem mu_row {Q : Addr → Pre} {E : CtlPost} {e : Env} {d : Bool} {acts : List Action} {u : State} {comp c2 : ClassId} {k : Class} (hk : u.vm.classes[comp]? = some k) (hkind : k.kind = .array c2 .int) (hl : ¬ 6 > e.platform.arrayLengthLimit) (hh : ¬ 6 * 4 > e.platform.maxHeapBytes) (h1 : u.heap.size < e.platform.maxCells) (h2 : u.slotsUsed + 6 ≤ e.platform.maxSlots) (hq : ∀ acts, Q u.heap.size d acts (u.pushCell (muR comp))) : wp (Jvm.Op.multianewarray.make comp [6]) Q E e d acts u := by
  have hfit : ∀ i v, (Array.replicate 6 (Value.int 0))[i]? = some v → u.fitsSlot comp .none i v = true := by
    intro i v hv
    simp only [Array.getElem?_replicate] at hv
    split at hv
    · cases hv; simp [State.fitsSlot, State.slotType?, hk, hkind, fits]
    · cases hv
  have hms : ¬ 6 > e.platform.maxSlots := by omega
  have e6 : (6 : Int32).toNatClampNeg = 6 := rfl
  have n6 : ¬ (6 : Int32) < 0 := by decide
  unfold Jvm.Op.multianewarray.make
  simp only [wp_bind', Jvm.W.ite, n6, if_false, wp_pure', Jvm.W.theClass, hk, Option.some.injEq, exists_eq_left', hkind, Jvm.newArray, Jvm.arrayFits, Jvm.W.ask, e6, hl, Jvm.componentBytes, hh, hms, Jvm.W.alloc, defaultValue]
  exact ⟨h1, by rw [Array.size_replicate]; exact h2, hfit, hq _⟩
/-- what the making needs of the machine, at its start -/
def muN (e : Env) (U : State) (cA comp : ClassId) : Prop := (∃ kA, U.vm.classes[cA]? = some kA ∧ kA.kind = .array comp (.array .int)) ∧ (∃ kR c2, U.vm.classes[comp]? = some kR ∧ kR.kind = .array c2 .int) ∧ ¬ 6 > e.platform.arrayLengthLimit ∧ ¬ 6 * 4 > e.platform.maxHeapBytes ∧ U.heap.size + 7 ≤ e.platform.maxCells ∧ U.slotsUsed + 42 ≤ e.platform.maxSlots
theorem mu_write {Q : Unit → Pre} {E : CtlPost} {e : Env} {d : Bool} {acts : List Action} {U : State} {cA comp : ClassId} (hN : muN e U cA comp) {i : Nat} (hi : i < 6) (hq : ∀ d acts, Q () d acts (muS U cA comp (i + 1))) :
    wp (Jvm.Op.multianewarray.make comp [6]) (fun x => wp (Jvm.writeLoc U.heap.size i (.ref x)) Q E e) E e d acts (muS U cA comp i) := by
  obtain ⟨⟨kA, n1, n2⟩, ⟨kR, c2, n3, n4⟩, n5, n6, n7, n8⟩ := hN
  obtain ⟨h1, h2, h3, h4, h5, h6⟩ := muS_facts U cA comp i
  obtain ⟨o1, o2, o3⟩ := muO_facts cA U.heap.size i
  refine mu_row (k := kR) (c2 := c2) (by rw [h1]; exact n3) n4 n5 n6 (by omega) (by omega) (fun acts => ?_)
  rw [Jvm.W.writeLoc]
  refine ⟨muO cA U.heap.size i, ?_, (by rw [o2]; intro z; cases z), by omega, ?_, ?_⟩
  · show ((muS U cA comp i).heap.push _)[U.heap.size]? = _
    rw [Array.getElem?_push, if_neg (by omega)]
    exact h4
  · rw [o1, o2]
    show (muS U cA comp i).fitsSlot cA .none i _ = true
    simp [State.fitsSlot, State.slotType?, h1, n1, n2, fits]
  · have e1 : (muO cA U.heap.size i).setSlot i (.ref (muS U cA comp i).heap.size) = muO cA U.heap.size (i + 1) := by
      rw [h2]
      rfl
    rw [e1]
    exact hq _ _
theorem mu_make {Q : Addr → Pre} {E : CtlPost} {e : Env} {d : Bool} {acts : List Action} {U : State} {cA comp : ClassId} (hN : muN e U cA comp) (hq : ∀ d acts, Q U.heap.size d acts (muS U cA comp 6)) : wp (Jvm.Op.multianewarray.make cA [6, 6]) Q E e d acts U := by
  obtain ⟨⟨kA, n1, n2⟩, ⟨kR, c2, n3, n4⟩, n5, n6, n7, n8⟩ := id hN
  have hfit : ∀ i v, (Array.replicate 6 Value.null)[i]? = some v → U.fitsSlot cA .none i v = true := by
    intro i v hv
    simp only [Array.getElem?_replicate] at hv
    split at hv
    · cases hv; simp [State.fitsSlot, State.slotType?, n1, n2, fits]
    · cases hv
  have hms : ¬ 6 > e.platform.maxSlots := by omega
  have e6 : (6 : Int32).toNatClampNeg = 6 := rfl
  have m6 : ¬ (6 : Int32) < 0 := by decide
  have z6 : ((6 : Int32) == 0) = false := by decide
  unfold Jvm.Op.multianewarray.make
  simp only [wp_bind', Jvm.W.ite, m6, if_false, wp_pure', Jvm.W.theClass, n1, Option.some.injEq, exists_eq_left', n2, Jvm.newArray, Jvm.arrayFits, Jvm.W.ask, e6, n5, Jvm.componentBytes, n6, hms, Jvm.W.alloc, z6, Bool.false_eq_true]
  refine ⟨by omega, by rw [Array.size_replicate]; omega, hfit, ?_⟩
  rw [Std.Legacy.Range.forIn_eq_forIn_range']
  refine wp_forIn_inv (fun rest s' => ∃ i, i ≤ 6 ∧ rest = List.range' i (6 - i) ∧ s' = muS U cA comp i) _ _ ⟨0, by omega, rfl, rfl⟩ ?_ ?_
  · rintro x rest s' d' acts' Q' ⟨i, hi, hr, hs⟩ hQ
    subst hs
    have hi6 : i < 6 := by
      apply Decidable.byContradiction
      intro z
      rw [show 6 - i = 0 by omega] at hr
      cases hr
    rw [show 6 - i = (6 - (i + 1)) + 1 by omega, List.range'_succ] at hr
    cases hr
    simp only [wp_bind', wp_pure']
    have eq : (fun a => wp (Jvm.writeLoc U.heap.size x (Value.ref a) >>= fun _ => (Pure.pure (ForInStep.yield PUnit.unit) : Sem (ForInStep PUnit))) Q' E e) = fun a => wp (Jvm.writeLoc U.heap.size x (Value.ref a)) (fun _ => wp (Pure.pure (ForInStep.yield PUnit.unit) : Sem (ForInStep PUnit)) Q' E e) E e := by
      funext a d1 acts1 s1
      rw [wp_bind']
    refine (congrArg (fun z => wp (Jvm.Op.multianewarray.make comp [6]) z E e d' acts' (muS U cA comp x)) eq).mpr ?_
    refine mu_write hN hi6 (fun d acts => ?_)
    rw [wp_pure']
    exact hQ _ _ _ ⟨x + 1, by omega, rfl, rfl⟩
  · rintro s' d' acts' ⟨i, hi, hr, hs⟩
    have hi6 : i = 6 := by
      apply Decidable.byContradiction
      intro z
      rw [show 6 - i = (6 - (i + 1)) + 1 by omega, List.range'_succ] at hr
      cases hr
    subst hi6
    subst hs
    exact hq _ _
theorem mu_sem {Q : Unit → Pre} {E : CtlPost} {e : Env} {d : Bool} {acts : List Action} {U : State} {f : JFrame} {index : Nat} {cA comp : ClassId} {rest : List Value} (hs : U.topJava?.isSome) (hr : U.vm.classReady f.method.cls index cA) (hstack : f.stack = .int 6 :: .int 6 :: rest) (hN : muN e U cA comp)
    (hq : ∀ d acts, Q () d acts ((muS U cA comp 6).setTop { f with stack := .ref U.heap.size :: rest })) : wp (Jvm.Op.multianewarray.sem index 2) Q E e d acts (U.setTop f) := by
  have htop : (muS U cA comp 6).topJava?.isSome := by rw [muS_topJ]; exact hs
  simp only [Jvm.Op.multianewarray.sem, wp_bind', Jvm.W.resolveClassAt_ready (State.method?_setTop f hs) hr]
  rw [show (2 : Nat) = [Value.int 6, Value.int 6].length from rfl, popN_top hs (args := [Value.int 6, Value.int 6]) (rest := rest) (by rw [hstack]; rfl)]
  simp only [List.mapM_cons, List.mapM_nil, wp_bind', wp_pure', Jvm.W.mark, Jvm.W.pushRef]
  refine mu_make (comp := comp) hN (fun d acts => ?_)
  rw [muS_top]
  exact ⟨_, State.topJava?_setTop' _ htop, by rw [State.setTop_setTop]; exact hq _ _⟩
section MU
variable {p : Program} {l : Launch} {e : Env} {R : Room} {s : State} {m : MethodId} {args : Array Value} {below : List Frame} {meth : Method} {c : Code} {T : State} {locs : List Loc} {cells slots : Nat}
theorem mu_stand (X : Stand p l e R s m args below meth c T locs cells slots) (cA comp : ClassId) : ∀ i, Stand p l e R s m args below meth c (muS T cA comp i) locs (cells + 1 + i) (slots + 6 + 6 * i)
  | 0 => by
    have h := X.pushed (muO cA T.heap.size 0)
    rw [(muO_facts cA T.heap.size 0).2.2] at h
    exact h
  | i + 1 => by
    obtain ⟨h1, h2, h3, h4, h5, h6⟩ := muS_facts T cA comp i
    have h := (mu_stand X cA comp i).pushed (muR comp)
    rw [show (muR comp).slots.size = 6 from Array.size_replicate] at h
    have hc : ((muS T cA comp i).pushCell (muR comp)).heap[T.heap.size]? = some (muO cA T.heap.size i) := by
      show ((muS T cA comp i).heap.push _)[T.heap.size]? = _
      rw [Array.getElem?_push, if_neg (by omega)]
      exact h4
    have h' := (h.stored hc i (.ref (T.heap.size + 1 + i))).dropFresh (fun x hx => by
      rw [List.mem_singleton.mp hx]
      exact X.heapGrown)
    have e1 : slots + 6 + 6 * (i + 1) = slots + 6 + 6 * i + 6 := by omega
    rw [e1]
    exact h'
theorem multi66 (X : Stand p l e R s m args below meth c T locs cells slots) (hexec : p.tables.exec = Jvm.exec) {own : String} {index : Nat} (hown : s.vm.findClass own = some m.cls) (hclink : (Cond.classLink own index "[[I").before args s = true) {cA comp : ClassId} (hfA : s.vm.findClass "[[I" = some cA) {kA kR : Class} {c2 : ClassId} (hkA : s.vm.classes[cA]? = some kA) (hkindA : kA.kind = .array comp (.array .int)) (hkR : s.vm.classes[comp]? = some kR) (hkindR : kR.kind = .array c2 .int)
    {g : JFrame} (hg : g.method = m) (hdg : decode c.code g.pc = .ok (.multianewarray index 2, 4)) {rest : List Value} (hstack : g.stack = .int 6 :: .int 6 :: rest) (hcells : cells + 7 ≤ R.cells) (hslots : slots + 42 ≤ R.slots) :
    ∃ vm₁ : Vm, Stand p l e R s m args below meth c (muS (T.setVm vm₁) cA comp 6) locs (cells + 7) (slots + 42) ∧
      ∀ target, Steps p.tables e below ((muS (T.setVm vm₁) cA comp 6).setTop { g with pc := g.pc + 4, stack := .ref T.heap.size :: rest }) target → Steps p.tables e below (T.setTop g) target := by
  subst hg
  have hpl : e.platform.magicAccessors = ({} : Platform).magicAccessors := by rw [X.admits.platform]
  obtain ⟨cc, hfcc, hcl⟩ := Cond.classLink_spec hown hclink e.platform hpl
  cases hfA.symm.trans hfcc
  obtain ⟨hg₁, hwarm₁, hready₁⟩ := State.classEntry (e := e) X.warmed hcl
  generalize T.vm.noted g.method.cls index (.cls cA) = vm₁ at hg₁ hwarm₁ hready₁
  have hal : s.vm.Alike vm₁ := hwarm₁.alike
  obtain ⟨kA₁, hkA₁, heA⟩ := hal.2.2 _ _ hkA
  obtain ⟨kR₁, hkR₁, heR⟩ := hal.2.2 _ _ hkR
  have X₁ := mu_stand (X.noted hwarm₁) cA comp 6
  obtain ⟨hr1, hr2⟩ := X.roomAbove hcells hslots
  have hN : muN e (T.setVm vm₁) cA comp := ⟨⟨kA₁, hkA₁, by rw [heA]; exact hkindA⟩, ⟨kR₁, c2, hkR₁, by rw [heR]; exact hkindR⟩, by rw [Launch.admits_arrayLengthLimit X.admits]; omega, by rw [Launch.admits_maxHeapBytes X.admits]; omega, hr1, hr2⟩
  refine ⟨vm₁, X₁, fun target hrest => ?_⟩
  refine Steps.instr (c := c) X.here ?_
  rw [hdg]
  show wpRun (p.tables.exec (.multianewarray index 2)) _ _ e (T.setTop g)
  rw [hexec]
  show wp (Jvm.Op.multianewarray.sem index 2) _ _ e false [] (T.setTop g)
  have key : wp (Jvm.Op.multianewarray.sem index 2) (fun _ _ _ s₁ => ∀ acts, Steps p.tables e below (afterInstr e 4 (.ok () s₁ acts)).1 target) (fun x _ s₁ => ∀ acts, Steps p.tables e below (afterInstr e 4 (.ctl x s₁ acts)).1 target) e false [] ((T.setVm vm₁).setTop g) := by
    refine mu_sem (U := T.setVm vm₁) (comp := comp) X.here.top hready₁ hstack hN (fun d acts acts' => ?_)
    rw [afterInstr_ok]
    exact hrest
  simp only [Jvm.Op.multianewarray.sem, wp_bind'] at key ⊢
  exact (Jvm.W.resolveClassAt_transfer (s := T.setTop g) (State.method?_setTop g X.here.top) hg₁ hready₁).mpr key
end MU
/-- int[][] has been made before: its class, and its components' -/
theorem ao_spec {args : Array Value} {s : State} (h : (Cond.arrayOver (.array .int)).before args s = true) : ∃ (comp cA : ClassId) (k : Class), s.vm.findClass "[I" = some comp ∧ s.vm.classes[cA]? = some k ∧ k.kind = .array comp (.array .int) ∧ s.vm.findClass "[[I" = some cA := by
  have hI : (FieldType.array .int).toString = "[I" := by decide +kernel
  have hII : "[" ++ (FieldType.array .int).toString = "[[I" := by decide +kernel
  simp only [Cond.before, Cond.holds, Cond.value, beq_iff_eq] at h
  rw [hII, hI] at h
  obtain ⟨comp, h1, h⟩ := Option.bind_eq_some_iff.mp h
  obtain ⟨cA, h2, h⟩ := Option.bind_eq_some_iff.mp h
  obtain ⟨k, h3, h⟩ := Option.map_eq_some_iff.mp h
  obtain ⟨_, hp, _⟩ := Array.findIdx?_eq_some_iff_getElem.mp h2
  rw [(Array.getElem?_eq_some_iff.mp h3).2] at hp
  refine ⟨comp, cA, k, h1, h3, ?_⟩
  cases hk : k.kind with
  | array c2 ty =>
    rw [hk] at h hp
    have hp : c2 = comp := eq_of_beq hp
    have h := (Bool.and_eq_true _ _).mp h
    have h4 : ty = .array .int := of_decide_eq_true h.1
    exact ⟨by rw [hp, h4], of_decide_eq_true h.2⟩
  | _ =>
    rw [hk] at h
    cases h
