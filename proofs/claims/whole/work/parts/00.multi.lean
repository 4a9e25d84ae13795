/-! new int[9][8], over the model's own text of the instruction -/
section MU
variable {E : CtlPost} {e : Env} {d : Bool} {acts : List Action} {s : State}
/-- an array comes -/
theorem mu_new {cA comp : ClassId} {N : Nat} {v : Value} {k : Class} {ty : FieldType} {Q : Addr → Pre}
    (hk : s.vm.classes[cA]? = some k) (hkind : k.kind = .array comp ty) (hv : fits ty v = true)
    (hlim : ¬ N > e.platform.arrayLengthLimit) (hheap : ¬ N * componentBytes ty > e.platform.maxHeapBytes)
    (h1 : s.heap.size < e.platform.maxCells) (h2 : s.slotsUsed + N ≤ e.platform.maxSlots)
    (hq : ∀ acts', Q s.heap.size d acts' (s.pushCell { cls := cA, slots := Array.replicate N v, vm := .none })) :
    wp (Jvm.newArray cA N v) Q E e d acts s := by
  simp only [Jvm.newArray, Jvm.arrayFits, wp_bind', W.ask, W.ite, hlim, if_false, wp_pure', W.theClass, hk, hkind, hheap, W.stop, W.alloc, Option.some.injEq, exists_eq_left']
  rw [if_neg (by omega)]
  refine ⟨h1, by rw [Array.size_replicate]; exact h2, fun i x hx => ?_, hq _⟩
  simp only [Array.getElem?_replicate] at hx
  split at hx
  · cases hx
    simp [State.fitsSlot, State.slotType?, hk, hkind, hv]
  · cases hx
/-- one row of ints -/
theorem mu_row {cI comp : ClassId} {k : Class} {Q : Addr → Pre}
    (hk : s.vm.classes[cI]? = some k) (hkind : k.kind = .array comp .int)
    (hlim : ¬ 8 > e.platform.arrayLengthLimit) (hheap : ¬ 8 * componentBytes .int > e.platform.maxHeapBytes)
    (h1 : s.heap.size < e.platform.maxCells) (h2 : s.slotsUsed + 8 ≤ e.platform.maxSlots)
    (hq : ∀ acts', Q s.heap.size d acts' (s.pushCell { cls := cI, slots := Array.replicate 8 (.int 0), vm := .none })) :
    wp (Jvm.Op.multianewarray.make cI [8]) Q E e d acts s := by
  have h0 : ¬ (8 : Int32) < 0 := by decide
  have h8 : (8 : Int32).toNatClampNeg = 8 := by decide
  unfold Jvm.Op.multianewarray.make
  simp only [wp_bind', W.ite, h0, if_false, wp_pure', W.theClass, hk, hkind, Option.some.injEq, exists_eq_left', h8]
  exact mu_new hk hkind rfl hlim hheap h1 h2 hq
/-- the outer row with its first i places filled -/
def mu_out (cA : ClassId) (h0 i : Nat) : Cell := arrV cA 9 (fun j => va_rf (if j < i then some (h0 + 1 + j) else none))
def mu_in (cI : ClassId) : Cell := { cls := cI, slots := Array.replicate 8 (.int 0), vm := .none }
theorem mu_out_new (cA : ClassId) (h0 : Nat) : ({ cls := cA, slots := Array.replicate 9 .null, vm := .none } : Cell) = mu_out cA h0 0 := by
  rw [arrV_new]
  refine congrArg (arrV cA 9) (funext fun j => ?_)
  simp [va_rf]
theorem mu_out_set (cA : ClassId) (h0 i : Nat) : (mu_out cA h0 i).setSlot i (.ref (h0 + 1 + i)) = mu_out cA h0 (i + 1) := by
  unfold mu_out
  rw [arrV_store]
  refine congrArg (arrV cA 9) (funext fun j => ?_)
  unfold updV
  by_cases q : j = i
  · subst q
    simp [va_rf]
  · by_cases h : j < i
    · simp [q, h, Nat.lt_succ_of_lt h]
    · simp [q, h, show ¬ j < i + 1 by omega]
/-- the state with i rows made -/
def mu_F (T : State) (cA cI : ClassId) : Nat → State
  | 0 => T.pushCell (mu_out cA T.heap.size 0)
  | i + 1 => ((mu_F T cA cI i).pushCell (mu_in cI)).setCell T.heap.size (mu_out cA T.heap.size (i + 1))
theorem mu_F_vm (T : State) (cA cI : ClassId) : ∀ i, (mu_F T cA cI i).vm = T.vm
  | 0 => rfl
  | i + 1 => mu_F_vm T cA cI i
theorem mu_F_top (T : State) (cA cI : ClassId) : ∀ i, (mu_F T cA cI i).topJava? = T.topJava?
  | 0 => rfl
  | i + 1 => mu_F_top T cA cI i
theorem mu_F_size (T : State) (cA cI : ClassId) : ∀ i, (mu_F T cA cI i).heap.size = T.heap.size + 1 + i
  | 0 => by simp [mu_F]
  | i + 1 => by
    have h := mu_F_size T cA cI i
    simp only [mu_F, State.heap_setCell, State.heap_pushCell, Array.size_setIfInBounds, Array.size_push]
    omega
theorem mu_F_out (T : State) (cA cI : ClassId) : ∀ i, (mu_F T cA cI i).heap[T.heap.size]? = some (mu_out cA T.heap.size i)
  | 0 => State.heap_pushCell_size _ _
  | i + 1 => by
    have h := mu_F_size T cA cI i
    simp only [mu_F, State.heap_setCell, State.heap_pushCell]
    exact Array.getElem?_setIfInBounds_self_of_lt (by rw [Array.size_push]; omega)
theorem mu_F_other (T : State) (cA cI : ClassId) (i x : Nat) (hx : x ≠ T.heap.size) : (mu_F T cA cI (i + 1)).heap[x]? = ((mu_F T cA cI i).heap.push (mu_in cI))[x]? := by
  simp only [mu_F, State.heap_setCell, State.heap_pushCell]
  exact Array.getElem?_setIfInBounds_ne (Ne.symm hx)
theorem mu_F_old (T : State) (cA cI : ClassId) {x : Nat} (hx : x < T.heap.size) : ∀ i, (mu_F T cA cI i).heap[x]? = T.heap[x]?
  | 0 => State.heap_pushCell_of_lt _ _ hx
  | i + 1 => by
    have h := mu_F_size T cA cI i
    rw [mu_F_other T cA cI i x (by omega), Array.getElem?_push, if_neg (by omega), mu_F_old T cA cI hx i]
theorem mu_F_in (T : State) (cA cI : ClassId) {j : Nat} : ∀ i, j < i → (mu_F T cA cI i).heap[T.heap.size + 1 + j]? = some (mu_in cI)
  | 0, h => absurd h (Nat.not_lt_zero _)
  | i + 1, h => by
    have hs := mu_F_size T cA cI i
    rw [mu_F_other T cA cI i _ (by omega), Array.getElem?_push, hs]
    by_cases q : j = i
    · subst q
      exact if_pos rfl
    · rw [if_neg (by omega)]
      exact mu_F_in T cA cI i (by omega)
/-- the loop: from i rows on to nine -/
theorem mu_loop {T : State} {g : JFrame} {cA cI cO cC : ClassId} {kA kI : Class} {tO : FieldType} {f : Nat → PUnit → Sem (ForInStep PUnit)} {Q : PUnit → Pre}
    (hf : ∀ i u, f i u = (do let a ← Jvm.Op.multianewarray.make cI [8]; Jvm.writeLoc T.heap.size i (.ref a); Pure.pure (ForInStep.yield PUnit.unit)))
    (hkA : T.vm.classes[cA]? = some kA) (hA : kA.kind = .array cO tO) (href : ∀ a, fits tO (.ref a) = true)
    (hkI : T.vm.classes[cI]? = some kI) (hI : kI.kind = .array cC .int)
    (hlim : ¬ 8 > e.platform.arrayLengthLimit) (hheap : ¬ 8 * componentBytes .int > e.platform.maxHeapBytes)
    (hroom : ∀ i, i < 9 → (mu_F T cA cI i).heap.size < e.platform.maxCells ∧ (mu_F T cA cI i).slotsUsed + 8 ≤ e.platform.maxSlots)
    (hq : ∀ d' acts', Q PUnit.unit d' acts' ((mu_F T cA cI 9).setTop g)) :
    wp (forIn (List.range' 0 9) PUnit.unit f) Q E e d acts ((mu_F T cA cI 0).setTop g) := by
  refine wp_forIn_inv (fun rest U => ∃ i, i ≤ 9 ∧ rest = List.range' i (9 - i) ∧ U = (mu_F T cA cI i).setTop g) f _ ⟨0, by omega, rfl, rfl⟩ ?_ ?_
  · rintro x rest U d' acts' Q' ⟨i, hi, hr, rfl⟩ hk
    have hi9 : i < 9 := by
      rcases Nat.lt_or_ge i 9 with h | h
      · exact h
      · rw [show 9 - i = 0 by omega] at hr
        cases hr
    rw [show 9 - i = (9 - (i + 1)) + 1 by omega, List.range'_succ] at hr
    obtain ⟨rfl, rfl⟩ := List.cons.inj hr
    obtain ⟨r1, r2⟩ := hroom x hi9
    rw [hf]
    simp only [wp_bind', wp_pure', W.writeLoc]
    refine mu_row (k := kI) (by show (mu_F T cA cI x).vm.classes[cI]? = _; rw [mu_F_vm]; exact hkI) hI hlim hheap r1 r2 (fun acts2 => ?_)
    have hsz := mu_F_size T cA cI x
    refine ⟨mu_out cA T.heap.size x, ?_, ?_, ?_, ?_, ?_⟩
    · show ((mu_F T cA cI x).heap.push _)[T.heap.size]? = _
      rw [Array.getElem?_push, if_neg (by omega)]
      exact mu_F_out T cA cI x
    · intro h
      cases h
    · rw [show (mu_out cA T.heap.size x).slots.size = 9 from arrV_size _ _ _]
      exact hi9
    · show State.fitsSlot (mu_F T cA cI x) cA .none x _ = true
      simp [State.fitsSlot, State.slotType?, mu_F_vm, hkA, hA, href]
    · refine hk _ _ _ ⟨x + 1, by omega, rfl, ?_⟩
      have e1 : (((mu_F T cA cI x).setTop g).heap.size : Nat) = T.heap.size + 1 + x := hsz
      rw [e1, mu_out_set]
      rfl
  · rintro U d' acts' ⟨i, hi, hr, rfl⟩
    have : i = 9 := by
      have h := congrArg List.length hr
      rw [List.length_range'] at h
      simp at h
      omega
    subst this
    exact hq _ _
/-- both dimensions -/
theorem mu_make {T : State} {g : JFrame} {cA cI cC : ClassId} {kA kI : Class} {tO : FieldType} {Q : Addr → Pre}
    (hkA : T.vm.classes[cA]? = some kA) (hA : kA.kind = .array cI tO) (hnull : fits tO .null = true) (href : ∀ a, fits tO (.ref a) = true)
    (hkI : T.vm.classes[cI]? = some kI) (hI : kI.kind = .array cC .int)
    (hlim : ¬ 9 > e.platform.arrayLengthLimit) (hheap : ¬ 9 * componentBytes tO > e.platform.maxHeapBytes) (hheap8 : ¬ 8 * componentBytes .int > e.platform.maxHeapBytes)
    (h1 : T.heap.size < e.platform.maxCells) (h2 : T.slotsUsed + 9 ≤ e.platform.maxSlots)
    (hroom : ∀ i, i < 9 → (mu_F T cA cI i).heap.size < e.platform.maxCells ∧ (mu_F T cA cI i).slotsUsed + 8 ≤ e.platform.maxSlots)
    (hq : ∀ d' acts', Q T.heap.size d' acts' ((mu_F T cA cI 9).setTop g)) :
    wp (Jvm.Op.multianewarray.make cA [9, 8]) Q E e d acts (T.setTop g) := by
  have h0 : ¬ (9 : Int32) < 0 := by decide
  have h9 : (9 : Int32).toNatClampNeg = 9 := by decide
  have hz : ((9 : Int32) == 0) = false := by decide
  unfold Jvm.Op.multianewarray.make
  simp only [wp_bind', W.ite, h0, if_false, wp_pure', W.theClass, State.vm_setTop, hkA, hA, Option.some.injEq, exists_eq_left', h9]
  refine mu_new (s := T.setTop g) (k := kA) hkA hA hnull hlim hheap h1 h2 (fun acts' => ?_)
  rw [hz]
  simp only [Bool.false_eq_true, if_false, wp_bind', wp_pure', W.ite, Std.Legacy.Range.forIn_eq_forIn_range']
  rw [mu_out_new cA T.heap.size]
  refine mu_loop (T := T) (g := g) (cA := cA) (cI := cI) (fun i u => rfl) hkA hA href hkI hI (by omega) hheap8 hroom (fun d' acts' => ?_)
  exact hq d' acts'
/-- the instruction, its entry resolved -/
theorem mu_sem {T : State} {g : JFrame} {index : Nat} {rest : List Value} {cA cI cC : ClassId} {kA kI : Class} {tO : FieldType} {Q : Unit → Pre}
    (hs : T.topJava?.isSome) (hr : T.vm.classReady g.method.cls index cA) (hst : g.stack = .int 8 :: .int 9 :: rest)
    (hkA : T.vm.classes[cA]? = some kA) (hA : kA.kind = .array cI tO) (hnull : fits tO .null = true) (href : ∀ a, fits tO (.ref a) = true)
    (hkI : T.vm.classes[cI]? = some kI) (hI : kI.kind = .array cC .int)
    (hlim : ¬ 9 > e.platform.arrayLengthLimit) (hheap : ¬ 9 * componentBytes tO > e.platform.maxHeapBytes) (hheap8 : ¬ 8 * componentBytes .int > e.platform.maxHeapBytes)
    (h1 : T.heap.size < e.platform.maxCells) (h2 : T.slotsUsed + 9 ≤ e.platform.maxSlots)
    (hroom : ∀ i, i < 9 → (mu_F T cA cI i).heap.size < e.platform.maxCells ∧ (mu_F T cA cI i).slotsUsed + 8 ≤ e.platform.maxSlots)
    (hq : ∀ acts', Q () true acts' ((mu_F T cA cI 9).setTop { g with stack := .ref T.heap.size :: rest })) :
    wp (Jvm.Op.multianewarray.sem index 2) Q E e d acts (T.setTop g) := by
  unfold Jvm.Op.multianewarray.sem
  simp only [wp_bind', W.resolveClassAt_ready (s := T.setTop g) (State.method?_setTop g hs) hr, W.popN, State.topJava?_setTop' _ hs, Option.some.injEq, exists_eq_left', State.setTop_setTop]
  refine ⟨[.int 9, .int 8], rest, rfl, by rw [hst]; rfl, ?_⟩
  simp only [List.mapM_cons, List.mapM_nil, wp_bind', wp_pure']
  have hF : (mu_F T cA cI 9).topJava?.isSome := by rw [mu_F_top]; exact hs
  refine mu_make (g := { g with stack := rest }) hkA hA hnull href hkI hI hlim hheap hheap8 h1 h2 hroom (fun d' acts' => ?_)
  generalize mu_F T cA cI 9 = F at hF hq
  refine (iff_of_eq (wp_bind' ..)).mpr ?_
  refine (W.mark _).mpr ?_
  refine (W.pushRef _).mpr ?_
  refine ⟨_, State.topJava?_setTop' _ hF, ?_⟩
  rw [State.setTop_setTop]
  exact hq _
/-- what the tables say of int[][] -/
theorem mu_over {args : Array Value} (h : (Cond.arrayOver (.array .int)).before args s = true) :
    ∃ comp c k, s.vm.findClass (FieldType.array .int).toString = some comp ∧ s.vm.classes[c]? = some k ∧ k.kind = .array comp (.array .int) ∧ s.vm.findClass ("[" ++ (FieldType.array .int).toString) = some c := by
  unfold Cond.before Cond.holds at h
  simp only [Cond.value, beq_iff_eq] at h
  cases hc : s.vm.findClass (FieldType.array .int).toString with
  | none => simp [hc] at h
  | some comp =>
    simp only [hc, Option.bind_some, Option.bind_eq_some_iff, Option.map_eq_some_iff] at h
    obtain ⟨c, hi, k, hk, hb⟩ := h
    obtain ⟨hlt, hp, -⟩ := Array.findIdx?_eq_some_iff_getElem.mp hi
    rw [(Array.getElem?_eq_some_iff.mp hk).2] at hp
    cases hkind : k.kind with
    | array c2 ty =>
      rw [hkind] at hb hp
      simp at hb hp
      exact ⟨comp, c, k, rfl, hk, by rw [hkind, hp, hb.1], hb.2⟩
    | _ =>
      rw [hkind] at hb
      simp at hb
end MU
section MUS
variable {p : Program} {l : Launch} {e : Env} {R : Room} {s : State} {m : MethodId} {args : Array Value} {below : List Frame} {meth : Method} {c : Code} {T : State} {locs : List Loc} {cells slots : Nat}
def mu_L (a : Nat) (locs : List Loc) : Nat → List Loc
  | 0 => locs
  | i + 1 => mu_L a locs i ++ [⟨a, i⟩]
theorem mu_L_in {a : Nat} {locs : List Loc} {A : Nat → Prop} (h : ∀ q ∈ locs, A q.base) (ha : A a) : ∀ i, ∀ q ∈ mu_L a locs i, A q.base
  | 0 => h
  | i + 1 => fun q hq => by
    rcases List.mem_append.mp hq with h2 | h2
    · exact mu_L_in h ha i q h2
    · rw [List.mem_singleton.mp h2]
      exact ha
/-- the walk stands with i rows made -/
theorem mu_stand (X : Stand p l e R s m args below meth c T locs cells slots) (cA cI : ClassId) : ∀ i, Stand p l e R s m args below meth c (mu_F T cA cI i) (mu_L T.heap.size locs i) (cells + 1 + i) (slots + 9 + 8 * i)
  | 0 => by
    have h := X.pushed (mu_out cA T.heap.size 0)
    rw [show (mu_out cA T.heap.size 0).slots.size = 9 from arrV_size _ _ _] at h
    exact h
  | i + 1 => by
    have hsz := mu_F_size T cA cI i
    have h := (mu_stand X cA cI i).pushed (mu_in cI)
    rw [show (mu_in cI).slots.size = 8 from Array.size_replicate] at h
    have h2 := h.stored (a := T.heap.size) (cell := mu_out cA T.heap.size i) (by
      show ((mu_F T cA cI i).heap.push _)[T.heap.size]? = _
      rw [Array.getElem?_push, if_neg (by omega)]
      exact mu_F_out T cA cI i) i (.ref (T.heap.size + 1 + i))
    rw [mu_out_set] at h2
    have e1 : cells + 1 + (i + 1) = cells + 1 + i + 1 := by omega
    have e2 : slots + 9 + 8 * (i + 1) = slots + 9 + 8 * i + 8 := by omega
    rw [e1, e2]
    exact h2
/-- new int[9][8] -/
theorem mu_step (X : Stand p l e R s m args below meth c T locs cells slots) (hexec : p.tables.exec = Jvm.exec) {own : String} {index : Nat}
    (hown : s.vm.findClass own = some m.cls) (hclink : (Cond.classLink own index "[[I").before args s = true) (hover : (Cond.arrayOver (.array .int)).before args s = true) (harr : (Cond.arrayClass .int).before args s = true)
    {g : JFrame} (hg : g.method = m) (hdg : decode c.code g.pc = .ok (.multianewarray index 2, 4)) {rest : List Value} (hstack : g.stack = .int 8 :: .int 9 :: rest)
    (hcells : cells + 10 ≤ R.cells) (hslots : slots + 81 ≤ R.slots) :
    ∃ (vm₁ : Vm) (cA cI : ClassId), s.vm.findClass ("[" ++ (FieldType.array .int).toString) = some cA ∧ s.vm.findClass ("[" ++ FieldType.int.toString) = some cI ∧
      Stand p l e R s m args below meth c (mu_F (T.setVm vm₁) cA cI 9) (mu_L T.heap.size locs 9) (cells + 10) (slots + 81) ∧
      ∀ target, Steps p.tables e below ((mu_F (T.setVm vm₁) cA cI 9).setTop { g with pc := g.pc + 4, stack := .ref T.heap.size :: rest }) target → Steps p.tables e below (T.setTop g) target := by
  subst hg
  have hpl : e.platform.magicAccessors = ({} : Platform).magicAccessors := by rw [X.admits.platform]
  obtain ⟨cI, cA, kA, hfI, hkA, hA, hfA⟩ := mu_over hover
  obtain ⟨cI2, kI, cC, hfI2, hkI, hI⟩ := Cond.arrayClass_spec harr
  have hII : cI2 = cI := Option.some.inj (hfI2.symm.trans hfI)
  subst hII
  obtain ⟨cc, hfcc, hcl⟩ := Cond.classLink_spec hown hclink e.platform hpl
  have hcc : cc = cA := Option.some.inj (hfcc.symm.trans hfA)
  subst hcc
  obtain ⟨hg₁, hwarm₁, hready₁⟩ := State.classEntry (e := e) X.warmed hcl
  generalize T.vm.noted g.method.cls index (.cls cc) = vm₁ at hg₁ hwarm₁ hready₁
  have hal : s.vm.Alike vm₁ := hwarm₁.alike
  obtain ⟨kA₁, hkA₁, heA⟩ := hal.2.2 _ _ hkA
  obtain ⟨kI₁, hkI₁, heI⟩ := hal.2.2 _ _ hkI
  have hA₁ : kA₁.kind = .array cI2 (.array .int) := by rw [heA]; exact hA
  have hI₁ : kI₁.kind = .array cC .int := by rw [heI]; exact hI
  have X₁ := X.noted hwarm₁
  have hS : ∀ i, Stand p l e R s g.method args below meth c (mu_F (T.setVm vm₁) cc cI2 i) (mu_L T.heap.size locs i) (cells + 1 + i) (slots + 9 + 8 * i) := mu_stand X₁ cc cI2
  refine ⟨vm₁, cc, cI2, hfA, hfI, hS 9, fun target hrest => ?_⟩
  have hl : e.platform.arrayLengthLimit = _ := Launch.admits_arrayLengthLimit X.admits
  have hh : e.platform.maxHeapBytes = _ := Launch.admits_maxHeapBytes X.admits
  obtain ⟨a1, a2⟩ := X₁.roomAbove (a := 1) (b := 9) (by omega) (by omega)
  have hroom : ∀ i, i < 9 → (mu_F (T.setVm vm₁) cc cI2 i).heap.size < e.platform.maxCells ∧ (mu_F (T.setVm vm₁) cc cI2 i).slotsUsed + 8 ≤ e.platform.maxSlots := fun i hi => by
    obtain ⟨b1, b2⟩ := (hS i).roomAbove (a := 1) (b := 8) (by omega) (by omega)
    exact ⟨by omega, b2⟩
  have hcold : ∀ {Q : Unit → Pre} {E : CtlPost} {d : Bool} {acts : List Action}, wp (Jvm.Op.multianewarray.sem index 2) Q E e d acts (T.setTop g) ↔ wp (Jvm.Op.multianewarray.sem index 2) Q E e d acts ((T.setVm vm₁).setTop g) := by
    intro Q E d acts
    simp only [Jvm.Op.multianewarray.sem, wp_bind']
    exact W.resolveClassAt_transfer (s := T.setTop g) (State.method?_setTop g X.here.top) hg₁ hready₁
  jvm_step X.here [hexec, hdg, hcold]
  refine mu_sem (T := T.setVm vm₁) (g := g) (kA := kA₁) (kI := kI₁) (tO := .array .int) X.here.top hready₁ hstack hkA₁ hA₁ rfl (fun _ => rfl) hkI₁ hI₁ (by rw [hl]; omega) (by rw [hh]; decide) (by rw [hh]; decide) a1 a2 hroom (fun acts' acts2 => ?_)
  rw [afterInstr_ok]
  exact hrest
end MUS
