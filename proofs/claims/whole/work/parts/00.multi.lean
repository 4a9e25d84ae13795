/-! new int[9][8], over the model's own text of the instruction -/
section MU
variable {E : CtlPost} {e : Env} {d : Bool} {acts : List Action} {s : State}
/-- an array comes -/
theorem mu_new {cA comp : ClassId} {N : Nat} {v : Value} {k : Class} {ty : FieldType} {Q : Addr → Pre}
    (hk : s.vm.classes[cA]? = some k) (hkind : k.kind = .array comp ty) (hv : fits ty v = true)
    (hlim : ¬ N > e.platform.arrayLengthLimit) (hheap : ¬ N * componentBytes ty > e.platform.maxHeapBytes)
    (h1 : s.heap.size < e.platform.maxCells) (h2 : s.slotsUsed + N ≤ e.platform.maxSlots)
    (hq : ∀ acts', Q s.heap.size d acts' (s.pushCell { cls := cA, slots := Array.replicate N v, vm := .none })) :
    wp (Jvm.newArray cA N v) Q E e d acts s := by
  simp only [Jvm.newArray, Jvm.arrayFits, wp_bind', W.ask, W.ite, hlim, if_false, wp_pure', W.theClass, hk, hkind, hheap, W.stop, W.alloc, Option.some.injEq, exists_eq_left']
  rw [if_neg (by omega)]
  refine ⟨h1, by rw [Array.size_replicate]; exact h2, fun i x hx => ?_, hq _⟩
  simp only [Array.getElem?_replicate] at hx
  split at hx
  · cases hx
    simp [State.fitsSlot, State.slotType?, hk, hkind, hv]
  · cases hx
/-- one row of ints -/
theorem mu_row {cI comp : ClassId} {k : Class} {Q : Addr → Pre}
    (hk : s.vm.classes[cI]? = some k) (hkind : k.kind = .array comp .int)
    (hlim : ¬ 8 > e.platform.arrayLengthLimit) (hheap : ¬ 8 * componentBytes .int > e.platform.maxHeapBytes)
    (h1 : s.heap.size < e.platform.maxCells) (h2 : s.slotsUsed + 8 ≤ e.platform.maxSlots)
    (hq : ∀ acts', Q s.heap.size d acts' (s.pushCell { cls := cI, slots := Array.replicate 8 (.int 0), vm := .none })) :
    wp (Jvm.Op.multianewarray.make cI [8]) Q E e d acts s := by
  have h0 : ¬ (8 : Int32) < 0 := by decide
  have h8 : (8 : Int32).toNatClampNeg = 8 := by decide
  unfold Jvm.Op.multianewarray.make
  simp only [wp_bind', W.ite, h0, if_false, wp_pure', W.theClass, hk, hkind, Option.some.injEq, exists_eq_left', h8]
  exact mu_new hk hkind rfl hlim hheap h1 h2 hq
/-- the outer row with its first i places filled -/
def mu_out (cA : ClassId) (h0 i : Nat) : Cell := arrV cA 9 (fun j => va_rf (if j < i then some (h0 + 1 + j) else none))
def mu_in (cI : ClassId) : Cell := { cls := cI, slots := Array.replicate 8 (.int 0), vm := .none }
theorem mu_out_new (cA : ClassId) (h0 : Nat) : ({ cls := cA, slots := Array.replicate 9 .null, vm := .none } : Cell) = mu_out cA h0 0 := by
  rw [arrV_new]
  refine congrArg (arrV cA 9) (funext fun j => ?_)
  simp [va_rf]
theorem mu_out_set (cA : ClassId) (h0 i : Nat) : (mu_out cA h0 i).setSlot i (.ref (h0 + 1 + i)) = mu_out cA h0 (i + 1) := by
  unfold mu_out
  rw [arrV_store]
  refine congrArg (arrV cA 9) (funext fun j => ?_)
  unfold updV
  by_cases q : j = i
  · subst q
    simp [va_rf]
  · by_cases h : j < i
    · simp [q, h, Nat.lt_succ_of_lt h]
    · simp [q, h, show ¬ j < i + 1 by omega]
/-- the state with i rows made -/
def mu_F (T : State) (cA cI : ClassId) : Nat → State
  | 0 => T.pushCell (mu_out cA T.heap.size 0)
  | i + 1 => ((mu_F T cA cI i).pushCell (mu_in cI)).setCell T.heap.size (mu_out cA T.heap.size (i + 1))
theorem mu_F_vm (T : State) (cA cI : ClassId) : ∀ i, (mu_F T cA cI i).vm = T.vm
  | 0 => rfl
  | i + 1 => mu_F_vm T cA cI i
theorem mu_F_top (T : State) (cA cI : ClassId) : ∀ i, (mu_F T cA cI i).topJava? = T.topJava?
  | 0 => rfl
  | i + 1 => mu_F_top T cA cI i
theorem mu_F_size (T : State) (cA cI : ClassId) : ∀ i, (mu_F T cA cI i).heap.size = T.heap.size + 1 + i
  | 0 => by simp [mu_F]
  | i + 1 => by
    have h := mu_F_size T cA cI i
    simp only [mu_F, State.heap_setCell, State.heap_pushCell, Array.size_setIfInBounds, Array.size_push]
    omega
theorem mu_F_out (T : State) (cA cI : ClassId) : ∀ i, (mu_F T cA cI i).heap[T.heap.size]? = some (mu_out cA T.heap.size i)
  | 0 => State.heap_pushCell_size _ _
  | i + 1 => by
    have h := mu_F_size T cA cI i
    simp only [mu_F, State.heap_setCell, State.heap_pushCell]
    exact Array.getElem?_setIfInBounds_self_of_lt (by rw [Array.size_push]; omega)
theorem mu_F_other (T : State) (cA cI : ClassId) (i x : Nat) (hx : x ≠ T.heap.size) : (mu_F T cA cI (i + 1)).heap[x]? = ((mu_F T cA cI i).heap.push (mu_in cI))[x]? := by
  simp only [mu_F, State.heap_setCell, State.heap_pushCell]
  exact Array.getElem?_setIfInBounds_ne (Ne.symm hx)
theorem mu_F_old (T : State) (cA cI : ClassId) {x : Nat} (hx : x < T.heap.size) : ∀ i, (mu_F T cA cI i).heap[x]? = T.heap[x]?
  | 0 => State.heap_pushCell_of_lt _ _ hx
  | i + 1 => by
    have h := mu_F_size T cA cI i
    rw [mu_F_other T cA cI i x (by omega), Array.getElem?_push, if_neg (by omega), mu_F_old T cA cI hx i]
theorem mu_F_in (T : State) (cA cI : ClassId) {j : Nat} : ∀ i, j < i → (mu_F T cA cI i).heap[T.heap.size + 1 + j]? = some (mu_in cI)
  | 0, h => absurd h (Nat.not_lt_zero _)
  | i + 1, h => by
    have hs := mu_F_size T cA cI i
    rw [mu_F_other T cA cI i _ (by omega), Array.getElem?_push, hs]
    by_cases q : j = i
    · subst q
      exact if_pos rfl
    · rw [if_neg (by omega)]
      exact mu_F_in T cA cI i (by omega)
/-- the loop: from i rows on to nine -/
theorem mu_loop {T : State} {g : JFrame} {cA cI cO cC : ClassId} {kA kI : Class} {tO : FieldType} {f : Nat → PUnit → Sem (ForInStep PUnit)} {Q : PUnit → Pre}
    (hf : ∀ i u, f i u = (do let a ← Jvm.Op.multianewarray.make cI [8]; Jvm.writeLoc T.heap.size i (.ref a); Pure.pure (ForInStep.yield PUnit.unit)))
    (hkA : T.vm.classes[cA]? = some kA) (hA : kA.kind = .array cO tO) (href : ∀ a, fits tO (.ref a) = true)
    (hkI : T.vm.classes[cI]? = some kI) (hI : kI.kind = .array cC .int)
    (hlim : ¬ 8 > e.platform.arrayLengthLimit) (hheap : ¬ 8 * componentBytes .int > e.platform.maxHeapBytes)
    (hroom : ∀ i, i < 9 → (mu_F T cA cI i).heap.size < e.platform.maxCells ∧ (mu_F T cA cI i).slotsUsed + 8 ≤ e.platform.maxSlots)
    (hq : ∀ d' acts', Q PUnit.unit d' acts' ((mu_F T cA cI 9).setTop g)) :
    wp (forIn (List.range' 0 9) PUnit.unit f) Q E e d acts ((mu_F T cA cI 0).setTop g) := by
  refine wp_forIn_inv (fun rest U => ∃ i, i ≤ 9 ∧ rest = List.range' i (9 - i) ∧ U = (mu_F T cA cI i).setTop g) f _ ⟨0, by omega, rfl, rfl⟩ ?_ ?_
  · rintro x rest U d' acts' Q' ⟨i, hi, hr, rfl⟩ hk
    have hi9 : i < 9 := by
      rcases Nat.lt_or_ge i 9 with h | h
      · exact h
      · rw [show 9 - i = 0 by omega] at hr
        cases hr
    rw [show 9 - i = (9 - (i + 1)) + 1 by omega, List.range'_succ] at hr
    obtain ⟨rfl, rfl⟩ := List.cons.inj hr
    obtain ⟨r1, r2⟩ := hroom x hi9
    rw [hf]
    simp only [wp_bind', wp_pure', W.writeLoc]
    refine mu_row (k := kI) (by show (mu_F T cA cI x).vm.classes[cI]? = _; rw [mu_F_vm]; exact hkI) hI hlim hheap r1 r2 (fun acts2 => ?_)
    have hsz := mu_F_size T cA cI x
    refine ⟨mu_out cA T.heap.size x, ?_, ?_, ?_, ?_, ?_⟩
    · show ((mu_F T cA cI x).heap.push _)[T.heap.size]? = _
      rw [Array.getElem?_push, if_neg (by omega)]
      exact mu_F_out T cA cI x
    · intro h
      cases h
    · rw [show (mu_out cA T.heap.size x).slots.size = 9 from arrV_size _ _ _]
      exact hi9
    · show State.fitsSlot (mu_F T cA cI x) cA .none x _ = true
      simp [State.fitsSlot, State.slotType?, mu_F_vm, hkA, hA, href]
    · refine hk _ _ _ ⟨x + 1, by omega, rfl, ?_⟩
      have e1 : (((mu_F T cA cI x).setTop g).heap.size : Nat) = T.heap.size + 1 + x := hsz
      rw [e1, mu_out_set]
      rfl
  · rintro U d' acts' ⟨i, hi, hr, rfl⟩
    have : i = 9 := by
      have h := congrArg List.length hr
      rw [List.length_range'] at h
      simp at h
      omega
    subst this
    exact hq _ _
end MU
