/-! multianewarray: an array of four rows of forty ints is made -/
def kRow40 (cI : ClassId) : Cell := { cls := cI, slots := Array.replicate 40 (.int 0), vm := .none }
/-- the outer array lies behind all of T, filled as far as i, and i rows behind it -/
def kMany (T : State) (cA cI : ClassId) (i : Nat) (U : State) : Prop := U.vm = T.vm ∧ U.slotsUsed = T.slotsUsed + 4 + i * 40 ∧ U.heap.size = T.heap.size + 1 + i ∧ (∀ q : Nat, q < T.heap.size → U.heap[q]? = T.heap[q]?) ∧
  (∃ oc : Cell, U.heap[T.heap.size]? = some oc ∧ oc.cls = cA ∧ oc.vm = .none ∧ oc.slots.size = 4 ∧ ∀ j : Nat, j < i → oc.slots[j]? = some (.ref (T.heap.size + 1 + j))) ∧ ∀ j : Nat, j < i → U.heap[T.heap.size + 1 + j]? = some (kRow40 cI)
theorem kMany.start {T : State} {cA cI : ClassId} : kMany T cA cI 0 (T.pushCell { cls := cA, slots := Array.replicate 4 .null, vm := .none }) :=
  ⟨rfl, by simp, by simp, fun q hq => State.heap_pushCell_of_lt _ _ hq, ⟨_, State.heap_pushCell_size _ _, rfl, rfl, by simp, fun j hj => absurd hj (Nat.not_lt_zero j)⟩, fun j hj => absurd hj (Nat.not_lt_zero j)⟩
theorem kMany.step {T U : State} {cA cI : ClassId} {i : Nat} (hi : i < 4) (h : kMany T cA cI i U) : ∃ oc : Cell, (U.pushCell (kRow40 cI)).heap[T.heap.size]? = some oc ∧ oc.cls = cA ∧ oc.vm = .none ∧ oc.slots.size = 4 ∧ kMany T cA cI (i + 1) ((U.pushCell (kRow40 cI)).setCell T.heap.size (oc.setSlot i (.ref (T.heap.size + 1 + i)))) := by
  obtain ⟨h1, h2, h3, h4, ⟨oc, o1, o2, o3, o4, o5⟩, h6⟩ := h
  have hlt : T.heap.size < U.heap.size := by omega
  have e1 : (U.pushCell (kRow40 cI)).heap[T.heap.size]? = some oc := by rw [State.heap_pushCell_of_lt _ _ hlt]; exact o1
  refine ⟨oc, e1, o2, o3, o4, ?_, ?_, ?_, fun q hq => ?_, ⟨_, State.heap_setCell_self e1, o2, o3, ?_, fun j hj => ?_⟩, fun j hj => ?_⟩
  · exact h1
  · simp [h2, kRow40]; omega
  · simp [State.setCell, h3]; omega
  · rw [State.heap_setCell_other (show T.heap.size ≠ q from Nat.ne_of_gt hq), State.heap_pushCell_of_lt _ _ (Nat.lt_trans hq hlt)]
    exact h4 q hq
  · simp [Cell.setSlot, o4]
  · simp only [Cell.setSlot, Array.getElem?_setIfInBounds]
    by_cases q : i = j
    · subst q
      simp [o4, hi]
    · rw [if_neg q]
      exact o5 j (by omega)
  · have hne : T.heap.size ≠ T.heap.size + 1 + j := by omega
    rw [State.heap_setCell_other hne]
    by_cases q : j = i
    · subst q
      rw [← h3]
      exact State.heap_pushCell_size _ _
    · have hl : T.heap.size + 1 + j < U.heap.size := by omega
      rw [State.heap_pushCell_of_lt _ _ hl]
      exact h6 j (by omega)
section KMANY
variable {p : Program} {l : Launch} {e : Env} {R : Room} {s : State} {m : MethodId} {args : Array Value} {below : List Frame} {meth : Method} {c : Code}
/-- U stands, i rows made -/
def kManyX (p : Program) (l : Launch) (e : Env) (R : Room) (s : State) (m : MethodId) (args : Array Value) (below : List Frame) (meth : Method) (c : Code) (T : State) (locs : List Loc) (cells slots : Nat) (cA cI : ClassId) (i : Nat) (U : State) : Prop :=
  kMany T cA cI i U ∧ ∃ L : List Loc, Stand p l e R s m args below meth c U (locs ++ L) (cells + 1 + i) (slots + 4 + i * 40) ∧ ∀ q ∈ L, q.base = T.heap.size
theorem kManyX.start {T : State} {locs : List Loc} {cells slots : Nat} {cA cI : ClassId} (X : Stand p l e R s m args below meth c T locs cells slots) : kManyX p l e R s m args below meth c T locs cells slots cA cI 0 (T.pushCell { cls := cA, slots := Array.replicate 4 .null, vm := .none }) := by
  refine ⟨kMany.start, [], ?_, fun q hq => (by cases hq)⟩
  have h := X.pushed { cls := cA, slots := Array.replicate 4 .null, vm := .none }
  rw [List.append_nil]
  simpa using h
theorem kManyX.step {T U : State} {locs : List Loc} {cells slots : Nat} {cA cI : ClassId} {i : Nat} (hi : i < 4) (h : kManyX p l e R s m args below meth c T locs cells slots cA cI i U) :
    ∃ oc : Cell, (U.pushCell (kRow40 cI)).heap[T.heap.size]? = some oc ∧ oc.cls = cA ∧ oc.vm = .none ∧ oc.slots.size = 4 ∧ kManyX p l e R s m args below meth c T locs cells slots cA cI (i + 1) ((U.pushCell (kRow40 cI)).setCell T.heap.size (oc.setSlot i (.ref (T.heap.size + 1 + i)))) := by
  obtain ⟨hm, L, X, hL⟩ := h
  obtain ⟨oc, o1, o2, o3, o4, hs⟩ := hm.step hi
  refine ⟨oc, o1, o2, o3, o4, hs, L ++ [⟨T.heap.size, i⟩], ?_, fun q hq => ?_⟩
  · have h := (X.pushed (kRow40 cI)).stored o1 i (.ref (T.heap.size + 1 + i))
    have e1 : (kRow40 cI).slots.size = 40 := by simp [kRow40]
    rw [e1] at h
    rw [← List.append_assoc, show cells + 1 + (i + 1) = cells + 1 + i + 1 by omega, show slots + 4 + (i + 1) * 40 = slots + 4 + i * 40 + 40 by omega]
    exact h
  · rcases List.mem_append.mp hq with h | h
    · exact hL q h
    · rw [List.mem_singleton.mp h]
end KMANY
section KMANY2
variable {p : Program} {l : Launch} {e : Env} {R : Room} {s : State} {m : MethodId} {args : Array Value} {below : List Frame} {meth : Method} {c : Code} {H : Heap} {locs : List Loc} {cells slots : Nat} {Q : State → Prop}
theorem kMake40 {E : CtlPost} {e : Env} {d : Bool} {acts : List Action} {t : State} {cI cx : ClassId} {kI : Class} (hk : t.vm.classes[cI]? = some kI) (hkind : kI.kind = .array cx .int) (hlim : 40 ≤ e.platform.arrayLengthLimit) (hheap : 160 ≤ e.platform.maxHeapBytes)
    (h1 : t.heap.size < e.platform.maxCells) (h2 : t.slotsUsed + 40 ≤ e.platform.maxSlots) {Q : Addr → Pre} (hq : ∀ acts', Q t.heap.size d acts' (t.pushCell (kRow40 cI))) : wp (Op.multianewarray.make cI [40]) Q E e d acts t := by
  have hn : ¬ (40 : Int32) < 0 := by decide
  rw [Op.multianewarray.make]
  simp only [wp_bind', W.ite, hn, if_false, wp_pure', W.theClass, hk, hkind, Option.some.injEq, exists_eq_left']
  exact W.newArray_of hk hkind (by show ¬ 40 > _; omega) (by show ¬ 40 * 4 > _; omega) h1 h2 rfl hq
theorem kMake4 {E : CtlPost} {d : Bool} {acts : List Action} {T : State} {g : JFrame} {cA cI cx : ClassId} {kA kI : Class} (X : Stand p l e R s m args below meth c T locs cells slots) (hA : T.vm.classes[cA]? = some kA) (hAk : kA.kind = .array cI (.array .int)) (hI : T.vm.classes[cI]? = some kI) (hIk : kI.kind = .array cx .int)
    (hcells : cells + 5 ≤ R.cells) (hslots : slots + 164 ≤ R.slots) {Q : Addr → Pre} (hq : ∀ (d' : Bool) (acts' : List Action) (U : State), kManyX p l e R s m args below meth c T locs cells slots cA cI 4 U → Q T.heap.size d' acts' (U.setTop g)) : wp (Op.multianewarray.make cA [4, 40]) Q E e d acts (T.setTop g) := by
  obtain ⟨hr1, hr2⟩ := X.roomAbove hcells hslots
  have hlim : 40 ≤ e.platform.arrayLengthLimit := by rw [Launch.admits_arrayLengthLimit X.admits]; omega
  have hheap : 160 ≤ e.platform.maxHeapBytes := by rw [Launch.admits_maxHeapBytes X.admits]; omega
  rw [Op.multianewarray.make]
  have hn : ¬ (4 : Int32) < 0 := by decide
  have hz : ((4 : Int32) == 0) = false := by decide
  simp only [wp_bind', W.ite, hn, if_false, wp_pure', W.theClass, State.vm_setTop, hA, hAk, Option.some.injEq, exists_eq_left']
  have hl4 : ¬ 4 > e.platform.arrayLengthLimit := by omega
  have hh4 : ¬ 4 * 4 > e.platform.maxHeapBytes := by omega
  refine W.newArray_of (k := kA) hA hAk hl4 hh4 (show T.heap.size < _ by omega) (show T.slotsUsed + 4 ≤ _ by omega) rfl (fun acts' => ?_)
  simp only [hz, Bool.false_eq_true, if_false]
  rw [wp_bind', Std.Legacy.Range.forIn_eq_forIn_range']
  show wp (forIn (List.range' 0 4 1) PUnit.unit _) _ E e d _ _
  refine wp_forIn_inv (fun rest V => ∃ (i : Nat) (U : State), i ≤ 4 ∧ rest = List.range' i (4 - i) ∧ V = U.setTop g ∧ kManyX p l e R s m args below meth c T locs cells slots cA cI i U) _ _ ⟨0, _, Nat.zero_le _, rfl, rfl, kManyX.start X⟩ ?_ ?_
  · rintro x rest V d' acts2 Q' ⟨i, U, hi, hl, rfl, hU⟩ hnext
    have hlt : i < 4 := by
      rcases Nat.lt_or_ge i 4 with h | h
      · exact h
      · rw [show 4 - i = 0 by omega] at hl
        cases hl
    rw [show 4 - i = (4 - (i + 1)) + 1 by omega, List.range'_succ] at hl
    obtain ⟨hx, hr⟩ := List.cons.inj hl
    subst hx
    obtain ⟨oc, o1, o2, o3, o4, hs⟩ := hU.step hlt
    obtain ⟨⟨u1, u2, u3, -⟩, -⟩ := hU
    simp only [wp_bind']
    refine kMake40 (kI := kI) (cx := cx) (by show U.vm.classes[cI]? = _; rw [u1]; exact hI) hIk hlim hheap (by show U.heap.size < _; omega) (by show U.slotsUsed + 40 ≤ _; omega) (fun acts3 => ?_)
    simp only [wp_bind', W.writeLoc, wp_pure']
    refine ⟨oc, o1, by rw [o3]; simp, by rw [o4]; exact hlt, ?_, hnext _ _ _ ⟨x + 1, _, hlt, hr, ?_, hs⟩⟩
    · rw [o2, o3]
      simp [State.fitsSlot, State.slotType?, u1, hA, hAk, fits]
    · rw [← u3]
      rfl
  · rintro V d' acts2 ⟨i, U, hi, hl, rfl, hU⟩
    have e4 : i = 4 := by
      rcases Nat.lt_or_ge i 4 with h | h
      · rw [show 4 - i = (4 - (i + 1)) + 1 by omega, List.range'_succ] at hl
        cases hl
      · omega
    subst e4
    simp only [wp_pure']
    exact hq _ _ U hU
end KMANY2
