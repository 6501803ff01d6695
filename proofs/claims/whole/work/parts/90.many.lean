/-! multianewarray: an array of four rows of forty ints is made -/
def kRow40 (cI : ClassId) : Cell := { cls := cI, slots := Array.replicate 40 (.int 0), vm := .none }
/-- the outer array at h, filled as far as i -/
def kOuter (cA : ClassId) (h : Nat) : Nat → Cell
  | 0 => { cls := cA, slots := Array.replicate 4 .null, vm := .none }
  | i + 1 => (kOuter cA h i).setSlot i (.ref (h + 1 + i))
theorem kOuter.is (cA : ClassId) (h : Nat) : ∀ i : Nat, (kOuter cA h i).cls = cA ∧ (kOuter cA h i).vm = .none ∧ (kOuter cA h i).slots.size = 4
  | 0 => ⟨rfl, rfl, by simp [kOuter]⟩
  | i + 1 => by
    obtain ⟨h1, h2, h3⟩ := kOuter.is cA h i
    exact ⟨h1, h2, by simp [kOuter, Cell.setSlot, h3]⟩
theorem kOuter.at (cA : ClassId) (h : Nat) : ∀ i j : Nat, i ≤ 4 → j < i → (kOuter cA h i).slots[j]? = some (.ref (h + 1 + j))
  | 0, j, _, hj => absurd hj (Nat.not_lt_zero j)
  | i + 1, j, hi, hj => by
    show ((kOuter cA h i).slots.setIfInBounds i (.ref (h + 1 + i)))[j]? = _
    rw [Array.getElem?_setIfInBounds]
    by_cases q : i = j
    · subst q
      have h3 := (kOuter.is cA h i).2.2
      simp [h3]
      omega
    · rw [if_neg q]
      exact kOuter.at cA h i j (by omega) (by omega)
/-- T, the outer array and i rows made -/
def kMade (T : State) (cA cI : ClassId) : Nat → State
  | 0 => T.pushCell (kOuter cA T.heap.size 0)
  | i + 1 => ((kMade T cA cI i).pushCell (kRow40 cI)).setCell T.heap.size (kOuter cA T.heap.size (i + 1))
theorem kMade.is (T : State) (cA cI : ClassId) : ∀ i : Nat, i ≤ 4 → (kMade T cA cI i).vm = T.vm ∧ (kMade T cA cI i).slotsUsed = T.slotsUsed + 4 + i * 40 ∧ (kMade T cA cI i).heap.size = T.heap.size + 1 + i ∧ (∀ q : Nat, q < T.heap.size → (kMade T cA cI i).heap[q]? = T.heap[q]?) ∧
    (kMade T cA cI i).heap[T.heap.size]? = some (kOuter cA T.heap.size i) ∧ ∀ j : Nat, j < i → (kMade T cA cI i).heap[T.heap.size + 1 + j]? = some (kRow40 cI)
  | 0, _ => ⟨rfl, by simp [kMade, kOuter], by simp [kMade], fun q hq => State.heap_pushCell_of_lt _ _ hq, State.heap_pushCell_size _ _, fun j hj => absurd hj (Nat.not_lt_zero j)⟩
  | i + 1, hi => by
    obtain ⟨h1, h2, h3, h4, h5, h6⟩ := kMade.is T cA cI i (by omega)
    have hlt : T.heap.size < (kMade T cA cI i).heap.size := by omega
    have e1 : ((kMade T cA cI i).pushCell (kRow40 cI)).heap[T.heap.size]? = some (kOuter cA T.heap.size i) := by rw [State.heap_pushCell_of_lt _ _ hlt]; exact h5
    refine ⟨h1, ?_, ?_, fun q hq => ?_, State.heap_setCell_self e1, fun j hj => ?_⟩
    · simp [kMade, h2, kRow40]; omega
    · simp [kMade, State.setCell, h3]; omega
    · show (((kMade T cA cI i).pushCell (kRow40 cI)).setCell T.heap.size _).heap[q]? = _
      rw [State.heap_setCell_other (show T.heap.size ≠ q from Nat.ne_of_gt hq), State.heap_pushCell_of_lt _ _ (Nat.lt_trans hq hlt)]
      exact h4 q hq
    · have hne : T.heap.size ≠ T.heap.size + 1 + j := by omega
      show (((kMade T cA cI i).pushCell (kRow40 cI)).setCell T.heap.size _).heap[T.heap.size + 1 + j]? = _
      rw [State.heap_setCell_other hne]
      by_cases q : j = i
      · subst q
        rw [← h3]
        exact State.heap_pushCell_size _ _
      · have hl : T.heap.size + 1 + j < (kMade T cA cI i).heap.size := by omega
        rw [State.heap_pushCell_of_lt _ _ hl]
        exact h6 j (by omega)
section KMANY
variable {p : Program} {l : Launch} {e : Env} {R : Room} {s : State} {m : MethodId} {args : Array Value} {below : List Frame} {meth : Method} {c : Code}
theorem kMade.stands {T : State} {locs : List Loc} {cells slots : Nat} (cA cI : ClassId) (X : Stand p l e R s m args below meth c T locs cells slots) : ∀ i : Nat, i ≤ 4 → ∃ L : List Loc, Stand p l e R s m args below meth c (kMade T cA cI i) (locs ++ L) (cells + 1 + i) (slots + 4 + i * 40) ∧ ∀ q ∈ L, q.base = T.heap.size
  | 0, _ => by
    refine ⟨[], ?_, fun q hq => (by cases hq)⟩
    have h := X.pushed (kOuter cA T.heap.size 0)
    rw [List.append_nil]
    simpa [kOuter, kMade] using h
  | i + 1, hi => by
    obtain ⟨L, Xi, hL⟩ := kMade.stands cA cI X i (by omega)
    obtain ⟨h1, h2, h3, h4, h5, h6⟩ := kMade.is T cA cI i (by omega)
    have hlt : T.heap.size < (kMade T cA cI i).heap.size := by omega
    have e1 : ((kMade T cA cI i).pushCell (kRow40 cI)).heap[T.heap.size]? = some (kOuter cA T.heap.size i) := by rw [State.heap_pushCell_of_lt _ _ hlt]; exact h5
    refine ⟨L ++ [⟨T.heap.size, i⟩], ?_, fun q hq => ?_⟩
    · have h := (Xi.pushed (kRow40 cI)).stored e1 i (.ref (T.heap.size + 1 + i))
      have e2 : (kRow40 cI).slots.size = 40 := by simp [kRow40]
      rw [e2] at h
      rw [← List.append_assoc, show cells + 1 + (i + 1) = cells + 1 + i + 1 by omega, show slots + 4 + (i + 1) * 40 = slots + 4 + i * 40 + 40 by omega]
      exact h
    · rcases List.mem_append.mp hq with h | h
      · exact hL q h
      · rw [List.mem_singleton.mp h]
end KMANY
section KMANY2
variable {p : Program} {l : Launch} {e : Env} {R : Room} {s : State} {m : MethodId} {args : Array Value} {below : List Frame} {meth : Method} {c : Code} {H : Heap} {locs : List Loc} {cells slots : Nat} {Q : State → Prop}
theorem kMake40 {E : CtlPost} {e : Env} {d : Bool} {acts : List Action} {t : State} {cI cx : ClassId} {kI : Class} (hk : t.vm.classes[cI]? = some kI) (hkind : kI.kind = .array cx .int) (hlim : 40 ≤ e.platform.arrayLengthLimit) (hheap : 160 ≤ e.platform.maxHeapBytes)
    (h1 : t.heap.size < e.platform.maxCells) (h2 : t.slotsUsed + 40 ≤ e.platform.maxSlots) {Q : Addr → Pre} (hq : ∀ acts', Q t.heap.size d acts' (t.pushCell (kRow40 cI))) : wp (Op.multianewarray.make cI [40]) Q E e d acts t := by
  have hn : ¬ (40 : Int32) < 0 := by decide
  rw [Op.multianewarray.make]
  simp only [wp_bind', W.ite, hn, if_false, wp_pure', W.theClass, hk, hkind, Option.some.injEq, exists_eq_left']
  exact W.newArray_of hk hkind (by show ¬ 40 > _; omega) (by show ¬ 40 * 4 > _; omega) h1 h2 rfl hq
theorem kMake4 {E : CtlPost} {d : Bool} {acts : List Action} {T : State} {g : JFrame} {cA cI cx : ClassId} {kA kI : Class} (X : Stand p l e R s m args below meth c T locs cells slots) (hA : T.vm.classes[cA]? = some kA) (hAk : kA.kind = .array cI (.array .int)) (hI : T.vm.classes[cI]? = some kI) (hIk : kI.kind = .array cx .int)
    (hcells : cells + 5 ≤ R.cells) (hslots : slots + 164 ≤ R.slots) {Q : Addr → Pre} (hq : ∀ (d' : Bool) (acts' : List Action), Q T.heap.size d' acts' ((kMade T cA cI 4).setTop g)) : wp (Op.multianewarray.make cA [4, 40]) Q E e d acts (T.setTop g) := by
  obtain ⟨hr1, hr2⟩ := X.roomAbove hcells hslots
  have hlim : 40 ≤ e.platform.arrayLengthLimit := by rw [Launch.admits_arrayLengthLimit X.admits]; omega
  have hheap : 160 ≤ e.platform.maxHeapBytes := by rw [Launch.admits_maxHeapBytes X.admits]; omega
  rw [Op.multianewarray.make]
  have hn : ¬ (4 : Int32) < 0 := by decide
  have hz : ((4 : Int32) == 0) = false := by decide
  simp only [wp_bind', W.ite, hn, if_false, wp_pure', W.theClass, State.vm_setTop, hA, hAk, Option.some.injEq, exists_eq_left']
  have hl4 : ¬ 4 > e.platform.arrayLengthLimit := by omega
  have hh4 : ¬ 4 * 4 > e.platform.maxHeapBytes := by omega
  refine W.newArray_of (k := kA) hA hAk hl4 hh4 (show T.heap.size < _ by omega) (show T.slotsUsed + 4 ≤ _ by omega) rfl (fun acts' => ?_)
  simp only [hz, Bool.false_eq_true, if_false]
  rw [wp_bind', Std.Legacy.Range.forIn_eq_forIn_range']
  show wp (forIn (List.range' 0 4 1) PUnit.unit _) _ E e d _ _
  refine wp_forIn_inv (fun rest V => ∃ i : Nat, i ≤ 4 ∧ rest = List.range' i (4 - i) ∧ V = (kMade T cA cI i).setTop g) _ _ ⟨0, Nat.zero_le _, rfl, rfl⟩ ?_ ?_
  · rintro x rest V d' acts2 Q' ⟨i, hi, hl, rfl⟩ hnext
    have hlt : i < 4 := by
      rcases Nat.lt_or_ge i 4 with h | h
      · exact h
      · rw [show 4 - i = 0 by omega] at hl
        cases hl
    rw [show 4 - i = (4 - (i + 1)) + 1 by omega, List.range'_succ] at hl
    obtain ⟨hx, hr⟩ := List.cons.inj hl
    subst hx
    obtain ⟨u1, u2, u3, -, u5, -⟩ := kMade.is T cA cI x hi
    obtain ⟨o2, o3, o4⟩ := kOuter.is cA T.heap.size x
    have hl0 : T.heap.size < (kMade T cA cI x).heap.size := by omega
    simp only [wp_bind']
    refine kMake40 (kI := kI) (cx := cx) (by show (kMade T cA cI x).vm.classes[cI]? = _; rw [u1]; exact hI) hIk hlim hheap (by show (kMade T cA cI x).heap.size < _; omega) (by show (kMade T cA cI x).slotsUsed + 40 ≤ _; omega) (fun acts3 => ?_)
    simp only [wp_bind', W.writeLoc, wp_pure']
    refine ⟨kOuter cA T.heap.size x, by show ((kMade T cA cI x).pushCell (kRow40 cI)).heap[T.heap.size]? = _; rw [State.heap_pushCell_of_lt (h := hl0)]; exact u5, by rw [o3]; simp, by rw [o4]; exact hlt, ?_, hnext _ _ _ ⟨x + 1, hlt, hr, ?_⟩⟩
    · rw [o2, o3]
      simp [State.fitsSlot, State.slotType?, u1, hA, hAk, fits]
    · simp only [State.heap_setTop, State.pushCell_setTop, State.setCell_setTop, u3]
      rfl
  · rintro V d' acts2 ⟨i, hi, hl, rfl⟩
    have e4 : i = 4 := by
      rcases Nat.lt_or_ge i 4 with h | h
      · rw [show 4 - i = (4 - (i + 1)) + 1 by omega, List.range'_succ] at hl
        cases hl
      · omega
    subst e4
    simp only [wp_pure']
    exact hq _ _
end KMANY2
section KMANY3
variable {p : Program} {l : Launch} {e : Env} {R : Room} {s : State} {m : MethodId} {args : Array Value} {below : List Frame} {meth : Method} {c : Code} {H : Heap} {locs : List Loc} {cells slots : Nat} {Q : State → Prop}
theorem kManyW {cc : ByteArray} (hexec : p.tables.exec = Jvm.exec) (hb : c.code = cc) {own : String} {index : Nat} (hown : s.vm.findClass own = some m.cls) (hclink : (Cond.classLink own index "[[I").before args s = true) {cA cI cx : ClassId} {kA kI : Class} (hA : s.vm.classes[cA]? = some kA) (hAk : kA.kind = .array cI (.array .int)) (hI : s.vm.classes[cI]? = some kI) (hIk : kI.kind = .array cx .int)
    (hname : s.vm.findClass "[[I" = some cA) {g : JFrame} (hg : g.method = m) (hdg : decode cc g.pc = .ok (.multianewarray index 2, 4)) {rest : List Value} (hstack : g.stack = .int 40 :: .int 4 :: rest) (hcells : cells + 5 ≤ R.cells) (hslots : slots + 164 ≤ R.slots)
    (kk : ∀ (H' : Heap) (L : List Loc), H'.size = H.size + 5 → (∀ q : Nat, q < H.size → H'[q]? = H[q]?) → H'[H.size]? = some (kOuter cA H.size 4) → (∀ j : Nat, j < 4 → H'[H.size + 1 + j]? = some (kRow40 cI)) → (∀ q ∈ L, q.base = H.size) →
      W p l e R s m args below meth c H' (locs ++ L) (cells + 5) (slots + 164) Q { g with pc := g.pc + 4, stack := .ref H.size :: rest }) : W p l e R s m args below meth c H locs cells slots Q g := by
  intro T hT X
  subst hT; subst hb; subst hg
  have hpl : e.platform.magicAccessors = ({} : Platform).magicAccessors := by rw [X.admits.platform]
  obtain ⟨c0, hfc0, hcl⟩ := Cond.classLink_spec hown hclink e.platform hpl
  cases hname.symm.trans hfc0
  obtain ⟨hg₁, hwarm₁, hready₁⟩ := State.classEntry (e := e) X.warmed hcl
  generalize T.vm.noted g.method.cls index (.cls cA) = vm₁ at hg₁ hwarm₁ hready₁
  have hal : s.vm.Alike vm₁ := hwarm₁.alike
  obtain ⟨kA₁, hkA₁, heA⟩ := hal.2.2 _ _ hA
  obtain ⟨kI₁, hkI₁, heI⟩ := hal.2.2 _ _ hI
  have X₁ := X.noted hwarm₁
  obtain ⟨L, X₂, hL⟩ := kMade.stands cA cI X₁ 4 (Nat.le_refl 4)
  obtain ⟨m1, m2, m3, m4, m5, m6⟩ := kMade.is (T.setVm vm₁) cA cI 4 (Nat.le_refl 4)
  obtain ⟨t', a1, b1⟩ := kk (kMade (T.setVm vm₁) cA cI 4).heap L m3 m4 m5 m6 hL (kMade (T.setVm vm₁) cA cI 4) rfl X₂
  refine ⟨t', ?_, b1⟩
  jvm_step X.here [hexec, hdg]
  simp only [Op.multianewarray.sem, wp_bind', W.resolveClassAt_links (State.method?_setTop g X.here.top) hg₁]
  rw [W.popN, if_neg (by decide)]
  refine ⟨g, State.topJava?_setTop' (s := T.setVm vm₁) g X.here.top, [.int 4, .int 40], rest, rfl, hstack, ?_⟩
  simp only [List.mapM_cons, List.mapM_nil, wp_bind', wp_pure']
  have eS : ((T.setTop g).setVm vm₁).setTop { g with stack := rest } = (T.setVm vm₁).setTop { g with stack := rest } := by
    show ((T.setVm vm₁).setTop g).setTop _ = _
    rw [State.setTop_setTop]
  rw [eS]
  refine kMake4 (T := T.setVm vm₁) (kA := kA₁) (kI := kI₁) (cx := cx) (g := { g with stack := rest }) X₁ hkA₁ (by rw [heA]; exact hAk) hkI₁ (by rw [heI]; exact hIk) hcells hslots (fun d' acts' => ?_)
  simp only [wp_bind', W.mark, W.pushRef, State.topJava?_setTop' _ X₂.here.top, Option.some.injEq, exists_eq_left', State.setTop_setTop]
  intro acts
  simp [jvm, X₂.here.top]
  exact a1
end KMANY3
