/-! the words that last through calls; the numbers of a world; the judgement kV: a method's frame over a world -/
def kWD : List Cond := lw_tbl.filter goodWord
theorem kWD_in {w : Cond} (h : w ∈ kWD) : w ∈ lw_tbl := (List.mem_filter.mp h).1
theorem kWD_ok {w : Cond} (h : w ∈ kWD) : goodWord w = true := (List.mem_filter.mp h).2
theorem kWD_of {w : Cond} (i : Nat) (h : lw_tbl[i]? = some w) (hg : goodWord w = true) : w ∈ kWD := List.mem_filter.mpr ⟨List.mem_of_getElem? h, hg⟩
theorem kGood {Ts : List Cond} {w : Cond} (hT : ∀ w ∈ kWD, w ∈ Ts) (hw : w ∈ kWD) : GoodIn Ts (w :: kWD) := fun v hv => by
  rcases List.mem_cons.mp hv with rfl | hv
  · exact ⟨hT _ hw, good_of_word (kWD_ok hw)⟩
  · exact ⟨hT _ hv, good_of_word (kWD_ok hv)⟩
/-- classes and slots; array classes: 0 int, 1 boolean, 2 Text, 3 rows of int; statics: 4 MOST, 5 UNDER, 6 MOST_SAID; Strings 10 + i, their bytes 30 + i -/
abbrev kG : Type := va_G × (Nat → Nat)
def kTy (g : kG) : List (ClassId × FieldType) := [(g.2 0, .int), (g.2 1, .boolean), (g.2 2, .object "DrainedForAThird$Text"), (g.2 3, .array .int)]
def kMost (j : Nat) : Int32 := [99, 999, 99, 99, 999, 9, 11, 1, 5].getD j 0
def kUnder (j : Nat) : Int32 := [-1, 0, 0, 1, 2, 0].getD j 0
def kSaid (j : Nat) : Int32 := [99, 20, 99].getD j 0
def kStx (i : Nat) : String := ["rains", "shrinks", "calls", "or", "and", "not", "height", "peat", "year", "number", "water", "cell"].getD i ""
def kSlen : List Nat := [5, 7, 5, 2, 3, 3, 6, 4, 4, 6, 5, 4]
def kSbyt : List (List Int32) := [[114, 97, 105, 110, 115], [115, 104, 114, 105, 110, 107, 115], [99, 97, 108, 108, 115], [111, 114], [97, 110, 100], [110, 111, 116], [104, 101, 105, 103, 104, 116], [112, 101, 97, 116], [121, 101, 97, 114], [110, 117, 109, 98, 101, 114], [119, 97, 116, 101, 114], [99, 101, 108, 108]]
def kW1 : Cond := .methodLinkNest "DrainedForAThird" 37 ⟨"DrainedForAThird$Reader", "<init>", "()V"⟩ "DrainedForAThird"
def kW2 : Cond := .methodLinkNest "DrainedForAThird$Fen" 61 ⟨"DrainedForAThird", "isCell", "(I)Z"⟩ "DrainedForAThird"
def kStr (g : kG) (A : Nat → Prop) (U : State) (H : Heap) : Prop := vk_S 12 kSlen kSbyt (fun i => g.2 (10 + i)) (fun i => g.2 (30 + i)) A U H ∧ ∀ i : Nat, i < 12 → vk_R "DrainedForAThird$Reader" (83 + 2 * i) (kStx i) (g.2 (10 + i)) U
/-- an array of rows of int: its component is the class of int[] -/
def kRowsOf (g : kG) (U : State) : Prop := ∃ kA : Class, U.vm.classes[g.2 3]? = some kA ∧ kA.kind = .array (g.2 0) (.array .int)
theorem kRowsOf.moved {g : kG} {u U : State} (hvm : u.vm.Alike U.vm) (h : kRowsOf g u) : kRowsOf g U := by
  obtain ⟨kA, h1, h2⟩ := h
  obtain ⟨k', hk', he⟩ := hvm.2.2 _ _ h1
  exact ⟨k', hk', by rw [he]; exact h2⟩
/-- what lies outside and stays -/
def kX (g : kG) (A : Nat → Prop) (U : State) (H : Heap) : Prop :=
  ((va_Nw kW1 U ∧ va_AO "DrainedForAThird$Text" U ∧ kRowsOf g U) ∧ va_Nw kW2 U) ∧
  (va_Z "DrainedForAThird$Fen" "MOST" "[I" (.ref (g.2 4)) A U H ∧ va_T .int (g.2 4) 9 (fun j => .int (kMost j)) A U H) ∧
  (va_Z "DrainedForAThird$Fen" "UNDER" "[I" (.ref (g.2 5)) A U H ∧ va_T .int (g.2 5) 6 (fun j => .int (kUnder j)) A U H) ∧
  (va_Z "DrainedForAThird$Fen" "MOST_SAID" "[I" (.ref (g.2 6)) A U H ∧ va_T .int (g.2 6) 3 (fun j => .int (kSaid j)) A U H) ∧
  va_Z "java/lang/String" "COMPACT_STRINGS" "Z" (.int 1) A U H ∧ va_Zq "jdk/internal/util/Preconditions" "SIOOBE_FORMATTER" "Ljava/util/function/BiFunction;" A U H ∧ kStr g A U H
theorem kX.step {g : kG} {A : Nat → Prop} {u U : State} {H H1 : Heap} (hW : u.WarmedH U.vm) (hq : ∀ a : Nat, a < H.size → ¬ A a → H1[a]? = H[a]?) (h : kX g A u H) : kX g A U H1 := by
  have hv := hW.alike
  obtain ⟨⟨⟨w1, w3, w4⟩, w2⟩, ⟨a1, a2⟩, ⟨b1, b2⟩, ⟨c1, c2⟩, d, e, f1, f2⟩ := h
  exact ⟨⟨⟨va_Nw.warmM hW w1, va_AO.moved hv w3, kRowsOf.moved hv w4⟩, va_Nw.warmM hW w2⟩, ⟨(va_Z.moved hv a1).kept hq, (va_T.moved hv a2).kept hq⟩, ⟨(va_Z.moved hv b1).kept hq, (va_T.moved hv b2).kept hq⟩,
    ⟨(va_Z.moved hv c1).kept hq, (va_T.moved hv c2).kept hq⟩, (va_Z.moved hv d).kept hq, (va_Zq.moved hv e).kept hq, (vk_S.moved hv f1).kept hq, fun i hi => vk_R.warm hW (f2 i hi)⟩

/-- the world ws at U, what a method is given; its frame A holds ws and all that is new -/
def kWd (g : kG) (A : Nat → Prop) (ws : va_W) (U : State) : Prop := va_P g.1 vwCl ws U.heap ∧ va_K g.1 vwCl (kTy g) U ∧ va_D A ws ∧ (∀ q : Nat, U.heap.size ≤ q → A q) ∧ kX g A U U.heap
def kQ (g : kG) (A : Nat → Prop) (Ps : Option Value → va_W → Prop) : Array Value → State → Outcome → State → Prop := fun _ st oc t => (∃ (r : Option Value) (ws : va_W), oc = .returned r ∧ Ps r ws ∧ va_P g.1 vwCl ws t.heap ∧ va_D A ws) ∧ va_F A st t
/-- a method's contract: from the world ws, with the arguments av, an answer and a world with Ps -/
def kCt (l : Launch) (y : MethodName) (cc : ByteArray) (maxL : Nat) (ret : Option FieldType) (fr lo mc ms : Nat) (g : kG) (A : Nat → Prop) (av : List Value) (ws : va_W) (Ps : Option Value → va_W → Prop) : Prop :=
  Met l y (.code y cc maxL ret :: kWD) { frames := fr, cells := mc, slots := ms, locals := lo } (va_Pc av (kWd g A ws)) (kQ g A Ps) mc ms A
abbrev kZ : Type := (Program × Launch × Env × Room × State × MethodId × Array Value × List Frame × Method × Code) × Nat × kG × (Nat → Prop) × (State → Prop)
abbrev zp (z : kZ) : Program := z.1.1
abbrev zl (z : kZ) : Launch := z.1.2.1
abbrev ze (z : kZ) : Env := z.1.2.2.1
abbrev zR (z : kZ) : Room := z.1.2.2.2.1
abbrev zs (z : kZ) : State := z.1.2.2.2.2.1
abbrev zm (z : kZ) : MethodId := z.1.2.2.2.2.2.1
abbrev za (z : kZ) : Array Value := z.1.2.2.2.2.2.2.1
abbrev zb (z : kZ) : List Frame := z.1.2.2.2.2.2.2.2.1
abbrev zM (z : kZ) : Method := z.1.2.2.2.2.2.2.2.2.1
abbrev zc (z : kZ) : Code := z.1.2.2.2.2.2.2.2.2.2
abbrev zn (z : kZ) : Nat := z.2.1
abbrev zg (z : kZ) : kG := z.2.2.1
abbrev zA (z : kZ) : Nat → Prop := z.2.2.2.1
abbrev zQ (z : kZ) : State → Prop := z.2.2.2.2
/-- the frame of z at pc, with the locals lv and the stack st, over the world ws, with k cells and n slots made -/
def kV (z : kZ) (ws : va_W) (k n pc : Nat) (lv : List (Nat × Value)) (st : List Value) : Prop :=
  ∀ (H : Heap) (locs : List Loc) (ls : Array Slot), va_P (zg z).1 vwCl ws H → va_D (zA z) ws → va_S (zA z) (zs z).heap H locs → lv_has ls (zn z) lv →
    W (zp z) (zl z) (ze z) (zR z) (zs z) (zm z) (za z) (zb z) (zM z) (zc z) H locs k n (zQ z) (F0 (zm z) pc ls st)
/-- what is known of z: its code cc, its class, its room -/
def kF (z : kZ) (cc : ByteArray) (own : String) (nL : Nat) (rm : Room) : Prop :=
  (zp z).tables.exec = Jvm.exec ∧ (zc z).code = cc ∧ (zc z).maxLocals = zn z ∧ (zs z).vm.findClass own = some (zm z).cls ∧ (∀ w ∈ kWD, w.before (za z) (zs z) = true) ∧ va_K (zg z).1 vwCl (kTy (zg z)) (zs z) ∧
  (∀ q : Nat, (zs z).heap.size ≤ q → zA z q) ∧ kX (zg z) (zA z) (zs z) (zs z).heap ∧ (zM z).locks = false ∧ zR z = rm ∧ zn z = nL
/-- what it has to answer -/
def kR (z : kZ) (rt : Option FieldType) (mc ms : Nat) (Ps : Option Value → va_W → Prop) : Prop :=
  (zM z).sig.returnType = rt ∧ zQ z = MQ (zb z) (kQ (zg z) (zA z) Ps) (za z) (zs z) mc ms (zA z)
theorem kF.wd {z : kZ} {cc : ByteArray} {own : String} {nL : Nat} {rm : Room} (F : kF z cc own nL rm) {w : Cond} (h : w ∈ kWD) : w.before (za z) (zs z) = true := F.2.2.2.2.1 w h
theorem kCt.of {l : Launch} {y : MethodName} {cc : ByteArray} {maxL : Nat} {ret : Option FieldType} {fr lo mc ms : Nat} {g : kG} {A : Nat → Prop} {av : List Value} {ws : va_W} {Ps : Option Value → va_W → Prop} {lv0 : List (Nat × Value)}
    (hy : plainName y.cls = true) (hn : (lg_sl av).length ≤ maxL) (h0 : lv_args 0 av = lv0)
    (body : ∀ z : kZ, zl z = l → zg z = g → zA z = A → kF z cc y.cls maxL { frames := fr, cells := mc, slots := ms, locals := lo } → kR z ret mc ms Ps → kV z ws 0 0 0 lv0 []) : kCt l y cc maxL ret fr lo mc ms g A av ws Ps := by
  refine Met.ofW (cc := cc) (maxL := maxL) (ret := ret) hy rfl ?_
  intro p e s m args below meth c s₁ B hml hv
  obtain ⟨rfl, hP, hK, hD, hA, hX⟩ := hv
  have hts := atoms_spec (ws := .code y cc maxL ret :: kWD) B.pre
  have hown : s.vm.findClass y.cls = some m.cls := findClass_of_methodNamed B.named
  have hb := body ((p, l, e, (headSpec (.code y cc maxL ret :: kWD) { frames := fr, cells := mc, slots := ms, locals := lo }).room, s, m, av.toArray, below, meth, c), maxL, g, A, MQ below (kQ g A Ps) av.toArray s mc ms A) rfl rfl rfl
    ⟨B.exec, B.bytes, hml, hown, fun w hw => hts w (List.mem_cons_of_mem _ hw), hK, hA, hX, B.notSynchronized, rfl, rfl⟩ ⟨B.returns, rfl⟩
  have hl := lv_entry av (n := maxL) hn
  rw [h0] at hl
  rw [lg_entry_eq]
  exact hb s.heap [] _ hP hD va_S.rf hl
