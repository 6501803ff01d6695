/-! rules for what is made: in front of all else; the world in another order; rows of rows; references in arrays; a constructor of a nest -/
theorem wq952i : Cond.arrayClass .boolean ∈ kWD := kWD_of 952 (by decide +kernel) (by decide +kernel)
section KORDER
variable {z : kZ} {cc : ByteArray} {own : String} {nL : Nat} {rm : Room} {ws : va_W} {a b pc : Nat} {lv : List (Nat × Value)} {st : List Value}
theorem g_part {X pl : va_W} (cx : va_W) (is : List Nat) (hn : va_nd is = true) (hs : is.map (fun i => X[i]?) = cx.map some) (k : kV z (cx ++ pl) a b pc lv st) : kV z (X ++ pl) a b pc lv st := fun H locs ls hP hD hS hl => k H locs ls (hP.part is hs) (hD.part is hn hs) hS hl
theorem g_swap {x y w : va_W} (k : kV z ((x ++ w) ++ y) a b pc lv st) : kV z ((x ++ y) ++ w) a b pc lv st := fun H locs ls hP hD hS hl => k H locs ls hP.swap hD.swap hS hl
theorem g_front {x : Nat × va_E} (k : kV z (x :: ws) a b pc lv st) : kV z (ws ++ [x]) a b pc lv st := g_swap (x := []) (y := ws) (w := [x]) k
theorem g_newaH (F : kF z cc own nL rm) {n : Int32} {N : Nat} (hn : ¬ n < 0) (hN : n.toNatClampNeg = N) (hb : N ≤ 1000) (hc : Nat.ble (a + 1) rm.cells = true) (hs : Nat.ble (b + N) rm.slots = true) (hd : decode cc pc = .ok (.newarray .int, 2)) (k : ∀ q : Nat, kV z ((q, .inl ((zg z).2 0, N, .inl (fun _ => 0))) :: ws) (a + 1) (b + N) (pc + 2) lv (.ref q :: st)) : kV z ws a b pc lv (.int n :: st) :=
  g_newa F hn hN hb (Nat.le_of_ble_eq_true hc) (Nat.le_of_ble_eq_true hs) hd (fun q => g_front (k q))
theorem g_newzH (F : kF z cc own nL rm) {n : Int32} {N : Nat} (hn : ¬ n < 0) (hN : n.toNatClampNeg = N) (hb : N ≤ 1000) (hc : Nat.ble (a + 1) rm.cells = true) (hs : Nat.ble (b + N) rm.slots = true) (hd : decode cc pc = .ok (.newarray .boolean, 2)) (k : ∀ q : Nat, kV z ((q, .inl ((zg z).2 1, N, .inl (fun _ => 0))) :: ws) (a + 1) (b + N) (pc + 2) lv (.ref q :: st)) : kV z ws a b pc lv (.int n :: st) := fun H locs ls hP hD hS hl => by
  have e10 := F.2.2.2.2.2.2.2.2.2.1
  refine va_newa (atype := .boolean) (ty := .boolean) (a0 := (N, .inl (fun _ => 0))) F.1 F.2.1 (F.wd wq952i) rfl F.2.2.2.2.2.1 hP hD hS F.2.2.2.2.2.2.1 (fun cA => rfl) hn hN (by show N * 1 ≤ _; omega) (by rw [e10]; exact Nat.le_of_ble_eq_true hc) (by rw [e10]; exact Nat.le_of_ble_eq_true hs) hd (fun q cA H1 hK1 hP1 hD1 hS1 => ?_)
  have e1 : va_RA (zs z) cA .boolean := (hK1.2 4 (cA, .boolean) rfl).2
  have e2 : va_RA (zs z) ((zg z).2 1) .boolean := (F.2.2.2.2.2.1.2 1 _ rfl).2
  have e3 : cA = (zg z).2 1 := Option.some.inj (e1.symm.trans e2)
  subst e3
  exact g_front (k q) H1 locs ls hP1 hD1 hS1 hl
theorem g_newH (F : kF z cc own nL rm) {idx ci N : Nat} {C : String} {T : u_T} {fs : List Value} (q1 : Cond.classLink own idx C ∈ kWD) (q2 : Cond.instantiable C N ∈ kWD) (q3 : Cond.initialized C ∈ kWD) (hin : ∀ w ∈ u_ws C T N, w ∈ kWD) (ty : Nat → FieldType) (hty : ∀ k, k < N → parseFieldDescriptor (T k).2.2.1 = some (ty k)) (hci : vwCl[ci]? = some (C, T, N)) (hfs : ∀ j, j < N → defaultValue (ty j) = vp_V fs j) (hc : Nat.ble (a + 1) rm.cells = true) (hs : Nat.ble (b + N) rm.slots = true) (hd : decode cc pc = .ok (.new idx, 3)) (k : ∀ q : Nat, kV z ((q, .inr (ci, fs)) :: ws) (a + 1) (b + N) (pc + 3) lv (.ref q :: st)) : kV z ws a b pc lv st :=
  g_new F q1 q2 q3 hin ty hty hci hfs (Nat.le_of_ble_eq_true hc) (Nat.le_of_ble_eq_true hs) hd (fun q => g_front (k q))
theorem g_newqH (F : kF z cc own nL rm) {idx : Nat} {n : Int32} {N : Nat} (q1 : Cond.classLink own idx "DrainedForAThird$Text" ∈ kWD) (hn : ¬ n < 0) (hN : n.toNatClampNeg = N) (hb : N ≤ 1000) (hc : Nat.ble (a + 1) rm.cells = true) (hs : Nat.ble (b + N) rm.slots = true) (hd : decode cc pc = .ok (.anewarray idx, 3)) (k : ∀ q : Nat, kV z ((q, .inl ((zg z).2 2, N, .inr (.inr (.inr (.inr (fun _ => none)))))) :: ws) (a + 1) (b + N) (pc + 3) lv (.ref q :: st)) : kV z ws a b pc lv (.int n :: st) := fun H locs ls hP hD hS hl => by
  have e10 := F.2.2.2.2.2.2.2.2.2.1
  refine va_newq F.1 F.2.1 F.2.2.2.1 (F.wd q1) F.2.2.2.2.2.2.2.1.1.1.2.1 F.2.2.2.2.2.1 hP hD hS F.2.2.2.2.2.2.1 hn hN (by omega) (by rw [e10]; exact Nat.le_of_ble_eq_true hc) (by rw [e10]; exact Nat.le_of_ble_eq_true hs) hd (fun q cA H1 hK1 hP1 hD1 hS1 => ?_)
  obtain ⟨k1, c1, -, -, -, e1⟩ : va_RA (zs z) cA (.object "DrainedForAThird$Text") := (hK1.2 4 (cA, .object "DrainedForAThird$Text") rfl).2
  obtain ⟨k2, c2, -, -, -, e2⟩ : va_RA (zs z) ((zg z).2 2) (.object "DrainedForAThird$Text") := (F.2.2.2.2.2.1.2 2 _ rfl).2
  have e3 : cA = (zg z).2 2 := Option.some.inj (e1.symm.trans e2)
  subst e3
  exact g_front (k q) H1 locs ls hP1 hD1 hS1 hl
theorem g_iastH (F : kF z cc own nL rm) {adr n : Nat} {f : Nat → Int32} {i x : Int32} (hi : vp_in i n) (hd : decode cc pc = .ok (.iastore, 1)) (kk : kV z ((adr, .inl ((zg z).2 0, n, .inl (upd f i.toNatClampNeg x))) :: ws) a b (pc + 1) lv st) : kV z ((adr, .inl ((zg z).2 0, n, .inl f)) :: ws) a b pc lv (.int x :: .int i :: .ref adr :: st) :=
  g_iast (wf := fun σ => (adr, .inl ((zg z).2 0, n, .inl (σ.1 0))) :: ws) (σ := (fun _ => f, 0)) (p := 0) F (fun σ => ⟨rfl, fun f => rfl⟩) hi hd kk
/-- a text goes into an array of texts -/
theorem g_astT (F : kF z cc own nL rm) {adr n v : Nat} {vs : List Value} {f : Nat → Option Nat} {i : Int32} {ws' : va_W} (q0 qk : Nat) (ha : ws[q0]? = some (adr, .inl ((zg z).2 2, n, .inr (.inr (.inr (.inr f)))))) (hv : ws[qk]? = some (v, .inr (3, vs))) (hi : vp_in i n) (hw : ws.set q0 (adr, .inl ((zg z).2 2, n, .inr (.inr (.inr (.inr (va_up f i.toNatClampNeg (some v))))))) = ws') (hd : decode cc pc = .ok (.aastore, 1)) (k : kV z ws' a b (pc + 1) lv st) : kV z ws a b pc lv (.ref v :: .int i :: .ref adr :: st) := fun H locs ls hP hD hS hl => by
  refine va_astq (r := (RX3, TX3, 3)) F.1 F.2.1 F.2.2.2.2.2.1 hP hD hS q0 2 qk 3 ha rfl hv rfl hi hd (fun H1 locs1 hP1 hD1 hS1 => ?_)
  rw [hw] at hP1 hD1
  exact k H1 locs1 ls hP1 hD1 hS1 hl
theorem g_callIN (F : kF z cc own nL rm) {y : MethodName} {cy : ByteArray} {maxL : Nat} {fr lo mc ms idx o : Nat} {av : List Value} {host : String} {Ps : Option Value → va_W → Prop} (hM : kCt (zl z) y cy maxL none fr lo mc ms (zg z) (zA z) (.ref o :: av) ws Ps)
    (hy : y.name = "<init>") (q1 : va_Nw (.methodLinkNest own idx y host) (zs z)) (q2 : Cond.instanceMethod y ∈ kWD) (q3 : Cond.initialized y.cls ∈ kWD) (q4 : Cond.code y cy maxL none ∈ kWD) (hp : kPlain y av.length = true) (hd : decode cc pc = .ok (.invokespecial idx, 3)) (hf : kFits rm fr lo mc ms maxL a b st = true) :
    kCall z ws a b pc mc ms lv (av.reverse ++ .ref o :: st) st Ps := by
  obtain ⟨f1, f2, f3, f4, f5⟩ := (kFits_get hf)
  refine kBack (av := .ref o :: av) F fun H locs ls hP hD hS hl => ?_
  have hx := F
  obtain ⟨e1, e2, e3, e4, e5, e6, e7, e8, e9, e10, e11⟩ := hx
  exact va_runIN (own := own) (Ts := kWD) (nL := zn z) (b := o) (As := av) ⟨e1, e2, e3, e4, e5⟩ hM ⟨va_cnB av.length e5 (kGood (fun w h => h) q4) rfl rfl rfl q1 (e5 _ q3) (kPlain_get hp) (by rw [e10]; exact ⟨f1, f2⟩), hy, e5 _ q2⟩ ⟨kWd.blind, fun U hU hW => ⟨rfl, kWd.at F hP hD hS U hU hW⟩⟩ rfl rfl hl.1 rfl (lv_room f5) hd (by rw [e10]; exact ⟨f3, f4⟩)
end KORDER
theorem va_D.fresh {A : Nat → Prop} {w : va_W} {h : Nat} (hA : ∀ q : Nat, h ≤ q → A q) (hw : ∀ (k : Nat) (q : Nat × va_E), w[k]? = some q → q.1 = h + k) : va_D A w :=
  ⟨fun i j p q hp hq e => by have := hw i p hp; have := hw j q hq; omega, fun k q hq => by rw [hw k q hq]; exact hA _ (Nat.le_add_right _ _)⟩
theorem kOuter.arr (cA : ClassId) (h : Nat) : kOuter cA h 4 = vp_cell cA (4, .inr (.inr (.inr (.inr (fun i => if i < 4 then some (h + 1 + i) else none))))) := by
  rw [vp_cell_q]
  show ({ cls := cA, slots := #[.ref (h + 1 + 0), .ref (h + 1 + 1), .ref (h + 1 + 2), .ref (h + 1 + 3)], vm := .none } : Cell) = _
  rfl
theorem kRow40.arr (cI : ClassId) : kRow40 cI = vp_cell cI (40, .inl (fun _ => 0)) := by
  rw [vp_cell_i, ← arrV_new]
  rfl
/-- four rows of forty, at q and behind -/
def kRows4 (g : kG) (q : Nat) : va_W := [(q, .inl (g.2 3, 4, .inr (.inr (.inr (.inr (fun i => if i < 4 then some (q + 1 + i) else none)))))), (q + 1 + 0, .inl (g.2 0, 40, .inl (fun _ => 0))), (q + 1 + 1, .inl (g.2 0, 40, .inl (fun _ => 0))), (q + 1 + 2, .inl (g.2 0, 40, .inl (fun _ => 0))), (q + 1 + 3, .inl (g.2 0, 40, .inl (fun _ => 0)))]
theorem g_many {z : kZ} {cc : ByteArray} {own : String} {nL : Nat} {rm : Room} {ws : va_W} {a b pc : Nat} {lv : List (Nat × Value)} {st : List Value} (F : kF z cc own nL rm) {idx : Nat} (q1 : Cond.classLink own idx "[[I" ∈ kWD) (hc : Nat.ble (a + 5) rm.cells = true) (hs : Nat.ble (b + 164) rm.slots = true) (hd : decode cc pc = .ok (.multianewarray idx 2, 4)) (k : ∀ q : Nat, kV z (kRows4 (zg z) q ++ ws) (a + 5) (b + 164) (pc + 4) lv (.ref q :: st)) : kV z ws a b pc lv (.int 40 :: .int 4 :: st) := fun H locs ls hP hD hS hl => by
  have e10 := F.2.2.2.2.2.2.2.2.2.1
  have hK := F.2.2.2.2.2.1
  obtain ⟨kA, hA, hAk⟩ := F.2.2.2.2.2.2.2.1.1.1.2.2
  obtain ⟨-, kI, hI, cx, hIk⟩ := (hK.2 0 _ rfl).1 0 (fun _ => .null)
  have hnm : (zs z).vm.findClass "[[I" = some ((zg z).2 3) := (hK.2 3 _ rfl).2
  refine kManyW F.1 F.2.1 F.2.2.2.1 (F.wd q1) hA hAk hI hIk hnm rfl hd rfl (by rw [e10]; exact Nat.le_of_ble_eq_true hc) (by rw [e10]; exact Nat.le_of_ble_eq_true hs) (fun H1 L z1 o1 r0 r1 hL => ?_)
  have hk : ∀ (j : Nat) (x : Nat × va_E), ws[j]? = some x → H1[x.1]? = H[x.1]? := fun j x hx => o1 x.1 ((hP j x hx).lt)
  have hn : ∀ (j : Nat) (q : Nat × va_E), (kRows4 (zg z) H.size)[j]? = some q → q.1 = H.size + j ∧ va_at (zg z).1 vwCl q H1 := by
    intro j q hj
    have hj5 : j < 5 := (List.getElem?_eq_some_iff.mp hj).1
    obtain rfl | rfl | rfl | rfl | rfl : j = 0 ∨ j = 1 ∨ j = 2 ∨ j = 3 ∨ j = 4 := by omega
    · cases hj
      exact ⟨rfl, by show H1[H.size]? = some (vp_cell _ _); rw [r0, kOuter.arr]⟩
    · cases hj
      exact ⟨rfl, by show H1[H.size + 1 + 0]? = some (vp_cell _ _); rw [r1 0 (by omega), kRow40.arr]⟩
    · cases hj
      exact ⟨rfl, by show H1[H.size + 1 + 1]? = some (vp_cell _ _); rw [r1 1 (by omega), kRow40.arr]⟩
    · cases hj
      exact ⟨rfl, by show H1[H.size + 1 + 2]? = some (vp_cell _ _); rw [r1 2 (by omega), kRow40.arr]⟩
    · cases hj
      exact ⟨rfl, by show H1[H.size + 1 + 3]? = some (vp_cell _ _); rw [r1 3 (by omega), kRow40.arr]⟩
  have hD2 : va_D (zA z) (ws ++ kRows4 (zg z) H.size) := hD.app (va_D.fresh (h := H.size) (fun q hq => F.2.2.2.2.2.2.1 q (Nat.le_trans hS.1 hq)) (fun j q hq => (hn j q hq).1)) (fun i j p q hp hq => by
    have h1 := (hP i p hp).lt
    have h2 := (hn j q hq).1
    omega)
  have hP2 : va_P (zg z).1 vwCl (ws ++ kRows4 (zg z) H.size) H1 := (hP.kept hk).app (fun j q hq => (hn j q hq).2)
  exact g_swap (x := []) (y := ws) (w := kRows4 (zg z) H.size) (k H.size) H1 (locs ++ L) ls hP2 hD2
    ⟨Nat.le_trans hS.1 (by omega), fun x h1 h2 => (o1 x (Nat.lt_of_lt_of_le h1 hS.1)).trans (hS.2.1 x h1 h2), fun q hq => by
      rcases List.mem_append.mp hq with h | h
      · exact hS.2.2 q h
      · rw [hL q h]
        exact F.2.2.2.2.2.2.1 _ hS.1⟩ hl
