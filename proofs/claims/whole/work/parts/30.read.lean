theorem wq517 : Cond.code ⟨"DrainedForAThird$Reader", "fault", "()I"⟩ prog_3_method_4_code 1 (some .int) ∈ kWD := kWD_of 517 (by decide +kernel) (by decide +kernel)
theorem wq514 : Cond.methodLink "DrainedForAThird" 101 ⟨"DrainedForAThird$Reader", "fault", "()I"⟩ ∈ kWD := kWD_of 514 (by decide +kernel) (by decide +kernel)
theorem wq515 : Cond.instanceMethod ⟨"DrainedForAThird$Reader", "fault", "()I"⟩ ∈ kWD := kWD_of 515 (by decide +kernel) (by decide +kernel)
theorem wq516 : Cond.selects "DrainedForAThird$Reader" ⟨"DrainedForAThird$Reader", "fault", "()I"⟩ ⟨"DrainedForAThird$Reader", "fault", "()I"⟩ ∈ kWD := kWD_of 516 (by decide +kernel) (by decide +kernel)
theorem wq181 : Cond.arrayClass .int ∈ kWD := kWD_of 181 (by decide +kernel) (by decide +kernel)
theorem wq188 : Cond.methodLink "DrainedForAThird$Text" 3 Lib.objectInit ∈ kWD := kWD_of 188 (by decide +kernel) (by decide +kernel)
theorem wq128 : Cond.instanceMethod Lib.objectInit ∈ kWD := kWD_of 128 (by decide +kernel) (by decide +kernel)
theorem wq129 : Cond.code Lib.objectInit object_method_1_code 1 none ∈ kWD := kWD_of 129 (by decide +kernel) (by decide +kernel)
theorem wq509 : Cond.methodLink "DrainedForAThird$Reader" 115 arraycopyName ∈ kWD := kWD_of 509 (by decide +kernel) (by decide +kernel)
theorem wq469 : Cond.methodLink "DrainedForAThird$Reader" 31 ⟨"DrainedForAThird$Reader", "readPart", "(I)[I"⟩ ∈ kWD := kWD_of 469 (by decide +kernel) (by decide +kernel)
theorem wq471 : Cond.instanceMethod ⟨"DrainedForAThird$Reader", "readPart", "(I)[I"⟩ ∈ kWD := kWD_of 471 (by decide +kernel) (by decide +kernel)
theorem wq7 : Cond.selects "DrainedForAThird$Reader" ⟨"DrainedForAThird$Reader", "readPart", "(I)[I"⟩ ⟨"DrainedForAThird$Reader", "readPart", "(I)[I"⟩ ∈ kWD := kWD_of 7 (by decide +kernel) (by decide +kernel)
theorem wq472 : Cond.code ⟨"DrainedForAThird$Reader", "readPart", "(I)[I"⟩ prog_3_method_16_code 3 (some (.array .int)) ∈ kWD := kWD_of 472 (by decide +kernel) (by decide +kernel)
theorem wq512 : Cond.classLink "DrainedForAThird$Reader" 39 "DrainedForAThird$Text" ∈ kWD := kWD_of 512 (by decide +kernel) (by decide +kernel)
theorem wq184 : Cond.instantiable "DrainedForAThird$Text" 3 ∈ kWD := kWD_of 184 (by decide +kernel) (by decide +kernel)
theorem wq513 : Cond.methodLink "DrainedForAThird$Reader" 41 ⟨"DrainedForAThird$Text", "<init>", "([I[I[I)V"⟩ ∈ kWD := kWD_of 513 (by decide +kernel) (by decide +kernel)
theorem wq186 : Cond.instanceMethod ⟨"DrainedForAThird$Text", "<init>", "([I[I[I)V"⟩ ∈ kWD := kWD_of 186 (by decide +kernel) (by decide +kernel)
theorem wq187 : Cond.code ⟨"DrainedForAThird$Text", "<init>", "([I[I[I)V"⟩ prog_5_method_1_code 4 none ∈ kWD := kWD_of 187 (by decide +kernel) (by decide +kernel)
theorem wq381 : Cond.methodLink "DrainedForAThird" 97 ⟨"DrainedForAThird$Reader", "read", "()LDrainedForAThird$Text;"⟩ ∈ kWD := kWD_of 381 (by decide +kernel) (by decide +kernel)
theorem wq382 : Cond.instanceMethod ⟨"DrainedForAThird$Reader", "read", "()LDrainedForAThird$Text;"⟩ ∈ kWD := kWD_of 382 (by decide +kernel) (by decide +kernel)
theorem wq383 : Cond.selects "DrainedForAThird$Reader" ⟨"DrainedForAThird$Reader", "read", "()LDrainedForAThird$Text;"⟩ ⟨"DrainedForAThird$Reader", "read", "()LDrainedForAThird$Text;"⟩ ∈ kWD := kWD_of 383 (by decide +kernel) (by decide +kernel)
theorem wq384 : Cond.code ⟨"DrainedForAThird$Reader", "read", "()LDrainedForAThird$Text;"⟩ prog_3_method_5_code 4 (some (.object "DrainedForAThird$Text")) ∈ kWD := kWD_of 384 (by decide +kernel) (by decide +kernel)
theorem plX1_fault : kPlain yX1_fault 0 = true := by decide +kernel
theorem rX4_X1_fault {z : kZ} {cc : ByteArray} {nL : Nat} {rm : Room} {c n pc : Nat} {lv : List (Nat × Value)} {st : List Value} {a : Nat → Nat} {tx : List kTxt} {E : va_W} {σ : kS} {Q : Int32 → kS → Prop} (F : kF z cc RX4 nL rm) (hd : decode cc pc = .ok (.invokevirtual 101, 3)) (hf : kFits rm 0 40 0 0 1 c n st = true) (h : wX1_fault σ Q) (k : ∀ (v : Int32) (σ' : kS), Q v σ' → kV z (xW (zg z) a tx E σ') c n (pc + 3) lv (.int v :: st)) : kV z (xW (zg z) a tx E σ) c n pc lv (.ref (a 30) :: st) := by
  exact g_callV F (av := []) (ctX1_fault _ _ _ a tx E h) (ci := 1) (q0 := 30) rfl rfl rfl wq514 wq515 wq516 wq112 wq517 plX1_fault hd hf (fun r ws' hq => by
    obtain ⟨v, σ', rfl, rfl, hq⟩ := hq
    exact k v σ' hq)
/-! texts are made: the contracts -/
theorem kCt.ofN {l : Launch} {y : MethodName} {cc : ByteArray} {maxL : Nat} {ret : Option FieldType} {fr lo mc ms : Nat} {g : kG} {A : Nat → Prop} {av : List Value} {ws : va_W} {Ps : Option Value → va_W → Prop} {lv0 : List (Nat × Value)}
    (hy : plainName y.cls = true) (hn : (lg_sl av).length ≤ maxL) (h0 : lv_args 0 av = lv0)
    (body : ∀ z : kZ, zl z = l → zg z = g → zA z = A → (zM z).name = y.name → kF z cc y.cls maxL { frames := fr, cells := mc, slots := ms, locals := lo } → kR z ret mc ms Ps → kV z ws 0 0 0 lv0 []) : kCt l y cc maxL ret fr lo mc ms g A av ws Ps := by
  refine Met.ofW (cc := cc) (maxL := maxL) (ret := ret) hy rfl ?_
  intro p e s m args below meth c s₁ B hml hv
  obtain ⟨rfl, hP, hK, hD, hA, hX⟩ := hv
  have hts := atoms_spec (ws := .code y cc maxL ret :: kWD) B.pre
  have hown : s.vm.findClass y.cls = some m.cls := findClass_of_methodNamed B.named
  have hb := body ((p, l, e, (headSpec (.code y cc maxL ret :: kWD) { frames := fr, cells := mc, slots := ms, locals := lo }).room, s, m, av.toArray, below, meth, c), maxL, g, A, MQ below (kQ g A Ps) av.toArray s mc ms A) rfl rfl rfl (name_of_methodNamed B.named B.method).1
    ⟨B.exec, B.bytes, hml, hown, fun w hw => hts w (List.mem_cons_of_mem _ hw), hK, hA, hX, B.notSynchronized, rfl, rfl⟩ ⟨B.returns, rfl⟩
  have hl := lv_entry av (n := maxL) hn
  rw [h0] at hl
  rw [lg_entry_eq]
  exact hb s.heap [] _ hP hD va_S.rf hl
section KNULL
variable {z : kZ} {cc : ByteArray} {own : String} {nL : Nat} {rm : Room} {ws : va_W} {a b pc : Nat} {lv : List (Nat × Value)} {st : List Value}
theorem g_aloadN (F : kF z cc own nL rm) {q : Fin 4} (hd : decode cc pc = .ok (.aload_n q, 1)) (j : Nat) (h : lv[j]? = some ((q : Nat), .null)) (k : kV z ws a b (pc + 1) lv (.null :: st)) : kV z ws a b pc lv st := fun H locs ls hP hD hS hl => lv_aload_nN F.1 F.2.1 hd rfl (lv_at hl j h) (k H locs ls hP hD hS hl)
theorem g_astoreN (F : kF z cc own nL rm) {q : Fin 4} {lv' : List (Nat × Value)} (hd : decode cc pc = .ok (.astore_n q, 1)) (hi : Nat.ble ((q : Nat) + 1) nL = true) (hv : ((q : Nat), Value.null) :: lv.filter (fun p => !(p.1 == (q : Nat)) && !(p.1 + 1 == (q : Nat) && p.2.category == 2)) = lv') (k : kV z ws a b (pc + 1) lv' st) : kV z ws a b pc lv (.null :: st) := fun H locs ls hP hD hS hl => lv_astore_nN F.1 F.2.1 hd rfl hl (F.lt hi) hv (fun ls' hl' => k H locs ls' hP hD hS hl')
end KNULL
section KMAKE
variable {z : kZ} {cc : ByteArray} {own : String} {nL : Nat} {rm : Room} {ws : va_W} {a b pc : Nat} {lv : List (Nat × Value)} {st : List Value}
theorem g_newa (F : kF z cc own nL rm) {n : Int32} {N : Nat} (hn : ¬ n < 0) (hN : n.toNatClampNeg = N) (hb : N ≤ 1000) (hc : a + 1 ≤ rm.cells) (hs : b + N ≤ rm.slots) (hd : decode cc pc = .ok (.newarray .int, 2)) (k : ∀ q : Nat, kV z (ws ++ [(q, .inl ((zg z).2 0, N, .inl (fun _ => 0)))]) (a + 1) (b + N) (pc + 2) lv (.ref q :: st)) : kV z ws a b pc lv (.int n :: st) := fun H locs ls hP hD hS hl => by
  have e10 := F.2.2.2.2.2.2.2.2.2.1
  refine va_newa (atype := .int) (ty := .int) (a0 := (N, .inl (fun _ => 0))) F.1 F.2.1 (F.wd wq181) rfl F.2.2.2.2.2.1 hP hD hS F.2.2.2.2.2.2.1 (fun cA => rfl) hn hN (by show N * 4 ≤ _; omega) (by rw [e10]; exact hc) (by rw [e10]; exact hs) hd (fun q cA H1 hK1 hP1 hD1 hS1 => ?_)
  have e1 : va_RA (zs z) cA .int := (hK1.2 4 (cA, .int) rfl).2
  have e2 : va_RA (zs z) ((zg z).2 0) .int := (F.2.2.2.2.2.1.2 0 _ rfl).2
  have e3 : cA = (zg z).2 0 := Option.some.inj (e1.symm.trans e2)
  subst e3
  exact k q H1 locs ls hP1 hD1 hS1 hl
theorem g_new (F : kF z cc own nL rm) {idx ci N : Nat} {C : String} {T : u_T} {fs : List Value} (q1 : Cond.classLink own idx C ∈ kWD) (q2 : Cond.instantiable C N ∈ kWD) (q3 : Cond.initialized C ∈ kWD) (hin : ∀ w ∈ u_ws C T N, w ∈ kWD) (ty : Nat → FieldType) (hty : ∀ k, k < N → parseFieldDescriptor (T k).2.2.1 = some (ty k)) (hci : vwCl[ci]? = some (C, T, N)) (hfs : ∀ j, j < N → defaultValue (ty j) = vp_V fs j) (hc : a + 1 ≤ rm.cells) (hs : b + N ≤ rm.slots) (hd : decode cc pc = .ok (.new idx, 3)) (k : ∀ q : Nat, kV z (ws ++ [(q, .inr (ci, fs))]) (a + 1) (b + N) (pc + 3) lv (.ref q :: st)) : kV z ws a b pc lv st := fun H locs ls hP hD hS hl => by
  have e10 := F.2.2.2.2.2.2.2.2.2.1
  exact va_new (Ts := kWD) F.1 F.2.1 (fun w hw => F.wd hw) hin ty hty F.2.2.2.1 (F.wd q1) (F.wd q2) (F.wd q3) F.2.2.2.2.2.1 hP hD hS F.2.2.2.2.2.2.1 hci hfs (by rw [e10]; exact hc) (by rw [e10]; exact hs) hd (fun q H1 hP1 hD1 hS1 => k q H1 locs ls hP1 hD1 hS1 hl)
end KMAKE
theorem kLast {ws : va_W} {x : Nat × va_E} : (ws ++ [x])[ws.length]? = some x := by simp
theorem kLastS {ws : va_W} {x y : Nat × va_E} : (ws ++ [x]).set ws.length y = ws ++ [y] := by simp
theorem kLastX {g : kG} {a : Nat → Nat} {tx : List kTxt} {E : va_W} {σ : kS} {x : Nat × va_E} : (xW g a tx (E ++ [x]) σ)[E.length + 41]? = some x := xE_at.trans (by simp)
theorem kLastSX {g : kG} {a : Nat → Nat} {tx : List kTxt} {E : va_W} {σ : kS} {x y : Nat × va_E} : (xW g a tx (E ++ [x]) σ).set (E.length + 41) y = xW g a tx (E ++ [y]) σ := by
  have h : ∀ E' : va_W, (xW g a tx E' σ).set (E.length + 41) y = xW g a tx (E'.set E.length y) σ := fun _ => rfl
  rw [h]
  simp
theorem xIs.app {g : kG} {E X : va_W} {e : kRow} (h : xIs g E e) : xIs g (E ++ X) e := by
  obtain ⟨p, hp⟩ := h
  exact ⟨p, by rw [List.getElem?_append_left (List.getElem?_eq_some_iff.mp hp).1]; exact hp⟩
theorem xIn.app {g : kG} {E X : va_W} {T : kTxt} (h : xIn g E T) : xIn g (E ++ X) T := by
  obtain ⟨⟨p, hp⟩, h2⟩ := h
  exact ⟨⟨p, by rw [List.getElem?_append_left (List.getElem?_eq_some_iff.mp hp).1]; exact hp⟩, h2.1.app, h2.2.1.app, h2.2.2.app⟩
theorem xIn.pre {g : kG} {E X : va_W} {T : kTxt} (h : xIn g X T) : xIn g (E ++ X) T := by
  have hp : ∀ (p : Nat) (x : Nat × va_E), X[p]? = some x → (E ++ X)[E.length + p]? = some x := fun p x hx => by
    rw [List.getElem?_append_right (by omega), show E.length + p - E.length = p by omega]
    exact hx
  obtain ⟨⟨p0, h0⟩, ⟨p1, h1⟩, ⟨p2, h2⟩, ⟨p3, h3⟩⟩ := h
  exact ⟨⟨_, hp _ _ h0⟩, ⟨_, hp _ _ h1⟩, ⟨_, hp _ _ h2⟩, ⟨_, hp _ _ h3⟩⟩
theorem ctX3_init (l : Launch) (g : kG) (A : Nat → Prop) (ws : va_W) {t r0 r1 r2 : Nat} : kCt l yX3_init cX3_init 4 none 1 80 0 0 g A [.ref t, .ref r0, .ref r1, .ref r2] (ws ++ [(t, .inr (3, [.null, .null, .null]))]) (kTv (ws ++ [(t, .inr (3, [.ref r0, .ref r1, .ref r2]))])) := by
  refine kCt.ofN (lv0 := [(0, .ref t), (1, .ref r0), (2, .ref r1), (3, .ref r2)]) (by decide +kernel) (Nat.le_of_ble_eq_true rfl) rfl (fun z hl hg hA hi F R => ?_)
  subst hl hg hA
  have F : kF z cX3_init RX3 4 { frames := 1, cells := 0, slots := 0, locals := 80 } := F
  have hi : (zM z).name = "<init>" := hi
  refine g_aload_n F dX3_init_0 0 rfl ?_
  refine g_init0 F wq188 wq128 wq129 dX3_init_1 rfl ?_
  refine g_aload_n F dX3_init_4 0 rfl ?_
  refine g_aload_n F dX3_init_5 1 rfl ?_
  refine g_putF (ty := .array .int) F lysX3 (ci := 3) rfl tyX3 tyX3_ok nmX3 hi 0 rfl wq189 rfl rfl rfl (by decide +kernel) rfl rfl (q0 := ws.length) kLast rfl kLastS dX3_init_6 ?_
  refine g_aload_n F dX3_init_9 0 rfl ?_
  refine g_aload_n F dX3_init_10 2 rfl ?_
  refine g_putF (ty := .array .int) F lysX3 (ci := 3) rfl tyX3 tyX3_ok nmX3 hi 1 rfl wq190 rfl rfl rfl (by decide +kernel) rfl rfl (q0 := ws.length) kLast rfl kLastS dX3_init_11 ?_
  refine g_aload_n F dX3_init_14 0 rfl ?_
  refine g_aload_n F dX3_init_15 3 rfl ?_
  refine g_putF (ty := .array .int) F lysX3 (ci := 3) rfl tyX3 tyX3_ok nmX3 hi 2 rfl wq191 rfl rfl rfl (by decide +kernel) rfl rfl (q0 := ws.length) kLast rfl kLastS dX3_init_16 ?_
  exact g_vret F R rfl rfl dX3_init_19 ⟨rfl, rfl⟩
/-- an array just made, behind all else -/
def kPn (g : kG) (a : Nat → Nat) (tx : List kTxt) (E : va_W) (Q : Nat → (Nat → Int32) → kS → Prop) : Option Value → va_W → Prop := fun r ws => ∃ (q N : Nat) (f : Nat → Int32) (σ : kS), r = some (.ref q) ∧ ws = xW g a tx (E ++ [(q, .inl (g.2 0, N, .inl f))]) σ ∧ Q N f σ
theorem ctX1_readPart (l : Launch) (g : kG) (A : Nat → Prop) (a : Nat → Nat) (tx : List kTxt) (E : va_W) {l1 : Int32} {σ : kS} {Q : Nat → (Nat → Int32) → kS → Prop} (h : wX1_readPart l1 σ Q) : kCt l yX1_readPart cX1_readPart 3 (some (.array .int)) 48 4400 1 160 g A [.ref (a 30), .int l1] (xW g a tx E σ) (kPn g a tx E Q) := by
  refine kCt.of (lv0 := [(0, .ref (a 30)), (1, .int l1)]) (by decide +kernel) (Nat.le_of_ble_eq_true rfl) rfl (fun z hl hg hA F R => ?_)
  subst hl hg hA
  have F : kF z cX1_readPart RX1 3 { frames := 48, cells := 1, slots := 160, locals := 4400 } := F
  have hrec : hRec z 47 4300 a tx E (wRd 40) := ctRd (zl z) (zg z) (zA z) a tx E 40
  unfold wX1_readPart at h
  refine g_aload_n F dX1_readPart_0 0 rfl ?_
  refine g_iconst (v := (0 : Int32)) F dX1_readPart_1 (by decide) ?_
  refine rpX1_X1_length F dX1_readPart_2 ?_
  refine g_name (wf := xW (zg z) a tx E) (fun s1 es1 => ?_)
  replace h := h s1 es1
  refine g_aload_n F dX1_readPart_5 0 rfl ?_
  refine g_sipush (v := (256 : Int32)) F dX1_readPart_6 (by decide) ?_
  refine g_iload_n F dX1_readPart_9 1 rfl ?_
  refine g_iadd F dX1_readPart_10 ?_
  refine rX1_X1_expect F dX1_readPart_11 rfl h (fun s2 h => ?_)
  refine g_aload_n F dX1_readPart_14 0 rfl ?_
  refine g_iconst (v := (0 : Int32)) F dX1_readPart_15 (by decide) ?_
  refine rrec0 F hrec dX1_readPart_16 rfl h (fun s3 h => ?_)
  refine g_aload_n F dX1_readPart_19 0 rfl ?_
  refine g_bipush (v := (59 : Int32)) F dX1_readPart_20 (by decide) ?_
  refine rX1_X1_expect F dX1_readPart_22 rfl h (fun s4 h => ?_)
  obtain ⟨h1, h2, h⟩ := h
  generalize hNe : (s4.1 30 8).toNatClampNeg = N at h2 h
  refine g_aload_n F dX1_readPart_25 0 rfl ?_
  refine rgX1_X1_length F dX1_readPart_26 ?_
  refine g_newa F h1 hNe (by omega) (Nat.le_refl 1) (by show 0 + N ≤ 160; omega) dX1_readPart_29 (fun q => ?_)
  refine g_astore_n (lv' := [(2, .ref q), (0, .ref (a 30)), (1, .int l1)]) F dX1_readPart_31 rfl rfl ?_
  show kV z (xW (zg z) a tx (E ++ [(q, .inl ((zg z).2 0, N, .inl (fun _ => 0)))]) s4) _ _ _ _ _
  refine g_aload_n F dX1_readPart_32 1 rfl ?_
  refine rgX1_X1_code F dX1_readPart_33 ?_
  refine g_iconst (v := (0 : Int32)) F dX1_readPart_36 (by decide) ?_
  refine g_aload_n F dX1_readPart_37 0 rfl ?_
  refine g_iconst (v := (0 : Int32)) F dX1_readPart_38 (by decide) ?_
  refine g_aload_n F dX1_readPart_39 1 rfl ?_
  refine rgX1_X1_length F dX1_readPart_40 ?_
  refine g_copy F wq509 wq511 wq510 wq120 (p0 := 32) (p1 := E.length + 41) (xA32 s4).1 kLastX ⟨by decide, by decide, h1, by rw [hNe]; show 0 + N ≤ 160; omega, by rw [hNe]; show 0 + N ≤ N; omega⟩ kLastSX dX1_readPart_43 (kFits_of (by show 1 ≤ 48; omega) (by show 8 + (40 + 11) + 0 ≤ 4400; omega) (by show 0 + 1 + 0 ≤ 1; omega) (by show 0 + N + 0 ≤ 160; omega) rfl) ?_
  rw [hNe]
  refine g_aload_n F dX1_readPart_46 0 rfl ?_
  exact g_aret F R (Or.inr ⟨_, rfl⟩) (Or.inr ⟨_, rfl⟩) (Nat.le_refl 1) (by show 0 + N ≤ 160; omega) dX1_readPart_47 ⟨q, N, _, s4, rfl, rfl, h⟩
theorem rX1_X1_readPart {z : kZ} {cc : ByteArray} {nL : Nat} {rm : Room} {c n pc : Nat} {lv : List (Nat × Value)} {st : List Value} {a : Nat → Nat} {tx : List kTxt} {E : va_W} {σ : kS} {l1 : Int32} {Q : Nat → (Nat → Int32) → kS → Prop} (F : kF z cc RX1 nL rm) (hd : decode cc pc = .ok (.invokevirtual 31, 3)) (hf : kFits rm 48 4400 1 160 3 c n st = true) (h : wX1_readPart l1 σ Q) (k : ∀ (q N : Nat) (f : Nat → Int32) (σ' : kS), Q N f σ' → kV z (xW (zg z) a tx (E ++ [(q, .inl ((zg z).2 0, N, .inl f))]) σ') (c + 1) (n + 160) (pc + 3) lv (.ref q :: st)) : kV z (xW (zg z) a tx E σ) c n pc lv (.int l1 :: .ref (a 30) :: st) :=
  g_callV F (av := [.int l1]) (ctX1_readPart _ _ _ a tx E h) (ci := 1) (q0 := 30) rfl rfl rfl wq469 wq471 wq7 wq112 wq472 (show kPlain yX1_readPart 1 = true by decide +kernel) hd hf (fun r ws' hq => by
    obtain ⟨q, N, f, σ', rfl, rfl, hq⟩ := hq
    exact k q N f σ' hq)
def kTxIs (g : kG) (E : va_W) (T : kTxt) (c : kPt3) : Prop := xIn g E T ∧ T.2.1.2 = c.1 ∧ T.2.2.1.2 = c.2.1 ∧ T.2.2.2.2 = c.2.2
def kPr (g : kG) (a : Nat → Nat) (tx : List kTxt) (E : va_W) (Q : Option kPt3 → kS → Prop) : Option Value → va_W → Prop := fun r ws => ∃ (o : Option kPt3) (σ : kS) (X : va_W), ws = xW g a tx (E ++ X) σ ∧ Q o σ ∧ ((o = none ∧ r = some .null) ∨ ∃ (c : kPt3) (T : kTxt), o = some c ∧ r = some (.ref T.1) ∧ kTxIs g X T c)
theorem ctX1_read (l : Launch) (g : kG) (A : Nat → Prop) (a : Nat → Nat) (tx : List kTxt) (E : va_W) {σ : kS} {Q : Option kPt3 → kS → Prop} (h : wX1_read σ Q) : kCt l yX1_read cX1_read 4 (some (.object "DrainedForAThird$Text")) 49 4500 4 483 g A [.ref (a 30)] (xW g a tx E σ) (kPr g a tx E Q) := by
  refine kCt.of (lv0 := [(0, .ref (a 30))]) (by decide +kernel) (Nat.le_of_ble_eq_true rfl) rfl (fun z hl hg hA F R => ?_)
  subst hl hg hA
  have F : kF z cX1_read RX1 4 { frames := 49, cells := 4, slots := 483, locals := 4500 } := F
  unfold wX1_read at h
  refine g_aload_n F dX1_read_0 0 rfl ?_
  refine g_iconst (v := (0 : Int32)) F dX1_read_1 (by decide) ?_
  refine rpX1_X1_at F dX1_read_2 ?_
  refine g_name (wf := xW (zg z) a tx E) (fun s1 es1 => ?_)
  replace h := h s1 es1
  refine g_aload_n F dX1_read_5 0 rfl ?_
  refine g_iconst (v := (-1 : Int32)) F dX1_read_6 (by decide) ?_
  refine rpX1_X1_fault F dX1_read_7 ?_
  refine g_name (wf := xW (zg z) a tx E) (fun s2 es2 => ?_)
  replace h := h s2 es2
  refine g_aload_n F dX1_read_10 0 rfl ?_
  refine rX1_X1_next F dX1_read_11 rfl h (fun s3 h => ?_)
  refine g_aload_n F dX1_read_14 0 rfl ?_
  refine g_iconst (v := (0 : Int32)) F dX1_read_15 (by decide) ?_
  refine rX1_X1_readPart F dX1_read_16 rfl h (fun q0 n0 f0 s4 h => ?_)
  refine g_astore_n (lv' := [(1, .ref q0), (0, .ref (a 30))]) F dX1_read_19 rfl rfl ?_
  refine g_aload_n F dX1_read_20 1 rfl ?_
  refine g_iconst (v := (1 : Int32)) F dX1_read_21 (by decide) ?_
  refine rX1_X1_readPart F dX1_read_22 rfl h (fun q1 n1 f1 s5 h => ?_)
  refine g_astore_n (lv' := [(2, .ref q1), (1, .ref q0), (0, .ref (a 30))]) F dX1_read_25 rfl rfl ?_
  refine g_aload_n F dX1_read_26 2 rfl ?_
  refine g_iconst (v := (2 : Int32)) F dX1_read_27 (by decide) ?_
  refine rX1_X1_readPart F dX1_read_28 rfl h (fun q2 n2 f2 s6 h => ?_)
  refine g_astore_n (lv' := [(3, .ref q2), (2, .ref q1), (1, .ref q0), (0, .ref (a 30))]) F dX1_read_31 rfl rfl ?_
  have hX : (E ++ [(q0, (.inl ((zg z).2 0, n0, .inl f0) : va_E))] ++ [(q1, .inl ((zg z).2 0, n1, .inl f1))] ++ [(q2, .inl ((zg z).2 0, n2, .inl f2))] : va_W) = E ++ [(q0, .inl ((zg z).2 0, n0, .inl f0)), (q1, .inl ((zg z).2 0, n1, .inl f1)), (q2, .inl ((zg z).2 0, n2, .inl f2))] := by simp
  rw [hX]
  refine g_aload_n F dX1_read_32 3 rfl ?_
  refine g_iconst (v := (0 : Int32)) F dX1_read_33 (by decide) ?_
  refine rX1_X1_expect F dX1_read_34 rfl h (fun s7 h => ?_)
  refine g_aload_n F dX1_read_37 3 rfl ?_
  refine g_iconst (v := (0 : Int32)) F dX1_read_38 (by decide) ?_
  refine rpX1_X1_size F dX1_read_39 ?_
  refine g_name (wf := xW (zg z) a tx _) (fun s8 es8 => ?_)
  replace h := h s8 es8
  refine g_aload_n F dX1_read_42 3 rfl ?_
  refine rgX1_X1_fault F dX1_read_43 ?_
  refine g_iconst (v := (-1 : Int32)) F dX1_read_46 (by decide) ?_
  refine g_icmp_ne F dX1_read_47 (tgt := 63) (by decide) (fun c => ?_) (fun c => ?_)
  · replace h := h.1 c
    refine g_null F dX1_read_63 ?_
    exact g_aret F R (Or.inl ⟨_, rfl⟩) (Or.inl rfl) (Nat.le_of_ble_eq_true rfl) (Nat.le_of_ble_eq_true rfl) dX1_read_64 ⟨none, s8, _, rfl, h, Or.inl ⟨rfl, rfl⟩⟩
  replace h := h.2 c
  refine g_new F (ci := 3) (fs := [.null, .null, .null]) wq512 wq184 wq111 lysX3 tyX3 tyX3_ok rfl (by decide +kernel) (Nat.le_of_ble_eq_true rfl) (Nat.le_of_ble_eq_true rfl) dX1_read_50 (fun t => ?_)
  refine g_dup F dX1_read_53 rfl ?_
  refine g_aload_n F dX1_read_54 2 rfl ?_
  refine g_aload_n F dX1_read_55 1 rfl ?_
  refine g_aload_n F dX1_read_56 0 rfl ?_
  refine g_callI F (av := [.ref q0, .ref q1, .ref q2]) (ctX3_init _ _ _ _) rfl wq513 wq186 wq111 wq187 (show kPlain yX3_init 3 = true by decide +kernel) dX1_read_57 rfl (fun r ws' hq => ?_)
  obtain ⟨rfl, rfl⟩ := hq
  refine g_goto F dX1_read_60 (tgt := 64) (by decide) ?_
  have hX2 : (xW (zg z) a tx (E ++ [(q0, (.inl ((zg z).2 0, n0, .inl f0) : va_E)), (q1, .inl ((zg z).2 0, n1, .inl f1)), (q2, .inl ((zg z).2 0, n2, .inl f2))]) s8 ++ [(t, .inr (3, [.ref q0, .ref q1, .ref q2]))] : va_W) = xW (zg z) a tx (E ++ [(q0, .inl ((zg z).2 0, n0, .inl f0)), (q1, .inl ((zg z).2 0, n1, .inl f1)), (q2, .inl ((zg z).2 0, n2, .inl f2)), (t, .inr (3, [.ref q0, .ref q1, .ref q2]))]) s8 := by
    have e : (E ++ [(q0, (.inl ((zg z).2 0, n0, .inl f0) : va_E)), (q1, .inl ((zg z).2 0, n1, .inl f1)), (q2, .inl ((zg z).2 0, n2, .inl f2)), (t, .inr (3, [.ref q0, .ref q1, .ref q2]))] : va_W) = (E ++ [(q0, .inl ((zg z).2 0, n0, .inl f0)), (q1, .inl ((zg z).2 0, n1, .inl f1)), (q2, .inl ((zg z).2 0, n2, .inl f2))]) ++ [(t, .inr (3, [.ref q0, .ref q1, .ref q2]))] := by simp
    rw [e]
    rfl
  rw [hX2]
  exact g_aret F R (Or.inl ⟨_, rfl⟩) (Or.inr ⟨_, rfl⟩) (Nat.le_of_ble_eq_true rfl) (Nat.le_of_ble_eq_true rfl) dX1_read_64 ⟨some ((n0, f0), (n1, f1), (n2, f2)), s8, _, rfl, h, Or.inr ⟨_, (t, (q0, n0, f0), (q1, n1, f1), (q2, n2, f2)), rfl, rfl,
    ⟨⟨3, rfl⟩, ⟨0, rfl⟩, ⟨1, rfl⟩, ⟨2, rfl⟩⟩, rfl, rfl, rfl⟩⟩
def kPx (g : kG) (a : Nat → Nat) (tx : List kTxt) (E : va_W) (Q : Int32 → Option kPt3 → kS → Prop) : Option Value → va_W → Prop := fun r ws => ∃ (v : Int32) (o : Option kPt3) (σ : kS) (X : va_W), r = some (.int v) ∧ Q v o σ ∧ ((o = none ∧ ws = xW g a tx (E ++ X) σ) ∨ ∃ (c : kPt3) (T : kTxt), o = some c ∧ ws = xW g a (tx ++ [T]) (E ++ X) σ ∧ kTxIs g X T c)
theorem xTx_app {tx : List kTxt} {T : kTxt} {i : Nat} (h : i = tx.length) : va_up (xTx tx) i (some T.1) = xTx (tx ++ [T]) := by
  subst h
  funext j
  unfold xTx
  by_cases hj : j = tx.length
  · subst hj
    rw [va_up_self]
    simp
  · rw [va_up_ne _ _ hj]
    rcases Nat.lt_or_ge j tx.length with q | q
    · rw [List.getElem?_append_left q]
    · rw [List.getElem?_eq_none q, List.getElem?_eq_none (by simp; omega)]
theorem g_astText {z : kZ} {cc : ByteArray} {own : String} {nL : Nat} {rm : Room} {c n pc : Nat} {lv : List (Nat × Value)} {st : List Value} {σ : kS} {a : Nat → Nat} {tx : List kTxt} {E : va_W} {T : kTxt} (F : kF z cc own nL rm) (hT : xIn (zg z) E T) {i : Int32} (hi : vp_in i 6) (he : i.toNatClampNeg = tx.length) (hd : decode cc pc = .ok (.aastore, 1)) (k : kV z (xW (zg z) a (tx ++ [T]) E σ) c n (pc + 1) lv st) : kV z (xW (zg z) a tx E σ) c n pc lv (.ref T.1 :: .int i :: .ref (a 2) :: st) := fun H locs ls hP hD hS hl => by
  obtain ⟨⟨p, hp⟩, -⟩ := hT
  refine va_astq (r := (RX3, TX3, 3)) F.1 F.2.1 F.2.2.2.2.2.1 hP hD hS 2 2 (p + 41) 3 rfl rfl (xE_at.trans hp) rfl hi hd (fun H1 locs1 hP1 hD1 hS1 => ?_)
  rw [xTx_app he] at hP1 hD1
  exact k H1 locs1 ls hP1 hD1 hS1 hl
theorem ctX4_text (l : Launch) (g : kG) (A : Nat → Prop) (a : Nat → Nat) (tx : List kTxt) (E : va_W) {σ : kS} {Q : Int32 → Option kPt3 → kS → Prop} (h : wX4_text tx.length σ Q) : kCt l yX4_text cX4_text 2 (some .int) 50 4600 4 483 g A [.ref (a 0)] (xW g a tx E σ) (kPx g a tx E Q) := by
  refine kCt.of (lv0 := [(0, .ref (a 0))]) (by decide +kernel) (Nat.le_of_ble_eq_true rfl) rfl (fun z hl hg hA F R => ?_)
  subst hl hg hA
  have F : kF z cX4_text RX4 2 { frames := 50, cells := 4, slots := 483, locals := 4600 } := F
  unfold wX4_text at h
  refine g_aload_n F dX4_text_0 0 rfl ?_
  refine rgX4_X4_textCount F dX4_text_1 ?_
  refine g_bipush (v := (6 : Int32)) F dX4_text_4 (by decide) ?_
  refine g_icmp_lt F dX4_text_6 (tgt := 12) (by decide) (fun c => ?_) (fun c => ?_)
  · replace h := h.1 c
    refine g_aload_n F dX4_text_12 0 rfl ?_
    refine rgX4_X4_reader F dX4_text_13 ?_
    refine g_callV F (av := []) (ctX1_read _ _ _ a tx E h) (ci := 1) (q0 := 30) rfl rfl rfl wq381 wq382 wq383 wq112 wq384 (show kPlain yX1_read 0 = true by decide +kernel) dX4_text_16 rfl (fun r ws' hq => ?_)
    obtain ⟨o, s1, X, rfl, h, ⟨ho, rfl⟩ | ⟨c, T, ho, rfl, hT⟩⟩ := hq
    · replace h := h.1 ho
      refine g_astoreN (lv' := [(1, .null), (0, .ref (a 0))]) F dX4_text_19 rfl rfl ?_
      refine g_aloadN F dX4_text_20 0 rfl ?_
      refine g_ifnonnullN F dX4_text_21 ?_
      refine g_bipush (v := (-100 : Int32)) F dX4_text_24 (by decide) ?_
      refine g_aload_n F dX4_text_26 1 rfl ?_
      refine rgX4_X4_reader F dX4_text_27 ?_
      refine rX4_X1_fault F dX4_text_30 rfl h (fun r s2 h => ?_)
      refine g_isub F dX4_text_33 ?_
      exact g_iret F R rfl rfl dX4_text_34 ⟨_, none, s2, X, rfl, h, Or.inl ⟨rfl, rfl⟩⟩
    · obtain ⟨hv, hn, h⟩ := h.2 c ho
      refine g_astore_n (lv' := [(1, .ref T.1), (0, .ref (a 0))]) F dX4_text_19 rfl rfl ?_
      refine g_aload_n F dX4_text_20 0 rfl ?_
      refine g_ifnonnull F dX4_text_21 (tgt := 35) (by decide) ?_
      refine g_aload_n F dX4_text_35 1 rfl ?_
      refine rgX4_X4_texts F dX4_text_36 ?_
      refine g_aload_n F dX4_text_39 1 rfl ?_
      refine rgX4_X4_textCount F dX4_text_40 ?_
      refine g_aload_n F dX4_text_43 0 rfl ?_
      refine g_astText F (xIn.pre hT.1) hv hn dX4_text_44 ?_
      refine g_aload_n F dX4_text_45 1 rfl ?_
      refine g_dup F dX4_text_46 rfl ?_
      refine rgX4_X4_textCount F dX4_text_47 ?_
      refine g_iconst (v := (1 : Int32)) F dX4_text_50 (by decide) ?_
      refine g_iadd F dX4_text_51 ?_
      refine rpX4_X4_textCount F dX4_text_52 ?_
      refine g_name (wf := xW (zg z) a (tx ++ [T]) (E ++ X)) (fun s2 es2 => ?_)
      replace h := h s2 es2
      refine g_aload_n F dX4_text_55 1 rfl ?_
      refine rgX4_X4_textCount F dX4_text_56 ?_
      refine g_iconst (v := (1 : Int32)) F dX4_text_59 (by decide) ?_
      refine g_isub F dX4_text_60 ?_
      exact g_iret F R rfl rfl dX4_text_61 ⟨_, some c, s2, X, rfl, h, Or.inr ⟨c, T, rfl, rfl, hT⟩⟩
  · replace h := h.2 c
    refine g_bipush (v := (-4 : Int32)) F dX4_text_9 (by decide) ?_
    have hE : (xW (zg z) a tx E σ : va_W) = xW (zg z) a tx (E ++ []) σ := by rw [List.append_nil]
    rw [hE]
    exact g_iret F R rfl rfl dX4_text_11 ⟨_, none, σ, [], rfl, h, Or.inl ⟨rfl, rfl⟩⟩
